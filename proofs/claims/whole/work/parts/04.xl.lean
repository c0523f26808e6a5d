section
/-! the class erases: the keys of S, in rising order -/
theorem rk_x_er {post : Int32 → SX → Prop} {rev f ch : Nat} {tm : Int32} {ke km ks kv kl ef vf R K P V lo ll le ws wf wl pr pk hA hK hP hV : Nat → Int32} (S : Nat → Bool) {a b : Nat} {c : Int32} (ha : a < 16) (hb : b < 16) (hlo : ∀ i, i < a → S i = false) (hhi : ∀ i, b < i → S i = false) (hS : ∀ i, a ≤ i → i ≤ b → (S i = true ↔ ke i ≠ 0)) (hc : ch + rk_ns S 16 ≤ 116)
    (h : post c ((nI rev), (nI f), tm, (nI (ch + rk_ns S 16)), (rk_ga S (fun i => i) (fun _ => 0) ke 16), km, (rk_ga S (fun i => i) (fun _ => 0) ks 16), (rk_ga S (fun i => i) (fun _ => 0) kv 16), (rk_ga S (fun i => i) (fun _ => -1) kl 16), ef, vf, (rk_ga S (fun i => ch + rk_ns S i) (fun _ => nI rev) R 16), (rk_ga S (fun i => ch + rk_ns S i) (fun i => nI i) K 16), (rk_ga S (fun i => ch + rk_ns S i) (fun _ => 0) P 16), (rk_ga S (fun i => ch + rk_ns S i) (fun _ => 0) V 16), lo, ll, le, ws, wf, wl, pr, pk, hA, hK, hP, hV)) : ∃ n, wX_erase_52 post (nI b) c n (nI a) (nI rev) (nI f) tm (nI ch) ke km ks kv kl ef vf R K P V lo ll le ws wf wl pr pk hA hK hP hV := by
  have key : ∀ d n j, a ≤ j → j + d = b + 1 → d < n → wX_erase_52 post (nI b) c n (nI j) (nI rev) (nI f) tm (nI (ch + rk_ns S j)) (rk_ga S (fun i => i) (fun _ => 0) ke j) km (rk_ga S (fun i => i) (fun _ => 0) ks j) (rk_ga S (fun i => i) (fun _ => 0) kv j) (rk_ga S (fun i => i) (fun _ => -1) kl j) ef vf (rk_ga S (fun i => ch + rk_ns S i) (fun _ => nI rev) R j) (rk_ga S (fun i => ch + rk_ns S i) (fun i => nI i) K j) (rk_ga S (fun i => ch + rk_ns S i) (fun _ => 0) P j) (rk_ga S (fun i => ch + rk_ns S i) (fun _ => 0) V j) lo ll le ws wf wl pr pk hA hK hP hV := by
    intro d
    induction d with
    | zero =>
      intro n j h1 h2 h3
      obtain ⟨n, rfl⟩ : ∃ m, n = m + 1 := ⟨n - 1, by omega⟩
      refine rk_ltT b j (by omega) ?_
      have hj : ∀ i, j ≤ i → i < j + (16 - j) → S i = false := fun i z1 z2 => hhi i (by omega)
      rw [show (16 : Nat) = j + (16 - j) by omega] at h
      simp only [rk_ns_e j (16 - j) hj, rk_ga_hi j (16 - j) hj] at h
      exact h
    | succ d ih =>
      intro n j h1 h2 h3
      obtain ⟨n, rfl⟩ : ∃ m, n = m + 1 := ⟨n - 1, by omega⟩
      have e : (nI j).toNatClampNeg = j := nI_clamp (by omega)
      refine rk_ltF b j (by omega) ⟨vp_in_nI (by omega) (by decide), ?_⟩
      have ih := ih n (j + 1) (by omega) (by omega) (by omega)
      have hs := hS j h1 (by omega)
      have ek : rk_ga S (fun i => i) (fun _ => 0) ke j j = ke j := by rw [rk_ga_id, if_neg (by omega)]
      rw [e, ek]
      by_cases z : ke j = 0
      · have hn : ¬ S j = true := fun y => (hs.mp y) z
        simp only [rk_ga_f hn, rk_ns_f hn] at ih
        exact br_t z (nm_r (nI_1 j) ih)
      · have hn : S j = true := hs.mpr z
        simp only [rk_ga_t hn, rk_ns_t hn] at ih
        have hm := rk_ns_m S (j + 1) (16 - (j + 1))
        rw [rk_ns_t hn, show j + 1 + (16 - (j + 1)) = 16 by omega] at hm
        exact br_f z (rk_x_ek (by omega) (by omega) (nm_r (nI_1 j) ih))
  by_cases z : a ≤ b
  · have := key (b + 1 - a) (b + 2) a (Nat.le_refl a) (by omega) (by omega)
    simp only [rk_ns_z a hlo, rk_ga_lo a hlo] at this
    exact ⟨b + 2, this⟩
  · have hz : ∀ i, i < 16 → S i = false := fun i _ => by
      by_cases y : i < a
      · exact hlo i y
      · exact hhi i (by omega)
    simp only [rk_ns_z 16 hz, rk_ga_lo 16 hz] at h
    exact ⟨1, rk_ltT b a (by omega) h⟩
theorem rk_x_el29 {post : Int32 → SX → Prop} {rev f ch : Nat} {tm : Int32} {ke km ks kv kl ef vf R K P V lo ll le ws wf wl pr pk hA hK hP hV : Nat → Int32} (S : Nat → Bool) {l c : Int32} (hS : ∀ i, i < 16 → (S i = true ↔ kl i = l)) (hc : ch + rk_ns S 16 ≤ 116)
    (h : post c ((nI rev), (nI f), tm, (nI (ch + rk_ns S 16)), (rk_ga S (fun i => i) (fun _ => 0) ke 16), km, (rk_ga S (fun i => i) (fun _ => 0) ks 16), (rk_ga S (fun i => i) (fun _ => 0) kv 16), (rk_ga S (fun i => i) (fun _ => -1) kl 16), ef, vf, (rk_ga S (fun i => ch + rk_ns S i) (fun _ => nI rev) R 16), (rk_ga S (fun i => ch + rk_ns S i) (fun i => nI i) K 16), (rk_ga S (fun i => ch + rk_ns S i) (fun _ => 0) P 16), (rk_ga S (fun i => ch + rk_ns S i) (fun _ => 0) V 16), lo, ll, le, ws, wf, wl, pr, pk, hA, hK, hP, hV)) : ∃ n, wX_endLease_29 post l c n 0 (nI rev) (nI f) tm (nI ch) ke km ks kv kl ef vf R K P V lo ll le ws wf wl pr pk hA hK hP hV := by
  have key : ∀ d n j, j + d = 16 → d < n → wX_endLease_29 post l c n (nI j) (nI rev) (nI f) tm (nI (ch + rk_ns S j)) (rk_ga S (fun i => i) (fun _ => 0) ke j) km (rk_ga S (fun i => i) (fun _ => 0) ks j) (rk_ga S (fun i => i) (fun _ => 0) kv j) (rk_ga S (fun i => i) (fun _ => -1) kl j) ef vf (rk_ga S (fun i => ch + rk_ns S i) (fun _ => nI rev) R j) (rk_ga S (fun i => ch + rk_ns S i) (fun i => nI i) K j) (rk_ga S (fun i => ch + rk_ns S i) (fun _ => 0) P j) (rk_ga S (fun i => ch + rk_ns S i) (fun _ => 0) V j) lo ll le ws wf wl pr pk hA hK hP hV := by
    intro d
    induction d with
    | zero =>
      intro n j h2 h3
      obtain ⟨n, rfl⟩ : ∃ m, n = m + 1 := ⟨n - 1, by omega⟩
      obtain rfl : j = 16 := by omega
      exact rk_leT 16 16 (by omega) h
    | succ d ih =>
      intro n j h2 h3
      obtain ⟨n, rfl⟩ : ∃ m, n = m + 1 := ⟨n - 1, by omega⟩
      have e : (nI j).toNatClampNeg = j := nI_clamp (by omega)
      refine rk_leF 16 j (by omega) ⟨vp_in_nI (by omega) (by decide), ?_⟩
      have ih := ih n (j + 1) (by omega) (by omega)
      have hs := hS j (by omega)
      have ek : rk_ga S (fun i => i) (fun _ => -1) kl j j = kl j := by rw [rk_ga_id, if_neg (by omega)]
      rw [e, ek]
      by_cases z : kl j = l
      · have hn : S j = true := hs.mpr z
        simp only [rk_ga_t hn, rk_ns_t hn] at ih
        have hm := rk_ns_m S (j + 1) (16 - (j + 1))
        rw [rk_ns_t hn, show j + 1 + (16 - (j + 1)) = 16 by omega] at hm
        exact br_t z (rk_x_ek (by omega) (by omega) (nm_r (nI_1 j) ih))
      · have hn : ¬ S j = true := fun y => z (hs.mp y)
        simp only [rk_ga_f hn, rk_ns_f hn] at ih
        exact br_f z (nm_r (nI_1 j) ih)
  exact ⟨17, key 16 17 0 rfl (by omega)⟩
theorem rk_x_el0 {post : Int32 → SX → Prop} {rev f ch : Nat} {tm : Int32} {ke km ks kv kl ef vf R K P V lo ll le ws wf wl pr pk hA hK hP hV : Nat → Int32} (S : Nat → Bool) {l : Nat} (hl : l < 6) (hS : ∀ i, i < 16 → (S i = true ↔ kl i = nI l)) (hc : ch ≤ 116) (h0 : rk_ns S 16 = 0)
    (h : post 0 ((nI rev), (nI f), tm, (nI ch), ke, km, ks, kv, kl, ef, vf, R, K, P, V, upd lo l 0, ll, le, ws, wf, wl, pr, pk, hA, hK, hP, hV)) : wpX_endLease post ((nI rev), (nI f), tm, (nI ch), ke, km, ks, kv, kl, ef, vf, R, K, P, V, lo, ll, le, ws, wf, wl, pr, pk, hA, hK, hP, hV) (nI l) := by
  have e : (nI l).toNatClampNeg = l := nI_clamp (by omega)
  have hz : ∀ i, i < 16 → S i = false := fun i hi => by
    cases y : S i with
    | false => rfl
    | true =>
      have := rk_ns_q hi y
      omega
  refine ⟨vp_in_nI hl (by decide), nm_r (e' := upd lo l 0) (by rw [e, rk_vb0]) (rk_x_cu S hS ?_)⟩
  rw [h0]
  refine br_t (by decide) (rk_x_el29 S hS (by omega) ?_)
  simp only [rk_ns_z 16 hz, rk_ga_lo 16 hz]
  exact h
theorem rk_x_el1 {post : Int32 → SX → Prop} {rev f ch : Nat} {tm : Int32} {ke km ks kv kl ef vf R K P V lo ll le ws wf wl pr pk hA hK hP hV : Nat → Int32} (S : Nat → Bool) {l : Nat} (hl : l < 6) (hS : ∀ i, i < 16 → (S i = true ↔ kl i = nI l)) (hc : ch + rk_ns S 16 ≤ 116) (h0 : 0 < rk_ns S 16)
    (h : post (nI (rk_ns S 16)) ((nI (rev + 1)), (nI f), tm, (nI (ch + rk_ns S 16)), (rk_ga S (fun i => i) (fun _ => 0) ke 16), km, (rk_ga S (fun i => i) (fun _ => 0) ks 16), (rk_ga S (fun i => i) (fun _ => 0) kv 16), (rk_ga S (fun i => i) (fun _ => -1) kl 16), ef, vf, (rk_ga S (fun i => ch + rk_ns S i) (fun _ => nI (rev + 1)) R 16), (rk_ga S (fun i => ch + rk_ns S i) (fun i => nI i) K 16), (rk_ga S (fun i => ch + rk_ns S i) (fun _ => 0) P 16), (rk_ga S (fun i => ch + rk_ns S i) (fun _ => 0) V 16), upd lo l 0, ll, le, ws, wf, wl, pr, pk, hA, hK, hP, hV)) : wpX_endLease post ((nI rev), (nI f), tm, (nI ch), ke, km, ks, kv, kl, ef, vf, R, K, P, V, lo, ll, le, ws, wf, wl, pr, pk, hA, hK, hP, hV) (nI l) := by
  have e : (nI l).toNatClampNeg = l := nI_clamp (by omega)
  have hn := rk_ns_le S 16
  exact ⟨vp_in_nI hl (by decide), nm_r (e' := upd lo l 0) (by rw [e, rk_vb0]) (rk_x_cu S hS (br_f (nI_nle h0 (by omega)) (nm_r (nI_1 rev) (rk_x_el29 S hS hc h))))⟩

/-! the class looks a revision up -/
theorem rk_x_lc {post : Int32 → Prop} {rev f ch : Nat} {tm : Int32} {ke km ks kv kl ef vf R K P V lo ll le ws wf wl pr pk hA hK hP hV : Nat → Int32} {k : Nat} {r e1 e2 : Int32} (hc : ch ≤ 116)
    (h : ∀ i : Int32, ((i = -1 ∧ rk_fe K R P r.toInt k e1 ch = e1 ∧ rk_fe K R V r.toInt k e2 ch = e2) ∨ ∃ m, m < 116 ∧ i = nI m ∧ rk_fe K R P r.toInt k e1 ch = P m ∧ rk_fe K R V r.toInt k e2 ch = V m) → post i) : wpX_lastChangeOf post ((nI rev), (nI f), tm, (nI ch), ke, km, ks, kv, kl, ef, vf, R, K, P, V, lo, ll, le, ws, wf, wl, pr, pk, hA, hK, hP, hV) (nI k) r := by
  have key : ∀ d n j i, j + d = ch → d < n → ((i = -1 ∧ rk_fe K R P r.toInt k e1 j = e1 ∧ rk_fe K R V r.toInt k e2 j = e2) ∨ ∃ m, m < 116 ∧ i = nI m ∧ rk_fe K R P r.toInt k e1 j = P m ∧ rk_fe K R V r.toInt k e2 j = V m) → wX_lastChangeOf_5 post (nI k) r (nI rev) (nI f) tm (nI ch) ke km ks kv kl ef vf R K P V lo ll le ws wf wl pr pk hA hK hP hV n i (nI j) := by
    intro d
    induction d with
    | zero =>
      intro n j i h2 h3 hq
      obtain ⟨n, rfl⟩ : ∃ m, n = m + 1 := ⟨n - 1, by omega⟩
      obtain rfl : j = ch := by omega
      exact rk_leT j j (by omega) (h i hq)
    | succ d ih =>
      intro n j i h2 h3 hq
      obtain ⟨n, rfl⟩ : ∃ m, n = m + 1 := ⟨n - 1, by omega⟩
      have e : (nI j).toNatClampNeg = j := nI_clamp (by omega)
      refine rk_leF ch j (by omega) ⟨vp_in_nI (by omega) (by decide), ?_⟩
      have ih := fun i => ih n (j + 1) i (by omega) (by omega)
      rw [e]
      simp only [rk_fe_s] at ih
      by_cases z : K j = nI k
      · refine br_t z ⟨vp_in_nI (by omega) (by decide), ?_⟩
        by_cases y : r < R j
        · have y' : ¬ (K j = nI k ∧ (R j).toInt ≤ r.toInt) := by
            intro w
            have := w.2
            rw [rk_lt] at y
            omega
          simp only [if_neg y'] at ih
          exact br_t y (nm_r (nI_1 j) (ih i hq))
        · have y' : K j = nI k ∧ (R j).toInt ≤ r.toInt := by
            rw [rk_lt] at y
            exact ⟨z, by omega⟩
          simp only [if_pos y'] at ih
          exact br_f y (nm_r (nI_1 j) (ih (nI j) (Or.inr ⟨j, by omega, rfl, rfl, rfl⟩)))
      · have y' : ¬ (K j = nI k ∧ (R j).toInt ≤ r.toInt) := fun w => z w.1
        simp only [if_neg y'] at ih
        exact br_f z (nm_r (nI_1 j) (ih i hq))
  exact ⟨ch + 1, key ch (ch + 1) 0 (-1) (by omega) (by omega) (Or.inl ⟨rfl, rfl, rfl⟩)⟩
theorem rk_ne1 {a : Nat} (h : a < 2 ^ 31) : ¬ nI a = -1 := by
  intro e
  have := nI_pos (n := a) h
  rw [e] at this
  exact this (by decide)
theorem rk_x_ea {post : Int32 → Prop} {rev f ch : Nat} {tm : Int32} {ke km ks kv kl ef vf R K P V lo ll le ws wf wl pr pk hA hK hP hV : Nat → Int32} {k : Nat} {r : Int32} (hc : ch ≤ 116) (hk : k < 16) (hp : rk_bo P) (he : rk_bo ef)
    (h : post (rk_fe K R P r.toInt k (ef k) ch)) : wpX_existedAt post ((nI rev), (nI f), tm, (nI ch), ke, km, ks, kv, kl, ef, vf, R, K, P, V, lo, ll, le, ws, wf, wl, pr, pk, hA, hK, hP, hV) (nI k) r := by
  have e : (nI k).toNatClampNeg = k := nI_clamp (by omega)
  refine rk_x_lc (e1 := ef k) (e2 := 0) hc ?_
  intro i hi
  rcases hi with ⟨rfl, h1, _⟩ | ⟨m, hm, rfl, h1, _⟩
  · rw [h1] at h
    refine br_t rfl ⟨vp_in_nI hk (by decide), ?_⟩
    rw [e]
    exact ⟨rk_nb (he k), h⟩
  · rw [h1] at h
    refine br_f (rk_ne1 (by omega)) ⟨vp_in_nI hm (by decide), ?_⟩
    rw [nI_clamp (by omega)]
    exact ⟨rk_nb (hp m), h⟩
theorem rk_x_va {post : Int32 → Prop} {rev f ch : Nat} {tm : Int32} {ke km ks kv kl ef vf R K P V lo ll le ws wf wl pr pk hA hK hP hV : Nat → Int32} {k : Nat} {r : Int32} (hc : ch ≤ 116) (hk : k < 16)
    (h : post (rk_fe K R V r.toInt k (vf k) ch)) : wpX_valueAt post ((nI rev), (nI f), tm, (nI ch), ke, km, ks, kv, kl, ef, vf, R, K, P, V, lo, ll, le, ws, wf, wl, pr, pk, hA, hK, hP, hV) (nI k) r := by
  have e : (nI k).toNatClampNeg = k := nI_clamp (by omega)
  refine rk_x_lc (e1 := 0) (e2 := vf k) hc ?_
  intro i hi
  rcases hi with ⟨rfl, _, h1⟩ | ⟨m, hm, rfl, _, h1⟩
  · rw [h1] at h
    refine br_t rfl ⟨vp_in_nI hk (by decide), ?_⟩
    rw [e]
    exact h
  · rw [h1] at h
    refine br_f (rk_ne1 (by omega)) ⟨vp_in_nI hm (by decide), ?_⟩
    rw [nI_clamp (by omega)]
    exact h

/-! the class's watches -/
def rk_wq (R K wf wl pr pk : Nat → Int32) (w : Nat) : Nat → Bool := fun i =>
  decide (¬ K i < wf w ∧ K i ≤ wl w ∧ ((R i = pr w ∧ ¬ K i < pk w) ∨ (¬ R i = pr w ∧ ¬ R i ≤ pr w)))
theorem rk_x_st {post : Int32 → Prop} {rev f ch : Nat} {tm : Int32} {ke km ks kv kl ef vf R K P V lo ll le ws wf wl pr pk hA hK hP hV : Nat → Int32} {w i : Nat} (hw : w < 4) (hi : i < 116) (h1 : rk_wq R K wf wl pr pk w i = true → post 1) (h0 : ¬ rk_wq R K wf wl pr pk w i = true → post 0) : wpX_isStillToHandOut post ((nI rev), (nI f), tm, (nI ch), ke, km, ks, kv, kl, ef, vf, R, K, P, V, lo, ll, le, ws, wf, wl, pr, pk, hA, hK, hP, hV) (nI w) (nI i) := by
  have vw : vp_in (nI w) 4 := vp_in_nI hw (by decide)
  have vi : vp_in (nI i) 116 := vp_in_nI hi (by decide)
  have ew : (nI w).toNatClampNeg = w := nI_clamp (by omega)
  have ei : (nI i).toNatClampNeg = i := nI_clamp (by omega)
  unfold rk_wq at h1 h0
  rw [decide_eq_true_eq] at h1 h0
  refine ⟨vi, nm_r (e' := K i) (by rw [ei]) ⟨vw, ?_⟩⟩
  rw [ew, ei]
  refine br_c (fun z => h0 (fun y => y.1 z)) (fun z1 => ⟨vw, br_c (fun z2 => ⟨vi, vw, ?_⟩) (fun z2 => h0 (fun y => z2 y.2.1))⟩)
  refine br_c (fun z3 => ⟨vw, br_c (fun z4 => h0 ?_) (fun z4 => h1 ⟨z1, z2, Or.inl ⟨z3, z4⟩⟩)⟩) (fun z3 => ⟨vi, vw, br_c (fun z4 => h0 ?_) (fun z4 => h1 ⟨z1, z2, Or.inr ⟨z3, z4⟩⟩)⟩)
  · rintro ⟨_, _, y | y⟩
    · exact y.2 z4
    · exact y.1 z3
  · rintro ⟨_, _, y | y⟩
    · exact z3 y.1
    · exact y.2 z4
theorem rk_x_cs {post : Int32 → Prop} {rev f ch : Nat} {tm : Int32} {ke km ks kv kl ef vf R K P V lo ll le ws wf wl pr pk hA hK hP hV : Nat → Int32} {w g : Nat} (hw : w < 4) (hg : g ≤ 116) (h : post (nI (rk_ns (rk_wq R K wf wl pr pk w) g))) : wpX_countStillToHandOut post ((nI rev), (nI f), tm, (nI ch), ke, km, ks, kv, kl, ef, vf, R, K, P, V, lo, ll, le, ws, wf, wl, pr, pk, hA, hK, hP, hV) (nI w) (nI g) := by
  have key : ∀ d n j, j + d = g → d < n → wX_countStillToHandOut_5 post (nI w) (nI g) (nI rev) (nI f) tm (nI ch) ke km ks kv kl ef vf R K P V lo ll le ws wf wl pr pk hA hK hP hV n (nI (rk_ns (rk_wq R K wf wl pr pk w) j)) (nI j) := by
    intro d
    induction d with
    | zero =>
      intro n j h2 h3
      obtain ⟨n, rfl⟩ : ∃ m, n = m + 1 := ⟨n - 1, by omega⟩
      obtain rfl : j = g := by omega
      exact rk_leT j j (by omega) h
    | succ d ih =>
      intro n j h2 h3
      obtain ⟨n, rfl⟩ : ∃ m, n = m + 1 := ⟨n - 1, by omega⟩
      have ih := ih n (j + 1) (by omega) (by omega)
      refine rk_leF g j (by omega) (rk_x_st hw (by omega) (fun z => ?_) (fun z => ?_))
      · rw [rk_ns_t z] at ih
        exact br_f (by decide) (nm_r (nI_1 _) (nm_r (nI_1 j) ih))
      · rw [rk_ns_f z] at ih
        exact br_t rfl (nm_r (nI_1 j) ih)
  exact ⟨g + 1, key g (g + 1) 0 (by omega) (by omega)⟩
def rk_ls (R K wf wl pr pk ws : Nat → Int32) (g : Nat) : Nat → Bool := fun w =>
  decide (ws w = 1 ∧ 0 < rk_ns (rk_wq R K wf wl pr pk w) g)
theorem rk_x_lw {post : SX → Prop} {rev f ch : Nat} {tm : Int32} {ke km ks kv kl ef vf R K P V lo ll le ws wf wl pr pk hA hK hP hV : Nat → Int32} {g : Nat} (hg : g ≤ 116) (h : post ((nI rev), (nI f), tm, (nI ch), ke, km, ks, kv, kl, ef, vf, R, K, P, V, lo, ll, le, rk_ga (rk_ls R K wf wl pr pk ws g) (fun i => i) (fun _ => 2) ws 4, wf, wl, pr, pk, hA, hK, hP, hV)) : wpX_loseWatches post ((nI rev), (nI f), tm, (nI ch), ke, km, ks, kv, kl, ef, vf, R, K, P, V, lo, ll, le, ws, wf, wl, pr, pk, hA, hK, hP, hV) (nI g) := by
  have key : ∀ d n j, j + d = 4 → d < n → wX_loseWatches_2 post (nI g) (nI rev) (nI f) tm (nI ch) n (nI j) ke km ks kv kl ef vf R K P V lo ll le (rk_ga (rk_ls R K wf wl pr pk ws g) (fun i => i) (fun _ => 2) ws j) wf wl pr pk hA hK hP hV := by
    intro d
    induction d with
    | zero =>
      intro n j h2 h3
      obtain ⟨n, rfl⟩ : ∃ m, n = m + 1 := ⟨n - 1, by omega⟩
      obtain rfl : j = 4 := by omega
      exact rk_leT 4 4 (by omega) h
    | succ d ih =>
      intro n j h2 h3
      obtain ⟨n, rfl⟩ : ∃ m, n = m + 1 := ⟨n - 1, by omega⟩
      have e : (nI j).toNatClampNeg = j := nI_clamp (by omega)
      have vj : vp_in (nI j) 4 := vp_in_nI (by omega) (by decide)
      have ih := ih n (j + 1) (by omega) (by omega)
      have ek : rk_ga (rk_ls R K wf wl pr pk ws g) (fun i => i) (fun _ => 2) ws j j = ws j := by rw [rk_ga_id, if_neg (by omega)]
      refine rk_leF 4 j (by omega) ⟨vj, ?_⟩
      rw [e, ek]
      have hn := rk_ns_le (rk_wq R K wf wl pr pk j) g
      by_cases z : ws j = 1
      · refine br_t z (rk_x_cs (by omega) hg ?_)
        by_cases y : 0 < rk_ns (rk_wq R K wf wl pr pk j) g
        · rw [rk_ga_t (show rk_ls R K wf wl pr pk ws g j = true from decide_eq_true ⟨z, y⟩)] at ih
          exact br_f (nI_nle y (by omega)) ⟨vj, nm_r rfl (nm_r (nI_1 j) ih)⟩
        · rw [rk_ga_f (show ¬ rk_ls R K wf wl pr pk ws g j = true from fun w => y (of_decide_eq_true w).2)] at ih
          exact rk_leT (rk_ns (rk_wq R K wf wl pr pk j) g) 0 (by omega) (nm_r (nI_1 j) ih)
      · rw [rk_ga_f (show ¬ rk_ls R K wf wl pr pk ws g j = true from fun w => z (of_decide_eq_true w).1)] at ih
        exact br_f z (nm_r (nI_1 j) ih)
  exact ⟨5, key 4 5 0 rfl (by omega)⟩

/-! the class forgets -/
def rk_cy (K A E : Nat → Int32) : Nat → (Nat → Int32)
  | 0 => E
  | i + 1 => upd (rk_cy K A E i) (K i).toNatClampNeg (A i)
theorem rk_cy_s (K A E : Nat → Int32) (i : Nat) : rk_cy K A E (i + 1) = upd (rk_cy K A E i) (K i).toNatClampNeg (A i) := rfl
theorem rk_cy_v {K R A E : Nat → Int32} {r : Int} {k : Nat} (hk : k < 16) (hK : ∀ i, vp_in (K i) 16) : ∀ g, (∀ i, i < g → (R i).toInt ≤ r) → rk_cy K A E g k = rk_fe K R A r k (E k) g := by
  intro g
  induction g with
  | zero => intro _; rfl
  | succ g ih =>
    intro h
    obtain ⟨m, hm, em⟩ := vp_in_of (hK g) (by decide)
    rw [rk_cy_s, rk_fe_s, em, nI_clamp (by omega)]
    by_cases z : k = m
    · subst z
      rw [pk_us, if_pos ⟨rfl, h g (by omega)⟩]
    · rw [pk_un z, if_neg (fun w => z ((nI_eq (by omega) (by omega)).mp w.1).symm)]
      exact ih (fun i hi => h i (by omega))
theorem rk_bo_cy {K A E : Nat → Int32} (hA : rk_bo A) (hE : rk_bo E) : ∀ g, rk_bo (rk_cy K A E g) := by
  intro g
  induction g with
  | zero => exact hE
  | succ g ih => exact rk_bo_u ih (hA g) _
theorem rk_x_cf {post : SX → Prop} {rev f ch : Nat} {tm : Int32} {ke km ks kv kl ef vf R K P V lo ll le ws wf wl pr pk hA hK hP hV : Nat → Int32} {g : Nat} (hg : g ≤ 116) (bP : rk_bo P) (vK : ∀ i, vp_in (K i) 16) (h : post ((nI rev), (nI f), tm, (nI ch), ke, km, ks, kv, kl, rk_cy K P ef g, rk_cy K V vf g, R, K, P, V, lo, ll, le, ws, wf, wl, pr, pk, hA, hK, hP, hV)) : wpX_carryToForgotten post ((nI rev), (nI f), tm, (nI ch), ke, km, ks, kv, kl, ef, vf, R, K, P, V, lo, ll, le, ws, wf, wl, pr, pk, hA, hK, hP, hV) (nI g) := by
  have key : ∀ d n j, j + d = g → d < n → wX_carryToForgotten_2 post (nI g) (nI rev) (nI f) tm (nI ch) n (nI j) ke km ks kv kl (rk_cy K P ef j) (rk_cy K V vf j) R K P V lo ll le ws wf wl pr pk hA hK hP hV := by
    intro d
    induction d with
    | zero =>
      intro n j h2 h3
      obtain ⟨n, rfl⟩ : ∃ m, n = m + 1 := ⟨n - 1, by omega⟩
      obtain rfl : j = g := by omega
      exact rk_leT j j (by omega) h
    | succ d ih =>
      intro n j h2 h3
      obtain ⟨n, rfl⟩ : ∃ m, n = m + 1 := ⟨n - 1, by omega⟩
      have e : (nI j).toNatClampNeg = j := nI_clamp (by omega)
      have vj : vp_in (nI j) 116 := vp_in_nI (by omega) (by decide)
      have ih := ih n (j + 1) (by omega) (by omega)
      have vk : vp_in (K (nI j).toNatClampNeg) 16 := vK _
      exact rk_leF g j (by omega) ⟨vj, vj, vk, nm_r (e' := rk_cy K P ef (j + 1)) (by rw [e, rk_vb (bP j), rk_cy_s]) ⟨vj, vj, vk, nm_r (e' := rk_cy K V vf (j + 1)) (by rw [e, rk_cy_s]) (nm_r (nI_1 j) ih)⟩⟩
  exact ⟨g + 1, key g (g + 1) 0 (by omega) (by omega)⟩
theorem rk_x_dc {post : SX → Prop} {rev f ch : Nat} {tm : Int32} {ke km ks kv kl ef vf R K P V lo ll le ws wf wl pr pk hA hK hP hV : Nat → Int32} {g : Nat} (hg : g ≤ ch) (hc : ch ≤ 116) (bP : rk_bo P) (h : post ((nI rev), (nI f), tm, (nI (ch - g)), ke, km, ks, kv, kl, ef, vf, rk_sh R g (ch - g), rk_sh K g (ch - g), rk_sh P g (ch - g), rk_sh V g (ch - g), lo, ll, le, ws, wf, wl, pr, pk, hA, hK, hP, hV)) : wpX_dropChanges post ((nI rev), (nI f), tm, (nI ch), ke, km, ks, kv, kl, ef, vf, R, K, P, V, lo, ll, le, ws, wf, wl, pr, pk, hA, hK, hP, hV) (nI g) := by
  have key : ∀ d n j, g + j + d = ch → d < n → wX_dropChanges_2 post (nI g) (nI rev) (nI f) tm (nI ch) n (nI (g + j)) ke km ks kv kl ef vf (rk_sh R g j) (rk_sh K g j) (rk_sh P g j) (rk_sh V g j) lo ll le ws wf wl pr pk hA hK hP hV := by
    intro d
    induction d with
    | zero =>
      intro n j h2 h3
      obtain ⟨n, rfl⟩ : ∃ m, n = m + 1 := ⟨n - 1, by omega⟩
      obtain rfl : j = ch - g := by omega
      exact rk_leT ch (g + (ch - g)) (by omega) (nm_r (pk_sub hg) h)
    | succ d ih =>
      intro n j h2 h3
      obtain ⟨n, rfl⟩ : ∃ m, n = m + 1 := ⟨n - 1, by omega⟩
      have e : (nI (g + j)).toNatClampNeg = j + g := by rw [nI_clamp (by omega), Nat.add_comm]
      have es : nI (g + j) - nI g = nI j := by rw [pk_sub (by omega)]; exact congrArg nI (by omega)
      have e2 : (nI (g + j) - nI g).toNatClampNeg = j := by rw [es, nI_clamp (by omega)]
      have v1 : vp_in (nI (g + j)) 116 := vp_in_nI (by omega) (by decide)
      have v2 : vp_in (nI (g + j) - nI g) 116 := by rw [es]; exact vp_in_nI (by omega) (by decide)
      have ih := ih n (j + 1) (by omega) (by omega)
      exact rk_leF ch (g + j) (by omega) ⟨v1, v2, nm_r (e' := rk_sh R g (j + 1)) (by rw [e, e2, rk_sh_s]) ⟨v1, v2, nm_r (e' := rk_sh K g (j + 1)) (by rw [e, e2, rk_sh_s]) ⟨v1, v2, nm_r (e' := rk_sh P g (j + 1)) (by rw [e, e2, rk_vb (rk_bo_sh bP g j _), rk_sh_s]) ⟨v1, v2, nm_r (e' := rk_sh V g (j + 1)) (by rw [e, e2, rk_sh_s]) (nm_r (nI_1 (g + j)) ih)⟩⟩⟩⟩
  exact ⟨ch + 1, key (ch - g) (ch + 1) 0 (by omega) (by omega)⟩
end
