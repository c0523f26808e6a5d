section
/-! branches that are known -/
theorem rk_leT {x y : Int32} {A B : Prop} (a b : Nat) (h : a ≤ b) (q : A) (hx : x = nI a := by rfl) (hy : y = nI b := by rfl) (ha : a < 2 ^ 31 := by omega) (hb : b < 2 ^ 31 := by omega) : (x ≤ y → A) ∧ (¬ x ≤ y → B) := by
  subst hx hy
  exact br_t ((nI_leI ha hb).mpr h) q
theorem rk_leF {x y : Int32} {A B : Prop} (a b : Nat) (h : b < a) (q : B) (hx : x = nI a := by rfl) (hy : y = nI b := by rfl) (ha : a < 2 ^ 31 := by omega) (hb : b < 2 ^ 31 := by omega) : (x ≤ y → A) ∧ (¬ x ≤ y → B) := by
  subst hx hy
  exact br_f (fun z => absurd ((nI_leI ha hb).mp z) (by omega)) q
theorem rk_ltT {x y : Int32} {A B : Prop} (a b : Nat) (h : a < b) (q : A) (hx : x = nI a := by rfl) (hy : y = nI b := by rfl) (ha : a < 2 ^ 31 := by omega) (hb : b < 2 ^ 31 := by omega) : (x < y → A) ∧ (¬ x < y → B) := by
  subst hx hy
  exact br_t ((nI_ltI ha hb).mpr h) q
theorem rk_ltF {x y : Int32} {A B : Prop} (a b : Nat) (h : b ≤ a) (q : B) (hx : x = nI a := by rfl) (hy : y = nI b := by rfl) (ha : a < 2 ^ 31 := by omega) (hb : b < 2 ^ 31 := by omega) : (x < y → A) ∧ (¬ x < y → B) := by
  subst hx hy
  exact br_f (fun z => absurd ((nI_ltI ha hb).mp z) (by omega)) q
theorem rk_eqT {x y : Int32} {A B : Prop} (a b : Nat) (h : a = b) (q : A) (hx : x = nI a := by rfl) (hy : y = nI b := by rfl) : (x = y → A) ∧ (¬ x = y → B) := by
  subst hx hy h
  exact br_t rfl q
theorem rk_eqF {x y : Int32} {A B : Prop} (a b : Nat) (h : a ≠ b) (q : B) (hx : x = nI a := by rfl) (hy : y = nI b := by rfl) (ha : a < 2 ^ 31 := by omega) (hb : b < 2 ^ 31 := by omega) : (x = y → A) ∧ (¬ x = y → B) := by
  subst hx hy
  exact br_f (fun z => absurd ((nI_eq ha hb).mp z) h) q

/-! is it a key, a lease, a watch -/
theorem rk_xk_g {post : Int32 → Prop} {j : Nat} (h : j < 16) (p : post 1) : wpX_isKey post (nI j) :=
  br_f (nI_pos (by omega)) (rk_leF 16 j h p)
theorem rk_xk_b {post : Int32 → Prop} {x : Int32} (h : x < 0 ∨ nI 16 ≤ x) (p : post 0) : wpX_isKey post x := by
  rcases h with h | h
  · exact br_t h p
  · exact br_c (fun _ => p) (fun _ => br_t h p)
theorem rk_xl_g {post : Int32 → Prop} {j : Nat} (h : j < 6) (p : post 1) : wpX_isLease post (nI j) :=
  br_f (nI_pos (by omega)) (rk_leF 6 j h p)
theorem rk_xl_b {post : Int32 → Prop} {x : Int32} (h : x < 0 ∨ nI 6 ≤ x) (p : post 0) : wpX_isLease post x := by
  rcases h with h | h
  · exact br_t h p
  · exact br_c (fun _ => p) (fun _ => br_t h p)
theorem rk_xw_g {post : Int32 → Prop} {j : Nat} (h : j < 4) (p : post 1) : wpX_isWatch post (nI j) :=
  br_f (nI_pos (by omega)) (rk_leF 4 j h p)
theorem rk_xw_b {post : Int32 → Prop} {x : Int32} (h : x < 0 ∨ nI 4 ≤ x) (p : post 0) : wpX_isWatch post x := by
  rcases h with h | h
  · exact br_t h p
  · exact br_c (fun _ => p) (fun _ => br_t h p)
theorem rk_xr_g {post : Int32 → Prop} {i j : Nat} (hi : i < 16) (hj : j < 16) (p : post 1) : wpX_isRange post (nI i) (nI j) :=
  rk_xk_g hi (br_f (by decide) (rk_xk_g hj (br_f (by decide) p)))
theorem rk_xr_b1 {post : Int32 → Prop} {x y : Int32} (h : x < 0 ∨ nI 16 ≤ x) (p : post 0) : wpX_isRange post x y :=
  rk_xk_b h (br_t rfl p)
theorem rk_xr_b2 {post : Int32 → Prop} {i : Nat} {y : Int32} (hi : i < 16) (h : y < 0 ∨ nI 16 ≤ y) (p : post 0) : wpX_isRange post (nI i) y :=
  rk_xk_g hi (br_f (by decide) (rk_xk_b h (br_t rfl p)))

/-! the class's stores -/
theorem rk_x_rem {post : SX → Prop} {rev f ch : Nat} {tm : Int32} {ke km ks kv kl ef vf R K P V lo ll le ws wf wl pr pk hA hK hP hV : Nat → Int32} {k p x : Int32} (hc : ch < 116) (hp : p = 0 ∨ p = 1)
    (h : post ((nI rev), (nI f), tm, (nI (ch + 1)), ke, km, ks, kv, kl, ef, vf, upd R ch (nI rev), upd K ch k, upd P ch p, upd V ch x, lo, ll, le, ws, wf, wl, pr, pk, hA, hK, hP, hV)) : wpX_remember post ((nI rev), (nI f), tm, (nI ch), ke, km, ks, kv, kl, ef, vf, R, K, P, V, lo, ll, le, ws, wf, wl, pr, pk, hA, hK, hP, hV) k p x := by
  have hi : vp_in (nI ch) 116 := vp_in_nI hc (by decide)
  have e : (nI ch).toNatClampNeg = ch := nI_clamp (by omega)
  exact rk_ltT ch 116 hc ⟨hi, nm_r (by rw [e]) ⟨hi, nm_r (by rw [e]) ⟨hi, nm_r (by rw [e, rk_vb hp]) ⟨hi, nm_r (by rw [e]) (nm_r (nI_1 ch) h)⟩⟩⟩⟩
theorem rk_x_wp36 {post : SX → Prop} {rev f ch : Nat} {tm : Int32} {ke km ks kv kl ef vf R K P V lo ll le ws wf wl pr pk hA hK hP hV : Nat → Int32} {k : Nat} {x l : Int32} (hk : k < 16) (hc : ch < 116)
    (h : post ((nI rev), (nI f), tm, (nI (ch + 1)), ke, km, upd ks k (nI rev), upd kv k (kv k + 1), upd kl k l, ef, vf, upd R ch (nI rev), upd K ch (nI k), upd P ch 1, upd V ch x, lo, ll, le, ws, wf, wl, pr, pk, hA, hK, hP, hV)) : wX_writePut_36 post (nI k) x l (nI rev) (nI f) tm (nI ch) ke km ks kv kl ef vf R K P V lo ll le ws wf wl pr pk hA hK hP hV := by
  have hi : vp_in (nI k) 16 := vp_in_nI hk (by decide)
  have e : (nI k).toNatClampNeg = k := nI_clamp (by omega)
  exact ⟨hi, nm_r (by rw [e]) ⟨hi, hi, nm_r (by rw [e]) ⟨hi, nm_r (by rw [e]) (rk_x_rem hc (Or.inr rfl) h)⟩⟩⟩
theorem rk_x_wp {post : SX → Prop} {rev f ch : Nat} {tm : Int32} {ke km ks kv kl ef vf R K P V lo ll le ws wf wl pr pk hA hK hP hV : Nat → Int32} {k : Nat} {x l : Int32} (hk : k < 16) (hc : ch < 116) (hb : ke k = 0 ∨ ke k = 1)
    (h : post ((nI (rev + 1)), (nI f), tm, (nI (ch + 1)), upd ke k 1, upd km k (if ke k = 0 then nI (rev + 1) else km k), upd ks k (nI (rev + 1)), upd kv k (kv k + 1), upd kl k l, ef, vf, upd R ch (nI (rev + 1)), upd K ch (nI k), upd P ch 1, upd V ch x, lo, ll, le, ws, wf, wl, pr, pk, hA, hK, hP, hV)) : wpX_writePut post ((nI rev), (nI f), tm, (nI ch), ke, km, ks, kv, kl, ef, vf, R, K, P, V, lo, ll, le, ws, wf, wl, pr, pk, hA, hK, hP, hV) (nI k) x l := by
  have hi : vp_in (nI k) 16 := vp_in_nI hk (by decide)
  have e : (nI k).toNatClampNeg = k := nI_clamp (by omega)
  refine nm_r (nI_1 rev) ⟨hi, ?_⟩
  by_cases z : ke k = 0
  · rw [if_pos z] at h
    exact br_t (by rw [e]; exact z) ⟨hi, nm_r (by rw [e, rk_vb1]) ⟨hi, nm_r (by rw [e]) (rk_x_wp36 hk hc h)⟩⟩
  · rw [if_neg z, rk_uu, rk_uv (hb.resolve_left z)] at h
    exact br_f (by rw [e]; exact z) (rk_x_wp36 hk hc h)
theorem rk_x_ek {post : SX → Prop} {rev f ch : Nat} {tm : Int32} {ke km ks kv kl ef vf R K P V lo ll le ws wf wl pr pk hA hK hP hV : Nat → Int32} {k : Nat} (hk : k < 16) (hc : ch < 116)
    (h : post ((nI rev), (nI f), tm, (nI (ch + 1)), upd ke k 0, km, upd ks k 0, upd kv k 0, upd kl k (-1), ef, vf, upd R ch (nI rev), upd K ch (nI k), upd P ch 0, upd V ch 0, lo, ll, le, ws, wf, wl, pr, pk, hA, hK, hP, hV)) : wpX_eraseKey post ((nI rev), (nI f), tm, (nI ch), ke, km, ks, kv, kl, ef, vf, R, K, P, V, lo, ll, le, ws, wf, wl, pr, pk, hA, hK, hP, hV) (nI k) := by
  have hi : vp_in (nI k) 16 := vp_in_nI hk (by decide)
  have e : (nI k).toNatClampNeg = k := nI_clamp (by omega)
  exact ⟨hi, nm_r (by rw [e, rk_vb0]) ⟨hi, nm_r (by rw [e]) ⟨hi, nm_r (by rw [e]) ⟨hi, nm_r (by rw [e]) (rk_x_rem hc (Or.inl rfl) h)⟩⟩⟩⟩
theorem rk_x_ho {post : SX → Prop} {rev f ch : Nat} {tm : Int32} {ke km ks kv kl ef vf R K P V lo ll le ws wf wl pr pk hA hK hP hV : Nat → Int32} {w i : Nat} (hw : w < 4) (hi : i < 116) (hp : rk_bo P)
    (h : post ((nI rev), (nI f), tm, (nI ch), ke, km, ks, kv, kl, ef, vf, R, K, P, V, lo, ll, le, ws, wf, wl, upd pr w (R i), upd pk w (K i + 1), upd hA w 1, upd hK w (K i), upd hP w (P i), upd hV w (V i))) : wpX_handOut post ((nI rev), (nI f), tm, (nI ch), ke, km, ks, kv, kl, ef, vf, R, K, P, V, lo, ll, le, ws, wf, wl, pr, pk, hA, hK, hP, hV) (nI w) (nI i) := by
  have vw : vp_in (nI w) 4 := vp_in_nI hw (by decide)
  have vi : vp_in (nI i) 116 := vp_in_nI hi (by decide)
  have ew : (nI w).toNatClampNeg = w := nI_clamp (by omega)
  have ei : (nI i).toNatClampNeg = i := nI_clamp (by omega)
  exact ⟨vi, vw, nm_r (by rw [ew, ei]) ⟨vi, vw, nm_r (by rw [ew, ei]) ⟨vw, nm_r (by rw [ew, rk_vb1]) ⟨vi, vw, nm_r (by rw [ew, ei]) ⟨vi, vw, nm_r (by rw [ew, ei, rk_vb (hp i)]) ⟨vi, vw, nm_r (by rw [ew, ei]) h⟩⟩⟩⟩⟩⟩

/-! the class's counts -/
theorem rk_x_ce {post : Int32 → Prop} {rev f ch : Nat} {tm : Int32} {ke km ks kv kl ef vf R K P V lo ll le ws wf wl pr pk hA hK hP hV : Nat → Int32} (S : Nat → Bool) {a b : Nat} (hb : b < 16) (hlo : ∀ i, i < a → S i = false) (hhi : ∀ i, b < i → S i = false) (hS : ∀ i, a ≤ i → i ≤ b → (S i = true ↔ ke i ≠ 0)) (ha : a < 16)
    (h : post (nI (rk_ns S 16))) : wpX_countExisting post ((nI rev), (nI f), tm, (nI ch), ke, km, ks, kv, kl, ef, vf, R, K, P, V, lo, ll, le, ws, wf, wl, pr, pk, hA, hK, hP, hV) (nI a) (nI b) := by
  have key : ∀ d n j, a ≤ j → j + d = b + 1 → d < n → wX_countExisting_5 post (nI b) (nI rev) (nI f) tm (nI ch) ke km ks kv kl ef vf R K P V lo ll le ws wf wl pr pk hA hK hP hV n (nI (rk_ns S j)) (nI j) := by
    intro d
    induction d with
    | zero =>
      intro n j h1 h2 h3
      obtain ⟨n, rfl⟩ : ∃ m, n = m + 1 := ⟨n - 1, by omega⟩
      refine rk_ltT b j (by omega) ?_
      have e := rk_ns_e (S := S) j (16 - j) (fun i z1 z2 => hhi i (by omega))
      rw [show j + (16 - j) = 16 by omega] at e
      rw [← e]; exact h
    | succ d ih =>
      intro n j h1 h2 h3
      obtain ⟨n, rfl⟩ : ∃ m, n = m + 1 := ⟨n - 1, by omega⟩
      have e : (nI j).toNatClampNeg = j := nI_clamp (by omega)
      refine rk_ltF b j (by omega) ⟨vp_in_nI (by omega) (by decide), ?_⟩
      have ih := ih n (j + 1) (by omega) (by omega) (by omega)
      have hs := hS j h1 (by omega)
      rw [e]
      by_cases z : ke j = 0
      · rw [rk_ns_f (fun y => (hs.mp y) z)] at ih
        exact br_t z (nm_r (nI_1 j) ih)
      · rw [rk_ns_t (hs.mpr z)] at ih
        exact br_f z (nm_r (nI_1 _) (nm_r (nI_1 j) ih))
  by_cases z : a ≤ b
  · have := key (b + 1 - a) (b + 2) a (Nat.le_refl a) (by omega) (by omega)
    rw [rk_ns_z a hlo] at this
    exact ⟨b + 2, this⟩
  · rw [rk_ns_z 16 (fun i _ => by
      by_cases y : i < a
      · exact hlo i y
      · exact hhi i (by omega))] at h
    exact ⟨1, rk_ltT b a (by omega) h⟩
theorem rk_x_cu {post : Int32 → Prop} {rev f ch : Nat} {tm : Int32} {ke km ks kv kl ef vf R K P V lo ll le ws wf wl pr pk hA hK hP hV : Nat → Int32} (S : Nat → Bool) {l : Int32} (hS : ∀ i, i < 16 → (S i = true ↔ kl i = l))
    (h : post (nI (rk_ns S 16))) : wpX_countUnder post ((nI rev), (nI f), tm, (nI ch), ke, km, ks, kv, kl, ef, vf, R, K, P, V, lo, ll, le, ws, wf, wl, pr, pk, hA, hK, hP, hV) l := by
  have key : ∀ d n j, j + d = 16 → d < n → wX_countUnder_4 post l (nI rev) (nI f) tm (nI ch) ke km ks kv kl ef vf R K P V lo ll le ws wf wl pr pk hA hK hP hV n (nI (rk_ns S j)) (nI j) := by
    intro d
    induction d with
    | zero =>
      intro n j h2 h3
      obtain ⟨n, rfl⟩ : ∃ m, n = m + 1 := ⟨n - 1, by omega⟩
      obtain rfl : j = 16 := by omega
      exact rk_leT 16 16 (by omega) h
    | succ d ih =>
      intro n j h2 h3
      obtain ⟨n, rfl⟩ : ∃ m, n = m + 1 := ⟨n - 1, by omega⟩
      have e : (nI j).toNatClampNeg = j := nI_clamp (by omega)
      refine rk_leF 16 j (by omega) ⟨vp_in_nI (by omega) (by decide), ?_⟩
      have ih := ih n (j + 1) (by omega) (by omega)
      have hs := hS j (by omega)
      rw [e]
      by_cases z : kl j = l
      · rw [rk_ns_t (hs.mpr z)] at ih
        exact br_t z (nm_r (nI_1 _) (nm_r (nI_1 j) ih))
      · rw [rk_ns_f (fun y => z (hs.mp y))] at ih
        exact br_f z (nm_r (nI_1 j) ih)
  exact ⟨17, key 16 17 0 rfl (by omega)⟩
theorem rk_x_cc {post : Int32 → Prop} {rev f ch : Nat} {tm : Int32} {ke km ks kv kl ef vf R K P V lo ll le ws wf wl pr pk hA hK hP hV : Nat → Int32} {g : Nat} {r : Int32} (hg : g ≤ ch) (hc : ch ≤ 116) (h1 : ∀ i, i < g → (R i).toInt ≤ r.toInt) (h2 : ∀ i, g ≤ i → i < ch → r.toInt < (R i).toInt)
    (h : post (nI g)) : wpX_countChangesUpTo post ((nI rev), (nI f), tm, (nI ch), ke, km, ks, kv, kl, ef, vf, R, K, P, V, lo, ll, le, ws, wf, wl, pr, pk, hA, hK, hP, hV) r := by
  have key : ∀ d n j c, j + d = ch → d < n → c = (if j < g then j else g) → wX_countChangesUpTo_4 post r (nI rev) (nI f) tm (nI ch) ke km ks kv kl ef vf R K P V lo ll le ws wf wl pr pk hA hK hP hV n (nI c) (nI j) := by
    intro d
    induction d with
    | zero =>
      intro n j c h2 h3 hcc
      obtain ⟨n, rfl⟩ : ∃ m, n = m + 1 := ⟨n - 1, by omega⟩
      obtain rfl : j = ch := by omega
      rw [if_neg (by omega)] at hcc
      subst hcc
      exact rk_leT j j (by omega) h
    | succ d ih =>
      intro n j c h4 h3 hcc
      obtain ⟨n, rfl⟩ : ∃ m, n = m + 1 := ⟨n - 1, by omega⟩
      have e : (nI j).toNatClampNeg = j := nI_clamp (by omega)
      refine rk_leF ch j (by omega) ⟨vp_in_nI (by omega) (by decide), ?_⟩
      rw [e]
      by_cases z : j < g
      · rw [if_pos z] at hcc
        subst hcc
        have := h1 c z
        exact br_f (by rw [rk_lt]; omega) (nm_r (nI_1 c) (nm_r (nI_1 c) (ih n (c + 1) (c + 1) (by omega) (by omega) (by split <;> omega))))
      · rw [if_neg z] at hcc
        subst hcc
        have := h2 j (by omega) (by omega)
        exact br_t (by rw [rk_lt]; omega) (nm_r (nI_1 j) (ih n (j + 1) c (by omega) (by omega) (by split <;> omega)))
  exact ⟨ch + 1, key ch (ch + 1) 0 0 (by omega) (by omega) (by split <;> omega)⟩
end
