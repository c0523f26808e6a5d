section
/-! what is forgotten: a first part of the changes -/
theorem rk_g_ex {rev f ch : Nat} {R : Nat → Int32} (h : rk_lg rev f ch R) (q : Int) : ∀ n, n ≤ ch → ∃ g, g ≤ n ∧ (∀ i, i < g → (R i).toInt ≤ q) ∧ (∀ i, g ≤ i → i < n → q < (R i).toInt) := by
  intro n
  induction n with
  | zero => intro _; exact ⟨0, Nat.le_refl 0, fun i hi => absurd hi (by omega), fun i _ hi => absurd hi (by omega)⟩
  | succ n ih =>
    intro hn
    obtain ⟨g, hg, h1, h2⟩ := ih (by omega)
    by_cases z : g = n
    · subst z
      by_cases y : (R g).toInt ≤ q
      · refine ⟨g + 1, Nat.le_refl _, fun i hi => ?_, fun i ha hb => absurd hb (by omega)⟩
        by_cases e : i = g
        · rw [e]; exact y
        · exact h1 i (by omega)
      · refine ⟨g, by omega, h1, fun i ha hb => ?_⟩
        have e : i = g := by omega
        rw [e]; omega
    · refine ⟨g, by omega, h1, fun i ha hb => ?_⟩
      by_cases e : i = n
      · have a1 := h2 g (Nat.le_refl g) (by omega)
        have a2 := rk_lg_ij h (i := g) (j := n) hg (by omega)
        rw [e]; omega
      · exact h2 i ha (by omega)
theorem rk_fe_sh {K R A : Nat → Int32} {r : Int} {k g n : Nat} {e0 e : Int32} (h0 : e0 = rk_fe K R A r k e g) : ∀ m, m ≤ n → rk_fe (rk_sh K g n) (rk_sh R g n) (rk_sh A g n) r k e0 m = rk_fe K R A r k e (m + g) := by
  intro m
  induction m with
  | zero => intro _; rw [rk_fe_0, Nat.zero_add]; exact h0
  | succ m ih =>
    intro hm
    rw [show m + 1 + g = m + g + 1 by omega, rk_fe_s, rk_fe_s, rk_sh_v, rk_sh_v, rk_sh_v, if_pos (show m < n by omega), if_pos (show m < n by omega), if_pos (show m < n by omega), ih (by omega)]
theorem rk_rr_sh {R : Nat → Int32} {q g n : Nat} {m : Nat} (hm : m < n) : rk_rr (rk_sh R g n) q (m + 1) = (R (m + g)).toInt := by
  rw [rk_rr_s, rk_sh_v, if_pos hm]
theorem rk_md_k {rev f ch q g : Nat} {ke ks kv kl ef vf R K P V ex va ys yv : Nat → Int32} (h : rk_md rev f ch ke ks kv kl ef vf R K P V ex va ys yv) (hF : rk_rr R f ch = rev) (q1 : f ≤ q) (q2 : q ≤ rev) (hg : g ≤ ch) (h1 : ∀ i, i < g → (R i).toInt ≤ q) (h2 : ∀ i, g ≤ i → i < ch → (q : Int) < (R i).toInt) :
    rk_md rev q ((ch - g)) ke ks kv kl (rk_cy K P ef g) (rk_cy K V vf g) (rk_sh R g (ch - g)) (rk_sh K g (ch - g)) (rk_sh P g (ch - g)) (rk_sh V g (ch - g)) (rk_sh ex (16 * (q - f)) (16 * (rev - q) + 16)) (rk_sh va (16 * (q - f)) (16 * (rev - q) + 16)) ys yv ∧ rk_rr (rk_sh R g (ch - g)) q (ch - g) = rev := by
  obtain ⟨m1, m2, m3, m4, m5, m6, m7, m8, m9⟩ := h
  -- the revision after the part that goes
  have hgq : rk_rr R f g ≤ q := by
    cases g with
    | zero => rw [rk_rr_0]; omega
    | succ g => rw [rk_rr_s]; exact h1 g (by omega)
  have hfin : rk_rr (rk_sh R g (ch - g)) q (ch - g) = rev := by
    by_cases z : ch = g
    · have e : ch - g = 0 := by omega
      rw [e, rk_rr_0]
      rw [z] at hF
      omega
    · obtain ⟨m, hm⟩ : ∃ m, ch - g = m + 1 := ⟨ch - g - 1, by omega⟩
      rw [hm, rk_rr_sh (by omega), show m + g = ch - 1 by omega]
      rw [show ch = ch - 1 + 1 by omega, rk_rr_s] at hF
      exact hF
  refine ⟨⟨q2, by omega, ⟨?_, by rw [hfin]; exact Int.le_refl _, by rw [hfin]; omega⟩, ?_, rk_bo_sh m5 _ _, rk_bo_cy m5 m6 g, rk_bo_sh m7 _ _, ?_, ?_⟩, hfin⟩
  · intro n hn
    cases n with
    | zero =>
      rw [rk_rr_sh hn, rk_rr_0, Nat.zero_add]
      have a1 := h2 g (Nat.le_refl g) (by omega)
      have a2 := (m3.1 g (by omega)).2
      rw [rk_rr_s] at a2
      omega
    | succ n =>
      rw [rk_rr_sh hn, rk_rr_sh (by omega)]
      have a2 := m3.1 (n + g + 1) (by omega)
      rw [rk_rr_s, rk_rr_s] at a2
      rw [show n + 1 + g = n + g + 1 by omega]
      exact a2
  · intro i
    rw [rk_sh_v]
    split
    · exact m4 _
    · exact m4 _
  · intro n hn k hk
    have hrow := m8 (n + (q - f)) (by omega) k hk
    rw [show n + (q - f) + f = n + q by omega, show 16 * (n + (q - f)) + k = 16 * n + k + 16 * (q - f) by omega] at hrow
    have hle : ∀ i, i < g → (R i).toInt ≤ ((n + q : Nat) : Int) := fun i hi => by
      have := h1 i hi
      omega
    rw [rk_sh_v, rk_sh_v, if_pos (show 16 * n + k < 16 * (rev - q) + 16 by omega), if_pos (show 16 * n + k < 16 * (rev - q) + 16 by omega), rk_fe_sh (e := ef k) (rk_cy_v hk m4 g hle) (ch - g) (Nat.le_refl _), rk_fe_sh (e := vf k) (rk_cy_v hk m4 g hle) (ch - g) (Nat.le_refl _), show ch - g + g = ch by omega]
    exact hrow
  · intro k hk
    have hnow := m9 k hk
    rw [rk_sh_v, if_pos (show 16 * (rev - q) + k < 16 * (rev - q) + 16 by omega), show 16 * (rev - q) + k + 16 * (q - f) = 16 * (rev - f) + k by omega]
    exact hnow
theorem rk_wt_l {ws pr pk hA hK fr lr lk : Nat → Int32} (h : rk_wt ws pr pk hA hK fr lr lk) {S : Nat → Bool} (hS : ∀ w, S w = true → ws w = 1) : rk_wt (rk_ga S (fun i => i) (fun _ => 2) ws 4) pr pk hA hK fr lr lk := by
  intro w hw
  rw [rk_ga_id]
  by_cases z : w < 4 ∧ S w = true
  · rw [if_pos z]
    refine ⟨Or.inr (Or.inr rfl), fun _ => (h w hw).2 ?_⟩
    rw [hS w z.2]; decide
  · rw [if_neg z]; exact h w hw

/-! the reference loses watches -/
theorem rk_y_l9 {post : SY → Prop} {J2 : Int32 → (Nat → Int32) → (Nat → Int32) → (Nat → Int32) → (Nat → Int32) → (Nat → Int32) → (Nat → Int32) → (Nat → Int32) → (Nat → Int32) → (Nat → Int32) → (Nat → Int32) → (Nat → Int32) → (Nat → Int32) → (Nat → Int32) → (Nat → Int32) → (Nat → Int32) → (Nat → Int32) → (Nat → Int32) → (Nat → Int32) → (Nat → Int32) → (Nat → Int32) → (Nat → Int32) → Prop} {rev f ch : Nat} {tm : Int32} {ex va km ys yv kl R K P V ll le lo ws wf wl fr lr lk hP hV : Nat → Int32} {pr pk hA hK : Nat → Int32} {w q g : Nat} (hw : w < 4) (hc : ch ≤ 116) (hg : g ≤ ch) (hq : q < 2 ^ 30) (hr : rk_wr pr pk hA hK fr lr lk w) (vK : ∀ i, vp_in (K i) 16) (h1 : ∀ i, i < g → (R i).toInt ≤ q) (h2 : ∀ i, g ≤ i → i < ch → (q : Int) < (R i).toInt) (hs : ws w = 1)
    (hJ1 : 0 < rk_ns (rk_wq R K wf wl pr pk w) g → J2 (nI (w + 1)) ex va km ys yv kl R K P V ll le lo (upd ws w 2) wf wl fr lr lk hP hV) (hJ0 : ¬ 0 < rk_ns (rk_wq R K wf wl pr pk w) g → J2 (nI (w + 1)) ex va km ys yv kl R K P V ll le lo ws wf wl fr lr lk hP hV) : ∃ n, wY_lose_9 post J2 (nI q) (nI w) (nI f) (nI rev) (nI ch) tm n 0 ex va km ys yv kl R K P V ll le lo ws wf wl fr lr lk hP hV := by
  have vw : vp_in (nI w) 4 := vp_in_nI hw (by decide)
  have ew : (nI w).toNatClampNeg = w := nI_clamp (by omega)
  have hs' : ws (nI w).toNatClampNeg = 1 := by rw [ew]; exact hs
  have eu : upd ws (nI w).toNatClampNeg (ws (nI w).toNatClampNeg) = ws := rk_uu _ _
  have key : ∀ d n c, c + d = ch → d < n → (∀ i, i < c → i < g → ¬ rk_wq R K wf wl pr pk w i = true) → wY_lose_9 post J2 (nI q) (nI w) (nI f) (nI rev) (nI ch) tm n (nI c) ex va km ys yv kl R K P V ll le lo ws wf wl fr lr lk hP hV := by
    intro d
    induction d with
    | zero =>
      intro n c a1 a2 a3
      obtain ⟨n, rfl⟩ : ∃ m, n = m + 1 := ⟨n - 1, by omega⟩
      refine rk_leT ch c (by omega) (nm_r (nI_1 w) (hJ0 ?_))
      rw [rk_ns_z g (fun i hi => Bool.eq_false_iff.mpr (a3 i (by omega) hi))]
      omega
    | succ d ih =>
      intro n c a1 a2 a3
      obtain ⟨n, rfl⟩ : ∃ m, n = m + 1 := ⟨n - 1, by omega⟩
      have vc : vp_in (nI c) 120 := vp_in_nI (by omega) (by decide)
      have ec : (nI c).toNatClampNeg = c := nI_clamp (by omega)
      refine rk_leF ch c (by omega) ⟨vw, br_t hs' ⟨vc, ?_⟩⟩
      by_cases z : c < g
      · have hle := h1 c z
        refine br_f (by rw [ec, rk_lt, nI_toInt (by omega)]; omega) (rk_y_wa hw (by omega) hr (vK c) (fun y => br_f (by decide) ⟨vw, nm_r (e' := upd ws w 2) (by rw [ew]) (nm_r (nI_1 c) ?_)⟩) (fun y => br_t rfl ⟨vw, vw, nm_r eu (nm_r (nI_1 c) (ih n (c + 1) (by omega) (by omega) ?_))⟩))
        · have hJ := hJ1 (rk_ns_q z y)
          obtain ⟨n, rfl⟩ : ∃ m, n = m + 1 := ⟨n - 1, by omega⟩
          by_cases x : c + 1 = ch
          · exact rk_leT ch (c + 1) (by omega) (nm_r (nI_1 w) hJ)
          · exact rk_leF ch (c + 1) (by omega) ⟨vw, br_f (by rw [ew, pk_us]; decide) (nm_r (nI_1 w) hJ)⟩
        · intro i b1 b2
          by_cases x : i = c
          · rw [x]; exact y
          · exact a3 i (by omega) b2
      · have hlt := h2 c (by omega) (by omega)
        refine br_t (by rw [ec, rk_lt, nI_toInt (by omega)]; exact hlt) ⟨vw, vw, nm_r eu (nm_r (nI_1 c) (ih n (c + 1) (by omega) (by omega) ?_))⟩
        intro i b1 b2
        exact a3 i (by omega) b2
  exact ⟨ch + 1, key ch (ch + 1) 0 (by omega) (by omega) (fun i hi => absurd hi (by omega))⟩
theorem rk_y_lo {post : SY → Prop} {rev f ch : Nat} {tm : Int32} {ex va km ys yv kl R K P V ll le lo ws wf wl fr lr lk hP hV : Nat → Int32} {pr pk hA hK : Nat → Int32} {q g : Nat} (hc : ch ≤ 116) (hg : g ≤ ch) (hq : q < 2 ^ 30) (hW : rk_wt ws pr pk hA hK fr lr lk) (vK : ∀ i, vp_in (K i) 16) (h1 : ∀ i, i < g → (R i).toInt ≤ q) (h2 : ∀ i, g ≤ i → i < ch → (q : Int) < (R i).toInt)
    (h : post ((nI f), (nI rev), (nI ch), tm, ex, va, km, ys, yv, kl, R, K, P, V, ll, le, lo, rk_ga (rk_ls R K wf wl pr pk ws g) (fun i => i) (fun _ => 2) ws 4, wf, wl, fr, lr, lk, hP, hV)) : wpY_lose post ((nI f), (nI rev), (nI ch), tm, ex, va, km, ys, yv, kl, R, K, P, V, ll, le, lo, ws, wf, wl, fr, lr, lk, hP, hV) (nI q) := by
  have key : ∀ d n j, j + d = 4 → d < n → wY_lose_2 post (nI q) (nI f) (nI rev) (nI ch) tm n (nI j) ex va km ys yv kl R K P V ll le lo (rk_ga (rk_ls R K wf wl pr pk ws g) (fun i => i) (fun _ => 2) ws j) wf wl fr lr lk hP hV := by
    intro d
    induction d with
    | zero =>
      intro n j h2 h3
      obtain ⟨n, rfl⟩ : ∃ m, n = m + 1 := ⟨n - 1, by omega⟩
      obtain rfl : j = 4 := by omega
      exact rk_leT 4 4 (by omega) h
    | succ d ih =>
      intro n j h4 h3
      obtain ⟨n, rfl⟩ : ∃ m, n = m + 1 := ⟨n - 1, by omega⟩
      have e : (nI j).toNatClampNeg = j := nI_clamp (by omega)
      have vj : vp_in (nI j) 4 := vp_in_nI (by omega) (by decide)
      have ih := ih n (j + 1) (by omega) (by omega)
      have ek : rk_ga (rk_ls R K wf wl pr pk ws g) (fun i => i) (fun _ => 2) ws j j = ws j := by rw [rk_ga_id, if_neg (by omega)]
      refine rk_leF 4 j (by omega) ?_
      by_cases z : ws j = 1
      · refine rk_y_l9 (by omega) hc hg hq ((hW j (by omega)).2 (by rw [z]; decide)) vK h1 h2 (by rw [ek]; exact z) (fun y => ?_) (fun y => ?_)
        · rw [rk_ga_t (show rk_ls R K wf wl pr pk ws g j = true from decide_eq_true ⟨z, y⟩)] at ih
          exact ih
        · rw [rk_ga_f (show ¬ rk_ls R K wf wl pr pk ws g j = true from fun w => y (of_decide_eq_true w).2)] at ih
          exact ih
      · rw [rk_ga_f (show ¬ rk_ls R K wf wl pr pk ws g j = true from fun w => z (of_decide_eq_true w).1)] at ih
        by_cases y : ch = 0
        · exact ⟨1, rk_leT ch 0 (by omega) (nm_r (nI_1 j) ih)⟩
        · exact ⟨1, rk_leF ch 0 (by omega) ⟨vj, br_f (by rw [e, ek]; exact z) (nm_r (nI_1 j) ih)⟩⟩
  exact ⟨5, key 4 5 0 rfl (by omega)⟩

/-! the reference forgets -/
theorem rk_y_167 {post : Int32 → SY → Prop} {rev f ch : Nat} {tm : Int32} {ex va km ys yv kl R K P V ll le lo ws wf wl fr lr lk hP hV : Nat → Int32} {q : Nat} (q1 : f ≤ q) (q2 : q ≤ rev) (hr : rev - f ≤ 118) (he : rk_bo ex)
    (h : post (nI ch) ((nI q), (nI rev), (nI ch), tm, rk_sh ex (16 * (q - f)) (16 * (rev - q) + 16), rk_sh va (16 * (q - f)) (16 * (rev - q) + 16), km, ys, yv, kl, R, K, P, V, ll, le, lo, ws, wf, wl, fr, lr, lk, hP, hV)) : ∃ n, wY_compact_167 post (nI q) (nI (16 * (q - f))) (nI (16 * (rev - f) + 16)) (nI f) (nI rev) (nI ch) tm n (nI (16 * (q - f))) ex va km ys yv kl R K P V ll le lo ws wf wl fr lr lk hP hV := by
  have key : ∀ d n i, i + d = 16 * (rev - q) + 16 → d < n → wY_compact_167 post (nI q) (nI (16 * (q - f))) (nI (16 * (rev - f) + 16)) (nI f) (nI rev) (nI ch) tm n (nI (16 * (q - f) + i)) (rk_sh ex (16 * (q - f)) i) (rk_sh va (16 * (q - f)) i) km ys yv kl R K P V ll le lo ws wf wl fr lr lk hP hV := by
    intro d
    induction d with
    | zero =>
      intro n i a1 a2
      obtain ⟨n, rfl⟩ : ∃ m, n = m + 1 := ⟨n - 1, by omega⟩
      obtain rfl : i = 16 * (rev - q) + 16 := by omega
      exact rk_leT (16 * (rev - f) + 16) (16 * (q - f) + (16 * (rev - q) + 16)) (by omega) h
    | succ d ih =>
      intro n i a1 a2
      obtain ⟨n, rfl⟩ : ∃ m, n = m + 1 := ⟨n - 1, by omega⟩
      have e : (nI (16 * (q - f) + i)).toNatClampNeg = i + 16 * (q - f) := by rw [nI_clamp (by omega), Nat.add_comm]
      have es : nI (16 * (q - f) + i) - nI (16 * (q - f)) = nI i := by rw [pk_sub (by omega)]; exact congrArg nI (by omega)
      have e2 : (nI (16 * (q - f) + i) - nI (16 * (q - f))).toNatClampNeg = i := by rw [es, nI_clamp (by omega)]
      have v1 : vp_in (nI (16 * (q - f) + i)) 1920 := vp_in_nI (by omega) (by decide)
      have v2 : vp_in (nI (16 * (q - f) + i) - nI (16 * (q - f))) 1920 := by rw [es]; exact vp_in_nI (by omega) (by decide)
      have ih := ih n (i + 1) (by omega) (by omega)
      exact rk_leF (16 * (rev - f) + 16) (16 * (q - f) + i) (by omega) ⟨v1, v2, nm_r (e' := rk_sh ex (16 * (q - f)) (i + 1)) (by rw [e, e2, rk_vb (rk_bo_sh he _ _ _), rk_sh_s]) ⟨v1, v2, nm_r (e' := rk_sh va (16 * (q - f)) (i + 1)) (by rw [e, e2, rk_sh_s]) (nm_r (nI_1 (16 * (q - f) + i)) ih)⟩⟩
  exact ⟨16 * (rev - q) + 17, key (16 * (rev - q) + 16) (16 * (rev - q) + 17) 0 (by omega) (by omega)⟩
theorem rk_y_c63 {post : Int32 → SY → Prop} {rev f ch : Nat} {tm : Int32} {ex va km ys yv kl R K P V ll le lo ws wf wl fr lr lk hP hV : Nat → Int32} {q g : Nat} (q1 : f ≤ q) (q2 : q ≤ rev) (hr : rev - f ≤ 118) (hg : g ≤ ch) (hc : ch ≤ 116) (he : rk_bo ex) (hp : rk_bo P)
    (h : post (nI (ch - g)) ((nI q), (nI rev), (nI (ch - g)), tm, rk_sh ex (16 * (q - f)) (16 * (rev - q) + 16), rk_sh va (16 * (q - f)) (16 * (rev - q) + 16), km, ys, yv, kl, rk_sh R g (ch - g), rk_sh K g (ch - g), rk_sh P g (ch - g), rk_sh V g (ch - g), ll, le, lo, ws, wf, wl, fr, lr, lk, hP, hV)) : wY_compact_63 post (nI q) (nI g) (nI f) (nI rev) (nI ch) tm ex va km ys yv kl R K P V ll le lo ws wf wl fr lr lk hP hV := by
  have key : ∀ d n j, j + d = ch - g → d < n → wY_compact_75 post (nI q) (nI g) (nI f) (nI rev) (nI (ch - g)) tm n (nI j) ex va km ys yv kl (rk_sh R g j) (rk_sh K g j) (rk_sh P g j) (rk_sh V g j) ll le lo ws wf wl fr lr lk hP hV := by
    intro d
    induction d with
    | zero =>
      intro n j a1 a2
      obtain ⟨n, rfl⟩ : ∃ m, n = m + 1 := ⟨n - 1, by omega⟩
      obtain rfl : j = ch - g := by omega
      have e1 : (16 : Int32) * (nI q - nI f) = nI (16 * (q - f)) := by
        rw [pk_sub q1]; exact pk_mul 16 (q - f)
      exact rk_leT (ch - g) (ch - g) (by omega) (nm_r e1 (rk_y_pr (by omega) (nm_r (nI_add (16 * (rev - f)) 16) (rk_y_167 q1 q2 hr he h))))
    | succ d ih =>
      intro n j a1 a2
      obtain ⟨n, rfl⟩ : ∃ m, n = m + 1 := ⟨n - 1, by omega⟩
      have ej : (nI j).toNatClampNeg = j := nI_clamp (by omega)
      have es : (nI j + nI g).toNatClampNeg = j + g := by rw [nI_add, nI_clamp (by omega)]
      have v1 : vp_in (nI j + nI g) 120 := by rw [nI_add]; exact vp_in_nI (by omega) (by decide)
      have v2 : vp_in (nI j) 120 := vp_in_nI (by omega) (by decide)
      have ih := ih n (j + 1) (by omega) (by omega)
      exact rk_leF (ch - g) j (by omega) ⟨v1, v2, nm_r (e' := rk_sh R g (j + 1)) (by rw [es, ej, rk_sh_s]) ⟨v1, v2, nm_r (e' := rk_sh K g (j + 1)) (by rw [es, ej, rk_sh_s]) ⟨v1, v2, nm_r (e' := rk_sh P g (j + 1)) (by rw [es, ej, rk_vb (rk_bo_sh hp g j _), rk_sh_s]) ⟨v1, v2, nm_r (e' := rk_sh V g (j + 1)) (by rw [es, ej, rk_sh_s]) (nm_r (nI_1 j) ih)⟩⟩⟩⟩
  exact nm_r (pk_sub hg) ⟨ch + 1, key (ch - g) (ch + 1) 0 (by omega) (by omega)⟩
theorem rk_y_c39 {post : Int32 → SY → Prop} {rev f ch : Nat} {tm : Int32} {ex va km ys yv kl R K P V ll le lo ws wf wl fr lr lk hP hV : Nat → Int32} {q g : Nat} (hg : g ≤ ch) (hc : ch ≤ 116) (hq : q < 2 ^ 30) (h1 : ∀ i, i < g → (R i).toInt ≤ q) (h2 : ∀ i, g ≤ i → i < ch → (q : Int) < (R i).toInt)
    (h : wY_compact_63 post (nI q) (nI g) (nI f) (nI rev) (nI ch) tm ex va km ys yv kl R K P V ll le lo ws wf wl fr lr lk hP hV) : ∃ n, wY_compact_39 post (nI q) (nI f) (nI rev) (nI ch) tm ex va km ys yv kl R K P V ll le lo ws wf wl fr lr lk hP hV n 0 := by
  have key : ∀ d n j, j + d = g → d < n → wY_compact_39 post (nI q) (nI f) (nI rev) (nI ch) tm ex va km ys yv kl R K P V ll le lo ws wf wl fr lr lk hP hV n (nI j) := by
    intro d
    induction d with
    | zero =>
      intro n j a1 a2
      obtain ⟨n, rfl⟩ : ∃ m, n = m + 1 := ⟨n - 1, by omega⟩
      obtain rfl : j = g := by omega
      by_cases z : j = ch
      · exact rk_leT ch j (by omega) h
      · have hlt := h2 j (Nat.le_refl j) (by omega)
        exact rk_leF ch j (by omega) ⟨vp_in_nI (by omega) (by decide), br_t (by rw [nI_clamp (by omega), rk_lt, nI_toInt (by omega)]; exact hlt) h⟩
    | succ d ih =>
      intro n j a1 a2
      obtain ⟨n, rfl⟩ : ∃ m, n = m + 1 := ⟨n - 1, by omega⟩
      have ih := ih n (j + 1) (by omega) (by omega)
      have hle := h1 j (by omega)
      exact rk_leF ch j (by omega) ⟨vp_in_nI (by omega) (by decide), br_f (by rw [nI_clamp (by omega), rk_lt, nI_toInt (by omega)]; omega) (nm_r (nI_1 j) ih)⟩
  exact ⟨g + 1, key g (g + 1) 0 (by omega) (by omega)⟩
theorem i_vc_compact {k : Nat} {u : SX} {v : SY} (I : i_Rel k u v) (hk : k + 5 ≤ 2560) (v1 : Int32) : wpX_compact (fun r u' => wpY_compact (fun r' v' => r' = r ∧ i_Rel (k + 5) u' v') v v1) u v1 := by
  have J := i_up I
  obtain ⟨rev, f, ch, tm, ke, km, ks, kv, kl, ef, vf, R, K, P, V, lo, ll, le, ws, wf, wl, pr, pk, hA, hK, hP, hV, ex, va, ys, yv, fr, lr, lk, rfl, rfl, hB, hM, hF, hL, hW⟩ := I
  have hr := rk_md_r hM hF
  have hcc := (rk_md_c hM).2.1
  have m1 := hM.1
  have m3 := hM.2.2.1
  have m4 := hM.2.2.2.1
  have m5 := hM.2.2.2.2.1
  have m7 := hM.2.2.2.2.2.2.1
  unfold wpX_compact
  by_cases a2 : v1 < nI f
  · have a2' := Int32.not_le.mpr a2
    exact br_f a2' (br_f (by decide) (br_t a2 (br_f a2' ⟨rfl, J⟩)))
  · have a2' := Int32.not_lt.mp a2
    by_cases a3 : v1 ≤ nI rev
    · obtain ⟨q, hq, rfl⟩ := nI_of (x := v1) (fun z => by
        rw [rk_lt, nI_toInt (by omega)] at a2
        rw [rk_lt, show (0 : Int32).toInt = 0 from by decide] at z
        omega)
      have q1 : f ≤ q := by
        have := mt (nI_ltI hq (by omega)).mpr a2
        omega
      have q2 : q ≤ rev := (nI_leI hq (by omega)).mp a3
      obtain ⟨g, hg, h1, h2⟩ := rk_g_ex m3 (q : Int) ch (Nat.le_refl ch)
      have eq : (nI q).toInt = q := nI_toInt (by omega)
      obtain ⟨g1, g2⟩ := rk_md_k hM hF q1 q2 hg h1 h2
      refine rk_x_rf q1 q2 (by omega) (br_t rfl (rk_x_cc hg hcc (fun i hi => by rw [eq]; exact h1 i hi) (fun i b1 b2 => by rw [eq]; exact h2 i b1 b2) (rk_x_lw (by omega) (rk_x_cf (by omega) m5 m4 (rk_x_dc hg hcc m5 ?_)))))
      refine br_f a2 (br_t a3 (rk_y_lo hcc hg (by omega) hW m4 h1 h2 (rk_y_c39 hg hcc (by omega) h1 h2 (rk_y_c63 q1 q2 (by omega) hg hcc m7 m5 ⟨rfl, ?_⟩))))
      exact ⟨rev, q, (ch - g), tm, ke, km, ks, kv, kl, (rk_cy K P ef g), (rk_cy K V vf g), (rk_sh R g (ch - g)), (rk_sh K g (ch - g)), (rk_sh P g (ch - g)), (rk_sh V g (ch - g)), lo, ll, le, (rk_ga (rk_ls R K wf wl pr pk ws g) (fun i => i) (fun _ => 2) ws 4), wf, wl, pr, pk, hA, hK, hP, hV, (rk_sh ex (16 * (q - f)) (16 * (rev - q) + 16)), (rk_sh va (16 * (q - f)) (16 * (rev - q) + 16)), ys, yv, fr, lr, lk, rfl, rfl, by omega, g1, g2, hL, rk_wt_l hW (fun w z => (of_decide_eq_true z).1)⟩
    · exact br_t a2' (br_f a3 (br_f (by decide) (br_f a2 (br_f a3 (br_t a2' ⟨rfl, J⟩)))))
end
