section
/-! a change that the one still has to hand out is the one that the other wants -/
theorem rk_wq_y {R K wf wl pr pk hA hK fr lr lk : Nat → Int32} {w i : Nat} (h : rk_wr pr pk hA hK fr lr lk w) (vK : vp_in (K i) 16) :
    rk_wq R K wf wl pr pk w i = true ↔ (¬ R i < fr w ∧ ¬ K i < wf w ∧ K i ≤ wl w ∧ (lk w < 0 ∨ (¬ lk w < 0 ∧ (lr w < R i ∨ (¬ lr w < R i ∧ R i = lr w ∧ ¬ K i ≤ lk w))))) := by
  unfold rk_wq
  rw [decide_eq_true_iff]
  rw [vp_in_iff] at vK
  have e0 : (0 : Int32).toInt = 0 := by decide
  rcases h with ⟨q1, q2, q3, q4⟩ | ⟨q1, q2, q3, q4, q5, q6⟩
  · rw [q3, q4]
    simp only [rk_lt, rk_le, e0, ← Int32.toInt_inj] at *
    generalize (R i).toInt = a at *
    generalize (K i).toInt = b at *
    generalize (fr w).toInt = c at *
    generalize (lk w).toInt = d at *
    generalize (wf w).toInt = e at *
    generalize (wl w).toInt = g at *
    generalize (lr w).toInt = m at *
    omega
  · rw [q4, q5]
    obtain ⟨n, hn, en⟩ := vp_in_of q3 (by decide)
    have e1 : (lk w + 1).toInt = (lk w).toInt + 1 := by
      rw [en, nI_1, nI_toInt (by omega), nI_toInt (by omega)]
      omega
    have e2 : (lk w).toInt = n := by rw [en, nI_toInt (by omega)]
    simp only [rk_lt, rk_le, e0, e1, ← Int32.toInt_inj] at *
    generalize (R i).toInt = a at *
    generalize (K i).toInt = b at *
    generalize (fr w).toInt = c at *
    generalize (lk w).toInt = d at *
    generalize (wf w).toInt = e at *
    generalize (wl w).toInt = g at *
    generalize (lr w).toInt = m at *
    omega
theorem rk_y_wa {post : Int32 → Prop} {rev f ch : Nat} {tm : Int32} {ex va km ys yv kl R K P V ll le lo ws wf wl fr lr lk hP hV : Nat → Int32} {pr pk hA hK : Nat → Int32} {w i : Nat} (hw : w < 4) (hi : i < 120) (h : rk_wr pr pk hA hK fr lr lk w) (vK : vp_in (K i) 16) (h1 : rk_wq R K wf wl pr pk w i = true → post 1) (h0 : ¬ rk_wq R K wf wl pr pk w i = true → post 0) : wpY_isWanted post ((nI f), (nI rev), (nI ch), tm, ex, va, km, ys, yv, kl, R, K, P, V, ll, le, lo, ws, wf, wl, fr, lr, lk, hP, hV) (nI w) (nI i) := by
  have vw : vp_in (nI w) 4 := vp_in_nI hw (by decide)
  have vi : vp_in (nI i) 120 := vp_in_nI hi (by decide)
  have ew : (nI w).toNatClampNeg = w := nI_clamp (by omega)
  have ei : (nI i).toNatClampNeg = i := nI_clamp (by omega)
  rw [rk_wq_y h vK] at h1 h0
  refine ⟨vi, vw, ?_⟩
  rw [ew, ei]
  refine br_c (fun z => h0 (fun y => y.1 z)) (fun z1 => ⟨vi, vw, br_c (fun z => h0 (fun y => y.2.1 z)) (fun z2 => ⟨vi, vw, br_c (fun z3 => ⟨vw, ?_⟩) (fun z => h0 (fun y => z y.2.2.1))⟩)⟩)
  refine br_c (fun z4 => h1 ⟨z1, z2, z3, Or.inl z4⟩) (fun z4 => ⟨vi, vw, br_c (fun z5 => h1 ⟨z1, z2, z3, Or.inr ⟨z4, Or.inl z5⟩⟩) (fun z5 => ⟨vi, vw, br_c (fun z6 => ⟨vi, vw, br_c (fun z7 => h0 ?_) (fun z7 => h1 ⟨z1, z2, z3, Or.inr ⟨z4, Or.inr ⟨z5, z6, z7⟩⟩⟩)⟩) (fun z6 => h0 ?_)⟩)⟩)
  · rintro ⟨_, _, _, y | ⟨_, y | y⟩⟩
    · exact z4 y
    · exact z5 y
    · exact y.2.2 z7
  · rintro ⟨_, _, _, y | ⟨_, y | y⟩⟩
    · exact z4 y
    · exact z5 y
    · exact z6 y.2.1
theorem rk_first (S : Nat → Bool) (n : Nat) : (∀ i, i < n → ¬ S i = true) ∨ ∃ i, i < n ∧ S i = true ∧ ∀ j, j < i → ¬ S j = true := by
  induction n with
  | zero => exact Or.inl (fun i hi => absurd hi (by omega))
  | succ n ih =>
    rcases ih with h | ⟨i, hi, h1, h2⟩
    · by_cases z : S n = true
      · exact Or.inr ⟨n, by omega, z, h⟩
      · refine Or.inl (fun i hi => ?_)
        by_cases e : i = n
        · rw [e]; exact z
        · exact h i (by omega)
    · exact Or.inr ⟨i, by omega, h1, h2⟩
/-- the class's search: past all that is not still to hand out -/
theorem rk_x_nx {post : Int32 → SX → Prop} {rev f ch : Nat} {tm : Int32} {ke km ks kv kl ef vf R K P V lo ll le ws wf wl pr pk hA hK hP hV : Nat → Int32} {w e : Nat} (hw : w < 4) (hc : ch ≤ 116) (he : e ≤ ch) (h : ∀ i, i < e → ¬ rk_wq R K wf wl pr pk w i = true)
    (hE : ∀ n, wX_next_14 post (nI w) (nI rev) (nI f) tm (nI ch) ke km ks kv kl ef vf R K P V lo ll le ws wf wl pr pk hA hK hP hV (n + 1) (nI e)) : ∃ n, wX_next_14 post (nI w) (nI rev) (nI f) tm (nI ch) ke km ks kv kl ef vf R K P V lo ll le ws wf wl pr pk hA hK hP hV n 0 := by
  have key : ∀ d n j, j + d = e → d < n → wX_next_14 post (nI w) (nI rev) (nI f) tm (nI ch) ke km ks kv kl ef vf R K P V lo ll le ws wf wl pr pk hA hK hP hV n (nI j) := by
    intro d
    induction d with
    | zero =>
      intro n j h2 h3
      obtain ⟨n, rfl⟩ : ∃ m, n = m + 1 := ⟨n - 1, by omega⟩
      obtain rfl : j = e := by omega
      exact hE n
    | succ d ih =>
      intro n j h2 h3
      obtain ⟨n, rfl⟩ : ∃ m, n = m + 1 := ⟨n - 1, by omega⟩
      have ih := ih n (j + 1) (by omega) (by omega)
      exact rk_leF ch j (by omega) (rk_x_st hw (by omega) (fun z => absurd z (h j (by omega))) (fun _ => br_t rfl (nm_r (nI_1 j) ih)))
  exact ⟨e + 1, key e (e + 1) 0 (by omega) (by omega)⟩
theorem rk_y_nx {post : Int32 → SY → Prop} {rev f ch : Nat} {tm : Int32} {ex va km ys yv kl R K P V ll le lo ws wf wl fr lr lk hP hV : Nat → Int32} {pr pk hA hK : Nat → Int32} {w e : Nat} (hw : w < 4) (hc : ch ≤ 116) (he : e ≤ ch) (hr : rk_wr pr pk hA hK fr lr lk w) (vK : ∀ i, vp_in (K i) 16) (h : ∀ i, i < e → ¬ rk_wq R K wf wl pr pk w i = true)
    (hE : ∀ n, wY_next_40 post (nI w) (nI f) (nI rev) (nI ch) tm ex va km ys yv kl R K P V ll le lo ws wf wl fr lr lk hP hV (n + 1) (nI e)) : ∃ n, wY_next_40 post (nI w) (nI f) (nI rev) (nI ch) tm ex va km ys yv kl R K P V ll le lo ws wf wl fr lr lk hP hV n 0 := by
  have key : ∀ d n j, j + d = e → d < n → wY_next_40 post (nI w) (nI f) (nI rev) (nI ch) tm ex va km ys yv kl R K P V ll le lo ws wf wl fr lr lk hP hV n (nI j) := by
    intro d
    induction d with
    | zero =>
      intro n j h2 h3
      obtain ⟨n, rfl⟩ : ∃ m, n = m + 1 := ⟨n - 1, by omega⟩
      obtain rfl : j = e := by omega
      exact hE n
    | succ d ih =>
      intro n j h2 h3
      obtain ⟨n, rfl⟩ : ∃ m, n = m + 1 := ⟨n - 1, by omega⟩
      have ih := ih n (j + 1) (by omega) (by omega)
      exact rk_leF ch j (by omega) (rk_y_wa hw (by omega) hr (vK j) (fun z => absurd z (h j (by omega))) (fun _ => br_t rfl (nm_r (nI_1 j) ih)))
  exact ⟨e + 1, key e (e + 1) 0 (by omega) (by omega)⟩
theorem rk_wt_n {ws pr pk hA hK fr lr lk R K wf wl : Nat → Int32} {w i : Nat} (h : rk_wt ws pr pk hA hK fr lr lk) (hr : rk_wr pr pk hA hK fr lr lk w) (vK : vp_in (K i) 16) (hq : rk_wq R K wf wl pr pk w i = true) :
    rk_wt ws (upd pr w (R i)) (upd pk w (K i + 1)) (upd hA w 1) (upd hK w (K i)) fr (upd lr w (R i)) (upd lk w (K i)) := by
  intro j hj
  by_cases e : j = w
  · subst e
    refine ⟨(h j hj).1, fun _ => Or.inr ?_⟩
    rw [pk_us, pk_us, pk_us, pk_us, pk_us, pk_us]
    exact ⟨by decide, rfl, vK, rfl, rfl, Int32.not_lt.mp ((rk_wq_y hr vK).mp hq).1⟩
  · unfold rk_wr
    rw [pk_un e, pk_un e, pk_un e, pk_un e, pk_un e, pk_un e]
    exact h j hj
theorem i_vc_next {k : Nat} {u : SX} {v : SY} (I : i_Rel k u v) (hk : k + 5 ≤ 2560) (v1 : Int32) : wpX_next (fun r u' => wpY_next (fun r' v' => r' = r ∧ i_Rel (k + 5) u' v') v v1) u v1 := by
  have J := i_up I
  obtain ⟨rev, f, ch, tm, ke, km, ks, kv, kl, ef, vf, R, K, P, V, lo, ll, le, ws, wf, wl, pr, pk, hA, hK, hP, hV, ex, va, ys, yv, fr, lr, lk, rfl, rfl, hB, hM, hF, hL, hW⟩ := I
  have hcc := (rk_md_c hM).2.1
  have m4 := hM.2.2.2.1
  have m5 := hM.2.2.2.2.1
  unfold wpX_next wpX_refusalOfHandingOut
  rcases pk_ix v1 (n := 4) (by decide) with hx | hx | ⟨w, hw, rfl⟩
  · refine rk_xw_b (Or.inl hx) (br_t rfl (br_f (by decide) ?_))
    unfold wpY_next
    exact rk_yw_b (Or.inl hx) (br_t rfl ⟨rfl, J⟩)
  · refine rk_xw_b (Or.inr hx) (br_t rfl (br_f (by decide) ?_))
    unfold wpY_next
    exact rk_yw_b (Or.inr hx) (br_t rfl ⟨rfl, J⟩)
  · have vw : vp_in (nI w) 4 := vp_in_nI hw (by decide)
    have e : (nI w).toNatClampNeg = w := nI_clamp (by omega)
    refine rk_xw_g hw (br_f (by decide) ⟨vw, ?_⟩)
    rcases (hW w hw).1 with z | z | z
    · have z1 : ¬ ws w = 1 := by rw [z]; decide
      refine br_t (by rw [e]; exact z) (br_f (by decide) ?_)
      unfold wpY_next
      exact rk_yw_g hw (br_f (by decide) ⟨vw, br_f (by rw [e]; exact z1) ⟨vw, br_t (by rw [e]; exact z) ⟨rfl, J⟩⟩⟩)
    · have z0 : ¬ ws w = 0 := by rw [z]; decide
      have z2 : ¬ ws w = 2 := by rw [z]; decide
      have hr := (hW w hw).2 z0
      refine br_f (by rw [e]; exact z0) ⟨vw, br_f (by rw [e]; exact z2) (br_t rfl ?_)⟩
      rcases rk_first (rk_wq R K wf wl pr pk w) ch with hn | ⟨i, hi, hq, hn⟩
      · refine rk_x_nx hw hcc (Nat.le_refl ch) hn (fun n => rk_leT ch ch (Nat.le_refl ch) ?_)
        unfold wpY_next
        exact rk_yw_g hw (br_f (by decide) ⟨vw, br_t (by rw [e]; exact z) (rk_y_nx hw hcc (Nat.le_refl ch) hr m4 hn (fun n => rk_leT ch ch (Nat.le_refl ch) ⟨rfl, J⟩))⟩)
      · have vi : vp_in (nI i) 116 := vp_in_nI (by omega) (by decide)
        have vi' : vp_in (nI i) 120 := vp_in_nI (by omega) (by decide)
        have ei : (nI i).toNatClampNeg = i := nI_clamp (by omega)
        refine rk_x_nx hw hcc (by omega) hn (fun n => rk_leF ch i hi (rk_x_st hw (by omega) (fun _ => br_f (by decide) (rk_x_ho hw (by omega) m5 ⟨vi, ?_⟩)) (fun y => absurd hq y)))
        rw [ei]
        unfold wpY_next
        refine rk_yw_g hw (br_f (by decide) ⟨vw, br_t (by rw [e]; exact z) (rk_y_nx hw hcc (by omega) hr m4 hn (fun n => rk_leF ch i hi (rk_y_wa hw (by omega) hr (m4 i) (fun _ => br_f (by decide) ?_) (fun y => absurd hq y))))⟩)
        refine ⟨vi', vw, nm_r (e' := upd lr w (R i)) (by rw [e, ei]) ⟨vi', vw, nm_r (e' := upd lk w (K i)) (by rw [e, ei]) ⟨vi', vw, nm_r (e' := upd hP w (P i)) (by rw [e, ei, rk_vb (m5 i)]) ⟨vi', vw, nm_r (e' := upd hV w (V i)) (by rw [e, ei]) ⟨vi', by rw [ei], ?_⟩⟩⟩⟩⟩
        exact ⟨rev, f, ch, tm, ke, km, ks, kv, kl, ef, vf, R, K, P, V, lo, ll, le, ws, wf, wl, (upd pr w (R i)), (upd pk w (K i + 1)), (upd hA w 1), (upd hK w (K i)), (upd hP w (P i)), (upd hV w (V i)), ex, va, ys, yv, fr, (upd lr w (R i)), (upd lk w (K i)), rfl, rfl, by omega, hM, hF, hL, rk_wt_n hW hr (m4 i) hq⟩
    · have z0 : ¬ ws w = 0 := by rw [z]; decide
      have z1 : ¬ ws w = 1 := by rw [z]; decide
      refine br_f (by rw [e]; exact z0) ⟨vw, br_t (by rw [e]; exact z) (br_f (by decide) ?_)⟩
      unfold wpY_next
      exact rk_yw_g hw (br_f (by decide) ⟨vw, br_f (by rw [e]; exact z1) ⟨vw, br_f (by rw [e]; exact z0) ⟨rfl, J⟩⟩⟩)
theorem rk_y_wg {post : Int32 → Prop} {rev f ch : Nat} {tm : Int32} {ex va km ys yv kl R K P V ll le lo ws wf wl fr lr lk hP hV : Nat → Int32} {pr pk hA hK : Nat → Int32} {w : Nat} (hw : w < 4) (hc : ch ≤ 116) (hr : rk_wr pr pk hA hK fr lr lk w) (vK : ∀ i, vp_in (K i) 16)
    (h : post (nI (rk_ns (rk_wq R K wf wl pr pk w) ch))) : ∃ n, wY_waiting_42 post (nI w) (nI f) (nI rev) (nI ch) tm ex va km ys yv kl R K P V ll le lo ws wf wl fr lr lk hP hV n 0 0 := by
  have key : ∀ d n j, j + d = ch → d < n → wY_waiting_42 post (nI w) (nI f) (nI rev) (nI ch) tm ex va km ys yv kl R K P V ll le lo ws wf wl fr lr lk hP hV n (nI (rk_ns (rk_wq R K wf wl pr pk w) j)) (nI j) := by
    intro d
    induction d with
    | zero =>
      intro n j h2 h3
      obtain ⟨n, rfl⟩ : ∃ m, n = m + 1 := ⟨n - 1, by omega⟩
      obtain rfl : j = ch := by omega
      exact rk_leT j j (by omega) h
    | succ d ih =>
      intro n j h2 h3
      obtain ⟨n, rfl⟩ : ∃ m, n = m + 1 := ⟨n - 1, by omega⟩
      have ih := ih n (j + 1) (by omega) (by omega)
      refine rk_leF ch j (by omega) (rk_y_wa hw (by omega) hr (vK j) (fun z => ?_) (fun z => ?_))
      · rw [rk_ns_t z] at ih
        exact br_f (by decide) (nm_r (nI_1 _) (nm_r (nI_1 j) ih))
      · rw [rk_ns_f z] at ih
        exact br_t rfl (nm_r (nI_1 j) ih)
  exact ⟨ch + 1, key ch (ch + 1) 0 (by omega) (by omega)⟩
theorem i_vc_waiting {k : Nat} {u : SX} {v : SY} (I : i_Rel k u v) (hk : k + 5 ≤ 2560) (v1 : Int32) : wpX_waiting (fun r => wpY_waiting (fun r' => r' = r ∧ i_Rel (k + 5) u v) v v1) u v1 := by
  have J := i_up I
  obtain ⟨rev, f, ch, tm, ke, km, ks, kv, kl, ef, vf, R, K, P, V, lo, ll, le, ws, wf, wl, pr, pk, hA, hK, hP, hV, ex, va, ys, yv, fr, lr, lk, rfl, rfl, hB, hM, hF, hL, hW⟩ := I
  have hcc := (rk_md_c hM).2.1
  have m4 := hM.2.2.2.1
  unfold wpX_waiting wpX_refusalOfHandingOut
  rcases pk_ix v1 (n := 4) (by decide) with hx | hx | ⟨w, hw, rfl⟩
  · refine rk_xw_b (Or.inl hx) (br_t rfl (br_f (by decide) ?_))
    unfold wpY_waiting
    exact rk_yw_b (Or.inl hx) (br_t rfl ⟨rfl, J⟩)
  · refine rk_xw_b (Or.inr hx) (br_t rfl (br_f (by decide) ?_))
    unfold wpY_waiting
    exact rk_yw_b (Or.inr hx) (br_t rfl ⟨rfl, J⟩)
  · have vw : vp_in (nI w) 4 := vp_in_nI hw (by decide)
    have e : (nI w).toNatClampNeg = w := nI_clamp (by omega)
    refine rk_xw_g hw (br_f (by decide) ⟨vw, ?_⟩)
    rcases (hW w hw).1 with z | z | z
    · have z1 : ¬ ws w = 1 := by rw [z]; decide
      refine br_t (by rw [e]; exact z) (br_f (by decide) ?_)
      unfold wpY_waiting
      exact rk_yw_g hw (br_f (by decide) ⟨vw, br_f (by rw [e]; exact z1) ⟨vw, br_t (by rw [e]; exact z) ⟨rfl, J⟩⟩⟩)
    · have z0 : ¬ ws w = 0 := by rw [z]; decide
      have z2 : ¬ ws w = 2 := by rw [z]; decide
      have hr := (hW w hw).2 z0
      refine br_f (by rw [e]; exact z0) ⟨vw, br_f (by rw [e]; exact z2) (br_t rfl (rk_x_cs hw hcc ?_))⟩
      unfold wpY_waiting
      exact rk_yw_g hw (br_f (by decide) ⟨vw, br_t (by rw [e]; exact z) (rk_y_wg hw hcc hr m4 ⟨rfl, J⟩)⟩)
    · have z0 : ¬ ws w = 0 := by rw [z]; decide
      have z1 : ¬ ws w = 1 := by rw [z]; decide
      refine br_f (by rw [e]; exact z0) ⟨vw, br_t (by rw [e]; exact z) (br_f (by decide) ?_)⟩
      unfold wpY_waiting
      exact rk_yw_g hw (br_f (by decide) ⟨vw, br_f (by rw [e]; exact z1) ⟨vw, br_f (by rw [e]; exact z0) ⟨rfl, J⟩⟩⟩)
end
