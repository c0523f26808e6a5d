section
theorem rk_ns_sub {S T : Nat → Bool} : ∀ n, (∀ i, i < n → S i = true → T i = true) → rk_ns S n ≤ rk_ns T n := by
  intro n
  induction n with
  | zero => intro _; exact Nat.le_refl 0
  | succ n ih =>
    intro h
    have h1 := ih (fun i hi => h i (by omega))
    by_cases z : S n = true
    · rw [rk_ns_t z, rk_ns_t (h n (by omega) z)]; omega
    · rw [rk_ns_f z]
      by_cases y : T n = true
      · rw [rk_ns_t y]; omega
      · rw [rk_ns_f y]; exact h1
theorem rk_md_s {rev f ch : Nat} {ke ks kv kl ef vf R K P V ex va ys yv : Nat → Int32} {S : Nat → Bool} (h : rk_md rev f ch ke ks kv kl ef vf R K P V ex va ys yv) (hS : ∀ i, i < 16 → S i = true → ke i ≠ 0) : ch + rk_ns S 16 ≤ 116 := by
  have h2 := h.2.1
  have := rk_ns_sub (S := S) (T := fun i => decide (ke i ≠ 0)) 16 (fun i hi z => decide_eq_true (hS i hi z))
  omega
theorem rk_md_g {rev f ch : Nat} {ke ks kv kl ef vf R K P V ex va ys yv : Nat → Int32} (S : Nat → Bool) (h : rk_md rev f ch ke ks kv kl ef vf R K P V ex va ys yv) (hv : rev < 2 ^ 30) (hS : ∀ i, i < 16 → S i = true → ke i ≠ 0) :
    ∀ j, j ≤ 16 → rk_md rev f (ch + rk_ns S j) (rk_ga S (fun i => i) (fun _ => 0) ke j) (rk_ga S (fun i => i) (fun _ => 0) ks j) (rk_ga S (fun i => i) (fun _ => 0) kv j) (rk_ga S (fun i => i) (fun _ => -1) kl j) ef vf (rk_ga S (fun i => ch + rk_ns S i) (fun _ => nI rev) R j) (rk_ga S (fun i => ch + rk_ns S i) (fun i => nI i) K j) (rk_ga S (fun i => ch + rk_ns S i) (fun _ => 0) P j) (rk_ga S (fun i => ch + rk_ns S i) (fun _ => 0) V j) (rk_ga S (fun i => 16 * (rev - f) + i) (fun _ => 0) ex j) va ys yv ∧ (0 < rk_ns S j → rk_rr (rk_ga S (fun i => ch + rk_ns S i) (fun _ => nI rev) R j) f (ch + rk_ns S j) = rev) := by
  intro j
  induction j with
  | zero => intro _; exact ⟨h, fun z => absurd z (Nat.lt_irrefl 0)⟩
  | succ j ih =>
    intro hj
    obtain ⟨h1, h2⟩ := ih (by omega)
    by_cases z : S j = true
    · have ek : rk_ga S (fun i => i) (fun _ => 0) ke j j ≠ 0 := by
        rw [rk_ga_id, if_neg (by omega)]
        exact hS j (by omega) z
      obtain ⟨g1, g2⟩ := rk_md_e (k := j) h1 hv (by omega) ek
      simp only [rk_ga_t z, rk_ns_t z]
      exact ⟨g1, fun _ => g2⟩
    · simp only [rk_ga_f z, rk_ns_f z]
      exact ⟨h1, h2⟩
theorem rk_Rl_er {C : Nat} {rev f ch : Nat} {tm : Int32} {ke km ks kv kl ef vf R K P V lo ll le ws wf wl pr pk hA hK hP hV ex va ys yv fr lr lk : Nat → Int32} (S : Nat → Bool) (hM : rk_md rev f ch ke ks kv kl ef vf R K P V ex va ys yv) (hF : rk_rr R f ch = rev) (hL : rk_lo (rk_ga S (fun i => i) (fun _ => -1) kl 16) lo) (hW : rk_wt ws pr pk hA hK fr lr lk) (hS : ∀ i, i < 16 → S i = true → ke i ≠ 0) (h0 : 0 < rk_ns S 16) (hC : rev + 1 ≤ C) (hv : rev + 1 < 2 ^ 30) :
    rk_Rl C ((nI (rev + 1)), (nI f), tm, (nI (ch + rk_ns S 16)), (rk_ga S (fun i => i) (fun _ => 0) ke 16), km, (rk_ga S (fun i => i) (fun _ => 0) ks 16), (rk_ga S (fun i => i) (fun _ => 0) kv 16), (rk_ga S (fun i => i) (fun _ => -1) kl 16), ef, vf, (rk_ga S (fun i => ch + rk_ns S i) (fun _ => nI (rev + 1)) R 16), (rk_ga S (fun i => ch + rk_ns S i) (fun i => nI i) K 16), (rk_ga S (fun i => ch + rk_ns S i) (fun _ => 0) P 16), (rk_ga S (fun i => ch + rk_ns S i) (fun _ => 0) V 16), lo, ll, le, ws, wf, wl, pr, pk, hA, hK, hP, hV) ((nI f), (nI (rev + 1)), (nI (ch + rk_ns S 16)), tm, (rk_ga S (fun i => 16 * ((rev + 1) - f) + i) (fun _ => 0) (rk_nr ex (16 * (rev - f)) 16) 16), rk_nr va (16 * (rev - f)) 16, km, ys, yv, (rk_ga S (fun i => i) (fun _ => -1) kl 16), (rk_ga S (fun i => ch + rk_ns S i) (fun _ => nI (rev + 1)) R 16), (rk_ga S (fun i => ch + rk_ns S i) (fun i => nI i) K 16), (rk_ga S (fun i => ch + rk_ns S i) (fun _ => 0) P 16), (rk_ga S (fun i => ch + rk_ns S i) (fun _ => 0) V 16), ll, le, lo, ws, wf, wl, fr, lr, lk, hP, hV) := by
  obtain ⟨g1, g2⟩ := rk_md_g S (rk_md_n hM hF) hv hS 16 (Nat.le_refl 16)
  exact ⟨(rev + 1), f, (ch + rk_ns S 16), tm, (rk_ga S (fun i => i) (fun _ => 0) ke 16), km, (rk_ga S (fun i => i) (fun _ => 0) ks 16), (rk_ga S (fun i => i) (fun _ => 0) kv 16), (rk_ga S (fun i => i) (fun _ => -1) kl 16), ef, vf, (rk_ga S (fun i => ch + rk_ns S i) (fun _ => nI (rev + 1)) R 16), (rk_ga S (fun i => ch + rk_ns S i) (fun i => nI i) K 16), (rk_ga S (fun i => ch + rk_ns S i) (fun _ => 0) P 16), (rk_ga S (fun i => ch + rk_ns S i) (fun _ => 0) V 16), lo, ll, le, ws, wf, wl, pr, pk, hA, hK, hP, hV, (rk_ga S (fun i => 16 * ((rev + 1) - f) + i) (fun _ => 0) (rk_nr ex (16 * (rev - f)) 16) 16), (rk_nr va (16 * (rev - f)) 16), ys, yv, fr, lr, lk, rfl, rfl, hC, g1, g2 h0, hL, hW⟩
theorem rk_lo_e {kl lo : Nat → Int32} (h : rk_lo kl lo) (S : Nat → Bool) : rk_lo (rk_ga S (fun i => i) (fun _ => -1) kl 16) lo := by
  intro i hi
  rw [rk_ga_id]
  by_cases z : i < 16 ∧ S i = true
  · rw [if_pos z]; exact Or.inl rfl
  · rw [if_neg z]; exact h i hi
theorem i_vc_erase {k : Nat} {u : SX} {v : SY} (I : i_Rel k u v) (hk : k + 5 ≤ 2560) (v1 : Int32) (v2 : Int32) : wpX_erase (fun r u' => wpY_erase (fun r' v' => r' = r ∧ i_Rel (k + 5) u' v') v v1 v2) u v1 v2 := by
  have J := i_up I
  obtain ⟨rev, f, ch, tm, ke, km, ks, kv, kl, ef, vf, R, K, P, V, lo, ll, le, ws, wf, wl, pr, pk, hA, hK, hP, hV, ex, va, ys, yv, fr, lr, lk, rfl, rfl, hB, hM, hF, hL, hW⟩ := I
  have hr := rk_md_r hM hF
  have hcc := (rk_md_c hM).2.1
  have m1 := hM.1
  have m7 := hM.2.2.2.2.2.2.1
  have m9 := hM.2.2.2.2.2.2.2.2
  unfold wpX_erase
  by_cases hx1 : v1 < 0 ∨ nI 16 ≤ v1
  · refine rk_xr_b1 hx1 (br_t rfl ?_)
    unfold wpY_erase
    exact rk_yk_b hx1 (br_t rfl ⟨rfl, J⟩)
  obtain ⟨a, ha, rfl⟩ : ∃ j, j < 16 ∧ v1 = nI j := by
    rcases pk_ix v1 (n := 16) (by decide) with h | h | h
    · exact absurd (Or.inl h) hx1
    · exact absurd (Or.inr h) hx1
    · exact h
  by_cases hx2 : v2 < 0 ∨ nI 16 ≤ v2
  · refine rk_xr_b2 ha hx2 (br_t rfl ?_)
    unfold wpY_erase
    exact rk_yk_g ha (br_f (by decide) (rk_yk_b hx2 (br_t rfl ⟨rfl, J⟩)))
  obtain ⟨b, hb, rfl⟩ : ∃ j, j < 16 ∧ v2 = nI j := by
    rcases pk_ix v2 (n := 16) (by decide) with h | h | h
    · exact absurd (Or.inl h) hx2
    · exact absurd (Or.inr h) hx2
    · exact h
  obtain ⟨S, hSd⟩ : ∃ S : Nat → Bool, S = fun i => decide (a ≤ i ∧ i ≤ b ∧ ke i ≠ 0) := ⟨_, rfl⟩
  have hlo : ∀ i, i < a → S i = false := fun i hi => by
    rw [hSd]
    exact decide_eq_false (fun w => by omega)
  have hhi : ∀ i, b < i → S i = false := fun i hi => by
    rw [hSd]
    exact decide_eq_false (fun w => by omega)
  have hS : ∀ i, a ≤ i → i ≤ b → (S i = true ↔ ke i ≠ 0) := fun i h1 h2 => by
    rw [hSd]
    simp only [decide_eq_true_iff]
    exact ⟨fun w => w.2.2, fun w => ⟨h1, h2, w⟩⟩
  have hS' : ∀ i, i < 16 → S i = true → ke i ≠ 0 := fun i _ h => by
    rw [hSd] at h
    exact (of_decide_eq_true h).2.2
  have hSy : ∀ i, a ≤ i → i ≤ b → (S i = true ↔ ex (16 * (rev - f) + i) ≠ 0) := fun i h1 h2 => by
    rw [hS i h1 h2, (m9 i (by omega)).1]
  have hn := rk_ns_le S 16
  have hY : ∀ post : Int32 → SY → Prop, (((nI (rk_ns S 16) = 0 → post (-1000000003) ((nI f), (nI rev), (nI ch), tm, ex, va, km, ys, yv, kl, R, K, P, V, ll, le, lo, ws, wf, wl, fr, lr, lk, hP, hV)) ∧ (¬ nI (rk_ns S 16) = 0 → ((nI ch + nI (rk_ns S 16) ≤ 100 → wpY_eraseAll (fun u => post (nI (rk_ns S 16)) u) ((nI f), (nI rev), (nI ch), tm, ex, va, km, ys, yv, kl, R, K, P, V, ll, le, lo, ws, wf, wl, fr, lr, lk, hP, hV) (nI (rk_bm S 16))) ∧ (¬ nI ch + nI (rk_ns S 16) ≤ 100 → post (-1000000002) ((nI f), (nI rev), (nI ch), tm, ex, va, km, ys, yv, kl, R, K, P, V, ll, le, lo, ws, wf, wl, fr, lr, lk, hP, hV)))))) → wpY_erase post ((nI f), (nI rev), (nI ch), tm, ex, va, km, ys, yv, kl, R, K, P, V, ll, le, lo, ws, wf, wl, fr, lr, lk, hP, hV) (nI a) (nI b) := by
    intro post h
    unfold wpY_erase
    exact rk_yk_g ha (br_f (by decide) (rk_yk_g hb (br_f (by decide) (rk_y_pr m1 (rk_y_ka S ha hb hlo hhi (by omega) hSy (rk_y_bi S h))))))
  refine rk_xr_g ha hb (br_f (by decide) (rk_x_ce S hb hlo hhi hS ha ?_))
  by_cases z : rk_ns S 16 = 0
  · exact rk_eqT (rk_ns S 16) 0 z (hY _ (rk_eqT (rk_ns S 16) 0 z ⟨rfl, J⟩))
  · refine rk_eqF (rk_ns S 16) 0 z ?_
    by_cases y : ch + rk_ns S 16 ≤ 100
    · refine rk_leT (ch + rk_ns S 16) 100 y (nm_r (nI_1 rev) (rk_x_er S ha hb hlo hhi hS (by omega) (hY _ (rk_eqF (rk_ns S 16) 0 z (rk_leT (ch + rk_ns S 16) 100 y (rk_y_ea1 S (by omega) m1 (by omega) (by omega) m7 ⟨rfl, ?_⟩) (nI_add _ _)))))) (nI_add _ _)
      exact rk_Rl_er S hM hF (rk_lo_e hL S) hW hS' (by omega) (by omega) (by omega)
    · exact rk_leF (ch + rk_ns S 16) 100 (by omega) (hY _ (rk_eqF (rk_ns S 16) 0 z (rk_leF (ch + rk_ns S 16) 100 (by omega) ⟨rfl, J⟩ (nI_add _ _)))) (nI_add _ _)

/-! a lease ends -/
theorem rk_lo_0 {kl lo : Nat → Int32} (h : rk_lo kl lo) {l : Nat} (hn : ∀ i, i < 16 → ¬ kl i = nI l) : rk_lo kl (upd lo l 0) := by
  intro i hi
  rcases h i hi with y | ⟨m, hm, y, ym⟩
  · exact Or.inl y
  · refine Or.inr ⟨m, hm, y, ?_⟩
    rw [pk_un (fun e => hn i hi (by rw [y, e]))]
    exact ym
theorem rk_lo_1 {kl lo : Nat → Int32} (h : rk_lo kl lo) {l : Nat} {S : Nat → Bool} (hS : ∀ i, i < 16 → (S i = true ↔ kl i = nI l)) : rk_lo (rk_ga S (fun i => i) (fun _ => -1) kl 16) (upd lo l 0) := by
  intro i hi
  rw [rk_ga_id]
  by_cases z : i < 16 ∧ S i = true
  · rw [if_pos z]; exact Or.inl rfl
  · rw [if_neg z]
    rcases h i hi with y | ⟨m, hm, y, ym⟩
    · exact Or.inl y
    · refine Or.inr ⟨m, hm, y, ?_⟩
      rw [pk_un (fun e => z ⟨hi, (hS i hi).mpr (by rw [y, e])⟩)]
      exact ym
theorem rk_end {B l : Nat} {u : SX} {v : SY} (h : rk_Rl B u v) (hl : l < 6) (hB' : B + 1 < 2 ^ 30) :
    ∃ (r : Int32) (u' : SX) (v' : SY), (∀ post : Int32 → SX → Prop, post r u' → wpX_endLease post u (nI l)) ∧ (∀ post : Int32 → SY → Prop, post r v' → wpY_end post v (nI l)) ∧ rk_Rl (B + 1) u' v' := by
  obtain ⟨rev, f, ch, tm, ke, km, ks, kv, kl, ef, vf, R, K, P, V, lo, ll, le, ws, wf, wl, pr, pk, hA, hK, hP, hV, ex, va, ys, yv, fr, lr, lk, rfl, rfl, hB, hM, hF, hL, hW⟩ := h
  have hr := rk_md_r hM hF
  have hcc := (rk_md_c hM).2.1
  have m1 := hM.1
  have m7 := hM.2.2.2.2.2.2.1
  have m9 := hM.2.2.2.2.2.2.2.2
  obtain ⟨S, hSd⟩ : ∃ S : Nat → Bool, S = fun i => decide (kl i = nI l) := ⟨_, rfl⟩
  have hS : ∀ i, i < 16 → (S i = true ↔ kl i = nI l) := fun i _ => by
    rw [hSd]
    exact decide_eq_true_iff
  have hS' : ∀ i, i < 16 → S i = true → ke i ≠ 0 := fun i hi h z => by
    have h1 := (hS i hi).mp h
    rw [((m9 i hi).2.1 z).2.2] at h1
    exact rk_ne1 (by omega) h1.symm
  have hSy : ∀ i, i < 16 → (S i = true ↔ (ex (16 * (rev - f) + i) ≠ 0 ∧ kl i = nI l)) := fun i hi => by
    rw [← (m9 i hi).1]
    exact ⟨fun w => ⟨hS' i hi w, (hS i hi).mp w⟩, fun w => (hS i hi).mpr w.2⟩
  by_cases z : rk_ns S 16 = 0
  · refine ⟨_, _, _, fun post h => rk_x_el0 S hl hS hcc z h, fun post h => rk_y_nd0 S hl m1 (by omega) m7 hSy z h, rev, f, ch, tm, ke, km, ks, kv, kl, ef, vf, R, K, P, V, (upd lo l 0), ll, le, ws, wf, wl, pr, pk, hA, hK, hP, hV, ex, va, ys, yv, fr, lr, lk, rfl, rfl, by omega, hM, hF, rk_lo_0 hL ?_, hW⟩
    intro i hi y
    have := rk_ns_q hi ((hS i hi).mpr y)
    omega
  · exact ⟨_, _, _, fun post h => rk_x_el1 S hl hS (rk_md_s hM hS') (by omega) h, fun post h => rk_y_nd1 S hl m1 (by omega) m7 hSy (rk_md_s hM hS') (by omega) h, rk_Rl_er S hM hF (rk_lo_1 hL hS) hW hS' (by omega) (by omega) (by omega)⟩
theorem i_vc_revoke {k : Nat} {u : SX} {v : SY} (I : i_Rel k u v) (hk : k + 5 ≤ 2560) (v1 : Int32) : wpX_revoke (fun r u' => wpY_revoke (fun r' v' => r' = r ∧ i_Rel (k + 5) u' v') v v1) u v1 := by
  have J := i_up I
  have II : rk_Rl (200 * k) u v := I
  obtain ⟨rev, f, ch, tm, ke, km, ks, kv, kl, ef, vf, R, K, P, V, lo, ll, le, ws, wf, wl, pr, pk, hA, hK, hP, hV, ex, va, ys, yv, fr, lr, lk, rfl, rfl, hB, hM, hF, hL, hW⟩ := I
  unfold wpX_revoke
  rcases pk_ix v1 (n := 6) (by decide) with hx | hx | ⟨j, hj, rfl⟩
  · refine rk_xl_b (Or.inl hx) (br_t rfl ?_)
    unfold wpY_revoke
    exact rk_yl_b (Or.inl hx) (br_t rfl ⟨rfl, J⟩)
  · refine rk_xl_b (Or.inr hx) (br_t rfl ?_)
    unfold wpY_revoke
    exact rk_yl_b (Or.inr hx) (br_t rfl ⟨rfl, J⟩)
  · have vj : vp_in (nI j) 6 := vp_in_nI hj (by decide)
    have e : (nI j).toNatClampNeg = j := nI_clamp (by omega)
    refine rk_xl_g hj (br_f (by decide) ⟨vj, ?_⟩)
    by_cases z : lo j = 0
    · refine br_t (by rw [e]; exact z) ?_
      unfold wpY_revoke
      exact rk_yl_g hj (br_f (by decide) ⟨vj, br_t (by rw [e]; exact z) ⟨rfl, J⟩⟩)
    · obtain ⟨r, ⟨_, _, _, _, _, _, _, _, _, _, _, _, _, _, _, _, _, _, _, _, _, _, _, _, _, _, _⟩, ⟨_, _, _, _, _, _, _, _, _, _, _, _, _, _, _, _, _, _, _, _, _, _, _, _, _⟩, eX, eY, hR⟩ := rk_end II hj (by omega)
      refine br_f (by rw [e]; exact z) (eX _ ?_)
      unfold wpY_revoke
      exact rk_yl_g hj (br_f (by decide) ⟨vj, br_f (by rw [e]; exact z) (eY _ ⟨rfl, rk_Rl_up hR (by omega)⟩)⟩)

/-! time goes on -/
def rk_XD (post : Int32 → SX → Prop) (n : Nat) (x1 x2 : Int32) (u : SX) : Prop := match u with
  | (rev, f, tm, ch, ke, km, ks, kv, kl, ef, vf, R, K, P, V, lo, ll, le, ws, wf, wl, pr, pk, hA, hK, hP, hV) => wX_endLeasesDue_4 post n x1 x2 rev f tm ch ke km ks kv kl ef vf R K P V lo ll le ws wf wl pr pk hA hK hP hV
def rk_YD (post : Int32 → SY → Prop) (J : Int32 → Int32 → Int32 → Int32 → Int32 → Int32 → (Nat → Int32) → (Nat → Int32) → (Nat → Int32) → (Nat → Int32) → (Nat → Int32) → (Nat → Int32) → (Nat → Int32) → (Nat → Int32) → (Nat → Int32) → (Nat → Int32) → (Nat → Int32) → (Nat → Int32) → (Nat → Int32) → (Nat → Int32) → (Nat → Int32) → (Nat → Int32) → (Nat → Int32) → (Nat → Int32) → (Nat → Int32) → (Nat → Int32) → (Nat → Int32) → Prop) (x1 x3 : Int32) (n : Nat) (x2 x4 : Int32) (v : SY) : Prop := match v with
  | (f, rev, ch, tm, ex, va, km, ys, yv, kl, R, K, P, V, ll, le, lo, ws, wf, wl, fr, lr, lk, hP, hV) => wY_advance_35 post J x1 x3 n x2 x4 f rev ch tm ex va km ys yv kl R K P V ll le lo ws wf wl fr lr lk hP hV
def rk_YJ (J : Int32 → Int32 → Int32 → Int32 → Int32 → Int32 → (Nat → Int32) → (Nat → Int32) → (Nat → Int32) → (Nat → Int32) → (Nat → Int32) → (Nat → Int32) → (Nat → Int32) → (Nat → Int32) → (Nat → Int32) → (Nat → Int32) → (Nat → Int32) → (Nat → Int32) → (Nat → Int32) → (Nat → Int32) → (Nat → Int32) → (Nat → Int32) → (Nat → Int32) → (Nat → Int32) → (Nat → Int32) → (Nat → Int32) → (Nat → Int32) → Prop) (x y : Int32) (v : SY) : Prop := match v with
  | (f, rev, ch, tm, ex, va, km, ys, yv, kl, R, K, P, V, ll, le, lo, ws, wf, wl, fr, lr, lk, hP, hV) => J x y f rev ch tm ex va km ys yv kl R K P V ll le lo ws wf wl fr lr lk hP hV
def rk_XA (post : Int32 → SX → Prop) (x1 : Int32) (n : Nat) (x2 x3 : Int32) (u : SX) : Prop := match u with
  | (rev, f, tm, ch, ke, km, ks, kv, kl, ef, vf, R, K, P, V, lo, ll, le, ws, wf, wl, pr, pk, hA, hK, hP, hV) => wX_advance_17 post x1 n x2 x3 rev f tm ch ke km ks kv kl ef vf R K P V lo ll le ws wf wl pr pk hA hK hP hV
def rk_YA (post : Int32 → SY → Prop) (x1 : Int32) (n : Nat) (x2 x3 : Int32) (v : SY) : Prop := match v with
  | (f, rev, ch, tm, ex, va, km, ys, yv, kl, R, K, P, V, ll, le, lo, ws, wf, wl, fr, lr, lk, hP, hV) => wY_advance_17 post x1 n x2 x3 f rev ch tm ex va km ys yv kl R K P V ll le lo ws wf wl fr lr lk hP hV
theorem rk_XD_o {post : Int32 → SX → Prop} {n : Nat} {x1 x2 : Int32} {rev f tm ch : Int32} {ke km ks kv kl ef vf R K P V lo ll le ws wf wl pr pk hA hK hP hV : Nat → Int32} (h : rk_XD post n x1 x2 (rev, f, tm, ch, ke, km, ks, kv, kl, ef, vf, R, K, P, V, lo, ll, le, ws, wf, wl, pr, pk, hA, hK, hP, hV)) : wX_endLeasesDue_4 post n x1 x2 rev f tm ch ke km ks kv kl ef vf R K P V lo ll le ws wf wl pr pk hA hK hP hV := h
theorem rk_YD_o {post : Int32 → SY → Prop} {J : Int32 → Int32 → Int32 → Int32 → Int32 → Int32 → (Nat → Int32) → (Nat → Int32) → (Nat → Int32) → (Nat → Int32) → (Nat → Int32) → (Nat → Int32) → (Nat → Int32) → (Nat → Int32) → (Nat → Int32) → (Nat → Int32) → (Nat → Int32) → (Nat → Int32) → (Nat → Int32) → (Nat → Int32) → (Nat → Int32) → (Nat → Int32) → (Nat → Int32) → (Nat → Int32) → (Nat → Int32) → (Nat → Int32) → (Nat → Int32) → Prop} {x1 x3 : Int32} {n : Nat} {x2 x4 : Int32} {f rev ch tm : Int32} {ex va km ys yv kl R K P V ll le lo ws wf wl fr lr lk hP hV : Nat → Int32} (h : rk_YD post J x1 x3 n x2 x4 (f, rev, ch, tm, ex, va, km, ys, yv, kl, R, K, P, V, ll, le, lo, ws, wf, wl, fr, lr, lk, hP, hV)) : wY_advance_35 post J x1 x3 n x2 x4 f rev ch tm ex va km ys yv kl R K P V ll le lo ws wf wl fr lr lk hP hV := h
theorem rk_XA_o {post : Int32 → SX → Prop} {x1 : Int32} {n : Nat} {x2 x3 : Int32} {rev f tm ch : Int32} {ke km ks kv kl ef vf R K P V lo ll le ws wf wl pr pk hA hK hP hV : Nat → Int32} (h : rk_XA post x1 n x2 x3 (rev, f, tm, ch, ke, km, ks, kv, kl, ef, vf, R, K, P, V, lo, ll, le, ws, wf, wl, pr, pk, hA, hK, hP, hV)) : wX_advance_17 post x1 n x2 x3 rev f tm ch ke km ks kv kl ef vf R K P V lo ll le ws wf wl pr pk hA hK hP hV := h
theorem rk_YA_o {post : Int32 → SY → Prop} {x1 : Int32} {n : Nat} {x2 x3 : Int32} {f rev ch tm : Int32} {ex va km ys yv kl R K P V ll le lo ws wf wl fr lr lk hP hV : Nat → Int32} (h : rk_YA post x1 n x2 x3 (f, rev, ch, tm, ex, va, km, ys, yv, kl, R, K, P, V, ll, le, lo, ws, wf, wl, fr, lr, lk, hP, hV)) : wY_advance_17 post x1 n x2 x3 f rev ch tm ex va km ys yv kl R K P V ll le lo ws wf wl fr lr lk hP hV := h
theorem rk_due : ∀ d l, l + d = 6 → ∀ (B : Nat) (u : SX) (v : SY), rk_Rl B u v → B + d < 2 ^ 30 →
    ∃ (c : Nat) (u' : SX) (v' : SY), (∀ (post : Int32 → SX → Prop) (n : Nat) (x1 : Int32), d < n → post (x1 + nI c) u' → rk_XD post n x1 (nI l) u) ∧
      (∀ (post : Int32 → SY → Prop) (J : Int32 → Int32 → Int32 → Int32 → Int32 → Int32 → (Nat → Int32) → (Nat → Int32) → (Nat → Int32) → (Nat → Int32) → (Nat → Int32) → (Nat → Int32) → (Nat → Int32) → (Nat → Int32) → (Nat → Int32) → (Nat → Int32) → (Nat → Int32) → (Nat → Int32) → (Nat → Int32) → (Nat → Int32) → (Nat → Int32) → (Nat → Int32) → (Nat → Int32) → (Nat → Int32) → (Nat → Int32) → (Nat → Int32) → (Nat → Int32) → Prop) (y1 y3 : Int32) (n : Nat) (x2 : Int32), d < n → rk_YJ J (x2 + nI c) (y3 + 1) v' → rk_YD post J y1 y3 n x2 (nI l) v) ∧ rk_Rl (B + d) u' v' := by
  intro d
  induction d with
  | zero =>
    intro l hl B u v h hB'
    have hh := h
    obtain ⟨rev, f, ch, tm, ke, km, ks, kv, kl, ef, vf, R, K, P, V, lo, ll, le, ws, wf, wl, pr, pk, hA, hK, hP, hV, ex, va, ys, yv, fr, lr, lk, rfl, rfl, hB, hM, hF, hL, hW⟩ := h
    refine ⟨0, _, _, ?_, ?_, hh⟩
    · intro post n x1 hn h
      obtain ⟨n, rfl⟩ : ∃ m, n = m + 1 := ⟨n - 1, by omega⟩
      rw [show x1 + nI 0 = x1 from Int32.add_zero x1] at h
      exact rk_leT 6 l (by omega) h
    · intro post J y1 y3 n x2 hn h
      obtain ⟨n, rfl⟩ : ∃ m, n = m + 1 := ⟨n - 1, by omega⟩
      rw [show x2 + nI 0 = x2 from Int32.add_zero x2] at h
      exact rk_leT 6 l (by omega) (nm_e h)
  | succ d ih =>
    intro l hl B u v h hB'
    have hh := h
    obtain ⟨rev, f, ch, tm, ke, km, ks, kv, kl, ef, vf, R, K, P, V, lo, ll, le, ws, wf, wl, pr, pk, hA, hK, hP, hV, ex, va, ys, yv, fr, lr, lk, rfl, rfl, hB, hM, hF, hL, hW⟩ := h
    have vl : vp_in (nI l) 6 := vp_in_nI (by omega) (by decide)
    have e : (nI l).toNatClampNeg = l := nI_clamp (by omega)
    by_cases z : lo l = 0
    · obtain ⟨c, u', v', hX, hY, hR⟩ := ih (l + 1) (by omega) B _ _ hh (by omega)
      refine ⟨c, u', v', ?_, ?_, rk_Rl_up hR (by omega)⟩
      · intro post n x1 hn h
        obtain ⟨n, rfl⟩ : ∃ m, n = m + 1 := ⟨n - 1, by omega⟩
        exact rk_leF 6 l (by omega) ⟨vl, br_t (by rw [e]; exact z) (nm_r (nI_1 l) (hX post n x1 (by omega) h))⟩
      · intro post J y1 y3 n x2 hn h
        obtain ⟨n, rfl⟩ : ∃ m, n = m + 1 := ⟨n - 1, by omega⟩
        exact rk_leF 6 l (by omega) ⟨vl, br_t (by rw [e]; exact z) (nm_r (nI_1 l) (hY post J y1 y3 n x2 (by omega) h))⟩
    · by_cases y : le l = tm
      · obtain ⟨r, ⟨_, _, _, _, _, _, _, _, _, _, _, _, _, _, _, _, _, _, _, _, _, _, _, _, _, _, _⟩, ⟨_, _, _, _, _, _, _, _, _, _, _, _, _, _, _, _, _, _, _, _, _, _, _, _, _⟩, eX, eY, hR1⟩ := rk_end hh (l := l) (by omega) (by omega)
        obtain ⟨c, u', v', hX, hY, hR⟩ := ih (l + 1) (by omega) (B + 1) _ _ hR1 (by omega)
        have ec : ∀ x : Int32, x + 1 + nI c = x + nI (c + 1) := by
          intro x
          rw [← nI_1]
          grind
        refine ⟨c + 1, u', v', ?_, ?_, rk_Rl_up hR (by omega)⟩
        · intro post n x1 hn h
          obtain ⟨n, rfl⟩ : ∃ m, n = m + 1 := ⟨n - 1, by omega⟩
          rw [← ec] at h
          exact rk_leF 6 l (by omega) ⟨vl, br_f (by rw [e]; exact z) ⟨vl, br_t (by rw [e]; exact y) (eX _ (nm_e (nm_r (nI_1 l) (hX post n (x1 + 1) (by omega) h))))⟩⟩
        · intro post J y1 y3 n x2 hn h
          obtain ⟨n, rfl⟩ : ∃ m, n = m + 1 := ⟨n - 1, by omega⟩
          rw [← ec] at h
          exact rk_leF 6 l (by omega) ⟨vl, br_f (by rw [e]; exact z) ⟨vl, br_t (by rw [e]; exact y) (eY _ (nm_e (nm_r (nI_1 l) (hY post J y1 y3 n (x2 + 1) (by omega) h))))⟩⟩
      · obtain ⟨c, u', v', hX, hY, hR⟩ := ih (l + 1) (by omega) B _ _ hh (by omega)
        refine ⟨c, u', v', ?_, ?_, rk_Rl_up hR (by omega)⟩
        · intro post n x1 hn h
          obtain ⟨n, rfl⟩ : ∃ m, n = m + 1 := ⟨n - 1, by omega⟩
          exact rk_leF 6 l (by omega) ⟨vl, br_f (by rw [e]; exact z) ⟨vl, br_f (by rw [e]; exact y) (nm_r (nI_1 l) (hX post n x1 (by omega) h))⟩⟩
        · intro post J y1 y3 n x2 hn h
          obtain ⟨n, rfl⟩ : ∃ m, n = m + 1 := ⟨n - 1, by omega⟩
          exact rk_leF 6 l (by omega) ⟨vl, br_f (by rw [e]; exact z) ⟨vl, br_f (by rw [e]; exact y) (nm_r (nI_1 l) (hY post J y1 y3 n x2 (by omega) h))⟩⟩
theorem rk_adv {m : Nat} (hm : m ≤ 100) : ∀ d j, j + d = m → ∀ (B : Nat) (u : SX) (v : SY) (x2 : Int32), rk_Rl B u v → B + 6 * d < 2 ^ 30 →
    ∃ (c : Int32) (u' : SX) (v' : SY), (∀ (post : Int32 → SX → Prop) (n : Nat), d < n → post c u' → rk_XA post (nI m) n x2 (nI j) u) ∧
      (∀ (post : Int32 → SY → Prop) (n : Nat), d < n → post c v' → rk_YA post (nI m) n x2 (nI j) v) ∧ rk_Rl (B + 6 * d) u' v' := by
  intro d
  induction d with
  | zero =>
    intro j hj B u v x2 h hB'
    have hh := h
    obtain ⟨rev, f, ch, tm, ke, km, ks, kv, kl, ef, vf, R, K, P, V, lo, ll, le, ws, wf, wl, pr, pk, hA, hK, hP, hV, ex, va, ys, yv, fr, lr, lk, rfl, rfl, hB, hM, hF, hL, hW⟩ := h
    refine ⟨x2, _, _, ?_, ?_, hh⟩
    · intro post n hn h
      obtain ⟨n, rfl⟩ : ∃ m, n = m + 1 := ⟨n - 1, by omega⟩
      exact rk_leT m j (by omega) h
    · intro post n hn h
      obtain ⟨n, rfl⟩ : ∃ m, n = m + 1 := ⟨n - 1, by omega⟩
      exact rk_leT m j (by omega) h
  | succ d ih =>
    intro j hj B u v x2 h hB'
    obtain ⟨rev, f, ch, tm, ke, km, ks, kv, kl, ef, vf, R, K, P, V, lo, ll, le, ws, wf, wl, pr, pk, hA, hK, hP, hV, ex, va, ys, yv, fr, lr, lk, rfl, rfl, hB, hM, hF, hL, hW⟩ := h
    have hT : rk_Rl B ((nI rev), (nI f), tm + 1, (nI ch), ke, km, ks, kv, kl, ef, vf, R, K, P, V, lo, ll, le, ws, wf, wl, pr, pk, hA, hK, hP, hV) ((nI f), (nI rev), (nI ch), tm + 1, ex, va, km, ys, yv, kl, R, K, P, V, ll, le, lo, ws, wf, wl, fr, lr, lk, hP, hV) := ⟨rev, f, ch, (tm + 1), ke, km, ks, kv, kl, ef, vf, R, K, P, V, lo, ll, le, ws, wf, wl, pr, pk, hA, hK, hP, hV, ex, va, ys, yv, fr, lr, lk, rfl, rfl, hB, hM, hF, hL, hW⟩
    obtain ⟨c, ⟨_, _, _, _, _, _, _, _, _, _, _, _, _, _, _, _, _, _, _, _, _, _, _, _, _, _, _⟩, ⟨_, _, _, _, _, _, _, _, _, _, _, _, _, _, _, _, _, _, _, _, _, _, _, _, _⟩, hX1, hY1, hR1⟩ := rk_due 6 0 rfl B _ _ hT (by omega)
    obtain ⟨c2, u2, v2, hX2, hY2, hR2⟩ := ih (j + 1) (by omega) (B + 6) _ _ (x2 + nI c) hR1 (by omega)
    refine ⟨c2, u2, v2, ?_, ?_, rk_Rl_up hR2 (by omega)⟩
    · intro post n hn h
      obtain ⟨n, rfl⟩ : ∃ m, n = m + 1 := ⟨n - 1, by omega⟩
      exact rk_leF m j (by omega) (nm_e ⟨7, rk_XD_o (hX1 _ 7 0 (by omega) (nm_r (e' := x2 + nI c) (by rw [Int32.zero_add]) (nm_r (nI_1 j) (hX2 post n (by omega) h))))⟩)
    · intro post n hn h
      obtain ⟨n, rfl⟩ : ∃ m, n = m + 1 := ⟨n - 1, by omega⟩
      have h2 := hY2 post n (by omega) h
      rw [← nI_1 j] at h2
      exact rk_leF m j (by omega) (nm_e ⟨7, rk_YD_o (hY1 post _ (nI m) (nI j) 7 x2 (by omega) h2)⟩)
theorem i_vc_advance {k : Nat} {u : SX} {v : SY} (I : i_Rel k u v) (hk : k + 5 ≤ 2560) (v1 : Int32) : wpX_advance (fun r u' => wpY_advance (fun r' v' => r' = r ∧ i_Rel (k + 5) u' v') v v1) u v1 := by
  have J := i_up I
  have II : rk_Rl (200 * k) u v := I
  obtain ⟨rev, f, ch, tm, ke, km, ks, kv, kl, ef, vf, R, K, P, V, lo, ll, le, ws, wf, wl, pr, pk, hA, hK, hP, hV, ex, va, ys, yv, fr, lr, lk, rfl, rfl, hB, hM, hF, hL, hW⟩ := I
  by_cases a1 : v1 < 0
  · exact br_t a1 (br_t a1 ⟨rfl, J⟩)
  · refine br_f a1 ?_
    by_cases a2 : v1 ≤ 100
    · obtain ⟨m, hm, rfl⟩ := nI_of2 (n := 100) (by decide) a1 a2
      obtain ⟨c, u', v', hX, hY, hR⟩ := rk_adv hm m 0 (by omega) (200 * k) _ _ 0 II (by omega)
      exact br_t a2 ⟨m + 1, rk_XA_o (hX _ (m + 1) (by omega) (br_f a1 (br_t a2 ⟨m + 1, rk_YA_o (hY _ (m + 1) (by omega) ⟨rfl, rk_Rl_up hR (by omega)⟩)⟩)))⟩
    · exact br_f a2 (br_f a1 (br_f a2 ⟨rfl, J⟩))
end
