section
/-! leases, watches, the relation -/
def rk_lo (kl lo : Nat → Int32) : Prop := ∀ k, k < 16 → kl k = -1 ∨ ∃ l, l < 6 ∧ kl k = nI l ∧ lo l ≠ 0
def rk_wr (pr pk hA hK fr lr lk : Nat → Int32) (w : Nat) : Prop :=
  (hA w = 0 ∧ lk w < 0 ∧ pr w = fr w ∧ pk w = 0) ∨ (hA w ≠ 0 ∧ hK w = lk w ∧ vp_in (lk w) 16 ∧ pr w = lr w ∧ pk w = lk w + 1 ∧ fr w ≤ lr w)
def rk_wt (ws pr pk hA hK fr lr lk : Nat → Int32) : Prop :=
  ∀ w, w < 4 → (ws w = 0 ∨ ws w = 1 ∨ ws w = 2) ∧ (ws w ≠ 0 → rk_wr pr pk hA hK fr lr lk w)
def rk_Rl (B : Nat) (u : SX) (v : SY) : Prop :=
  ∃ (rev f ch : Nat) (tm : Int32) (ke km ks kv kl ef vf R K P V lo ll le ws wf wl pr pk hA hK hP hV ex va ys yv fr lr lk : Nat → Int32), u = ((nI rev), (nI f), tm, (nI ch), ke, km, ks, kv, kl, ef, vf, R, K, P, V, lo, ll, le, ws, wf, wl, pr, pk, hA, hK, hP, hV) ∧ v = ((nI f), (nI rev), (nI ch), tm, ex, va, km, ys, yv, kl, R, K, P, V, ll, le, lo, ws, wf, wl, fr, lr, lk, hP, hV) ∧ rev ≤ B ∧ rk_md rev f ch ke ks kv kl ef vf R K P V ex va ys yv ∧ rk_rr R f ch = rev ∧ rk_lo kl lo ∧ rk_wt ws pr pk hA hK fr lr lk
theorem rk_Rl_up {B C : Nat} {u : SX} {v : SY} (h : rk_Rl B u v) (hBC : B ≤ C) : rk_Rl C u v := by
  obtain ⟨rev, f, ch, tm, ke, km, ks, kv, kl, ef, vf, R, K, P, V, lo, ll, le, ws, wf, wl, pr, pk, hA, hK, hP, hV, ex, va, ys, yv, fr, lr, lk, h1, h2, hB, hM, hF, hL, hW⟩ := h
  exact ⟨rev, f, ch, tm, ke, km, ks, kv, kl, ef, vf, R, K, P, V, lo, ll, le, ws, wf, wl, pr, pk, hA, hK, hP, hV, ex, va, ys, yv, fr, lr, lk, h1, h2, Nat.le_trans hB hBC, hM, hF, hL, hW⟩
/-- the relation at the head of a turn whose first cell is k -/
def i_Rel (k : Nat) (u : SX) (v : SY) : Prop := rk_Rl (200 * k) u v
theorem i_up {k : Nat} {u : SX} {v : SY} (h : i_Rel k u v) : i_Rel (k + 5) u v := rk_Rl_up h (by omega)

/-! the new objects -/
theorem rk_x_in {post : SX → Prop} (h : post (0, 0, 0, 0, (fun _ => 0), (fun _ => 0), (fun _ => 0), (fun _ => 0), rk_ga (fun _ => true) (fun i => i) (fun _ => -1) (fun _ => 0) 16, (fun _ => 0), (fun _ => 0), (fun _ => 0), (fun _ => 0), (fun _ => 0), (fun _ => 0), (fun _ => 0), (fun _ => 0), (fun _ => 0), (fun _ => 0), (fun _ => 0), (fun _ => 0), (fun _ => 0), (fun _ => 0), (fun _ => 0), (fun _ => 0), (fun _ => 0), (fun _ => 0))) : wpX_init post := by
  have key : ∀ d n j, j + d = 16 → d < n → wX_init_181 post 0 0 0 0 n (nI j) (fun _ => 0) (fun _ => 0) (fun _ => 0) (fun _ => 0) (rk_ga (fun _ => true) (fun i => i) (fun _ => -1) (fun _ => 0) j) (fun _ => 0) (fun _ => 0) (fun _ => 0) (fun _ => 0) (fun _ => 0) (fun _ => 0) (fun _ => 0) (fun _ => 0) (fun _ => 0) (fun _ => 0) (fun _ => 0) (fun _ => 0) (fun _ => 0) (fun _ => 0) (fun _ => 0) (fun _ => 0) (fun _ => 0) (fun _ => 0) := by
    intro d
    induction d with
    | zero =>
      intro n j h2 h3
      obtain ⟨n, rfl⟩ : ∃ m, n = m + 1 := ⟨n - 1, by omega⟩
      obtain rfl : j = 16 := by omega
      exact rk_leT 16 16 (by omega) h
    | succ d ih =>
      intro n j h2 h3
      obtain ⟨n, rfl⟩ : ∃ m, n = m + 1 := ⟨n - 1, by omega⟩
      have ih := ih n (j + 1) (by omega) (by omega)
      exact rk_leF 16 j (by omega) ⟨vp_in_nI (by omega) (by decide), nm_r (e' := rk_ga (fun _ => true) (fun i => i) (fun _ => -1) (fun _ => 0) (j + 1)) (by rw [rk_ga_t rfl, nI_clamp (by omega)]) (nm_r (nI_1 j) ih)⟩
  exact ⟨17, key 16 17 0 rfl (by omega)⟩
theorem rk_y_in {post : SY → Prop} (h : post (0, 0, 0, 0, (fun _ => 0), (fun _ => 0), (fun _ => 0), (fun _ => 0), (fun _ => 0), rk_ga (fun _ => true) (fun i => i) (fun _ => -1) (fun _ => 0) 16, (fun _ => 0), (fun _ => 0), (fun _ => 0), (fun _ => 0), (fun _ => 0), (fun _ => 0), (fun _ => 0), (fun _ => 0), (fun _ => 0), (fun _ => 0), (fun _ => 0), (fun _ => 0), (fun _ => 0), (fun _ => 0), (fun _ => 0))) : wpY_init post := by
  have key : ∀ d n j, j + d = 16 → d < n → wY_init_168 post 0 0 0 0 n (nI j) (fun _ => 0) (fun _ => 0) (fun _ => 0) (fun _ => 0) (fun _ => 0) (rk_ga (fun _ => true) (fun i => i) (fun _ => -1) (fun _ => 0) j) (fun _ => 0) (fun _ => 0) (fun _ => 0) (fun _ => 0) (fun _ => 0) (fun _ => 0) (fun _ => 0) (fun _ => 0) (fun _ => 0) (fun _ => 0) (fun _ => 0) (fun _ => 0) (fun _ => 0) (fun _ => 0) (fun _ => 0) := by
    intro d
    induction d with
    | zero =>
      intro n j h2 h3
      obtain ⟨n, rfl⟩ : ∃ m, n = m + 1 := ⟨n - 1, by omega⟩
      obtain rfl : j = 16 := by omega
      exact rk_leT 16 16 (by omega) h
    | succ d ih =>
      intro n j h2 h3
      obtain ⟨n, rfl⟩ : ∃ m, n = m + 1 := ⟨n - 1, by omega⟩
      have ih := ih n (j + 1) (by omega) (by omega)
      exact rk_leF 16 j (by omega) ⟨vp_in_nI (by omega) (by decide), nm_r (e' := rk_ga (fun _ => true) (fun i => i) (fun _ => -1) (fun _ => 0) (j + 1)) (by rw [rk_ga_t rfl, nI_clamp (by omega)]) (nm_r (nI_1 j) ih)⟩
  exact ⟨17, key 16 17 0 rfl (by omega)⟩
theorem rk_md_0 : rk_md 0 0 0 (fun _ => 0) (fun _ => 0) (fun _ => 0) (rk_ga (fun _ => true) (fun i => i) (fun _ => -1) (fun _ => 0) 16) (fun _ => 0) (fun _ => 0) (fun _ => 0) (fun _ => 0) (fun _ => 0) (fun _ => 0) (fun _ => 0) (fun _ => 0) (fun _ => 0) (fun _ => 0) := by
  have hb : rk_bo (fun _ => 0) := fun _ => Or.inl rfl
  refine ⟨Nat.le_refl 0, ?_, ⟨fun n hn => absurd hn (by omega), Int.le_refl _, by decide⟩, fun _ => vp_in_nI (n := 0) (by decide) (by decide), hb, hb, hb, ?_, ?_⟩
  · rw [rk_ns_z 16 (fun i _ => by simp)]; omega
  · intro n hn k hk
    exact ⟨rfl, fun z => absurd rfl z⟩
  · intro k hk
    refine ⟨rfl, fun _ => ⟨rfl, rfl, ?_⟩, fun z => absurd rfl z⟩
    rw [rk_ga_id, if_pos ⟨hk, rfl⟩]
theorem i_vc0 : wpX_init (fun u => wpY_init (fun v => i_Rel 0 u v)) := by
  refine rk_x_in (rk_y_in ?_)
  refine ⟨0, 0, 0, 0, _, _, _, _, _, _, _, _, _, _, _, _, _, _, _, _, _, _, _, _, _, _, _, _, _, _, _, _, _, _, rfl, rfl, Nat.le_refl 0, rk_md_0, rfl, ?_, ?_⟩
  · intro k hk
    left
    rw [rk_ga_id, if_pos ⟨hk, rfl⟩]
  · intro w hw
    exact ⟨Or.inl rfl, fun z => absurd rfl z⟩

/-! methods that only read -/
theorem i_vc_revision {k : Nat} {u : SX} {v : SY} (I : i_Rel k u v) (hk : k + 5 ≤ 2560) : wpX_revision (fun r => wpY_revision (fun r' => r' = r ∧ i_Rel (k + 5) u v) v) u := by
  have J := i_up I
  obtain ⟨rev, f, ch, tm, ke, km, ks, kv, kl, ef, vf, R, K, P, V, lo, ll, le, ws, wf, wl, pr, pk, hA, hK, hP, hV, ex, va, ys, yv, fr, lr, lk, rfl, rfl, hB, hM, hF, hL, hW⟩ := I
  exact ⟨rfl, J⟩
theorem i_vc_remembered {k : Nat} {u : SX} {v : SY} (I : i_Rel k u v) (hk : k + 5 ≤ 2560) : wpX_remembered (fun r => wpY_remembered (fun r' => r' = r ∧ i_Rel (k + 5) u v) v) u := by
  have J := i_up I
  obtain ⟨rev, f, ch, tm, ke, km, ks, kv, kl, ef, vf, R, K, P, V, lo, ll, le, ws, wf, wl, pr, pk, hA, hK, hP, hV, ex, va, ys, yv, fr, lr, lk, rfl, rfl, hB, hM, hF, hL, hW⟩ := I
  exact ⟨rfl, J⟩
theorem rk_md_r {rev f ch : Nat} {ke ks kv kl ef vf R K P V ex va ys yv : Nat → Int32} (h : rk_md rev f ch ke ks kv kl ef vf R K P V ex va ys yv) (hf : rk_rr R f ch = rev) : rev - f ≤ 116 := by
  obtain ⟨m1, m2, m3, m4, m5, m6, m7, m8, m9⟩ := h
  have := rk_lg_bf m3 hf
  omega
theorem i_vc_made {k : Nat} {u : SX} {v : SY} (I : i_Rel k u v) (hk : k + 5 ≤ 2560) (v1 : Int32) : wpX_made (fun r => wpY_made (fun r' => r' = r ∧ i_Rel (k + 5) u v) v v1) u v1 := by
  have J := i_up I
  obtain ⟨rev, f, ch, tm, ke, km, ks, kv, kl, ef, vf, R, K, P, V, lo, ll, le, ws, wf, wl, pr, pk, hA, hK, hP, hV, ex, va, ys, yv, fr, lr, lk, rfl, rfl, hB, hM, hF, hL, hW⟩ := I
  have hr := rk_md_r hM hF
  obtain ⟨m1, m2, m3, m4, m5, m6, m7, m8, m9⟩ := hM
  unfold wpX_made
  rcases pk_ix v1 (n := 16) (by decide) with hx | hx | ⟨j, hj, rfl⟩
  · refine rk_xk_b (Or.inl hx) (br_t rfl ?_)
    unfold wpY_made
    exact rk_yk_b (Or.inl hx) (br_t rfl ⟨rfl, J⟩)
  · refine rk_xk_b (Or.inr hx) (br_t rfl ?_)
    unfold wpY_made
    exact rk_yk_b (Or.inr hx) (br_t rfl ⟨rfl, J⟩)
  · have vj : vp_in (nI j) 16 := vp_in_nI hj (by decide)
    obtain ⟨n1, n2, n3⟩ := m9 j hj
    refine rk_xk_g hj (br_f (by decide) ⟨vj, ?_⟩)
    rw [nI_clamp (by omega)]
    by_cases z : ke j = 0
    · refine br_t z ?_
      unfold wpY_made
      refine rk_yk_g hj (br_f (by decide) (rk_y_en m1 (by omega) hj m7 ?_))
      rw [← n1]
      exact br_t z ⟨rfl, J⟩
    · refine br_f z ⟨vj, ?_⟩
      unfold wpY_made
      refine rk_yk_g hj (br_f (by decide) (rk_y_en m1 (by omega) hj m7 ?_))
      rw [← n1, nI_clamp (by omega)]
      exact br_f z ⟨vj, rfl, J⟩
theorem i_vc_set {k : Nat} {u : SX} {v : SY} (I : i_Rel k u v) (hk : k + 5 ≤ 2560) (v1 : Int32) : wpX_set (fun r => wpY_set (fun r' => r' = r ∧ i_Rel (k + 5) u v) v v1) u v1 := by
  have J := i_up I
  obtain ⟨rev, f, ch, tm, ke, km, ks, kv, kl, ef, vf, R, K, P, V, lo, ll, le, ws, wf, wl, pr, pk, hA, hK, hP, hV, ex, va, ys, yv, fr, lr, lk, rfl, rfl, hB, hM, hF, hL, hW⟩ := I
  have hr := rk_md_r hM hF
  obtain ⟨m1, m2, m3, m4, m5, m6, m7, m8, m9⟩ := hM
  unfold wpX_set
  rcases pk_ix v1 (n := 16) (by decide) with hx | hx | ⟨j, hj, rfl⟩
  · refine rk_xk_b (Or.inl hx) (br_t rfl ?_)
    unfold wpY_set
    exact rk_yk_b (Or.inl hx) (br_t rfl ⟨rfl, J⟩)
  · refine rk_xk_b (Or.inr hx) (br_t rfl ?_)
    unfold wpY_set
    exact rk_yk_b (Or.inr hx) (br_t rfl ⟨rfl, J⟩)
  · have vj : vp_in (nI j) 16 := vp_in_nI hj (by decide)
    obtain ⟨n1, n2, n3⟩ := m9 j hj
    refine rk_xk_g hj (br_f (by decide) ⟨vj, ?_⟩)
    rw [nI_clamp (by omega)]
    by_cases z : ke j = 0
    · refine br_t z ?_
      unfold wpY_set
      refine rk_yk_g hj (br_f (by decide) (rk_y_en m1 (by omega) hj m7 ?_))
      rw [← n1]
      exact br_t z ⟨rfl, J⟩
    · refine br_f z ⟨vj, ?_⟩
      unfold wpY_set
      refine rk_yk_g hj (br_f (by decide) (rk_y_en m1 (by omega) hj m7 ?_))
      rw [← n1, nI_clamp (by omega)]
      exact br_f z ⟨vj, (n3 z).1.symm, J⟩
theorem i_vc_version {k : Nat} {u : SX} {v : SY} (I : i_Rel k u v) (hk : k + 5 ≤ 2560) (v1 : Int32) : wpX_version (fun r => wpY_version (fun r' => r' = r ∧ i_Rel (k + 5) u v) v v1) u v1 := by
  have J := i_up I
  obtain ⟨rev, f, ch, tm, ke, km, ks, kv, kl, ef, vf, R, K, P, V, lo, ll, le, ws, wf, wl, pr, pk, hA, hK, hP, hV, ex, va, ys, yv, fr, lr, lk, rfl, rfl, hB, hM, hF, hL, hW⟩ := I
  have hr := rk_md_r hM hF
  obtain ⟨m1, m2, m3, m4, m5, m6, m7, m8, m9⟩ := hM
  unfold wpX_version
  rcases pk_ix v1 (n := 16) (by decide) with hx | hx | ⟨j, hj, rfl⟩
  · refine rk_xk_b (Or.inl hx) (br_t rfl ?_)
    unfold wpY_version
    exact rk_yk_b (Or.inl hx) (br_t rfl ⟨rfl, J⟩)
  · refine rk_xk_b (Or.inr hx) (br_t rfl ?_)
    unfold wpY_version
    exact rk_yk_b (Or.inr hx) (br_t rfl ⟨rfl, J⟩)
  · have vj : vp_in (nI j) 16 := vp_in_nI hj (by decide)
    obtain ⟨n1, n2, n3⟩ := m9 j hj
    refine rk_xk_g hj (br_f (by decide) ⟨vj, ?_⟩)
    rw [nI_clamp (by omega)]
    by_cases z : ke j = 0
    · refine br_t z ?_
      unfold wpY_version
      refine rk_yk_g hj (br_f (by decide) (rk_y_en m1 (by omega) hj m7 ?_))
      rw [← n1]
      exact br_t z ⟨rfl, J⟩
    · refine br_f z ⟨vj, ?_⟩
      unfold wpY_version
      refine rk_yk_g hj (br_f (by decide) (rk_y_en m1 (by omega) hj m7 ?_))
      rw [← n1, nI_clamp (by omega)]
      exact br_f z ⟨vj, (n3 z).2.symm, J⟩
theorem i_vc_leaseOf {k : Nat} {u : SX} {v : SY} (I : i_Rel k u v) (hk : k + 5 ≤ 2560) (v1 : Int32) : wpX_leaseOf (fun r => wpY_leaseOf (fun r' => r' = r ∧ i_Rel (k + 5) u v) v v1) u v1 := by
  have J := i_up I
  obtain ⟨rev, f, ch, tm, ke, km, ks, kv, kl, ef, vf, R, K, P, V, lo, ll, le, ws, wf, wl, pr, pk, hA, hK, hP, hV, ex, va, ys, yv, fr, lr, lk, rfl, rfl, hB, hM, hF, hL, hW⟩ := I
  have hr := rk_md_r hM hF
  obtain ⟨m1, m2, m3, m4, m5, m6, m7, m8, m9⟩ := hM
  unfold wpX_leaseOf
  rcases pk_ix v1 (n := 16) (by decide) with hx | hx | ⟨j, hj, rfl⟩
  · refine rk_xk_b (Or.inl hx) (br_t rfl ?_)
    unfold wpY_leaseOf
    exact rk_yk_b (Or.inl hx) (br_t rfl ⟨rfl, J⟩)
  · refine rk_xk_b (Or.inr hx) (br_t rfl ?_)
    unfold wpY_leaseOf
    exact rk_yk_b (Or.inr hx) (br_t rfl ⟨rfl, J⟩)
  · have vj : vp_in (nI j) 16 := vp_in_nI hj (by decide)
    obtain ⟨n1, n2, n3⟩ := m9 j hj
    refine rk_xk_g hj (br_f (by decide) ⟨vj, ?_⟩)
    rw [nI_clamp (by omega)]
    rcases hL j hj with z | ⟨l, hl, z, hlo⟩
    · refine br_t z ?_
      unfold wpY_leaseOf
      refine rk_yk_g hj (br_f (by decide) (rk_y_en m1 (by omega) hj m7 ?_))
      rw [nI_clamp (by omega), z]
      exact br_c (fun _ => ⟨rfl, J⟩) (fun _ => ⟨vj, br_t (by decide) ⟨rfl, J⟩⟩)
    · have z1 : ¬ kl j = -1 := by rw [z]; exact rk_ne1 (by omega)
      refine br_f z1 ⟨vj, ?_⟩
      unfold wpY_leaseOf
      refine rk_yk_g hj (br_f (by decide) (rk_y_en m1 (by omega) hj m7 ?_))
      rw [← n1, nI_clamp (by omega)]
      exact br_f (fun y => z1 (n2 y).2.2) ⟨vj, br_f (by rw [z]; exact nI_pos (by omega)) ⟨vj, rfl, J⟩⟩
theorem i_vc_remaining {k : Nat} {u : SX} {v : SY} (I : i_Rel k u v) (hk : k + 5 ≤ 2560) (v1 : Int32) : wpX_remaining (fun r => wpY_remaining (fun r' => r' = r ∧ i_Rel (k + 5) u v) v v1) u v1 := by
  have J := i_up I
  obtain ⟨rev, f, ch, tm, ke, km, ks, kv, kl, ef, vf, R, K, P, V, lo, ll, le, ws, wf, wl, pr, pk, hA, hK, hP, hV, ex, va, ys, yv, fr, lr, lk, rfl, rfl, hB, hM, hF, hL, hW⟩ := I
  unfold wpX_remaining
  rcases pk_ix v1 (n := 6) (by decide) with hx | hx | ⟨j, hj, rfl⟩
  · refine rk_xl_b (Or.inl hx) (br_t rfl ?_)
    unfold wpY_remaining
    exact rk_yl_b (Or.inl hx) (br_t rfl ⟨rfl, J⟩)
  · refine rk_xl_b (Or.inr hx) (br_t rfl ?_)
    unfold wpY_remaining
    exact rk_yl_b (Or.inr hx) (br_t rfl ⟨rfl, J⟩)
  · have vj : vp_in (nI j) 6 := vp_in_nI hj (by decide)
    refine rk_xl_g hj (br_f (by decide) ⟨vj, ?_⟩)
    rw [nI_clamp (by omega)]
    by_cases z : lo j = 0
    · refine br_t z ?_
      unfold wpY_remaining
      refine rk_yl_g hj (br_f (by decide) ⟨vj, ?_⟩)
      rw [nI_clamp (by omega)]
      exact br_t z ⟨rfl, J⟩
    · refine br_f z ⟨vj, ?_⟩
      unfold wpY_remaining
      refine rk_yl_g hj (br_f (by decide) ⟨vj, ?_⟩)
      rw [nI_clamp (by omega)]
      exact br_f z ⟨vj, rfl, J⟩
theorem rk_lo_n {kl lo : Nat → Int32} (h : rk_lo kl lo) {l : Nat} (hl : l < 6) (z : lo l = 0) : ∀ i, i < 16 → ¬ kl i = nI l := by
  intro i hi e
  rcases h i hi with y | ⟨m, hm, y, ym⟩
  · rw [e] at y
    exact rk_ne1 (by omega) y
  · rw [e] at y
    have := (nI_eq (by omega) (by omega)).mp y
    subst this
    exact ym z
theorem i_vc_keysOf {k : Nat} {u : SX} {v : SY} (I : i_Rel k u v) (hk : k + 5 ≤ 2560) (v1 : Int32) : wpX_keysOf (fun r => wpY_keysOf (fun r' => r' = r ∧ i_Rel (k + 5) u v) v v1) u v1 := by
  have J := i_up I
  obtain ⟨rev, f, ch, tm, ke, km, ks, kv, kl, ef, vf, R, K, P, V, lo, ll, le, ws, wf, wl, pr, pk, hA, hK, hP, hV, ex, va, ys, yv, fr, lr, lk, rfl, rfl, hB, hM, hF, hL, hW⟩ := I
  have hr := rk_md_r hM hF
  obtain ⟨m1, m2, m3, m4, m5, m6, m7, m8, m9⟩ := hM
  unfold wpX_keysOf
  rcases pk_ix v1 (n := 6) (by decide) with hx | hx | ⟨j, hj, rfl⟩
  · refine rk_xl_b (Or.inl hx) (br_t rfl ?_)
    unfold wpY_keysOf
    exact rk_yl_b (Or.inl hx) (br_t rfl ⟨rfl, J⟩)
  · refine rk_xl_b (Or.inr hx) (br_t rfl ?_)
    unfold wpY_keysOf
    exact rk_yl_b (Or.inr hx) (br_t rfl ⟨rfl, J⟩)
  · have vj : vp_in (nI j) 6 := vp_in_nI hj (by decide)
    refine rk_xl_g hj (br_f (by decide) (rk_x_cu (fun i => decide (kl i = nI j)) (fun i _ => decide_eq_true_iff) ?_))
    unfold wpY_keysOf
    refine rk_yl_g hj (br_f (by decide) ⟨vj, ?_⟩)
    rw [nI_clamp (by omega)]
    by_cases z : lo j = 0
    · refine br_t z ⟨?_, J⟩
      rw [rk_ns_z 16 (fun i hi => decide_eq_false (rk_lo_n hL hj z i hi))]
      rfl
    · refine br_f z (rk_y_un (fun i => decide (kl i = nI j)) m1 (by omega) m7 ?_ (rk_y_bi _ ⟨rfl, J⟩))
      intro i hi
      obtain ⟨n1, n2, n3⟩ := m9 i hi
      rw [decide_eq_true_iff, ← n1]
      refine ⟨fun y => ⟨fun w => ?_, y⟩, fun y => y.2⟩
      have := (n2 w).2.2
      rw [y] at this
      exact rk_ne1 (by omega) this
theorem i_vc_handed {k : Nat} {u : SX} {v : SY} (I : i_Rel k u v) (hk : k + 5 ≤ 2560) (v1 : Int32) (v2 : Int32) : wpX_handed (fun r => wpY_handed (fun r' => r' = r ∧ i_Rel (k + 5) u v) v v1 v2) u v1 v2 := by
  have J := i_up I
  obtain ⟨rev, f, ch, tm, ke, km, ks, kv, kl, ef, vf, R, K, P, V, lo, ll, le, ws, wf, wl, pr, pk, hA, hK, hP, hV, ex, va, ys, yv, fr, lr, lk, rfl, rfl, hB, hM, hF, hL, hW⟩ := I
  unfold wpX_handed
  rcases pk_ix v1 (n := 4) (by decide) with hx | hx | ⟨w, hw, rfl⟩
  · refine rk_xw_b (Or.inl hx) (br_t rfl ?_)
    unfold wpY_handed
    exact rk_yw_b (Or.inl hx) (br_t rfl ⟨rfl, J⟩)
  · refine rk_xw_b (Or.inr hx) (br_t rfl ?_)
    unfold wpY_handed
    exact rk_yw_b (Or.inr hx) (br_t rfl ⟨rfl, J⟩)
  · have vw : vp_in (nI w) 4 := vp_in_nI hw (by decide)
    refine rk_xw_g hw (br_f (by decide) ?_)
    by_cases a1 : v2 < 0
    · refine br_t a1 ?_
      unfold wpY_handed
      exact rk_yw_g hw (br_f (by decide) (br_t a1 ⟨rfl, J⟩))
    · refine br_f a1 ?_
      by_cases a2 : v2 ≤ 2
      · refine br_t a2 ⟨vw, ?_⟩
        rw [nI_clamp (by omega)]
        by_cases a3 : ws w = 0
        · refine br_t a3 ?_
          unfold wpY_handed
          refine rk_yw_g hw (br_f (by decide) (br_f a1 (br_t a2 ⟨vw, ?_⟩)))
          rw [nI_clamp (by omega)]
          exact br_t a3 ⟨rfl, J⟩
        · refine br_f a3 ⟨vw, ?_⟩
          rcases (hW w hw).2 a3 with ⟨q1, q2, q3, q4⟩ | ⟨q1, q2, q3, q4, q5, q6⟩
          · refine br_t q1 ?_
            unfold wpY_handed
            refine rk_yw_g hw (br_f (by decide) (br_f a1 (br_t a2 ⟨vw, ?_⟩)))
            rw [nI_clamp (by omega)]
            exact br_f a3 ⟨vw, br_f (Int32.not_le.mpr q2) ⟨rfl, J⟩⟩
          · refine br_f q1 ?_
            have q7 : (0 : Int32) ≤ lk w := by
              obtain ⟨m, hm, e⟩ := vp_in_of q3 (by decide)
              rw [e]
              exact nI_pos' (by omega)
            by_cases a4 : v2 = 0
            · refine br_t a4 ⟨vw, ?_⟩
              unfold wpY_handed
              refine rk_yw_g hw (br_f (by decide) (br_f a1 (br_t a2 ⟨vw, ?_⟩)))
              rw [nI_clamp (by omega)]
              exact br_f a3 ⟨vw, br_t q7 (br_t a4 ⟨vw, q2.symm, J⟩)⟩
            · refine br_f a4 ?_
              by_cases a5 : v2 = 1
              · refine br_t a5 ⟨vw, ?_⟩
                by_cases a6 : hP w = 0
                · refine br_t a6 ?_
                  unfold wpY_handed
                  refine rk_yw_g hw (br_f (by decide) (br_f a1 (br_t a2 ⟨vw, ?_⟩)))
                  rw [nI_clamp (by omega)]
                  exact br_f a3 ⟨vw, br_t q7 (br_f a4 (br_t a5 ⟨vw, br_t a6 ⟨rfl, J⟩⟩))⟩
                · refine br_f a6 ?_
                  unfold wpY_handed
                  refine rk_yw_g hw (br_f (by decide) (br_f a1 (br_t a2 ⟨vw, ?_⟩)))
                  rw [nI_clamp (by omega)]
                  exact br_f a3 ⟨vw, br_t q7 (br_f a4 (br_t a5 ⟨vw, br_f a6 ⟨rfl, J⟩⟩))⟩
              · refine br_f a5 ⟨vw, ?_⟩
                unfold wpY_handed
                refine rk_yw_g hw (br_f (by decide) (br_f a1 (br_t a2 ⟨vw, ?_⟩)))
                rw [nI_clamp (by omega)]
                exact br_f a3 ⟨vw, br_t q7 (br_f a4 (br_f a5 ⟨vw, rfl, J⟩))⟩
      · refine br_f a2 ?_
        unfold wpY_handed
        exact rk_yw_g hw (br_f (by decide) (br_f a1 (br_f a2 ⟨rfl, J⟩)))
end
