section
/-! which revision is meant -/
theorem rk_x_rf {post : Int32 → Prop} {rev f ch : Nat} {tm : Int32} {ke km ks kv kl ef vf R K P V lo ll le ws wf wl pr pk hA hK hP hV : Nat → Int32} {q : Nat} (h1 : f ≤ q) (h2 : q ≤ rev) (hv : rev < 2 ^ 30) (h : post 0) : wpX_refusalOfRevision post ((nI rev), (nI f), tm, (nI ch), ke, km, ks, kv, kl, ef, vf, R, K, P, V, lo, ll, le, ws, wf, wl, pr, pk, hA, hK, hP, hV) (nI q) :=
  rk_leT f q h1 (rk_leT q rev h2 h)
theorem rk_pl {rev f ch : Nat} {tm : Int32} {ke km ks kv kl ef vf R K P V lo ll le ws wf wl pr pk hA hK hP hV ex va ys yv fr lr lk : Nat → Int32} (hf : f ≤ rev) (hv : rev < 2 ^ 30) (x : Int32) :
    (∃ q, f ≤ q ∧ q ≤ rev ∧ (∀ post : Int32 → Prop, post (nI q) → wpX_revisionMeant post ((nI rev), (nI f), tm, (nI ch), ke, km, ks, kv, kl, ef, vf, R, K, P, V, lo, ll, le, ws, wf, wl, pr, pk, hA, hK, hP, hV) x) ∧ (∀ post : Int32 → Prop, post (nI (16 * (q - f))) → wpY_placeOf post ((nI f), (nI rev), (nI ch), tm, ex, va, km, ys, yv, kl, R, K, P, V, ll, le, lo, ws, wf, wl, fr, lr, lk, hP, hV) x)) ∨
    (∃ m : Int32, ¬ 0 ≤ m ∧ ¬ m = 0 ∧ (∀ post : Int32 → Prop, post x → wpX_revisionMeant post ((nI rev), (nI f), tm, (nI ch), ke, km, ks, kv, kl, ef, vf, R, K, P, V, lo, ll, le, ws, wf, wl, pr, pk, hA, hK, hP, hV) x) ∧ (∀ post : Int32 → Prop, post m → wpX_refusalOfRevision post ((nI rev), (nI f), tm, (nI ch), ke, km, ks, kv, kl, ef, vf, R, K, P, V, lo, ll, le, ws, wf, wl, pr, pk, hA, hK, hP, hV) x) ∧ (∀ post : Int32 → Prop, post m → wpY_placeOf post ((nI f), (nI rev), (nI ch), tm, ex, va, km, ys, yv, kl, R, K, P, V, ll, le, lo, ws, wf, wl, fr, lr, lk, hP, hV) x)) := by
  by_cases a1 : x = -1
  · refine Or.inl ⟨rev, hf, Nat.le_refl rev, fun post h => br_t a1 h, fun post h => br_t a1 (rk_y_pr hf h)⟩
  · by_cases a2 : x < nI f
    · refine Or.inr ⟨-1000000004, by decide, by decide, fun post h => br_f a1 h, fun post h => br_f (Int32.not_le.mpr a2) h, fun post h => br_f a1 (br_t a2 (br_f (Int32.not_le.mpr a2) h))⟩
    · by_cases a3 : x ≤ nI rev
      · obtain ⟨q, hq, rfl⟩ := nI_of (x := x) (fun z => by
          rw [rk_lt, nI_toInt (by omega)] at a2
          rw [rk_lt, show (0 : Int32).toInt = 0 from by decide] at z
          omega)
        have q1 : f ≤ q := by
          have := mt (nI_ltI hq (by omega)).mpr a2
          omega
        have q2 : q ≤ rev := (nI_leI hq (by omega)).mp a3
        have e : (16 : Int32) * (nI q - nI f) = nI (16 * (q - f)) := by
          rw [pk_sub q1]; exact pk_mul 16 (q - f)
        refine Or.inl ⟨q, q1, q2, fun post h => br_f a1 h, fun post h => br_f a1 (br_f a2 (br_t a3 ?_))⟩
        rw [e]; exact h
      · exact Or.inr ⟨-1000000005, by decide, by decide, fun post h => br_f a1 h, fun post h => br_t (Int32.not_lt.mp a2) (br_f a3 h), fun post h => br_f a1 (br_f a2 (br_f a3 (br_t (Int32.not_lt.mp a2) h)))⟩
theorem rk_rw_q {rev f ch q k : Nat} {ef vf R K P V ex va : Nat → Int32} (h : rk_rw rev f ch ef vf R K P V ex va) (h1 : f ≤ q) (h2 : q ≤ rev) (hv : rev < 2 ^ 30) (hk : k < 16) :
    ex (16 * (q - f) + k) = rk_fe K R P (nI q).toInt k (ef k) ch ∧ (ex (16 * (q - f) + k) ≠ 0 → va (16 * (q - f) + k) = rk_fe K R V (nI q).toInt k (vf k) ch) := by
  have := h (q - f) (by omega) k hk
  rw [show q - f + f = q by omega] at this
  rw [nI_toInt (by omega)]
  exact this
theorem i_vc_value {k : Nat} {u : SX} {v : SY} (I : i_Rel k u v) (hk : k + 5 ≤ 2560) (v1 : Int32) (v2 : Int32) : wpX_value (fun r => wpY_value (fun r' => r' = r ∧ i_Rel (k + 5) u v) v v1 v2) u v1 v2 := by
  have J := i_up I
  obtain ⟨rev, f, ch, tm, ke, km, ks, kv, kl, ef, vf, R, K, P, V, lo, ll, le, ws, wf, wl, pr, pk, hA, hK, hP, hV, ex, va, ys, yv, fr, lr, lk, rfl, rfl, hB, hM, hF, hL, hW⟩ := I
  have hr := rk_md_r hM hF
  have hcc := (rk_md_c hM).2.1
  obtain ⟨m1, m2, m3, m4, m5, m6, m7, m8, m9⟩ := hM
  unfold wpX_value
  rcases pk_ix v1 (n := 16) (by decide) with hx | hx | ⟨j, hj, rfl⟩
  · refine rk_xk_b (Or.inl hx) (br_t rfl ?_)
    unfold wpY_value
    exact rk_yk_b (Or.inl hx) (br_t rfl ⟨rfl, J⟩)
  · refine rk_xk_b (Or.inr hx) (br_t rfl ?_)
    unfold wpY_value
    exact rk_yk_b (Or.inr hx) (br_t rfl ⟨rfl, J⟩)
  · refine rk_xk_g hj (br_f (by decide) ?_)
    rcases rk_pl (rev := rev) (f := f) (ch := ch) (tm := tm) (ke := ke) (km := km) (ks := ks) (kv := kv) (kl := kl) (ef := ef) (vf := vf) (R := R) (K := K) (P := P) (V := V) (lo := lo) (ll := ll) (le := le) (ws := ws) (wf := wf) (wl := wl) (pr := pr) (pk := pk) (hA := hA) (hK := hK) (hP := hP) (hV := hV) (ex := ex) (va := va) (ys := ys) (yv := yv) (fr := fr) (lr := lr) (lk := lk) m1 (by omega) v2 with ⟨q, q1, q2, gX, gY⟩ | ⟨m, z1, z2, gX, gR, gY⟩
    · obtain ⟨w1, w2⟩ := rk_rw_q m8 q1 q2 (by omega) hj
      have v : vp_in (nI (16 * (q - f)) + nI j) 1920 := by rw [nI_add]; exact vp_in_nI (by omega) (by decide)
      have c : (nI (16 * (q - f)) + nI j).toNatClampNeg = 16 * (q - f) + j := by rw [nI_add, nI_clamp (by omega)]
      refine gX _ (rk_x_rf q1 q2 (by omega) (br_t rfl (rk_x_ea hcc hj m5 m6 ?_)))
      rw [← w1]
      by_cases z : ex (16 * (q - f) + j) = 0
      · refine br_t z ?_
        unfold wpY_value
        exact rk_yk_g hj (br_f (by decide) (gY _ (br_t (nI_pos' (by omega)) ⟨v, br_t (by rw [c]; exact z) ⟨rfl, J⟩⟩)))
      · refine br_f z (rk_x_va hcc hj ?_)
        unfold wpY_value
        exact rk_yk_g hj (br_f (by decide) (gY _ (br_t (nI_pos' (by omega)) ⟨v, br_f (by rw [c]; exact z) ⟨v, by rw [c]; exact w2 z, J⟩⟩)))
    · refine gX _ (gR _ (br_f z2 ?_))
      unfold wpY_value
      exact rk_yk_g hj (br_f (by decide) (gY _ (br_f z1 ⟨rfl, J⟩)))

/-! count and keyAt -/
theorem rk_x_rm {rev f ch : Nat} {tm : Int32} {ke km ks kv kl ef vf R K P V lo ll le ws wf wl pr pk hA hK hP hV : Nat → Int32} (x : Int32) : ∃ s : Int32, ∀ post : Int32 → Prop, post s → wpX_revisionMeant post ((nI rev), (nI f), tm, (nI ch), ke, km, ks, kv, kl, ef, vf, R, K, P, V, lo, ll, le, ws, wf, wl, pr, pk, hA, hK, hP, hV) x := by
  by_cases a1 : x = -1
  · exact ⟨_, fun post h => br_t a1 h⟩
  · exact ⟨_, fun post h => br_f a1 h⟩
theorem rk_x_rr1 {post : Int32 → Prop} {rev f ch : Nat} {tm : Int32} {ke km ks kv kl ef vf R K P V lo ll le ws wf wl pr pk hA hK hP hV : Nat → Int32} {a b r : Int32} (h : a < 0 ∨ nI 16 ≤ a) (p : post (-1000000001)) : wpX_refusalOfRangeAt post ((nI rev), (nI f), tm, (nI ch), ke, km, ks, kv, kl, ef, vf, R, K, P, V, lo, ll, le, ws, wf, wl, pr, pk, hA, hK, hP, hV) a b r := by
  unfold wpX_refusalOfRangeAt
  exact rk_xr_b1 h (br_t rfl p)
theorem rk_x_rr2 {post : Int32 → Prop} {rev f ch : Nat} {tm : Int32} {ke km ks kv kl ef vf R K P V lo ll le ws wf wl pr pk hA hK hP hV : Nat → Int32} {a : Nat} {b r : Int32} (ha : a < 16) (h : b < 0 ∨ nI 16 ≤ b) (p : post (-1000000001)) : wpX_refusalOfRangeAt post ((nI rev), (nI f), tm, (nI ch), ke, km, ks, kv, kl, ef, vf, R, K, P, V, lo, ll, le, ws, wf, wl, pr, pk, hA, hK, hP, hV) (nI a) b r := by
  unfold wpX_refusalOfRangeAt
  exact rk_xr_b2 ha h (br_t rfl p)
theorem rk_x_rr3 {post : Int32 → Prop} {rev f ch : Nat} {tm : Int32} {ke km ks kv kl ef vf R K P V lo ll le ws wf wl pr pk hA hK hP hV : Nat → Int32} {a b : Nat} {r : Int32} (ha : a < 16) (hb : b < 16) (h : wpX_refusalOfRevision post ((nI rev), (nI f), tm, (nI ch), ke, km, ks, kv, kl, ef, vf, R, K, P, V, lo, ll, le, ws, wf, wl, pr, pk, hA, hK, hP, hV) r) : wpX_refusalOfRangeAt post ((nI rev), (nI f), tm, (nI ch), ke, km, ks, kv, kl, ef, vf, R, K, P, V, lo, ll, le, ws, wf, wl, pr, pk, hA, hK, hP, hV) (nI a) (nI b) r := by
  unfold wpX_refusalOfRangeAt
  exact rk_xr_g ha hb (br_f (by decide) h)
theorem rk_x_ct {post : Int32 → Prop} {rev f ch : Nat} {tm : Int32} {ke km ks kv kl ef vf R K P V lo ll le ws wf wl pr pk hA hK hP hV : Nat → Int32} (S : Nat → Bool) {a b : Nat} {r : Int32} (ha : a < 16) (hb : b < 16) (hc : ch ≤ 116) (hp : rk_bo P) (he : rk_bo ef) (hlo : ∀ i, i < a → S i = false) (hhi : ∀ i, b < i → S i = false) (hS : ∀ i, a ≤ i → i ≤ b → (S i = true ↔ rk_fe K R P r.toInt i (ef i) ch ≠ 0))
    (h : post (nI (rk_ns S 16))) : ∃ n, wX_count_31 post (nI b) r (nI rev) (nI f) tm (nI ch) ke km ks kv kl ef vf R K P V lo ll le ws wf wl pr pk hA hK hP hV n 0 (nI a) := by
  have key : ∀ d n j, a ≤ j → j + d = b + 1 → d < n → wX_count_31 post (nI b) r (nI rev) (nI f) tm (nI ch) ke km ks kv kl ef vf R K P V lo ll le ws wf wl pr pk hA hK hP hV n (nI (rk_ns S j)) (nI j) := by
    intro d
    induction d with
    | zero =>
      intro n j h1 h2 h3
      obtain ⟨n, rfl⟩ : ∃ m, n = m + 1 := ⟨n - 1, by omega⟩
      refine rk_ltT b j (by omega) ?_
      have e := rk_ns_e (S := S) j (16 - j) (fun i z1 z2 => hhi i (by omega))
      rw [show j + (16 - j) = 16 by omega] at e
      rw [← e]; exact h
    | succ d ih =>
      intro n j h1 h2 h3
      obtain ⟨n, rfl⟩ : ∃ m, n = m + 1 := ⟨n - 1, by omega⟩
      have ih := ih n (j + 1) (by omega) (by omega) (by omega)
      have hs := hS j h1 (by omega)
      refine rk_ltF b j (by omega) (rk_x_ea hc (by omega) hp he ?_)
      by_cases z : rk_fe K R P r.toInt j (ef j) ch = 0
      · rw [rk_ns_f (fun y => (hs.mp y) z)] at ih
        exact br_t z (nm_r (nI_1 j) ih)
      · rw [rk_ns_t (hs.mpr z)] at ih
        exact br_f z (nm_r (nI_1 _) (nm_r (nI_1 j) ih))
  by_cases z : a ≤ b
  · have := key (b + 1 - a) (b + 2) a (Nat.le_refl a) (by omega) (by omega)
    rw [rk_ns_z a hlo] at this
    exact ⟨b + 2, this⟩
  · rw [rk_ns_z 16 (fun i _ => by
      by_cases y : i < a
      · exact hlo i y
      · exact hhi i (by omega))] at h
    exact ⟨1, rk_ltT b a (by omega) h⟩
theorem i_vc_count {k : Nat} {u : SX} {v : SY} (I : i_Rel k u v) (hk : k + 5 ≤ 2560) (v1 : Int32) (v2 : Int32) (v3 : Int32) : wpX_count (fun r => wpY_count (fun r' => r' = r ∧ i_Rel (k + 5) u v) v v1 v2 v3) u v1 v2 v3 := by
  have J := i_up I
  obtain ⟨rev, f, ch, tm, ke, km, ks, kv, kl, ef, vf, R, K, P, V, lo, ll, le, ws, wf, wl, pr, pk, hA, hK, hP, hV, ex, va, ys, yv, fr, lr, lk, rfl, rfl, hB, hM, hF, hL, hW⟩ := I
  have hr := rk_md_r hM hF
  have hcc := (rk_md_c hM).2.1
  obtain ⟨m1, m2, m3, m4, m5, m6, m7, m8, m9⟩ := hM
  unfold wpX_count
  by_cases hx1 : v1 < 0 ∨ nI 16 ≤ v1
  · obtain ⟨s, hs⟩ := rk_x_rm (rev := rev) (f := f) (ch := ch) (tm := tm) (ke := ke) (km := km) (ks := ks) (kv := kv) (kl := kl) (ef := ef) (vf := vf) (R := R) (K := K) (P := P) (V := V) (lo := lo) (ll := ll) (le := le) (ws := ws) (wf := wf) (wl := wl) (pr := pr) (pk := pk) (hA := hA) (hK := hK) (hP := hP) (hV := hV) v3
    refine hs _ (rk_x_rr1 hx1 (br_f (by decide) ?_))
    unfold wpY_count
    exact rk_yk_b hx1 (br_t rfl ⟨rfl, J⟩)
  obtain ⟨a, ha, rfl⟩ : ∃ j, j < 16 ∧ v1 = nI j := by
    rcases pk_ix v1 (n := 16) (by decide) with h | h | h
    · exact absurd (Or.inl h) hx1
    · exact absurd (Or.inr h) hx1
    · exact h
  by_cases hx2 : v2 < 0 ∨ nI 16 ≤ v2
  · obtain ⟨s, hs⟩ := rk_x_rm (rev := rev) (f := f) (ch := ch) (tm := tm) (ke := ke) (km := km) (ks := ks) (kv := kv) (kl := kl) (ef := ef) (vf := vf) (R := R) (K := K) (P := P) (V := V) (lo := lo) (ll := ll) (le := le) (ws := ws) (wf := wf) (wl := wl) (pr := pr) (pk := pk) (hA := hA) (hK := hK) (hP := hP) (hV := hV) v3
    refine hs _ (rk_x_rr2 ha hx2 (br_f (by decide) ?_))
    unfold wpY_count
    exact rk_yk_g ha (br_f (by decide) (rk_yk_b hx2 (br_t rfl ⟨rfl, J⟩)))
  obtain ⟨b, hb, rfl⟩ : ∃ j, j < 16 ∧ v2 = nI j := by
    rcases pk_ix v2 (n := 16) (by decide) with h | h | h
    · exact absurd (Or.inl h) hx2
    · exact absurd (Or.inr h) hx2
    · exact h
  rcases rk_pl (rev := rev) (f := f) (ch := ch) (tm := tm) (ke := ke) (km := km) (ks := ks) (kv := kv) (kl := kl) (ef := ef) (vf := vf) (R := R) (K := K) (P := P) (V := V) (lo := lo) (ll := ll) (le := le) (ws := ws) (wf := wf) (wl := wl) (pr := pr) (pk := pk) (hA := hA) (hK := hK) (hP := hP) (hV := hV) (ex := ex) (va := va) (ys := ys) (yv := yv) (fr := fr) (lr := lr) (lk := lk) m1 (by omega) v3 with ⟨q, q1, q2, gX, gY⟩ | ⟨m, z1, z2, gX, gR, gY⟩
  · refine gX _ (rk_x_rr3 ha hb (rk_x_rf q1 q2 (by omega) (br_t rfl (rk_x_ct (fun i => decide (a ≤ i ∧ i ≤ b ∧ ex (16 * (q - f) + i) ≠ 0)) ha hb hcc m5 m6 ?_ ?_ ?_ ?_))))
    · intro i hi
      exact decide_eq_false (fun w => by omega)
    · intro i hi
      exact decide_eq_false (fun w => by omega)
    · intro i h1 h2
      rw [← (rk_rw_q m8 q1 q2 (by omega) (by omega)).1, decide_eq_true_iff]
      exact ⟨fun w => w.2.2, fun w => ⟨h1, h2, w⟩⟩
    · unfold wpY_count
      refine rk_yk_g ha (br_f (by decide) (rk_yk_g hb (br_f (by decide) (gY _ (br_t (nI_pos' (by omega)) (rk_y_ka (fun i => decide (a ≤ i ∧ i ≤ b ∧ ex (16 * (q - f) + i) ≠ 0)) ha hb ?_ ?_ (by omega) ?_ (rk_y_bi _ ⟨rfl, J⟩)))))))
      · intro i hi
        exact decide_eq_false (fun w => by omega)
      · intro i hi
        exact decide_eq_false (fun w => by omega)
      · intro i h1 h2
        rw [decide_eq_true_iff]
        exact ⟨fun w => w.2.2, fun w => ⟨h1, h2, w⟩⟩
  · refine gX _ (rk_x_rr3 ha hb (gR _ (br_f z2 ?_)))
    unfold wpY_count
    exact rk_yk_g ha (br_f (by decide) (rk_yk_g hb (br_f (by decide) (gY _ (br_f z1 ⟨rfl, J⟩)))))
theorem rk_ka {rev f ch : Nat} {tm : Int32} {ke km ks kv kl ef vf R K P V lo ll le ws wf wl pr pk hA hK hP hV ex va ys yv fr lr lk : Nat → Int32} {b q : Nat} {i : Int32} (hb : b < 16) (hc : ch ≤ 116) (hp : rk_bo P) (he : rk_bo ef) (hr : q - f ≤ 118) (hE : ∀ j, j < 16 → ex (16 * (q - f) + j) = rk_fe K R P (nI q).toInt j (ef j) ch) :
    ∀ d j, j + d = b + 1 → ∀ c : Int32, ∃ r : Int32, (∀ post : Int32 → Prop, ∀ n, d < n → post r → wX_keyAt_32 post (nI b) i (nI q) (nI rev) (nI f) tm (nI ch) ke km ks kv kl ef vf R K P V lo ll le ws wf wl pr pk hA hK hP hV n c (nI j)) ∧ (∀ post : Int32 → Prop, ∀ n, d < n → post r → wY_keyAt_41 post (nI b) (nI (16 * (q - f))) (nI f) (nI rev) (nI ch) tm ex va km ys yv kl R K P V ll le lo ws wf wl fr lr lk hP hV n (i - c) (nI j)) := by
  intro d
  induction d with
  | zero =>
    intro j hj c
    refine ⟨-1000000003, ?_, ?_⟩
    · intro post n hn h
      obtain ⟨n, rfl⟩ : ∃ m, n = m + 1 := ⟨n - 1, by omega⟩
      exact rk_ltT b j (by omega) h
    · intro post n hn h
      obtain ⟨n, rfl⟩ : ∃ m, n = m + 1 := ⟨n - 1, by omega⟩
      exact rk_ltT b j (by omega) h
  | succ d ih =>
    intro j hj c
    have v : vp_in (nI (16 * (q - f)) + nI j) 1920 := by rw [nI_add]; exact vp_in_nI (by omega) (by decide)
    have cc : (nI (16 * (q - f)) + nI j).toNatClampNeg = 16 * (q - f) + j := by rw [nI_add, nI_clamp (by omega)]
    have hj16 := hE j (by omega)
    by_cases z : ex (16 * (q - f) + j) = 0
    · obtain ⟨r, hX, hY⟩ := ih (j + 1) (by omega) c
      refine ⟨r, ?_, ?_⟩
      · intro post n hn h
        obtain ⟨n, rfl⟩ : ∃ m, n = m + 1 := ⟨n - 1, by omega⟩
        refine rk_ltF b j (by omega) (rk_x_ea hc (by omega) hp he ?_)
        rw [← hj16]
        exact br_t z (nm_r (nI_1 j) (hX post n (by omega) h))
      · intro post n hn h
        obtain ⟨n, rfl⟩ : ∃ m, n = m + 1 := ⟨n - 1, by omega⟩
        exact rk_ltF b j (by omega) ⟨v, br_t (by rw [cc]; exact z) (nm_r (nI_1 j) (hY post n (by omega) h))⟩
    · by_cases y : c = i
      · refine ⟨nI j, ?_, ?_⟩
        · intro post n hn h
          obtain ⟨n, rfl⟩ : ∃ m, n = m + 1 := ⟨n - 1, by omega⟩
          refine rk_ltF b j (by omega) (rk_x_ea hc (by omega) hp he ?_)
          rw [← hj16]
          exact br_f z (br_t y h)
        · intro post n hn h
          obtain ⟨n, rfl⟩ : ∃ m, n = m + 1 := ⟨n - 1, by omega⟩
          exact rk_ltF b j (by omega) ⟨v, br_f (by rw [cc]; exact z) (br_t (by rw [y, Int32.sub_self]) h)⟩
      · obtain ⟨r, hX, hY⟩ := ih (j + 1) (by omega) (c + 1)
        have y2 : ¬ i - c = 0 := by
          intro w
          apply y
          have : i - c + c = c := by rw [w, Int32.zero_add]
          rw [Int32.sub_add_cancel] at this
          exact this.symm
        have e : i - c + -1 = i - (c + 1) := by grind
        refine ⟨r, ?_, ?_⟩
        · intro post n hn h
          obtain ⟨n, rfl⟩ : ∃ m, n = m + 1 := ⟨n - 1, by omega⟩
          refine rk_ltF b j (by omega) (rk_x_ea hc (by omega) hp he ?_)
          rw [← hj16]
          exact br_f z (br_f y (nm_e (nm_r (nI_1 j) (hX post n (by omega) h))))
        · intro post n hn h
          obtain ⟨n, rfl⟩ : ∃ m, n = m + 1 := ⟨n - 1, by omega⟩
          exact rk_ltF b j (by omega) ⟨v, br_f (by rw [cc]; exact z) (br_f y2 (nm_r e (nm_r (nI_1 j) (hY post n (by omega) h))))⟩
theorem i_vc_keyAt {k : Nat} {u : SX} {v : SY} (I : i_Rel k u v) (hk : k + 5 ≤ 2560) (v1 : Int32) (v2 : Int32) (v3 : Int32) (v4 : Int32) : wpX_keyAt (fun r => wpY_keyAt (fun r' => r' = r ∧ i_Rel (k + 5) u v) v v1 v2 v3 v4) u v1 v2 v3 v4 := by
  have J := i_up I
  obtain ⟨rev, f, ch, tm, ke, km, ks, kv, kl, ef, vf, R, K, P, V, lo, ll, le, ws, wf, wl, pr, pk, hA, hK, hP, hV, ex, va, ys, yv, fr, lr, lk, rfl, rfl, hB, hM, hF, hL, hW⟩ := I
  have hr := rk_md_r hM hF
  have hcc := (rk_md_c hM).2.1
  obtain ⟨m1, m2, m3, m4, m5, m6, m7, m8, m9⟩ := hM
  unfold wpX_keyAt
  by_cases hx1 : v1 < 0 ∨ nI 16 ≤ v1
  · obtain ⟨s, hs⟩ := rk_x_rm (rev := rev) (f := f) (ch := ch) (tm := tm) (ke := ke) (km := km) (ks := ks) (kv := kv) (kl := kl) (ef := ef) (vf := vf) (R := R) (K := K) (P := P) (V := V) (lo := lo) (ll := ll) (le := le) (ws := ws) (wf := wf) (wl := wl) (pr := pr) (pk := pk) (hA := hA) (hK := hK) (hP := hP) (hV := hV) v4
    refine hs _ (rk_x_rr1 hx1 (br_f (by decide) ?_))
    unfold wpY_keyAt
    exact rk_yk_b hx1 (br_t rfl ⟨rfl, J⟩)
  obtain ⟨a, ha, rfl⟩ : ∃ j, j < 16 ∧ v1 = nI j := by
    rcases pk_ix v1 (n := 16) (by decide) with h | h | h
    · exact absurd (Or.inl h) hx1
    · exact absurd (Or.inr h) hx1
    · exact h
  by_cases hx2 : v2 < 0 ∨ nI 16 ≤ v2
  · obtain ⟨s, hs⟩ := rk_x_rm (rev := rev) (f := f) (ch := ch) (tm := tm) (ke := ke) (km := km) (ks := ks) (kv := kv) (kl := kl) (ef := ef) (vf := vf) (R := R) (K := K) (P := P) (V := V) (lo := lo) (ll := ll) (le := le) (ws := ws) (wf := wf) (wl := wl) (pr := pr) (pk := pk) (hA := hA) (hK := hK) (hP := hP) (hV := hV) v4
    refine hs _ (rk_x_rr2 ha hx2 (br_f (by decide) ?_))
    unfold wpY_keyAt
    exact rk_yk_g ha (br_f (by decide) (rk_yk_b hx2 (br_t rfl ⟨rfl, J⟩)))
  obtain ⟨b, hb, rfl⟩ : ∃ j, j < 16 ∧ v2 = nI j := by
    rcases pk_ix v2 (n := 16) (by decide) with h | h | h
    · exact absurd (Or.inl h) hx2
    · exact absurd (Or.inr h) hx2
    · exact h
  rcases rk_pl (rev := rev) (f := f) (ch := ch) (tm := tm) (ke := ke) (km := km) (ks := ks) (kv := kv) (kl := kl) (ef := ef) (vf := vf) (R := R) (K := K) (P := P) (V := V) (lo := lo) (ll := ll) (le := le) (ws := ws) (wf := wf) (wl := wl) (pr := pr) (pk := pk) (hA := hA) (hK := hK) (hP := hP) (hV := hV) (ex := ex) (va := va) (ys := ys) (yv := yv) (fr := fr) (lr := lr) (lk := lk) m1 (by omega) v4 with ⟨q, q1, q2, gX, gY⟩ | ⟨m, z1, z2, gX, gR, gY⟩
  · refine gX _ (rk_x_rr3 ha hb (rk_x_rf q1 q2 (by omega) (br_t rfl ?_)))
    by_cases z : a ≤ b
    · obtain ⟨r, hX, hY⟩ := rk_ka (rev := rev) (f := f) (ch := ch) (tm := tm) (ke := ke) (km := km) (ks := ks) (kv := kv) (kl := kl) (ef := ef) (vf := vf) (R := R) (K := K) (P := P) (V := V) (lo := lo) (ll := ll) (le := le) (ws := ws) (wf := wf) (wl := wl) (pr := pr) (pk := pk) (hA := hA) (hK := hK) (hP := hP) (hV := hV) (ex := ex) (va := va) (ys := ys) (yv := yv) (fr := fr) (lr := lr) (lk := lk) (q := q) (i := v3) hb hcc m5 m6 (by omega) (fun j hj => (rk_rw_q m8 q1 q2 (by omega) hj).1) (b + 1 - a) a (by omega) 0
      refine ⟨b + 2, hX _ (b + 2) (by omega) ?_⟩
      unfold wpY_keyAt
      refine rk_yk_g ha (br_f (by decide) (rk_yk_g hb (br_f (by decide) (gY _ (br_t (nI_pos' (by omega)) ⟨b + 2, ?_⟩)))))
      have := hY (fun r' => r' = r ∧ i_Rel (k + 5) ((nI rev), (nI f), tm, (nI ch), ke, km, ks, kv, kl, ef, vf, R, K, P, V, lo, ll, le, ws, wf, wl, pr, pk, hA, hK, hP, hV) ((nI f), (nI rev), (nI ch), tm, ex, va, km, ys, yv, kl, R, K, P, V, ll, le, lo, ws, wf, wl, fr, lr, lk, hP, hV)) (b + 2) (by omega) ⟨rfl, J⟩
      rw [Int32.sub_zero] at this
      exact this
    · refine ⟨1, rk_ltT b a (by omega) ?_⟩
      unfold wpY_keyAt
      exact rk_yk_g ha (br_f (by decide) (rk_yk_g hb (br_f (by decide) (gY _ (br_t (nI_pos' (by omega)) ⟨1, rk_ltT b a (by omega) ⟨rfl, J⟩⟩)))))
  · refine gX _ (rk_x_rr3 ha hb (gR _ (br_f z2 ?_)))
    unfold wpY_keyAt
    exact rk_yk_g ha (br_f (by decide) (rk_yk_g hb (br_f (by decide) (gY _ (br_f z1 ⟨rfl, J⟩)))))
end
