section
theorem rk_lo_g {kl lo : Nat → Int32} (h : rk_lo kl lo) (j : Nat) : rk_lo kl (upd lo j 1) := by
  intro k hk
  rcases h k hk with y | ⟨m, hm, y, ym⟩
  · exact Or.inl y
  · refine Or.inr ⟨m, hm, y, ?_⟩
    by_cases e : m = j
    · rw [e, pk_us]; decide
    · rw [pk_un e]; exact ym
theorem i_vc_grant {k : Nat} {u : SX} {v : SY} (I : i_Rel k u v) (hk : k + 5 ≤ 2560) (v1 : Int32) (v2 : Int32) : wpX_grant (fun r u' => wpY_grant (fun r' v' => r' = r ∧ i_Rel (k + 5) u' v') v v1 v2) u v1 v2 := by
  have J := i_up I
  obtain ⟨rev, f, ch, tm, ke, km, ks, kv, kl, ef, vf, R, K, P, V, lo, ll, le, ws, wf, wl, pr, pk, hA, hK, hP, hV, ex, va, ys, yv, fr, lr, lk, rfl, rfl, hB, hM, hF, hL, hW⟩ := I
  unfold wpX_grant
  rcases pk_ix v1 (n := 6) (by decide) with hx | hx | ⟨j, hj, rfl⟩
  · refine rk_xl_b (Or.inl hx) (br_t rfl ?_)
    unfold wpY_grant
    exact rk_yl_b (Or.inl hx) (br_t rfl ⟨rfl, J⟩)
  · refine rk_xl_b (Or.inr hx) (br_t rfl ?_)
    unfold wpY_grant
    exact rk_yl_b (Or.inr hx) (br_t rfl ⟨rfl, J⟩)
  · have vj : vp_in (nI j) 6 := vp_in_nI hj (by decide)
    have e : (nI j).toNatClampNeg = j := nI_clamp (by omega)
    refine rk_xl_g hj (br_f (by decide) ?_)
    by_cases a1 : v2 < 1
    · refine br_t a1 ?_
      unfold wpY_grant
      exact rk_yl_g hj (br_f (by decide) (br_t a1 ⟨rfl, J⟩))
    · refine br_f a1 ?_
      by_cases a2 : v2 ≤ 50
      · refine br_t a2 ⟨vj, ?_⟩
        by_cases z : lo j = 0
        · refine br_t (by rw [e]; exact z) ⟨vj, nm_r (e' := upd lo j 1) (by rw [e, rk_vb1]) ⟨vj, nm_r (e' := upd ll j v2) (by rw [e]) ⟨vj, nm_r (e' := upd le j (tm + v2)) (by rw [e]) ⟨vj, ?_⟩⟩⟩⟩
          unfold wpY_grant
          refine rk_yl_g hj (br_f (by decide) (br_f a1 (br_t a2 ⟨vj, br_t (by rw [e]; exact z) ⟨vj, nm_r (e' := upd lo j 1) (by rw [e, rk_vb1]) ⟨vj, nm_r (e' := upd ll j v2) (by rw [e]) ⟨vj, nm_r (e' := upd le j (tm + v2)) (by rw [e]) ⟨vj, rfl, ?_⟩⟩⟩⟩⟩)))
          exact ⟨rev, f, ch, tm, ke, km, ks, kv, kl, ef, vf, R, K, P, V, (upd lo j 1), (upd ll j v2), (upd le j (tm + v2)), ws, wf, wl, pr, pk, hA, hK, hP, hV, ex, va, ys, yv, fr, lr, lk, rfl, rfl, by omega, hM, hF, rk_lo_g hL j, hW⟩
        · refine br_f (by rw [e]; exact z) ?_
          unfold wpY_grant
          exact rk_yl_g hj (br_f (by decide) (br_f a1 (br_t a2 ⟨vj, br_f (by rw [e]; exact z) ⟨rfl, J⟩⟩)))
      · refine br_f a2 ?_
        unfold wpY_grant
        exact rk_yl_g hj (br_f (by decide) (br_f a1 (br_f a2 ⟨rfl, J⟩)))
theorem i_vc_renew {k : Nat} {u : SX} {v : SY} (I : i_Rel k u v) (hk : k + 5 ≤ 2560) (v1 : Int32) : wpX_renew (fun r u' => wpY_renew (fun r' v' => r' = r ∧ i_Rel (k + 5) u' v') v v1) u v1 := by
  have J := i_up I
  obtain ⟨rev, f, ch, tm, ke, km, ks, kv, kl, ef, vf, R, K, P, V, lo, ll, le, ws, wf, wl, pr, pk, hA, hK, hP, hV, ex, va, ys, yv, fr, lr, lk, rfl, rfl, hB, hM, hF, hL, hW⟩ := I
  unfold wpX_renew
  rcases pk_ix v1 (n := 6) (by decide) with hx | hx | ⟨j, hj, rfl⟩
  · refine rk_xl_b (Or.inl hx) (br_t rfl ?_)
    unfold wpY_renew
    exact rk_yl_b (Or.inl hx) (br_t rfl ⟨rfl, J⟩)
  · refine rk_xl_b (Or.inr hx) (br_t rfl ?_)
    unfold wpY_renew
    exact rk_yl_b (Or.inr hx) (br_t rfl ⟨rfl, J⟩)
  · have vj : vp_in (nI j) 6 := vp_in_nI hj (by decide)
    have e : (nI j).toNatClampNeg = j := nI_clamp (by omega)
    refine rk_xl_g hj (br_f (by decide) ⟨vj, ?_⟩)
    by_cases z : lo j = 0
    · refine br_t (by rw [e]; exact z) ?_
      unfold wpY_renew
      exact rk_yl_g hj (br_f (by decide) ⟨vj, br_t (by rw [e]; exact z) ⟨rfl, J⟩⟩)
    · refine br_f (by rw [e]; exact z) ⟨vj, vj, nm_r (e' := upd le j (tm + ll j)) (by rw [e]) ⟨vj, ?_⟩⟩
      unfold wpY_renew
      refine rk_yl_g hj (br_f (by decide) ⟨vj, br_f (by rw [e]; exact z) ⟨vj, vj, nm_r (e' := upd le j (tm + ll j)) (by rw [e]) ⟨vj, rfl, ?_⟩⟩⟩)
      exact ⟨rev, f, ch, tm, ke, km, ks, kv, kl, ef, vf, R, K, P, V, lo, ll, (upd le j (tm + ll j)), ws, wf, wl, pr, pk, hA, hK, hP, hV, ex, va, ys, yv, fr, lr, lk, rfl, rfl, by omega, hM, hF, hL, hW⟩

/-! watches -/
theorem rk_x_w47 {post : Int32 → SX → Prop} {rev f ch : Nat} {tm : Int32} {ke km ks kv kl ef vf R K P V lo ll le ws wf wl pr pk hA hK hP hV : Nat → Int32} {w : Nat} {a b z : Int32} (hw : w < 4) (hz : nI f < z)
    (h : post 0 ((nI rev), (nI f), tm, (nI ch), ke, km, ks, kv, kl, ef, vf, R, K, P, V, lo, ll, le, upd ws w 1, upd wf w a, upd wl w b, upd pr w z, upd pk w 0, upd hA w 0, hK, hP, hV)) : wX_watch_47 post (nI w) a b z (nI rev) (nI f) tm (nI ch) ke km ks kv kl ef vf R K P V lo ll le ws wf wl pr pk hA hK hP hV := by
  have v : vp_in (nI w) 4 := vp_in_nI hw (by decide)
  have e : (nI w).toNatClampNeg = w := nI_clamp (by omega)
  exact br_t hz ⟨v, nm_r (by rw [e]) ⟨v, nm_r (by rw [e]) ⟨v, nm_r (by rw [e]) ⟨v, nm_r (by rw [e]) ⟨v, nm_r (by rw [e]) ⟨v, nm_r (by rw [e, rk_vb0]) h⟩⟩⟩⟩⟩⟩
theorem rk_y_w56 {post : Int32 → SY → Prop} {rev f ch : Nat} {tm : Int32} {ex va km ys yv kl R K P V ll le lo ws wf wl fr lr lk hP hV : Nat → Int32} {w : Nat} {a b z : Int32} (hw : w < 4) (hz : nI f < z)
    (h : post 0 ((nI f), (nI rev), (nI ch), tm, ex, va, km, ys, yv, kl, R, K, P, V, ll, le, lo, upd ws w 1, upd wf w a, upd wl w b, upd fr w z, lr, upd lk w (-1), hP, hV)) : wY_watch_56 post (nI w) a b z (nI f) (nI rev) (nI ch) tm ex va km ys yv kl R K P V ll le lo ws wf wl fr lr lk hP hV := by
  have v : vp_in (nI w) 4 := vp_in_nI hw (by decide)
  have e : (nI w).toNatClampNeg = w := nI_clamp (by omega)
  exact br_t hz ⟨v, nm_r (by rw [e]) ⟨v, nm_r (by rw [e]) ⟨v, nm_r (by rw [e]) ⟨v, nm_r (by rw [e]) ⟨v, nm_r (by rw [e]) h⟩⟩⟩⟩⟩
theorem rk_wt_w {ws pr pk hA hK fr lr lk : Nat → Int32} (h : rk_wt ws pr pk hA hK fr lr lk) (w : Nat) (z : Int32) : rk_wt (upd ws w 1) (upd pr w z) (upd pk w 0) (upd hA w 0) hK (upd fr w z) lr (upd lk w (-1)) := by
  intro j hj
  by_cases e : j = w
  · subst e
    refine ⟨by rw [pk_us]; exact Or.inr (Or.inl rfl), fun _ => Or.inl ?_⟩
    rw [pk_us, pk_us, pk_us, pk_us, pk_us]
    exact ⟨rfl, by decide, rfl, rfl⟩
  · unfold rk_wr
    rw [pk_un e, pk_un e, pk_un e, pk_un e, pk_un e, pk_un e]
    exact h j hj
theorem rk_watch_core {B : Nat} {rev f ch : Nat} {tm : Int32} {ke km ks kv kl ef vf R K P V lo ll le ws wf wl pr pk hA hK hP hV ex va ys yv fr lr lk : Nat → Int32} {w : Nat} {a b z : Int32} (hw : w < 4) (hC : rev ≤ B) (hM : rk_md rev f ch ke ks kv kl ef vf R K P V ex va ys yv) (hF : rk_rr R f ch = rev) (hL : rk_lo kl lo) (hW : rk_wt ws pr pk hA hK fr lr lk) :
    ∃ (r : Int32) (u' : SX) (v' : SY), (∀ post : Int32 → SX → Prop, post r u' → wX_watch_47 post (nI w) a b z (nI rev) (nI f) tm (nI ch) ke km ks kv kl ef vf R K P V lo ll le ws wf wl pr pk hA hK hP hV) ∧ (∀ post : Int32 → SY → Prop, post r v' → wY_watch_56 post (nI w) a b z (nI f) (nI rev) (nI ch) tm ex va km ys yv kl R K P V ll le lo ws wf wl fr lr lk hP hV) ∧ rk_Rl B u' v' := by
  by_cases q : nI f < z
  · exact ⟨_, _, _, fun post h => rk_x_w47 hw q h, fun post h => rk_y_w56 hw q h, rev, f, ch, tm, ke, km, ks, kv, kl, ef, vf, R, K, P, V, lo, ll, le, (upd ws w 1), (upd wf w a), (upd wl w b), (upd pr w z), (upd pk w 0), (upd hA w 0), hK, hP, hV, ex, va, ys, yv, (upd fr w z), lr, (upd lk w (-1)), rfl, rfl, hC, hM, hF, hL, rk_wt_w hW w z⟩
  · exact ⟨_, _, _, fun post h => br_f q h, fun post h => br_f q h, rev, f, ch, tm, ke, km, ks, kv, kl, ef, vf, R, K, P, V, lo, ll, le, ws, wf, wl, pr, pk, hA, hK, hP, hV, ex, va, ys, yv, fr, lr, lk, rfl, rfl, hC, hM, hF, hL, hW⟩
theorem i_vc_watch {k : Nat} {u : SX} {v : SY} (I : i_Rel k u v) (hk : k + 5 ≤ 2560) (v1 : Int32) (v2 : Int32) (v3 : Int32) (v4 : Int32) : wpX_watch (fun r u' => wpY_watch (fun r' v' => r' = r ∧ i_Rel (k + 5) u' v') v v1 v2 v3 v4) u v1 v2 v3 v4 := by
  have J := i_up I
  obtain ⟨rev, f, ch, tm, ke, km, ks, kv, kl, ef, vf, R, K, P, V, lo, ll, le, ws, wf, wl, pr, pk, hA, hK, hP, hV, ex, va, ys, yv, fr, lr, lk, rfl, rfl, hB, hM, hF, hL, hW⟩ := I
  unfold wpX_watch
  rcases pk_ix v1 (n := 4) (by decide) with hx | hx | ⟨w, hw, rfl⟩
  · refine rk_xw_b (Or.inl hx) (br_t rfl ?_)
    unfold wpY_watch
    exact rk_yw_b (Or.inl hx) (br_t rfl ⟨rfl, J⟩)
  · refine rk_xw_b (Or.inr hx) (br_t rfl ?_)
    unfold wpY_watch
    exact rk_yw_b (Or.inr hx) (br_t rfl ⟨rfl, J⟩)
  · have vw : vp_in (nI w) 4 := vp_in_nI hw (by decide)
    have e : (nI w).toNatClampNeg = w := nI_clamp (by omega)
    refine rk_xw_g hw (br_f (by decide) ?_)
    by_cases hx2 : v2 < 0 ∨ nI 16 ≤ v2
    · refine rk_xr_b1 hx2 (br_t rfl ?_)
      unfold wpY_watch
      exact rk_yw_g hw (br_f (by decide) (rk_yk_b hx2 (br_t rfl ⟨rfl, J⟩)))
    · obtain ⟨a, ha, rfl⟩ : ∃ j, j < 16 ∧ v2 = nI j := by
        rcases pk_ix v2 (n := 16) (by decide) with h | h | h
        · exact absurd (Or.inl h) hx2
        · exact absurd (Or.inr h) hx2
        · exact h
      by_cases hx3 : v3 < 0 ∨ nI 16 ≤ v3
      · refine rk_xr_b2 ha hx3 (br_t rfl ?_)
        unfold wpY_watch
        exact rk_yw_g hw (br_f (by decide) (rk_yk_g ha (br_f (by decide) (rk_yk_b hx3 (br_t rfl ⟨rfl, J⟩)))))
      · obtain ⟨b, hb, rfl⟩ : ∃ j, j < 16 ∧ v3 = nI j := by
          rcases pk_ix v3 (n := 16) (by decide) with h | h | h
          · exact absurd (Or.inl h) hx3
          · exact absurd (Or.inr h) hx3
          · exact h
        refine rk_xr_g ha hb (br_f (by decide) ⟨vw, ?_⟩)
        by_cases z : ws w = 0
        · refine br_t (by rw [e]; exact z) ?_
          by_cases y : v4 = -1
          · obtain ⟨r, u', v', hX, hY, hR⟩ := rk_watch_core (B := 200 * (k + 5)) (a := nI a) (b := nI b) (z := nI rev + 1) hw (by omega) hM hF hL hW
            refine br_t y (hX _ ?_)
            unfold wpY_watch
            exact rk_yw_g hw (br_f (by decide) (rk_yk_g ha (br_f (by decide) (rk_yk_g hb (br_f (by decide) ⟨vw, br_t (by rw [e]; exact z) (br_t y (hY _ ⟨rfl, hR⟩))⟩)))))
          · obtain ⟨r, u', v', hX, hY, hR⟩ := rk_watch_core (B := 200 * (k + 5)) (a := nI a) (b := nI b) (z := v4) hw (by omega) hM hF hL hW
            refine br_f y (hX _ ?_)
            unfold wpY_watch
            exact rk_yw_g hw (br_f (by decide) (rk_yk_g ha (br_f (by decide) (rk_yk_g hb (br_f (by decide) ⟨vw, br_t (by rw [e]; exact z) (br_f y (hY _ ⟨rfl, hR⟩))⟩)))))
        · refine br_f (by rw [e]; exact z) ?_
          unfold wpY_watch
          exact rk_yw_g hw (br_f (by decide) (rk_yk_g ha (br_f (by decide) (rk_yk_g hb (br_f (by decide) ⟨vw, br_f (by rw [e]; exact z) ⟨rfl, J⟩⟩)))))
theorem rk_wt_u {ws pr pk hA hK fr lr lk : Nat → Int32} (h : rk_wt ws pr pk hA hK fr lr lk) (w : Nat) : rk_wt (upd ws w 0) pr pk hA hK fr lr lk := by
  intro j hj
  by_cases e : j = w
  · subst e
    rw [pk_us]
    exact ⟨Or.inl rfl, fun z => absurd rfl z⟩
  · rw [pk_un e]
    exact h j hj
theorem i_vc_unwatch {k : Nat} {u : SX} {v : SY} (I : i_Rel k u v) (hk : k + 5 ≤ 2560) (v1 : Int32) : wpX_unwatch (fun r u' => wpY_unwatch (fun r' v' => r' = r ∧ i_Rel (k + 5) u' v') v v1) u v1 := by
  have J := i_up I
  obtain ⟨rev, f, ch, tm, ke, km, ks, kv, kl, ef, vf, R, K, P, V, lo, ll, le, ws, wf, wl, pr, pk, hA, hK, hP, hV, ex, va, ys, yv, fr, lr, lk, rfl, rfl, hB, hM, hF, hL, hW⟩ := I
  unfold wpX_unwatch
  rcases pk_ix v1 (n := 4) (by decide) with hx | hx | ⟨w, hw, rfl⟩
  · refine rk_xw_b (Or.inl hx) (br_t rfl ?_)
    unfold wpY_unwatch
    exact rk_yw_b (Or.inl hx) (br_t rfl ⟨rfl, J⟩)
  · refine rk_xw_b (Or.inr hx) (br_t rfl ?_)
    unfold wpY_unwatch
    exact rk_yw_b (Or.inr hx) (br_t rfl ⟨rfl, J⟩)
  · have vw : vp_in (nI w) 4 := vp_in_nI hw (by decide)
    have e : (nI w).toNatClampNeg = w := nI_clamp (by omega)
    have JJ : i_Rel (k + 5) ((nI rev), (nI f), tm, (nI ch), ke, km, ks, kv, kl, ef, vf, R, K, P, V, lo, ll, le, upd ws w 0, wf, wl, pr, pk, hA, hK, hP, hV) ((nI f), (nI rev), (nI ch), tm, ex, va, km, ys, yv, kl, R, K, P, V, ll, le, lo, upd ws w 0, wf, wl, fr, lr, lk, hP, hV) := ⟨rev, f, ch, tm, ke, km, ks, kv, kl, ef, vf, R, K, P, V, lo, ll, le, (upd ws w 0), wf, wl, pr, pk, hA, hK, hP, hV, ex, va, ys, yv, fr, lr, lk, rfl, rfl, by omega, hM, hF, hL, rk_wt_u hW w⟩
    refine rk_xw_g hw (br_f (by decide) ⟨vw, ?_⟩)
    rcases (hW w hw).1 with z | z | z
    · refine br_t (by rw [e]; exact z) ?_
      unfold wpY_unwatch
      refine rk_yw_g hw (br_f (by decide) ⟨vw, nm_r (e' := ws w) (by rw [e]) ⟨vw, nm_r (e' := ws) (by rw [e]; exact rk_uv z) (br_t z ⟨rfl, J⟩)⟩⟩)
    · have z0 : ¬ ws w = 0 := by rw [z]; decide
      have z2 : ¬ ws w = 2 := by rw [z]; decide
      refine br_f (by rw [e]; exact z0) ⟨vw, br_f (by rw [e]; exact z2) ⟨vw, nm_r (e' := upd ws w 0) (by rw [e]) ?_⟩⟩
      unfold wpY_unwatch
      exact rk_yw_g hw (br_f (by decide) ⟨vw, nm_r (e' := ws w) (by rw [e]) ⟨vw, nm_r (e' := upd ws w 0) (by rw [e]) (br_f z0 ⟨by rw [z]; rfl, JJ⟩)⟩⟩)
    · have z0 : ¬ ws w = 0 := by rw [z]; decide
      refine br_f (by rw [e]; exact z0) ⟨vw, br_t (by rw [e]; exact z) ⟨vw, nm_r (e' := upd ws w 0) (by rw [e]) ?_⟩⟩
      unfold wpY_unwatch
      exact rk_yw_g hw (br_f (by decide) ⟨vw, nm_r (e' := ws w) (by rw [e]) ⟨vw, nm_r (e' := upd ws w 0) (by rw [e]) (br_f z0 ⟨by rw [z]; rfl, JJ⟩)⟩⟩)

/-! put and swap -/
theorem rk_lo_p {kl lo : Nat → Int32} (h : rk_lo kl lo) {k : Nat} {l : Int32} (hl : l = -1 ∨ ∃ j, j < 6 ∧ l = nI j ∧ lo j ≠ 0) : rk_lo (upd kl k l) lo := by
  intro i hi
  by_cases e : i = k
  · rw [e, pk_us]; exact hl
  · rw [pk_un e]; exact h i hi
theorem rk_Rl_put {C : Nat} {rev f ch : Nat} {tm : Int32} {ke km ks kv kl ef vf R K P V lo ll le ws wf wl pr pk hA hK hP hV ex va ys yv fr lr lk : Nat → Int32} {k : Nat} {x l : Int32} (hM : rk_md rev f ch ke ks kv kl ef vf R K P V ex va ys yv) (hF : rk_rr R f ch = rev) (hL : rk_lo kl lo) (hW : rk_wt ws pr pk hA hK fr lr lk) (hk : k < 16) (hc : ch < 100) (hC : rev + 1 ≤ C) (hv : rev + 1 < 2 ^ 30) (hl : l = -1 ∨ ∃ j, j < 6 ∧ l = nI j ∧ lo j ≠ 0) :
    rk_Rl C ((nI (rev + 1)), (nI f), tm, (nI (ch + 1)), upd ke k 1, upd km k (if ke k = 0 then nI (rev + 1) else km k), upd ks k (nI (rev + 1)), upd kv k (kv k + 1), upd kl k l, ef, vf, upd R ch (nI (rev + 1)), upd K ch (nI k), upd P ch 1, upd V ch x, lo, ll, le, ws, wf, wl, pr, pk, hA, hK, hP, hV) ((nI f), (nI (rev + 1)), (nI (ch + 1)), tm, upd (rk_nr ex (16 * (rev - f)) 16) (16 * (rev + 1 - f) + k) 1, upd (rk_nr va (16 * (rev - f)) 16) (16 * (rev + 1 - f) + k) x, upd km k (if ke k = 0 then nI (rev + 1) else km k), upd ys k (nI (rev + 1)), upd yv k (if ke k = 0 then 1 else yv k + 1), upd kl k l, upd R ch (nI (rev + 1)), upd K ch (nI k), upd P ch 1, upd V ch x, ll, le, lo, ws, wf, wl, fr, lr, lk, hP, hV) := by
  obtain ⟨g1, g2⟩ := rk_md_p (x := x) (l := l) (rk_md_n hM hF) hv hc hk rfl
  exact ⟨(rev + 1), f, (ch + 1), tm, (upd ke k 1), (upd km k (if ke k = 0 then nI (rev + 1) else km k)), (upd ks k (nI (rev + 1))), (upd kv k (kv k + 1)), (upd kl k l), ef, vf, (upd R ch (nI (rev + 1))), (upd K ch (nI k)), (upd P ch 1), (upd V ch x), lo, ll, le, ws, wf, wl, pr, pk, hA, hK, hP, hV, (upd (rk_nr ex (16 * (rev - f)) 16) (16 * (rev + 1 - f) + k) 1), (upd (rk_nr va (16 * (rev - f)) 16) (16 * (rev + 1 - f) + k) x), (upd ys k (nI (rev + 1))), (upd yv k (if ke k = 0 then 1 else yv k + 1)), fr, lr, lk, rfl, rfl, hC, g1, g2, rk_lo_p hL hl, hW⟩
theorem rk_put_core {B : Nat} {rev f ch : Nat} {tm : Int32} {ke km ks kv kl ef vf R K P V lo ll le ws wf wl pr pk hA hK hP hV ex va ys yv fr lr lk : Nat → Int32} {k : Nat} {x l : Int32} (hB : rev ≤ B) (hM : rk_md rev f ch ke ks kv kl ef vf R K P V ex va ys yv) (hF : rk_rr R f ch = rev) (hL : rk_lo kl lo) (hW : rk_wt ws pr pk hA hK fr lr lk) (hk : k < 16) (hv : rev + 1 < 2 ^ 30) (hl : l = -1 ∨ ∃ j, j < 6 ∧ l = nI j ∧ lo j ≠ 0) :
    ∃ (r : Int32) (u' : SX) (v' : SY), (∀ post : Int32 → SX → Prop, post r u' → wX_put_37 post (nI k) x l (nI rev) (nI f) tm (nI ch) ke km ks kv kl ef vf R K P V lo ll le ws wf wl pr pk hA hK hP hV) ∧ (∀ post : Int32 → SY → Prop, post r v' → wY_put_37 post (nI k) x l (nI f) (nI rev) (nI ch) tm ex va km ys yv kl R K P V ll le lo ws wf wl fr lr lk hP hV) ∧ rk_Rl (B + 1) u' v' := by
  have hr := rk_md_r hM hF
  have hcc := (rk_md_c hM).2.1
  by_cases q : ch < 100
  · have hb : ke k = 0 ∨ ke k = 1 := by
      rw [(hM.2.2.2.2.2.2.2.2 k hk).1]
      exact hM.2.2.2.2.2.2.1 _
    refine ⟨nI (rev + 1), _, _, ?_, ?_, rk_Rl_put (x := x) (l := l) (tm := tm) (km := km) (ll := ll) (le := le) (wf := wf) (wl := wl) (hP := hP) (hV := hV) hM hF hL hW hk q (by omega) hv hl⟩
    · intro post h
      exact rk_ltT ch 100 q (rk_x_wp hk (by omega) hb h)
    · intro post h
      exact rk_ltT ch 100 q (rk_y_wr hk (by omega) hM.1 (by omega) hM.2.2.2.2.2.2.1 (hM.2.2.2.2.2.2.2.2 k hk).1.symm h)
  · exact ⟨_, _, _, fun post h => rk_ltF ch 100 (by omega) h, fun post h => rk_ltF ch 100 (by omega) h, rev, f, ch, tm, ke, km, ks, kv, kl, ef, vf, R, K, P, V, lo, ll, le, ws, wf, wl, pr, pk, hA, hK, hP, hV, ex, va, ys, yv, fr, lr, lk, rfl, rfl, by omega, hM, hF, hL, hW⟩
theorem i_vc_put {k : Nat} {u : SX} {v : SY} (I : i_Rel k u v) (hk : k + 5 ≤ 2560) (v1 : Int32) (v2 : Int32) (v3 : Int32) : wpX_put (fun r u' => wpY_put (fun r' v' => r' = r ∧ i_Rel (k + 5) u' v') v v1 v2 v3) u v1 v2 v3 := by
  have J := i_up I
  obtain ⟨rev, f, ch, tm, ke, km, ks, kv, kl, ef, vf, R, K, P, V, lo, ll, le, ws, wf, wl, pr, pk, hA, hK, hP, hV, ex, va, ys, yv, fr, lr, lk, rfl, rfl, hB, hM, hF, hL, hW⟩ := I
  unfold wpX_put
  rcases pk_ix v1 (n := 16) (by decide) with hx | hx | ⟨j, hj, rfl⟩
  · refine rk_xk_b (Or.inl hx) (br_t rfl ?_)
    unfold wpY_put
    exact rk_yk_b (Or.inl hx) (br_t rfl ⟨rfl, J⟩)
  · refine rk_xk_b (Or.inr hx) (br_t rfl ?_)
    unfold wpY_put
    exact rk_yk_b (Or.inr hx) (br_t rfl ⟨rfl, J⟩)
  · refine rk_xk_g hj (br_f (by decide) ?_)
    by_cases a1 : v3 = -1
    · obtain ⟨r, u', v', hX, hY, hR⟩ := rk_put_core (x := v2) (l := v3) hB hM hF hL hW hj (by omega) (Or.inl a1)
      refine br_t a1 (hX _ ?_)
      unfold wpY_put
      exact rk_yk_g hj (br_f (by decide) (br_f (by rw [a1]; decide) (br_t (by rw [a1]; decide) (br_t (by rw [a1]; decide) (hY _ ⟨rfl, rk_Rl_up hR (by omega)⟩)))))
    · refine br_f a1 ?_
      rcases pk_ix v3 (n := 6) (by decide) with hx | hx | ⟨l, hl, rfl⟩
      · refine rk_xl_b (Or.inl hx) (br_t rfl ?_)
        unfold wpY_put
        refine rk_yk_g hj (br_f (by decide) (br_t ?_ ⟨rfl, J⟩))
        have a2 : v3.toInt ≠ (-1 : Int32).toInt := fun w => a1 (Int32.toInt_inj.mp w)
        rw [rk_lt] at hx ⊢
        rw [show (0 : Int32).toInt = 0 from by decide] at hx
        rw [show (-1 : Int32).toInt = -1 from by decide] at a2 ⊢
        omega
      · refine rk_xl_b (Or.inr hx) (br_t rfl ?_)
        unfold wpY_put
        rw [rk_le, nI_toInt (by decide)] at hx
        refine rk_yk_g hj (br_f (by decide) (br_f ?_ (br_f ?_ ⟨rfl, J⟩)))
        · rw [rk_lt, show (-1 : Int32).toInt = -1 from by decide]; omega
        · rw [rk_le, show (5 : Int32).toInt = 5 from by decide]; omega
      · have vl : vp_in (nI l) 6 := vp_in_nI hl (by decide)
        have e : (nI l).toNatClampNeg = l := nI_clamp (by omega)
        have b1 : ¬ nI l < -1 := by
          rw [rk_lt, nI_toInt (by omega), show (-1 : Int32).toInt = -1 from by decide]; omega
        have b2 : nI l ≤ 5 := by
          rw [rk_le, nI_toInt (by omega), show (5 : Int32).toInt = 5 from by decide]; omega
        have b3 : ¬ nI l < 0 := nI_pos (by omega)
        refine rk_xl_g hl (br_f (by decide) ⟨vl, ?_⟩)
        by_cases z : lo l = 0
        · refine br_t (by rw [e]; exact z) ?_
          unfold wpY_put
          exact rk_yk_g hj (br_f (by decide) (br_f b1 (br_t b2 (br_f b3 ⟨vl, br_t (by rw [e]; exact z) ⟨rfl, J⟩⟩))))
        · obtain ⟨r, u', v', hX, hY, hR⟩ := rk_put_core (x := v2) (l := nI l) hB hM hF hL hW hj (by omega) (Or.inr ⟨l, hl, rfl, z⟩)
          refine br_f (by rw [e]; exact z) (hX _ ?_)
          unfold wpY_put
          exact rk_yk_g hj (br_f (by decide) (br_f b1 (br_t b2 (br_f b3 ⟨vl, br_f (by rw [e]; exact z) (hY _ ⟨rfl, rk_Rl_up hR (by omega)⟩)⟩))))
theorem i_vc_swap {k : Nat} {u : SX} {v : SY} (I : i_Rel k u v) (hk : k + 5 ≤ 2560) (v1 : Int32) (v2 : Int32) (v3 : Int32) : wpX_swap (fun r u' => wpY_swap (fun r' v' => r' = r ∧ i_Rel (k + 5) u' v') v v1 v2 v3) u v1 v2 v3 := by
  have J := i_up I
  obtain ⟨rev, f, ch, tm, ke, km, ks, kv, kl, ef, vf, R, K, P, V, lo, ll, le, ws, wf, wl, pr, pk, hA, hK, hP, hV, ex, va, ys, yv, fr, lr, lk, rfl, rfl, hB, hM, hF, hL, hW⟩ := I
  have hr := rk_md_r hM hF
  have hcc := (rk_md_c hM).2.1
  have m1 := hM.1
  have m7 := hM.2.2.2.2.2.2.1
  unfold wpX_swap
  rcases pk_ix v1 (n := 16) (by decide) with hx | hx | ⟨j, hj, rfl⟩
  · refine rk_xk_b (Or.inl hx) (br_t rfl ?_)
    unfold wpY_swap
    exact rk_yk_b (Or.inl hx) (br_t rfl ⟨rfl, J⟩)
  · refine rk_xk_b (Or.inr hx) (br_t rfl ?_)
    unfold wpY_swap
    exact rk_yk_b (Or.inr hx) (br_t rfl ⟨rfl, J⟩)
  · have vj : vp_in (nI j) 16 := vp_in_nI hj (by decide)
    have e : (nI j).toNatClampNeg = j := nI_clamp (by omega)
    obtain ⟨n1, n2, n3⟩ := hM.2.2.2.2.2.2.2.2 j hj
    have hb : ke j = 0 ∨ ke j = 1 := by
      rw [n1]
      exact m7 _
    -- the reference's walk to its comparison, from any end of it
    have hY : ∀ post : Int32 → SY → Prop, wY_swap_29 post (nI j) v2 v3 (ks j) (nI f) (nI rev) (nI ch) tm ex va km ys yv kl R K P V ll le lo ws wf wl fr lr lk hP hV → wpY_swap post ((nI f), (nI rev), (nI ch), tm, ex, va, km, ys, yv, kl, R, K, P, V, ll, le, lo, ws, wf, wl, fr, lr, lk, hP, hV) (nI j) v2 v3 := by
      intro post h
      unfold wpY_swap
      refine rk_yk_g hj (br_f (by decide) (rk_y_en m1 (by omega) hj m7 ?_))
      rw [← n1, e]
      by_cases z : ke j = 0
      · rw [(n2 z).1] at h
        exact br_t z h
      · rw [(n3 z).1] at h
        exact br_f z ⟨vj, h⟩
    refine rk_xk_g hj (br_f (by decide) ⟨vj, ?_⟩)
    rw [e]
    by_cases a1 : ks j = v2
    · refine br_t a1 ?_
      by_cases q : ch < 100
      · refine rk_ltT ch 100 q ⟨vj, rk_x_wp hj (by omega) hb (hY _ (br_t a1 (rk_ltT ch 100 q ?_)))⟩
        refine rk_y_en m1 (by omega) hj m7 ?_
        have hw : ∀ post : Int32 → SY → Prop, wpY_write post ((nI f), (nI rev), (nI ch), tm, ex, va, km, ys, yv, kl, R, K, P, V, ll, le, lo, ws, wf, wl, fr, lr, lk, hP, hV) (nI j) v3 (kl j) → wY_swap_75 post (kl j) v3 (nI j) (nI f) (nI rev) (nI ch) tm ex va km ys yv kl R K P V ll le lo ws wf wl fr lr lk hP hV := fun post h => h
        rw [← n1, e]
        have hfin := hw _ (rk_y_wr (post := fun r' v' => r' = nI (rev + 1) ∧ i_Rel (k + 5) ((nI (rev + 1)), (nI f), tm, (nI (ch + 1)), upd ke j 1, upd km j (if ke j = 0 then nI (rev + 1) else km j), upd ks j (nI (rev + 1)), upd kv j (kv j + 1), upd kl j (kl j), ef, vf, upd R ch (nI (rev + 1)), upd K ch (nI j), upd P ch 1, upd V ch v3, lo, ll, le, ws, wf, wl, pr, pk, hA, hK, hP, hV) v') hj (by omega) m1 (by omega) m7 n1.symm ⟨rfl, rk_Rl_put hM hF hL hW hj q (by omega) (by omega) (hL j hj)⟩)
        by_cases z : ke j = 0
        · rw [(n2 z).2.2] at hfin ⊢
          exact br_t z hfin
        · exact br_f z ⟨vj, hfin⟩
      · refine rk_ltF ch 100 (by omega) (hY _ (br_t a1 (rk_ltF ch 100 (by omega) ⟨rfl, J⟩)))
    · exact br_f a1 (hY _ (br_f a1 ⟨rfl, J⟩))
end
