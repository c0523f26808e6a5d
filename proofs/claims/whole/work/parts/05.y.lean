section
/-! sets of keys as bits -/
def rk_bm (S : Nat → Bool) : Nat → Nat
  | 0 => 0
  | j + 1 => if S j = true then rk_bm S j + 2 ^ j else rk_bm S j
theorem rk_bm_t {S : Nat → Bool} {j : Nat} (h : S j = true) : rk_bm S (j + 1) = rk_bm S j + 2 ^ j := if_pos h
theorem rk_bm_f {S : Nat → Bool} {j : Nat} (h : ¬ S j = true) : rk_bm S (j + 1) = rk_bm S j := if_neg h
theorem rk_bm_l (S : Nat → Bool) : ∀ j, rk_bm S j < 2 ^ j := by
  intro j
  induction j with
  | zero => show 0 < 1; omega
  | succ j ih =>
    have e : 2 ^ (j + 1) = 2 ^ j + 2 ^ j := by rw [Nat.pow_succ]; omega
    by_cases h : S j = true
    · rw [rk_bm_t h]; omega
    · rw [rk_bm_f h]; omega
theorem rk_bm_z {S : Nat → Bool} : ∀ n, (∀ i, i < n → S i = false) → rk_bm S n = 0 := by
  intro n
  induction n with
  | zero => intro _; rfl
  | succ n ih =>
    intro h
    rw [rk_bm_f (by rw [h n (by omega)]; decide), ih (fun i hi => h i (by omega))]
theorem rk_bm_e {S : Nat → Bool} (a : Nat) : ∀ d, (∀ i, a ≤ i → i < a + d → S i = false) → rk_bm S (a + d) = rk_bm S a := by
  intro d
  induction d with
  | zero => intro _; rfl
  | succ d ih =>
    intro h
    show rk_bm S (a + d + 1) = _
    rw [rk_bm_f (by rw [h (a + d) (by omega) (by omega)]; decide), ih (fun i h1 h2 => h i h1 (by omega))]
theorem rk_bm_b {S : Nat → Bool} (j : Nat) : ∀ d, rk_bm S (j + 1 + d) / 2 ^ j % 2 = if S j = true then 1 else 0 := by
  intro d
  induction d with
  | zero =>
    show rk_bm S (j + 1) / 2 ^ j % 2 = _
    have hl := rk_bm_l S j
    by_cases h : S j = true
    · rw [rk_bm_t h, if_pos h, Nat.add_div_right _ (Nat.two_pow_pos j), Nat.div_eq_of_lt hl]
    · rw [rk_bm_f h, if_neg h, Nat.div_eq_of_lt hl]
  | succ d ih =>
    show rk_bm S (j + 1 + d + 1) / 2 ^ j % 2 = _
    by_cases h : S (j + 1 + d) = true
    · rw [rk_bm_t h]
      have e : 2 ^ (j + 1 + d) = 2 ^ j * (2 * 2 ^ d) := by
        rw [Nat.pow_add, Nat.pow_add, Nat.mul_assoc]
      rw [e, Nat.add_mul_div_left _ _ (Nat.two_pow_pos j)]
      omega
    · rw [rk_bm_f h]; exact ih
theorem rk_bm_p {S : Nat → Bool} {i n : Nat} (hi : i < n) (h : S i = true) : 0 < rk_bm S n := by
  have e := rk_bm_b (S := S) i (n - (i + 1))
  rw [if_pos h, show i + 1 + (n - (i + 1)) = n by omega] at e
  by_cases z : rk_bm S n = 0
  · rw [z] at e; simp at e
  · omega
theorem rk_sm : ∀ j, j < 16 → ((nI j &&& 31).toBitVec.smod 32).toNat = j := by decide
theorem rk_or {a b : Nat} (ha : a < 2 ^ 32) (hb : b < 2 ^ 32) : nI a ||| nI b = nI (a ||| b) := by
  apply Int32.toBitVec_inj.mp
  apply BitVec.eq_of_toNat_eq
  rw [Int32.toBitVec_or, BitVec.toNat_or, pk_tn ha, pk_tn hb, pk_tn (Nat.or_lt_two_pow ha hb)]
theorem rk_bm_o {S : Nat → Bool} {j : Nat} (hj : j < 16) (h : S j = true) : nI (rk_bm S j) ||| ((1 : Int32) <<< (nI j &&& 31)) = nI (rk_bm S (j + 1)) := by
  have hl := rk_bm_l S j
  have h1 : 2 ^ j ≤ 2 ^ 15 := Nat.pow_le_pow_right (by decide) (by omega)
  have e : (1 : Int32) <<< (nI j &&& 31) = nI (2 ^ j) := by
    have := pk_shlN (n := 1) (nI j &&& 31) j (rk_sm j hj) (by omega)
    rw [Nat.one_mul] at this
    exact this
  rw [e, rk_or (by omega) (by omega), rk_bm_t h]
  have := Nat.two_pow_add_eq_or_of_lt hl 1
  rw [Nat.mul_one] at this
  rw [Nat.or_comm, ← this, Nat.add_comm]
theorem rk_bm_g {S : Nat → Bool} {j : Nat} (hj : j < 16) : (nI (rk_bm S 16) >>> (nI j &&& 31)) &&& 1 = if S j = true then 1 else 0 := by
  have hl := rk_bm_l S 16
  rw [pk_shrN (by omega) _ j (rk_sm j hj), pk_andN (Nat.lt_of_le_of_lt (Nat.div_le_self _ _) (by omega)) 1 (by decide)]
  have e := rk_bm_b (S := S) j (16 - (j + 1))
  rw [show j + 1 + (16 - (j + 1)) = 16 by omega] at e
  rw [show (2 : Nat) ^ 1 = 2 from rfl, e]
  by_cases h : S j = true
  · rw [if_pos h, if_pos h]; rfl
  · rw [if_neg h, if_neg h]; rfl

/-! the reference: is it a key, a lease, a watch -/
theorem rk_yk_g {post : Int32 → Prop} {rev f ch : Nat} {tm : Int32} {ex va km ys yv kl R K P V ll le lo ws wf wl fr lr lk hP hV : Nat → Int32} {j : Nat} (h : j < 16) (p : post 1) : wpY_isKey post ((nI f), (nI rev), (nI ch), tm, ex, va, km, ys, yv, kl, R, K, P, V, ll, le, lo, ws, wf, wl, fr, lr, lk, hP, hV) (nI j) :=
  br_f (nI_pos (by omega)) (rk_ltF 15 j (by omega) p)
theorem rk_yk_b {post : Int32 → Prop} {rev f ch : Nat} {tm : Int32} {ex va km ys yv kl R K P V ll le lo ws wf wl fr lr lk hP hV : Nat → Int32} {x : Int32} (h : x < 0 ∨ nI 16 ≤ x) (p : post 0) : wpY_isKey post ((nI f), (nI rev), (nI ch), tm, ex, va, km, ys, yv, kl, R, K, P, V, ll, le, lo, ws, wf, wl, fr, lr, lk, hP, hV) x := by
  rcases h with h | h
  · exact br_t h p
  · refine br_c (fun _ => p) (fun _ => br_t ?_ p)
    rw [rk_le, nI_toInt (by decide)] at h
    rw [rk_lt, show (15 : Int32).toInt = 15 from by decide]
    omega
theorem rk_yl_g {post : Int32 → Prop} {rev f ch : Nat} {tm : Int32} {ex va km ys yv kl R K P V ll le lo ws wf wl fr lr lk hP hV : Nat → Int32} {j : Nat} (h : j < 6) (p : post 1) : wpY_isLease post ((nI f), (nI rev), (nI ch), tm, ex, va, km, ys, yv, kl, R, K, P, V, ll, le, lo, ws, wf, wl, fr, lr, lk, hP, hV) (nI j) :=
  br_f (nI_pos (by omega)) (rk_ltF 5 j (by omega) p)
theorem rk_yl_b {post : Int32 → Prop} {rev f ch : Nat} {tm : Int32} {ex va km ys yv kl R K P V ll le lo ws wf wl fr lr lk hP hV : Nat → Int32} {x : Int32} (h : x < 0 ∨ nI 6 ≤ x) (p : post 0) : wpY_isLease post ((nI f), (nI rev), (nI ch), tm, ex, va, km, ys, yv, kl, R, K, P, V, ll, le, lo, ws, wf, wl, fr, lr, lk, hP, hV) x := by
  rcases h with h | h
  · exact br_t h p
  · refine br_c (fun _ => p) (fun _ => br_t ?_ p)
    rw [rk_le, nI_toInt (by decide)] at h
    rw [rk_lt, show (5 : Int32).toInt = 5 from by decide]
    omega
theorem rk_yw_g {post : Int32 → Prop} {rev f ch : Nat} {tm : Int32} {ex va km ys yv kl R K P V ll le lo ws wf wl fr lr lk hP hV : Nat → Int32} {j : Nat} (h : j < 4) (p : post 1) : wpY_isWatch post ((nI f), (nI rev), (nI ch), tm, ex, va, km, ys, yv, kl, R, K, P, V, ll, le, lo, ws, wf, wl, fr, lr, lk, hP, hV) (nI j) :=
  br_f (nI_pos (by omega)) (rk_ltF 3 j (by omega) p)
theorem rk_yw_b {post : Int32 → Prop} {rev f ch : Nat} {tm : Int32} {ex va km ys yv kl R K P V ll le lo ws wf wl fr lr lk hP hV : Nat → Int32} {x : Int32} (h : x < 0 ∨ nI 4 ≤ x) (p : post 0) : wpY_isWatch post ((nI f), (nI rev), (nI ch), tm, ex, va, km, ys, yv, kl, R, K, P, V, ll, le, lo, ws, wf, wl, fr, lr, lk, hP, hV) x := by
  rcases h with h | h
  · exact br_t h p
  · refine br_c (fun _ => p) (fun _ => br_t ?_ p)
    rw [rk_le, nI_toInt (by decide)] at h
    rw [rk_lt, show (3 : Int32).toInt = 3 from by decide]
    omega

/-! the reference's rows -/
theorem rk_y_pr {post : Int32 → Prop} {rev f ch : Nat} {tm : Int32} {ex va km ys yv kl R K P V ll le lo ws wf wl fr lr lk hP hV : Nat → Int32} (hf : f ≤ rev) (h : post (nI (16 * (rev - f)))) : wpY_present post ((nI f), (nI rev), (nI ch), tm, ex, va, km, ys, yv, kl, R, K, P, V, ll, le, lo, ws, wf, wl, fr, lr, lk, hP, hV) := by
  have e : (16 : Int32) * (nI rev - nI f) = nI (16 * (rev - f)) := by
    rw [pk_sub hf]; exact pk_mul 16 (rev - f)
  show post _
  rw [e]; exact h
theorem rk_y_en {post : Int32 → Prop} {rev f ch : Nat} {tm : Int32} {ex va km ys yv kl R K P V ll le lo ws wf wl fr lr lk hP hV : Nat → Int32} {k : Nat} (hf : f ≤ rev) (hr : rev - f ≤ 118) (hk : k < 16) (he : rk_bo ex) (h : post (ex (16 * (rev - f) + k))) : wpY_existsNow post ((nI f), (nI rev), (nI ch), tm, ex, va, km, ys, yv, kl, R, K, P, V, ll, le, lo, ws, wf, wl, fr, lr, lk, hP, hV) (nI k) := by
  unfold wpY_existsNow
  refine rk_y_pr hf ?_
  rw [nI_add, nI_clamp (by omega)]
  exact ⟨vp_in_nI (by omega) (by decide), rk_nb (he _), h⟩
theorem rk_y_nr {post : SY → Prop} {rev f ch : Nat} {tm : Int32} {ex va km ys yv kl R K P V ll le lo ws wf wl fr lr lk hP hV : Nat → Int32} (hf : f ≤ rev) (hr : rev - f ≤ 118) (he : rk_bo ex) (h : post ((nI f), (nI (rev + 1)), (nI ch), tm, rk_nr ex (16 * (rev - f)) 16, rk_nr va (16 * (rev - f)) 16, km, ys, yv, kl, R, K, P, V, ll, le, lo, ws, wf, wl, fr, lr, lk, hP, hV)) : wpY_newRevision post ((nI f), (nI rev), (nI ch), tm, ex, va, km, ys, yv, kl, R, K, P, V, ll, le, lo, ws, wf, wl, fr, lr, lk, hP, hV) := by
  have key : ∀ d n j, j + d = 16 → d < n → wY_newRevision_17 post (nI (16 * (rev + 1 - f))) (nI f) (nI (rev + 1)) (nI ch) tm n (nI j) (rk_nr ex (16 * (rev - f)) j) (rk_nr va (16 * (rev - f)) j) km ys yv kl R K P V ll le lo ws wf wl fr lr lk hP hV := by
    intro d
    induction d with
    | zero =>
      intro n j h2 h3
      obtain ⟨n, rfl⟩ : ∃ m, n = m + 1 := ⟨n - 1, by omega⟩
      obtain rfl : j = 16 := by omega
      exact rk_leT 16 16 (by omega) h
    | succ d ih =>
      intro n j h2 h3
      obtain ⟨n, rfl⟩ : ∃ m, n = m + 1 := ⟨n - 1, by omega⟩
      have ih := ih n (j + 1) (by omega) (by omega)
      have e1 : nI (16 * (rev + 1 - f)) - 16 + nI j = nI (16 * (rev - f) + j) := by
        have := pk_sub (a := 16 * (rev + 1 - f)) (b := 16) (by omega)
        rw [show (16 : Int32) = nI 16 from rfl, this, nI_add]
        exact congrArg nI (by omega)
      have e2 : nI (16 * (rev + 1 - f)) + nI j = nI (16 * (rev - f) + 16 + j) := by
        rw [nI_add]
        exact congrArg nI (by omega)
      have v1 : vp_in (nI (16 * (rev + 1 - f)) - 16 + nI j) 1920 := by rw [e1]; exact vp_in_nI (by omega) (by decide)
      have v2 : vp_in (nI (16 * (rev + 1 - f)) + nI j) 1920 := by rw [e2]; exact vp_in_nI (by omega) (by decide)
      have c1 : (nI (16 * (rev + 1 - f)) - 16 + nI j).toNatClampNeg = 16 * (rev - f) + j := by rw [e1, nI_clamp (by omega)]
      have c2 : (nI (16 * (rev + 1 - f)) + nI j).toNatClampNeg = 16 * (rev - f) + 16 + j := by rw [e2, nI_clamp (by omega)]
      exact rk_leF 16 j (by omega) ⟨v1, v2, nm_r (e' := rk_nr ex (16 * (rev - f)) (j + 1)) (by rw [c1, c2, rk_vb (rk_bo_nr he _ (by omega) _), rk_nr_s]) ⟨v1, v2, nm_r (e' := rk_nr va (16 * (rev - f)) (j + 1)) (by rw [c1, c2, rk_nr_s]) (nm_r (nI_1 j) ih)⟩⟩
  refine nm_r (nI_1 rev) (rk_y_pr (by omega) ⟨17, key 16 17 0 rfl (by omega)⟩)
theorem rk_y_nt1 {post : SY → Prop} {rev f ch : Nat} {tm : Int32} {ex va km ys yv kl R K P V ll le lo ws wf wl fr lr lk hP hV : Nat → Int32} {k x : Int32} (hc : ch < 120) (h : post ((nI f), (nI rev), (nI (ch + 1)), tm, ex, va, km, ys, yv, kl, upd R ch (nI rev), upd K ch k, upd P ch 1, upd V ch x, ll, le, lo, ws, wf, wl, fr, lr, lk, hP, hV)) : wpY_note post ((nI f), (nI rev), (nI ch), tm, ex, va, km, ys, yv, kl, R, K, P, V, ll, le, lo, ws, wf, wl, fr, lr, lk, hP, hV) k 1 x := by
  have v : vp_in (nI ch) 120 := vp_in_nI hc (by decide)
  have e : (nI ch).toNatClampNeg = ch := nI_clamp (by omega)
  exact ⟨v, nm_r (by rw [e]) ⟨v, nm_r (by rw [e]) ⟨v, nm_r (by rw [e, rk_vb1]) (br_f (by decide) ⟨v, nm_r (by rw [e]) (nm_r (nI_1 ch) h)⟩)⟩⟩⟩
theorem rk_y_nt0 {post : SY → Prop} {rev f ch : Nat} {tm : Int32} {ex va km ys yv kl R K P V ll le lo ws wf wl fr lr lk hP hV : Nat → Int32} {k x : Int32} (hc : ch < 120) (h : post ((nI f), (nI rev), (nI (ch + 1)), tm, ex, va, km, ys, yv, kl, upd R ch (nI rev), upd K ch k, upd P ch 0, upd V ch 0, ll, le, lo, ws, wf, wl, fr, lr, lk, hP, hV)) : wpY_note post ((nI f), (nI rev), (nI ch), tm, ex, va, km, ys, yv, kl, R, K, P, V, ll, le, lo, ws, wf, wl, fr, lr, lk, hP, hV) k 0 x := by
  have v : vp_in (nI ch) 120 := vp_in_nI hc (by decide)
  have e : (nI ch).toNatClampNeg = ch := nI_clamp (by omega)
  exact ⟨v, nm_r (by rw [e]) ⟨v, nm_r (by rw [e]) ⟨v, nm_r (by rw [e, rk_vb0]) (br_t rfl ⟨v, nm_r (by rw [e]) (nm_r (nI_1 ch) h)⟩)⟩⟩⟩
theorem rk_y_w89 {post : Int32 → SY → Prop} {rev f ch : Nat} {tm : Int32} {ex va km ys yv kl R K P V ll le lo ws wf wl fr lr lk hP hV : Nat → Int32} {k : Nat} {x l y : Int32} (hk : k < 16) (hc : ch < 120)
    (h : post (nI rev) ((nI f), (nI rev), (nI (ch + 1)), tm, ex, va, km, upd ys k (nI rev), upd yv k y, upd kl k l, upd R ch (nI rev), upd K ch (nI k), upd P ch 1, upd V ch x, ll, le, lo, ws, wf, wl, fr, lr, lk, hP, hV)) : wY_write_89 post (nI k) x l y (nI k) (nI f) (nI rev) (nI ch) tm ex va km ys yv kl R K P V ll le lo ws wf wl fr lr lk hP hV := by
  have v : vp_in (nI k) 16 := vp_in_nI hk (by decide)
  have e : (nI k).toNatClampNeg = k := nI_clamp (by omega)
  exact ⟨v, nm_r (by rw [e]) ⟨v, nm_r (by rw [e]) ⟨v, nm_r (by rw [e]) (rk_y_nt1 hc h)⟩⟩⟩
theorem rk_y_w66 {post : Int32 → SY → Prop} {rev f ch : Nat} {tm : Int32} {ex va km ys yv kl R K P V ll le lo ws wf wl fr lr lk hP hV : Nat → Int32} {k : Nat} {x l z m y : Int32} (hk : k < 16) (hc : ch < 120) (hy : y = if z = 0 then yv k + 1 else 1)
    (h : post (nI rev) ((nI f), (nI rev), (nI (ch + 1)), tm, ex, va, upd km k m, upd ys k (nI rev), upd yv k y, upd kl k l, upd R ch (nI rev), upd K ch (nI k), upd P ch 1, upd V ch x, ll, le, lo, ws, wf, wl, fr, lr, lk, hP, hV)) : wY_write_66 post (nI k) x l z m (nI k) (nI f) (nI rev) (nI ch) tm ex va km ys yv kl R K P V ll le lo ws wf wl fr lr lk hP hV := by
  have v : vp_in (nI k) 16 := vp_in_nI hk (by decide)
  have e : (nI k).toNatClampNeg = k := nI_clamp (by omega)
  refine ⟨v, nm_r (e' := upd km k m) (by rw [e]) ?_⟩
  by_cases w : z = 0
  · rw [if_pos w] at hy
    subst hy
    refine br_t w ⟨v, ?_⟩
    rw [e]
    exact rk_y_w89 hk hc h
  · rw [if_neg w] at hy
    subst hy
    exact br_f w (rk_y_w89 hk hc h)
theorem rk_y_w13 {post : Int32 → SY → Prop} {rev f ch : Nat} {tm : Int32} {ex va km ys yv kl R K P V ll le lo ws wf wl fr lr lk hP hV : Nat → Int32} {k : Nat} {x l z m y : Int32} (hk : k < 16) (hc : ch < 120) (hf : f ≤ rev) (hr : rev - f ≤ 118) (he : rk_bo ex) (hy : y = if z = 0 then yv k + 1 else 1) (hm : m = if z = 0 then km k else nI (rev + 1))
    (h : post (nI (rev + 1)) ((nI f), (nI (rev + 1)), (nI (ch + 1)), tm, upd (rk_nr ex (16 * (rev - f)) 16) (16 * (rev + 1 - f) + k) 1, upd (rk_nr va (16 * (rev - f)) 16) (16 * (rev + 1 - f) + k) x, upd km k m, upd ys k (nI (rev + 1)), upd yv k y, upd kl k l, upd R ch (nI (rev + 1)), upd K ch (nI k), upd P ch 1, upd V ch x, ll, le, lo, ws, wf, wl, fr, lr, lk, hP, hV)) : wY_write_13 post (nI k) x l z (nI f) (nI rev) (nI ch) tm ex va km ys yv kl R K P V ll le lo ws wf wl fr lr lk hP hV := by
  have v : vp_in (nI k) 16 := vp_in_nI hk (by decide)
  have e : (nI k).toNatClampNeg = k := nI_clamp (by omega)
  have e1 : nI (16 * (rev + 1 - f)) + nI k = nI (16 * (rev + 1 - f) + k) := nI_add _ _
  have v1 : vp_in (nI (16 * (rev + 1 - f)) + nI k) 1920 := by rw [e1]; exact vp_in_nI (by omega) (by decide)
  have c1 : (nI (16 * (rev + 1 - f)) + nI k).toNatClampNeg = 16 * (rev + 1 - f) + k := by rw [e1, nI_clamp (by omega)]
  refine rk_y_nr hf hr he (rk_y_pr (by omega) ⟨v1, nm_r (e' := upd (rk_nr ex (16 * (rev - f)) 16) (16 * (rev + 1 - f) + k) 1) (by rw [c1, rk_vb1]) (rk_y_pr (by omega) ⟨v1, nm_r (e' := upd (rk_nr va (16 * (rev - f)) 16) (16 * (rev + 1 - f) + k) x) (by rw [c1]) ?_⟩)⟩)
  by_cases w : z = 0
  · rw [if_pos w] at hm
    subst hm
    refine br_t w ⟨v, ?_⟩
    rw [e]
    exact rk_y_w66 hk hc hy h
  · rw [if_neg w] at hm
    subst hm
    exact br_f w (rk_y_w66 hk hc hy h)
theorem rk_y_wr {post : Int32 → SY → Prop} {rev f ch : Nat} {tm : Int32} {ex va km ys yv kl R K P V ll le lo ws wf wl fr lr lk hP hV : Nat → Int32} {k : Nat} {x l c : Int32} (hk : k < 16) (hc : ch < 120) (hf : f ≤ rev) (hr : rev - f ≤ 118) (he : rk_bo ex) (hcc : ex (16 * (rev - f) + k) = c)
    (h : post (nI (rev + 1)) ((nI f), (nI (rev + 1)), (nI (ch + 1)), tm, upd (rk_nr ex (16 * (rev - f)) 16) (16 * (rev + 1 - f) + k) 1, upd (rk_nr va (16 * (rev - f)) 16) (16 * (rev + 1 - f) + k) x, upd km k (if c = 0 then nI (rev + 1) else km k), upd ys k (nI (rev + 1)), upd yv k (if c = 0 then 1 else yv k + 1), upd kl k l, upd R ch (nI (rev + 1)), upd K ch (nI k), upd P ch 1, upd V ch x, ll, le, lo, ws, wf, wl, fr, lr, lk, hP, hV)) : wpY_write post ((nI f), (nI rev), (nI ch), tm, ex, va, km, ys, yv, kl, R, K, P, V, ll, le, lo, ws, wf, wl, fr, lr, lk, hP, hV) (nI k) x l := by
  unfold wpY_write
  refine rk_y_en hf hr hk he ?_
  rw [hcc]
  by_cases w : c = 0
  · rw [if_pos w, if_pos w] at h
    exact br_t w (rk_y_w13 hk hc hf hr he (if_neg (by decide)).symm (if_neg (by decide)).symm h)
  · rw [if_neg w, if_neg w] at h
    exact br_f w (rk_y_w13 hk hc hf hr he (if_pos rfl).symm (if_pos rfl).symm h)

/-! the reference's sets of keys -/
theorem rk_y_ka {post : Int32 → Prop} {rev f ch : Nat} {tm : Int32} {ex va km ys yv kl R K P V ll le lo ws wf wl fr lr lk hP hV : Nat → Int32} (S : Nat → Bool) {a b p : Nat} (ha : a < 16) (hb : b < 16) (hlo : ∀ i, i < a → S i = false) (hhi : ∀ i, b < i → S i = false) (hp : p + 16 ≤ 1920) (hS : ∀ i, a ≤ i → i ≤ b → (S i = true ↔ ex (p + i) ≠ 0))
    (h : post (nI (rk_bm S 16))) : wpY_keysAt post ((nI f), (nI rev), (nI ch), tm, ex, va, km, ys, yv, kl, R, K, P, V, ll, le, lo, ws, wf, wl, fr, lr, lk, hP, hV) (nI p) (nI a) (nI b) := by
  have key : ∀ d n j, a ≤ j → j + d = b + 1 → d < n → wY_keysAt_6 post (nI p) (nI b) (nI f) (nI rev) (nI ch) tm ex va km ys yv kl R K P V ll le lo ws wf wl fr lr lk hP hV n (nI (rk_bm S j)) (nI j) := by
    intro d
    induction d with
    | zero =>
      intro n j h1 h2 h3
      obtain ⟨n, rfl⟩ : ∃ m, n = m + 1 := ⟨n - 1, by omega⟩
      refine rk_ltT b j (by omega) ?_
      have e := rk_bm_e (S := S) j (16 - j) (fun i z1 z2 => hhi i (by omega))
      rw [show j + (16 - j) = 16 by omega] at e
      rw [← e]; exact h
    | succ d ih =>
      intro n j h1 h2 h3
      obtain ⟨n, rfl⟩ : ∃ m, n = m + 1 := ⟨n - 1, by omega⟩
      have ih := ih n (j + 1) (by omega) (by omega) (by omega)
      have hs := hS j h1 (by omega)
      have v : vp_in (nI p + nI j) 1920 := by rw [nI_add]; exact vp_in_nI (by omega) (by decide)
      have c : (nI p + nI j).toNatClampNeg = p + j := by rw [nI_add, nI_clamp (by omega)]
      refine rk_ltF b j (by omega) ⟨v, ?_⟩
      rw [c]
      by_cases z : ex (p + j) = 0
      · rw [rk_bm_f (fun y => (hs.mp y) z)] at ih
        exact br_t z (nm_r (nI_1 j) ih)
      · exact br_f z (nm_r (rk_bm_o (by omega) (hs.mpr z)) (nm_r (nI_1 j) ih))
  by_cases z : a ≤ b
  · have := key (b + 1 - a) (b + 2) a (Nat.le_refl a) (by omega) (by omega)
    rw [rk_bm_z a hlo] at this
    exact ⟨b + 2, this⟩
  · rw [rk_bm_z 16 (fun i _ => by
      by_cases y : i < a
      · exact hlo i y
      · exact hhi i (by omega))] at h
    exact ⟨1, rk_ltT b a (by omega) h⟩
theorem rk_y_bi {post : Int32 → Prop} {rev f ch : Nat} {tm : Int32} {ex va km ys yv kl R K P V ll le lo ws wf wl fr lr lk hP hV : Nat → Int32} (S : Nat → Bool) (h : post (nI (rk_ns S 16))) : wpY_bits post ((nI f), (nI rev), (nI ch), tm, ex, va, km, ys, yv, kl, R, K, P, V, ll, le, lo, ws, wf, wl, fr, lr, lk, hP, hV) (nI (rk_bm S 16)) := by
  have key : ∀ d n j, j + d = 16 → d < n → wY_bits_4 post (nI (rk_bm S 16)) (nI f) (nI rev) (nI ch) tm ex va km ys yv kl R K P V ll le lo ws wf wl fr lr lk hP hV n (nI (rk_ns S j)) (nI j) := by
    intro d
    induction d with
    | zero =>
      intro n j h2 h3
      obtain ⟨n, rfl⟩ : ∃ m, n = m + 1 := ⟨n - 1, by omega⟩
      obtain rfl : j = 16 := by omega
      exact rk_leT 16 16 (by omega) h
    | succ d ih =>
      intro n j h2 h3
      obtain ⟨n, rfl⟩ : ∃ m, n = m + 1 := ⟨n - 1, by omega⟩
      have ih := ih n (j + 1) (by omega) (by omega)
      refine rk_leF 16 j (by omega) (nm_r (e' := nI (rk_ns S (j + 1))) ?_ (nm_r (nI_1 j) ih))
      rw [rk_bm_g (by omega)]
      by_cases z : S j = true
      · rw [if_pos z, rk_ns_t z, nI_1]
      · rw [if_neg z, rk_ns_f z, Int32.add_zero]
  exact ⟨17, key 16 17 0 rfl (by omega)⟩
theorem rk_y_ea11 {post : SY → Prop} {rev f ch : Nat} {tm : Int32} {ex va km ys yv kl R K P V ll le lo ws wf wl fr lr lk hP hV : Nat → Int32} (S : Nat → Bool) (hf : f ≤ rev) (hr : rev - f ≤ 119) (hc : ch + rk_ns S 16 ≤ 116) (h : post ((nI f), (nI rev), (nI (ch + rk_ns S 16)), tm, (rk_ga S (fun i => 16 * (rev - f) + i) (fun _ => 0) ex 16), va, km, ys, yv, (rk_ga S (fun i => i) (fun _ => -1) kl 16), (rk_ga S (fun i => ch + rk_ns S i) (fun _ => nI rev) R 16), (rk_ga S (fun i => ch + rk_ns S i) (fun i => nI i) K 16), (rk_ga S (fun i => ch + rk_ns S i) (fun _ => 0) P 16), (rk_ga S (fun i => ch + rk_ns S i) (fun _ => 0) V 16), ll, le, lo, ws, wf, wl, fr, lr, lk, hP, hV)) : ∃ n, wY_eraseAll_11 post (nI (rk_bm S 16)) n 0 (nI f) (nI rev) (nI ch) tm ex va km ys yv kl R K P V ll le lo ws wf wl fr lr lk hP hV := by
  have key : ∀ d n j, j + d = 16 → d < n → wY_eraseAll_11 post (nI (rk_bm S 16)) n (nI j) (nI f) (nI rev) (nI (ch + rk_ns S j)) tm (rk_ga S (fun i => 16 * (rev - f) + i) (fun _ => 0) ex j) va km ys yv (rk_ga S (fun i => i) (fun _ => -1) kl j) (rk_ga S (fun i => ch + rk_ns S i) (fun _ => nI rev) R j) (rk_ga S (fun i => ch + rk_ns S i) (fun i => nI i) K j) (rk_ga S (fun i => ch + rk_ns S i) (fun _ => 0) P j) (rk_ga S (fun i => ch + rk_ns S i) (fun _ => 0) V j) ll le lo ws wf wl fr lr lk hP hV := by
    intro d
    induction d with
    | zero =>
      intro n j h2 h3
      obtain ⟨n, rfl⟩ : ∃ m, n = m + 1 := ⟨n - 1, by omega⟩
      obtain rfl : j = 16 := by omega
      exact rk_leT 16 16 (by omega) h
    | succ d ih =>
      intro n j h2 h3
      obtain ⟨n, rfl⟩ : ∃ m, n = m + 1 := ⟨n - 1, by omega⟩
      have ih := ih n (j + 1) (by omega) (by omega)
      have e : (nI j).toNatClampNeg = j := nI_clamp (by omega)
      have v : vp_in (nI (16 * (rev - f)) + nI j) 1920 := by rw [nI_add]; exact vp_in_nI (by omega) (by decide)
      have c : (nI (16 * (rev - f)) + nI j).toNatClampNeg = 16 * (rev - f) + j := by rw [nI_add, nI_clamp (by omega)]
      refine rk_leF 16 j (by omega) ?_
      rw [rk_bm_g (by omega)]
      by_cases z : S j = true
      · have hm := rk_ns_m S (j + 1) (16 - (j + 1))
        rw [rk_ns_t z, show j + 1 + (16 - (j + 1)) = 16 by omega] at hm
        simp only [rk_ga_t z, rk_ns_t z] at ih
        rw [if_pos z]
        exact br_t rfl (rk_y_pr hf ⟨v, nm_r (by rw [c, rk_vb0]) ⟨vp_in_nI (by omega) (by decide), nm_r (by rw [e]) (rk_y_nt0 (by omega) (nm_r (nI_1 j) ih))⟩⟩)
      · simp only [rk_ga_f z, rk_ns_f z] at ih
        rw [if_neg z]
        exact br_f (by decide) (nm_r (nI_1 j) ih)
  exact ⟨17, key 16 17 0 rfl (by omega)⟩
theorem rk_y_ea0 {post : SY → Prop} {rev f ch : Nat} {tm : Int32} {ex va km ys yv kl R K P V ll le lo ws wf wl fr lr lk hP hV : Nat → Int32} (S : Nat → Bool) (h0 : rk_ns S 16 = 0) (h : post ((nI f), (nI rev), (nI ch), tm, ex, va, km, ys, yv, kl, R, K, P, V, ll, le, lo, ws, wf, wl, fr, lr, lk, hP, hV)) : wpY_eraseAll post ((nI f), (nI rev), (nI ch), tm, ex, va, km, ys, yv, kl, R, K, P, V, ll, le, lo, ws, wf, wl, fr, lr, lk, hP, hV) (nI (rk_bm S 16)) := by
  have hz : ∀ i, i < 16 → S i = false := fun i hi => by
    cases y : S i with
    | false => rfl
    | true =>
      have := rk_ns_q hi y
      omega
  rw [rk_bm_z 16 hz]
  exact br_t rfl h
theorem rk_y_ea1 {post : SY → Prop} {rev f ch : Nat} {tm : Int32} {ex va km ys yv kl R K P V ll le lo ws wf wl fr lr lk hP hV : Nat → Int32} (S : Nat → Bool) (h0 : 0 < rk_ns S 16) (hf : f ≤ rev) (hr : rev - f ≤ 118) (hc : ch + rk_ns S 16 ≤ 116) (he : rk_bo ex) (h : post ((nI f), (nI (rev + 1)), (nI (ch + rk_ns S 16)), tm, (rk_ga S (fun i => 16 * ((rev + 1) - f) + i) (fun _ => 0) (rk_nr ex (16 * (rev - f)) 16) 16), rk_nr va (16 * (rev - f)) 16, km, ys, yv, (rk_ga S (fun i => i) (fun _ => -1) kl 16), (rk_ga S (fun i => ch + rk_ns S i) (fun _ => nI (rev + 1)) R 16), (rk_ga S (fun i => ch + rk_ns S i) (fun i => nI i) K 16), (rk_ga S (fun i => ch + rk_ns S i) (fun _ => 0) P 16), (rk_ga S (fun i => ch + rk_ns S i) (fun _ => 0) V 16), ll, le, lo, ws, wf, wl, fr, lr, lk, hP, hV)) : wpY_eraseAll post ((nI f), (nI rev), (nI ch), tm, ex, va, km, ys, yv, kl, R, K, P, V, ll, le, lo, ws, wf, wl, fr, lr, lk, hP, hV) (nI (rk_bm S 16)) := by
  obtain ⟨i, hi, hs⟩ := rk_ns_p h0
  have hp := rk_bm_p hi hs
  have hl := rk_bm_l S 16
  exact br_f (nI_ne0 hp (by omega)) (rk_y_nr hf hr he (rk_y_ea11 S (by omega) (by omega) hc h))
theorem rk_y_un {post : Int32 → Prop} {rev f ch : Nat} {tm : Int32} {ex va km ys yv kl R K P V ll le lo ws wf wl fr lr lk hP hV : Nat → Int32} (S : Nat → Bool) {l : Int32} (hf : f ≤ rev) (hr : rev - f ≤ 118) (he : rk_bo ex) (hS : ∀ i, i < 16 → (S i = true ↔ (ex (16 * (rev - f) + i) ≠ 0 ∧ kl i = l))) (h : post (nI (rk_bm S 16))) : wpY_under post ((nI f), (nI rev), (nI ch), tm, ex, va, km, ys, yv, kl, R, K, P, V, ll, le, lo, ws, wf, wl, fr, lr, lk, hP, hV) l := by
  have key : ∀ d n j, j + d = 16 → d < n → wY_under_4 post l (nI f) (nI rev) (nI ch) tm ex va km ys yv kl R K P V ll le lo ws wf wl fr lr lk hP hV n (nI (rk_bm S j)) (nI j) := by
    intro d
    induction d with
    | zero =>
      intro n j h2 h3
      obtain ⟨n, rfl⟩ : ∃ m, n = m + 1 := ⟨n - 1, by omega⟩
      obtain rfl : j = 16 := by omega
      exact rk_leT 16 16 (by omega) h
    | succ d ih =>
      intro n j h2 h3
      obtain ⟨n, rfl⟩ : ∃ m, n = m + 1 := ⟨n - 1, by omega⟩
      have ih := ih n (j + 1) (by omega) (by omega)
      have e : (nI j).toNatClampNeg = j := nI_clamp (by omega)
      have hs := hS j (by omega)
      refine rk_leF 16 j (by omega) (rk_y_en hf hr (by omega) he ?_)
      by_cases z : ex (16 * (rev - f) + j) = 0
      · rw [rk_bm_f (fun y => (hs.mp y).1 z)] at ih
        exact br_t z (nm_r (nI_1 j) ih)
      · refine br_f z ⟨vp_in_nI (by omega) (by decide), ?_⟩
        rw [e]
        by_cases y : kl j = l
        · exact br_t y (nm_r (rk_bm_o (by omega) (hs.mpr ⟨z, y⟩)) (nm_r (nI_1 j) ih))
        · rw [rk_bm_f (fun w => y (hs.mp w).2)] at ih
          exact br_f y (nm_r (nI_1 j) ih)
  exact ⟨17, key 16 17 0 rfl (by omega)⟩
theorem rk_y_nd0 {post : Int32 → SY → Prop} {rev f ch : Nat} {tm : Int32} {ex va km ys yv kl R K P V ll le lo ws wf wl fr lr lk hP hV : Nat → Int32} (S : Nat → Bool) {l : Nat} (hl : l < 6) (hf : f ≤ rev) (hr : rev - f ≤ 118) (he : rk_bo ex) (hS : ∀ i, i < 16 → (S i = true ↔ (ex (16 * (rev - f) + i) ≠ 0 ∧ kl i = nI l))) (h0 : rk_ns S 16 = 0) (h : post 0 ((nI f), (nI rev), (nI ch), tm, ex, va, km, ys, yv, kl, R, K, P, V, ll, le, upd lo l 0, ws, wf, wl, fr, lr, lk, hP, hV)) : wpY_end post ((nI f), (nI rev), (nI ch), tm, ex, va, km, ys, yv, kl, R, K, P, V, ll, le, lo, ws, wf, wl, fr, lr, lk, hP, hV) (nI l) := by
  have e : (nI l).toNatClampNeg = l := nI_clamp (by omega)
  refine rk_y_un S hf hr he hS ⟨vp_in_nI hl (by decide), nm_r (e' := upd lo l 0) (by rw [e, rk_vb0]) (rk_y_ea0 S h0 (rk_y_bi S ?_))⟩
  rw [h0]
  exact h
theorem rk_y_nd1 {post : Int32 → SY → Prop} {rev f ch : Nat} {tm : Int32} {ex va km ys yv kl R K P V ll le lo ws wf wl fr lr lk hP hV : Nat → Int32} (S : Nat → Bool) {l : Nat} (hl : l < 6) (hf : f ≤ rev) (hr : rev - f ≤ 118) (he : rk_bo ex) (hS : ∀ i, i < 16 → (S i = true ↔ (ex (16 * (rev - f) + i) ≠ 0 ∧ kl i = nI l))) (hc : ch + rk_ns S 16 ≤ 116) (h0 : 0 < rk_ns S 16) (h : post (nI (rk_ns S 16)) ((nI f), (nI (rev + 1)), (nI (ch + rk_ns S 16)), tm, (rk_ga S (fun i => 16 * ((rev + 1) - f) + i) (fun _ => 0) (rk_nr ex (16 * (rev - f)) 16) 16), rk_nr va (16 * (rev - f)) 16, km, ys, yv, (rk_ga S (fun i => i) (fun _ => -1) kl 16), (rk_ga S (fun i => ch + rk_ns S i) (fun _ => nI (rev + 1)) R 16), (rk_ga S (fun i => ch + rk_ns S i) (fun i => nI i) K 16), (rk_ga S (fun i => ch + rk_ns S i) (fun _ => 0) P 16), (rk_ga S (fun i => ch + rk_ns S i) (fun _ => 0) V 16), ll, le, upd lo l 0, ws, wf, wl, fr, lr, lk, hP, hV)) : wpY_end post ((nI f), (nI rev), (nI ch), tm, ex, va, km, ys, yv, kl, R, K, P, V, ll, le, lo, ws, wf, wl, fr, lr, lk, hP, hV) (nI l) := by
  have e : (nI l).toNatClampNeg = l := nI_clamp (by omega)
  exact rk_y_un S hf hr he hS ⟨vp_in_nI hl (by decide), nm_r (e' := upd lo l 0) (by rw [e, rk_vb0]) (rk_y_ea1 S h0 hf hr hc he (rk_y_bi S h))⟩
end
