section
/-! the log of changes: each revision at most one above the one before it -/
def rk_rr (R : Nat → Int32) (f : Nat) : Nat → Int
  | 0 => f
  | n + 1 => (R n).toInt
theorem rk_rr_s (R : Nat → Int32) (f n : Nat) : rk_rr R f (n + 1) = (R n).toInt := rfl
theorem rk_rr_0 (R : Nat → Int32) (f : Nat) : rk_rr R f 0 = f := rfl
theorem rk_rr_u {R : Nat → Int32} {f c : Nat} {x : Int32} : ∀ n, n ≤ c → rk_rr (upd R c x) f n = rk_rr R f n := by
  intro n h
  cases n with
  | zero => rfl
  | succ n => rw [rk_rr_s, rk_rr_s, pk_un (by omega)]
def rk_lg (rev f ch : Nat) (R : Nat → Int32) : Prop :=
  (∀ n, n < ch → rk_rr R f n ≤ rk_rr R f (n + 1) ∧ rk_rr R f (n + 1) ≤ rk_rr R f n + 1) ∧ rk_rr R f ch ≤ rev ∧ (rev : Int) ≤ rk_rr R f ch + 1
theorem rk_lg_m {rev f ch : Nat} {R : Nat → Int32} (h : rk_lg rev f ch R) (n : Nat) : ∀ d, n + d ≤ ch → rk_rr R f n ≤ rk_rr R f (n + d) ∧ rk_rr R f (n + d) ≤ rk_rr R f n + d := by
  intro d
  induction d with
  | zero => intro _; exact ⟨Int.le_refl _, by simp⟩
  | succ d ih =>
    intro hd
    have h1 := ih (by omega)
    have h2 := h.1 (n + d) (by omega)
    show _ ≤ rk_rr R f (n + d + 1) ∧ rk_rr R f (n + d + 1) ≤ _
    generalize rk_rr R f (n + d + 1) = z at *
    generalize rk_rr R f (n + d) = y at *
    generalize rk_rr R f n = x at *
    omega
theorem rk_lg_r {rev f ch : Nat} {R : Nat → Int32} (h : rk_lg rev f ch R) {i : Nat} (hi : i < ch) : (R i).toInt ≤ rk_rr R f ch := by
  have h1 := (rk_lg_m h (i + 1) (ch - (i + 1)) (by omega)).1
  rw [show i + 1 + (ch - (i + 1)) = ch by omega, rk_rr_s] at h1
  exact h1
theorem rk_lg_ij {rev f ch : Nat} {R : Nat → Int32} (h : rk_lg rev f ch R) {i j : Nat} (hij : i ≤ j) (hj : j < ch) : (R i).toInt ≤ (R j).toInt := by
  have h1 := (rk_lg_m h (i + 1) (j - i) (by omega)).1
  rw [show i + 1 + (j - i) = j + 1 by omega, rk_rr_s, rk_rr_s] at h1
  exact h1
theorem rk_lg_b {rev f ch : Nat} {R : Nat → Int32} (h : rk_lg rev f ch R) : rev ≤ f + ch + 1 := by
  have h1 := (rk_lg_m h 0 ch (by omega)).2
  rw [Nat.zero_add, rk_rr_0] at h1
  have h2 := h.2.2
  omega
theorem rk_lg_bf {rev f ch : Nat} {R : Nat → Int32} (h : rk_lg rev f ch R) (hf : rk_rr R f ch = rev) : rev ≤ f + ch := by
  have h1 := (rk_lg_m h 0 ch (by omega)).2
  rw [Nat.zero_add, rk_rr_0] at h1
  omega
theorem rk_lg_n {rev f ch : Nat} {R : Nat → Int32} (h : rk_lg rev f ch R) (hf : rk_rr R f ch = rev) : rk_lg (rev + 1) f ch R := by
  refine ⟨h.1, ?_, ?_⟩ <;> omega
theorem rk_lg_a {rev f ch : Nat} {R : Nat → Int32} (h : rk_lg rev f ch R) (hv : rev < 2 ^ 30) : rk_lg rev f (ch + 1) (upd R ch (nI rev)) ∧ rk_rr (upd R ch (nI rev)) f (ch + 1) = rev := by
  have e : rk_rr (upd R ch (nI rev)) f (ch + 1) = rev := by
    rw [rk_rr_s, pk_us, nI_toInt (by omega)]
  refine ⟨⟨?_, by rw [e]; exact Int.le_refl _, by rw [e]; omega⟩, e⟩
  intro n hn
  by_cases z : n = ch
  · subst z
    rw [e, rk_rr_u n (Nat.le_refl n)]
    exact ⟨h.2.1, h.2.2⟩
  · rw [rk_rr_u n (by omega), rk_rr_u (n + 1) (by omega)]
    exact h.1 n (by omega)

/-! the rows: every revision from the forgotten one to the present one -/
def rk_rw (rev f ch : Nat) (ef vf R K P V ex va : Nat → Int32) : Prop :=
  ∀ n, n + f ≤ rev → ∀ k, k < 16 → ex (16 * n + k) = rk_fe K R P ((n + f : Nat) : Int) k (ef k) ch ∧ (ex (16 * n + k) ≠ 0 → va (16 * n + k) = rk_fe K R V ((n + f : Nat) : Int) k (vf k) ch)
theorem rk_rw_a {rev f ch k : Nat} {ef vf R K P V ex va va' : Nat → Int32} {p x : Int32} (h : rk_rw rev f ch ef vf R K P V ex va) (hf : f ≤ rev) (hk : k < 16) (hv : rev < 2 ^ 30)
    (hva : ∀ i, i ≠ 16 * (rev - f) + k → va' i = va i) (hx : p ≠ 0 → va' (16 * (rev - f) + k) = x) :
    rk_rw rev f (ch + 1) ef vf (upd R ch (nI rev)) (upd K ch (nI k)) (upd P ch p) (upd V ch x) (upd ex (16 * (rev - f) + k) p) va' := by
  intro n hn j hj
  rw [rk_fe_a, rk_fe_a, nI_toInt (by omega)]
  have hh := h n hn j hj
  by_cases e : 16 * n + j = 16 * (rev - f) + k
  · have e1 : n = rev - f := by omega
    have e2 : k = j := by omega
    subst e1; subst e2
    rw [if_pos ⟨rfl, by omega⟩, if_pos ⟨rfl, by omega⟩, pk_us]
    exact ⟨rfl, hx⟩
  · have e3 : ¬ (nI k = nI j ∧ (rev : Int) ≤ ((n + f : Nat) : Int)) := by
      intro z
      have := (nI_eq (by omega) (by omega)).mp z.1
      have := z.2
      omega
    rw [if_neg e3, if_neg e3, pk_un e, hva _ e]
    exact hh
theorem rk_rw_n {rev f ch : Nat} {ef vf R K P V ex va : Nat → Int32} (h : rk_rw rev f ch ef vf R K P V ex va) (hf : f ≤ rev) (hr : ∀ i, i < ch → (R i).toInt ≤ rev) :
    rk_rw (rev + 1) f ch ef vf R K P V (rk_nr ex (16 * (rev - f)) 16) (rk_nr va (16 * (rev - f)) 16) := by
  intro n hn j hj
  rw [rk_nr_v _ _ 16 (Nat.le_refl 16), rk_nr_v _ _ 16 (Nat.le_refl 16)]
  by_cases e : n + f ≤ rev
  · rw [if_neg (by omega), if_neg (by omega)]
    exact h n e j hj
  · obtain ⟨m, rfl⟩ : ∃ m, n = m + 1 := ⟨n - 1, by omega⟩
    rw [if_pos (by omega), if_pos (by omega), show 16 * (m + 1) + j - 16 = 16 * m + j by omega]
    have hh := h m (by omega) j hj
    rw [rk_fe_r (r := ((m + 1 + f : Nat) : Int)) (r' := ((m + f : Nat) : Int)) ch, rk_fe_r (r := ((m + 1 + f : Nat) : Int)) (r' := ((m + f : Nat) : Int)) ch]
    · exact hh
    · intro i hi
      have := hr i hi
      omega
    · intro i hi
      have := hr i hi
      omega

/-! the keys of now -/
def rk_nw (rev f : Nat) (ke ks kv kl ex ys yv : Nat → Int32) : Prop :=
  ∀ k, k < 16 → ke k = ex (16 * (rev - f) + k) ∧ (ke k = 0 → ks k = 0 ∧ kv k = 0 ∧ kl k = -1) ∧ (ke k ≠ 0 → ks k = ys k ∧ kv k = yv k)
theorem rk_nw_n {rev f : Nat} {ke ks kv kl ex ys yv : Nat → Int32} (h : rk_nw rev f ke ks kv kl ex ys yv) (hf : f ≤ rev) : rk_nw (rev + 1) f ke ks kv kl (rk_nr ex (16 * (rev - f)) 16) ys yv := by
  intro k hk
  have hh := h k hk
  rw [rk_nr_v _ _ 16 (Nat.le_refl 16), if_pos (by omega), show 16 * (rev + 1 - f) + k - 16 = 16 * (rev - f) + k by omega]
  exact hh
theorem rk_nw_p {rev f k : Nat} {ke ks kv kl ex ys yv : Nat → Int32} {a l y : Int32} (h : rk_nw rev f ke ks kv kl ex ys yv) (hk : k < 16) (hy : y = if ke k = 0 then 1 else yv k + 1) :
    rk_nw rev f (upd ke k 1) (upd ks k a) (upd kv k (kv k + 1)) (upd kl k l) (upd ex (16 * (rev - f) + k) 1) (upd ys k a) (upd yv k y) := by
  intro j hj
  by_cases e : j = k
  · subst e
    rw [pk_us, pk_us, pk_us, pk_us, pk_us, pk_us, pk_us]
    refine ⟨rfl, fun z => absurd z (by decide), fun _ => ⟨rfl, ?_⟩⟩
    rw [hy]
    by_cases z : ke j = 0
    · rw [if_pos z, ((h j hk).2.1 z).2.1]; rfl
    · rw [if_neg z, ((h j hk).2.2 z).2]
  · rw [pk_un e, pk_un e, pk_un e, pk_un e, pk_un e, pk_un e, pk_un (by omega)]
    exact h j hj
theorem rk_nw_e {rev f k : Nat} {ke ks kv kl ex ys yv : Nat → Int32} (h : rk_nw rev f ke ks kv kl ex ys yv) :
    rk_nw rev f (upd ke k 0) (upd ks k 0) (upd kv k 0) (upd kl k (-1)) (upd ex (16 * (rev - f) + k) 0) ys yv := by
  intro j hj
  by_cases e : j = k
  · subst e
    rw [pk_us, pk_us, pk_us, pk_us, pk_us]
    exact ⟨rfl, fun _ => ⟨rfl, rfl, rfl⟩, fun z => absurd rfl z⟩
  · rw [pk_un e, pk_un e, pk_un e, pk_un e, pk_un (by omega)]
    exact h j hj

/-! all of it but leases and watches -/
def rk_md (rev f ch : Nat) (ke ks kv kl ef vf R K P V ex va ys yv : Nat → Int32) : Prop :=
  f ≤ rev ∧ ch + rk_ns (fun i => decide (ke i ≠ 0)) 16 ≤ 116 ∧ rk_lg rev f ch R ∧ (∀ i, vp_in (K i) 16) ∧ rk_bo P ∧ rk_bo ef ∧ rk_bo ex ∧ rk_rw rev f ch ef vf R K P V ex va ∧ rk_nw rev f ke ks kv kl ex ys yv
theorem rk_in_u {K : Nat → Int32} (h : ∀ i, vp_in (K i) 16) {k : Nat} (hk : k < 16) (c : Nat) : ∀ i, vp_in (upd K c (nI k) i) 16 := by
  intro i
  by_cases e : i = c
  · rw [e, pk_us]; exact vp_in_nI hk (by decide)
  · rw [pk_un e]; exact h i
theorem rk_md_n {rev f ch : Nat} {ke ks kv kl ef vf R K P V ex va ys yv : Nat → Int32} (h : rk_md rev f ch ke ks kv kl ef vf R K P V ex va ys yv) (hf : rk_rr R f ch = rev) :
    rk_md ((rev + 1)) f ch ke ks kv kl ef vf R K P V (rk_nr ex (16 * (rev - f)) 16) (rk_nr va (16 * (rev - f)) 16) ys yv := by
  obtain ⟨h1, h2, h3, h4, h5, h6, h7, h8, h9⟩ := h
  refine ⟨by omega, h2, rk_lg_n h3 hf, h4, h5, h6, rk_bo_nr h7 _ (Nat.le_refl 16), rk_rw_n h8 h1 ?_, rk_nw_n h9 h1⟩
  intro i hi
  have := rk_lg_r h3 hi
  omega
theorem rk_md_p {rev f ch k : Nat} {ke ks kv kl ef vf R K P V ex va ys yv : Nat → Int32} {x l y : Int32} (h : rk_md rev f ch ke ks kv kl ef vf R K P V ex va ys yv) (hv : rev < 2 ^ 30) (hc : ch < 100) (hk : k < 16) (hy : y = if ke k = 0 then 1 else yv k + 1) :
    rk_md rev f ((ch + 1)) (upd ke k 1) (upd ks k (nI rev)) (upd kv k (kv k + 1)) (upd kl k l) ef vf (upd R ch (nI rev)) (upd K ch (nI k)) (upd P ch 1) (upd V ch x) (upd ex (16 * (rev - f) + k) 1) (upd va (16 * (rev - f) + k) x) (upd ys k (nI rev)) (upd yv k y) ∧ rk_rr (upd R ch (nI rev)) f (ch + 1) = rev := by
  obtain ⟨h1, h2, h3, h4, h5, h6, h7, h8, h9⟩ := h
  obtain ⟨g1, g2⟩ := rk_lg_a h3 hv
  refine ⟨⟨h1, ?_, g1, rk_in_u h4 hk ch, rk_bo_u h5 (Or.inr rfl) _, h6, rk_bo_u h7 (Or.inr rfl) _, rk_rw_a h8 h1 hk hv (fun i hi => pk_un hi) (fun _ => pk_us), rk_nw_p h9 hk hy⟩, g2⟩
  have := rk_ns_le (fun i => decide (upd ke k 1 i ≠ 0)) 16
  omega
theorem rk_md_e {rev f ch k : Nat} {ke ks kv kl ef vf R K P V ex va ys yv : Nat → Int32} (h : rk_md rev f ch ke ks kv kl ef vf R K P V ex va ys yv) (hv : rev < 2 ^ 30) (hk : k < 16) (hy : ke k ≠ 0) :
    rk_md rev f ((ch + 1)) (upd ke k 0) (upd ks k 0) (upd kv k 0) (upd kl k (-1)) ef vf (upd R ch (nI rev)) (upd K ch (nI k)) (upd P ch 0) (upd V ch 0) (upd ex (16 * (rev - f) + k) 0) va ys yv ∧ rk_rr (upd R ch (nI rev)) f (ch + 1) = rev := by
  obtain ⟨h1, h2, h3, h4, h5, h6, h7, h8, h9⟩ := h
  obtain ⟨g1, g2⟩ := rk_lg_a h3 hv
  refine ⟨⟨h1, ?_, g1, rk_in_u h4 hk ch, rk_bo_u h5 (Or.inl rfl) _, h6, rk_bo_u h7 (Or.inl rfl) _, rk_rw_a h8 h1 hk hv (fun i _ => rfl) (fun z => absurd rfl z), rk_nw_e h9⟩, g2⟩
  have := rk_ns_d (S := fun i => decide (ke i ≠ 0)) (S' := fun i => decide (upd ke k 0 i ≠ 0)) (k := k) (decide_eq_true hy) (by rw [pk_us]; decide) (fun i hi => by rw [pk_un hi]) 16 hk
  omega
/-- room: what the stores of both sides need -/
theorem rk_md_c {rev f ch : Nat} {ke ks kv kl ef vf R K P V ex va ys yv : Nat → Int32} (h : rk_md rev f ch ke ks kv kl ef vf R K P V ex va ys yv) : f ≤ rev ∧ ch ≤ 116 ∧ rev ≤ f + ch + 1 := by
  obtain ⟨h1, h2, h3, h4, h5, h6, h7, h8, h9⟩ := h
  have := rk_lg_b h3
  omega
theorem rk_md_c1 {rev f ch k : Nat} {ke ks kv kl ef vf R K P V ex va ys yv : Nat → Int32} (h : rk_md rev f ch ke ks kv kl ef vf R K P V ex va ys yv) (hk : k < 16) (hy : ke k ≠ 0) : ch < 116 := by
  have h2 := h.2.1
  have := rk_ns_q (S := fun i => decide (ke i ≠ 0)) (n := 16) hk (decide_eq_true hy)
  omega
end
