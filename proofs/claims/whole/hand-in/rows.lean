section
section
theorem pk_us {f : Nat → Int32} {k : Nat} {x : Int32} : upd f k x k = x := if_pos rfl
theorem pk_un {f : Nat → Int32} {k j : Nat} {x : Int32} (h : j ≠ k) : upd f k x j = f j := if_neg h
theorem pk_sub {a b : Nat} (h : b ≤ a) : nI a - nI b = nI (a - b) := by
  obtain ⟨c, rfl⟩ : ∃ c, a = c + b := ⟨a - b, by omega⟩
  rw [← nI_add, Int32.add_sub_cancel, Nat.add_sub_cancel]
theorem pk_m1 (n : Nat) : nI (n + 1) + (-1) = nI n := by
  rw [← nI_1, Int32.add_assoc, show (1 : Int32) + (-1) = 0 from rfl, Int32.add_zero]
theorem pk_mul (a b : Nat) : nI a * nI b = nI (a * b) := (Int32.ofNat_mul a b).symm
theorem pk_ix (x : Int32) {n : Nat} (hn : n < 2 ^ 31) : x < 0 ∨ nI n ≤ x ∨ ∃ j : Nat, j < n ∧ x = nI j := by
  by_cases h : x < 0
  · exact Or.inl h
  · obtain ⟨j, hj, rfl⟩ := nI_of h
    by_cases h2 : j < n
    · exact Or.inr (Or.inr ⟨j, h2, rfl⟩)
    · exact Or.inr (Or.inl (nI_le (by omega) hj))
theorem pk_le {x y : Int32} {A B : Prop} (a b : Nat) (f : a ≤ b → A) (g : b < a → B) (hx : x = nI a := by rfl) (hy : y = nI b := by rfl) (ha : a < 2 ^ 31 := by omega) (hb : b < 2 ^ 31 := by omega) : (x ≤ y → A) ∧ (¬ x ≤ y → B) := by
  subst hx hy
  rw [nI_leI ha hb]
  exact ⟨f, fun z => g (by omega)⟩
theorem pk_lt {x y : Int32} {A B : Prop} (a b : Nat) (f : a < b → A) (g : b ≤ a → B) (hx : x = nI a := by rfl) (hy : y = nI b := by rfl) (ha : a < 2 ^ 31 := by omega) (hb : b < 2 ^ 31 := by omega) : (x < y → A) ∧ (¬ x < y → B) := by
  subst hx hy
  rw [nI_ltI ha hb]
  exact ⟨f, fun z => g (by omega)⟩
theorem pk_eq {x y : Int32} {A B : Prop} (a b : Nat) (f : a = b → A) (g : a ≠ b → B) (hx : x = nI a := by rfl) (hy : y = nI b := by rfl) (ha : a < 2 ^ 31 := by omega) (hb : b < 2 ^ 31 := by omega) : (x = y → A) ∧ (¬ x = y → B) := by
  subst hx hy
  rw [nI_eq ha hb]
  exact ⟨f, g⟩
theorem pk_in {x : Int32} (n N : Nat) (h : n < N) (hx : x = nI n := by rfl) (hN : N < 2 ^ 31 := by omega) : vp_in x N := by
  subst hx
  exact vp_in_nI h hN
theorem pk_cl {x : Int32} (n : Nat) (hx : x = nI n := by rfl) (h : n < 2 ^ 31 := by omega) : x.toNatClampNeg = n := by
  subst hx
  exact nI_clamp h
theorem pk_tn {n : Nat} (h : n < 2 ^ 32) : (nI n).toBitVec.toNat = n := Nat.mod_eq_of_lt h
theorem pk_and (x : Int32) {m : Int32} (k : Nat) (hm : m.toBitVec.toNat = 2 ^ k - 1) : x &&& m = nI (x.toBitVec.toNat % 2 ^ k) := by
  apply Int32.toBitVec_inj.mp
  apply BitVec.eq_of_toNat_eq
  rw [Int32.toBitVec_and, BitVec.toNat_and, hm, Nat.and_two_pow_sub_one_eq_mod]
  show _ = (BitVec.ofNat 32 _).toNat
  rw [BitVec.toNat_ofNat]
  exact (Nat.mod_eq_of_lt (Nat.lt_of_le_of_lt (Nat.mod_le _ _) x.toBitVec.isLt)).symm
theorem pk_andN {n : Nat} (h : n < 2 ^ 32) {m : Int32} (k : Nat) (hm : m.toBitVec.toNat = 2 ^ k - 1) : nI n &&& m = nI (n % 2 ^ k) := by
  rw [pk_and _ k hm, pk_tn h]
theorem pk_shl (a s : Int32) (k : Nat) (hs : (s.toBitVec.smod 32).toNat = k) : (a <<< s).toBitVec.toNat = a.toBitVec.toNat * 2 ^ k % 2 ^ 32 := by
  show (a.toBitVec <<< (s.toBitVec.smod 32).toNat).toNat = _
  rw [hs, BitVec.toNat_shiftLeft, Nat.shiftLeft_eq]
theorem pk_shlN {n : Nat} (s : Int32) (k : Nat) (hs : (s.toBitVec.smod 32).toNat = k) (h : n * 2 ^ k < 2 ^ 32) : nI n <<< s = nI (n * 2 ^ k) := by
  apply Int32.toBitVec_inj.mp
  apply BitVec.eq_of_toNat_eq
  have hn : n < 2 ^ 32 := Nat.lt_of_le_of_lt (Nat.le_mul_of_pos_right n (Nat.two_pow_pos k)) h
  rw [pk_shl _ _ k hs, pk_tn hn, pk_tn h, Nat.mod_eq_of_lt h]
theorem pk_shr (a s : Int32) (k : Nat) (hs : (s.toBitVec.smod 32).toNat = k) : (a >>> s).toInt = a.toInt >>> k := by
  show (a.toBitVec.sshiftRight (s.toBitVec.smod 32).toNat).toInt = _
  rw [hs, BitVec.toInt_sshiftRight]
  rfl
theorem pk_shrN {n : Nat} (h : n < 2 ^ 31) (s : Int32) (k : Nat) (hs : (s.toBitVec.smod 32).toNat = k) : nI n >>> s = nI (n / 2 ^ k) := by
  apply Int32.toInt_inj.mp
  have h2 : n / 2 ^ k ≤ n := Nat.div_le_self _ _
  rw [pk_shr _ _ k hs, nI_toInt h, nI_toInt (by omega), Int.shiftRight_eq_div_pow]
  rfl

/-! the class's own pure pictures -/
theorem rk_vb0 : vp_nar .boolean 0 = 0 := by decide
theorem rk_vb1 : vp_nar .boolean 1 = 1 := by decide
theorem rk_vb {x : Int32} (h : x = 0 ∨ x = 1) : vp_nar .boolean x = x := by
  rcases h with h | h
  · rw [h]; exact rk_vb0
  · rw [h]; exact rk_vb1
theorem rk_nb {x : Int32} (h : x = 0 ∨ x = 1) : narrow .boolean (.int x) = .int x := by
  rcases h with h | h
  · rw [h]; decide
  · rw [h]; decide
theorem rk_uu (A : Nat → Int32) (k : Nat) : upd A k (A k) = A := by
  funext j
  by_cases h : j = k
  · rw [h, pk_us]
  · rw [pk_un h]
theorem rk_uv {A : Nat → Int32} {k : Nat} {x : Int32} (h : A k = x) : upd A k x = A := by
  rw [← h]; exact rk_uu A k
theorem rk_le (a b : Int32) : a ≤ b ↔ a.toInt ≤ b.toInt := Int32.le_iff_toInt_le
theorem rk_lt (a b : Int32) : a < b ↔ a.toInt < b.toInt := Int32.lt_iff_toInt_lt

def rk_bo (A : Nat → Int32) : Prop := ∀ i, A i = 0 ∨ A i = 1
theorem rk_bo_u {A : Nat → Int32} (h : rk_bo A) {x : Int32} (hx : x = 0 ∨ x = 1) (k : Nat) : rk_bo (upd A k x) := by
  intro i
  by_cases e : i = k
  · rw [e, pk_us]; exact hx
  · rw [pk_un e]; exact h i

def rk_fe (K R P : Nat → Int32) (r : Int) (k : Nat) (e : Int32) : Nat → Int32
  | 0 => e
  | i + 1 => if K i = nI k ∧ (R i).toInt ≤ r then P i else rk_fe K R P r k e i
theorem rk_fe_0 (K R P : Nat → Int32) (r : Int) (k : Nat) (e : Int32) : rk_fe K R P r k e 0 = e := rfl
theorem rk_fe_s (K R P : Nat → Int32) (r : Int) (k : Nat) (e : Int32) (i : Nat) : rk_fe K R P r k e (i + 1) = if K i = nI k ∧ (R i).toInt ≤ r then P i else rk_fe K R P r k e i := rfl
theorem rk_fe_u {K R P : Nat → Int32} {r : Int} {k : Nat} {e : Int32} {c : Nat} {a b d : Int32} : ∀ n, n ≤ c → rk_fe (upd K c a) (upd R c b) (upd P c d) r k e n = rk_fe K R P r k e n := by
  intro n
  induction n with
  | zero => intro _; rfl
  | succ n ih =>
    intro h
    rw [rk_fe_s, rk_fe_s, pk_un (by omega), pk_un (by omega), pk_un (by omega), ih (by omega)]
theorem rk_fe_a {K R P : Nat → Int32} {r : Int} {k : Nat} {e : Int32} {c : Nat} {a b d : Int32} : rk_fe (upd K c a) (upd R c b) (upd P c d) r k e (c + 1) = if a = nI k ∧ b.toInt ≤ r then d else rk_fe K R P r k e c := by
  rw [rk_fe_s, pk_us, pk_us, pk_us, rk_fe_u c (Nat.le_refl c)]
theorem rk_fe_r {K R P : Nat → Int32} {r r' : Int} {k : Nat} {e : Int32} : ∀ n, (∀ i, i < n → ((R i).toInt ≤ r ↔ (R i).toInt ≤ r')) → rk_fe K R P r k e n = rk_fe K R P r' k e n := by
  intro n
  induction n with
  | zero => intro _; rfl
  | succ n ih =>
    intro h
    rw [rk_fe_s, rk_fe_s, ih (fun i hi => h i (by omega))]
    simp only [h n (by omega)]

def rk_ns (S : Nat → Bool) : Nat → Nat
  | 0 => 0
  | j + 1 => if S j = true then rk_ns S j + 1 else rk_ns S j
theorem rk_ns_t {S : Nat → Bool} {j : Nat} (h : S j = true) : rk_ns S (j + 1) = rk_ns S j + 1 := if_pos h
theorem rk_ns_f {S : Nat → Bool} {j : Nat} (h : ¬ S j = true) : rk_ns S (j + 1) = rk_ns S j := if_neg h
theorem rk_ns_le (S : Nat → Bool) : ∀ n, rk_ns S n ≤ n := by
  intro n
  induction n with
  | zero => exact Nat.le_refl 0
  | succ n ih =>
    by_cases h : S n = true
    · rw [rk_ns_t h]; omega
    · rw [rk_ns_f h]; omega
theorem rk_ns_m (S : Nat → Bool) (n : Nat) : ∀ d, rk_ns S n ≤ rk_ns S (n + d) := by
  intro d
  induction d with
  | zero => exact Nat.le_refl _
  | succ d ih =>
    show rk_ns S n ≤ rk_ns S (n + d + 1)
    by_cases h : S (n + d) = true
    · rw [rk_ns_t h]; omega
    · rw [rk_ns_f h]; exact ih
theorem rk_ns_c {S S' : Nat → Bool} : ∀ n, (∀ i, i < n → S i = S' i) → rk_ns S n = rk_ns S' n := by
  intro n
  induction n with
  | zero => intro _; rfl
  | succ n ih =>
    intro h
    show (if S n = true then _ else _) = (if S' n = true then _ else _)
    rw [h n (by omega), ih (fun i hi => h i (by omega))]
theorem rk_ns_d {S S' : Nat → Bool} {k : Nat} (hk : S k = true) (hk' : S' k = false) (h : ∀ i, i ≠ k → S' i = S i) : ∀ n, k < n → rk_ns S' n + 1 = rk_ns S n := by
  intro n
  induction n with
  | zero => intro h; omega
  | succ n ih =>
    intro hn
    by_cases e : n = k
    · subst e
      rw [rk_ns_t hk, rk_ns_f (by rw [hk']; decide), rk_ns_c n (fun i hi => h i (by omega))]
    · have := ih (by omega)
      by_cases z : S n = true
      · rw [rk_ns_t z, rk_ns_t (by rw [h n e]; exact z)]; omega
      · rw [rk_ns_f z, rk_ns_f (by rw [h n e]; exact z)]; omega
theorem rk_ns_z {S : Nat → Bool} : ∀ n, (∀ i, i < n → S i = false) → rk_ns S n = 0 := by
  intro n
  induction n with
  | zero => intro _; rfl
  | succ n ih =>
    intro h
    rw [rk_ns_f (by rw [h n (by omega)]; decide), ih (fun i hi => h i (by omega))]
theorem rk_ns_e {S : Nat → Bool} (a : Nat) : ∀ d, (∀ i, a ≤ i → i < a + d → S i = false) → rk_ns S (a + d) = rk_ns S a := by
  intro d
  induction d with
  | zero => intro _; rfl
  | succ d ih =>
    intro h
    show rk_ns S (a + d + 1) = _
    rw [rk_ns_f (by rw [h (a + d) (by omega) (by omega)]; decide), ih (fun i h1 h2 => h i h1 (by omega))]
theorem rk_ns_p {S : Nat → Bool} {n : Nat} (h : 0 < rk_ns S n) : ∃ i, i < n ∧ S i = true := by
  by_cases z : ∃ i, i < n ∧ S i = true
  · exact z
  · have : rk_ns S n = 0 := rk_ns_z n (fun i hi => by
      cases e : S i with
      | false => rfl
      | true => exact absurd ⟨i, hi, e⟩ z)
    omega
theorem rk_ns_q {S : Nat → Bool} {n i : Nat} (hi : i < n) (h : S i = true) : 0 < rk_ns S n := by
  have h1 := rk_ns_m S (i + 1) (n - (i + 1))
  rw [rk_ns_t h, show i + 1 + (n - (i + 1)) = n by omega] at h1
  omega

def rk_ga (S : Nat → Bool) (ix : Nat → Nat) (x : Nat → Int32) (A : Nat → Int32) : Nat → (Nat → Int32)
  | 0 => A
  | j + 1 => if S j = true then upd (rk_ga S ix x A j) (ix j) (x j) else rk_ga S ix x A j
theorem rk_ga_0 {S : Nat → Bool} {ix : Nat → Nat} {x A : Nat → Int32} : rk_ga S ix x A 0 = A := rfl
theorem rk_ga_t {S : Nat → Bool} {ix : Nat → Nat} {x A : Nat → Int32} {j : Nat} (h : S j = true) : rk_ga S ix x A (j + 1) = upd (rk_ga S ix x A j) (ix j) (x j) := if_pos h
theorem rk_ga_f {S : Nat → Bool} {ix : Nat → Nat} {x A : Nat → Int32} {j : Nat} (h : ¬ S j = true) : rk_ga S ix x A (j + 1) = rk_ga S ix x A j := if_neg h
theorem rk_ga_lo {S : Nat → Bool} {ix : Nat → Nat} {x A : Nat → Int32} : ∀ a, (∀ i, i < a → S i = false) → rk_ga S ix x A a = A := by
  intro a
  induction a with
  | zero => intro _; rfl
  | succ a ih =>
    intro h
    rw [rk_ga_f (by rw [h a (by omega)]; decide), ih (fun i hi => h i (by omega))]
theorem rk_ga_hi {S : Nat → Bool} {ix : Nat → Nat} {x A : Nat → Int32} (a : Nat) : ∀ d, (∀ i, a ≤ i → i < a + d → S i = false) → rk_ga S ix x A (a + d) = rk_ga S ix x A a := by
  intro d
  induction d with
  | zero => intro _; rfl
  | succ d ih =>
    intro h
    show rk_ga S ix x A (a + d + 1) = _
    rw [rk_ga_f (by rw [h (a + d) (by omega) (by omega)]; decide), ih (fun i h1 h2 => h i h1 (by omega))]
theorem rk_ga_id {S : Nat → Bool} {x A : Nat → Int32} (i : Nat) : ∀ j, rk_ga S (fun n => n) x A j i = if i < j ∧ S i = true then x i else A i := by
  intro j
  induction j with
  | zero => rw [if_neg (by omega)]; rfl
  | succ j ih =>
    by_cases h : S j = true
    · rw [rk_ga_t h]
      by_cases e : i = j
      · subst e
        rw [pk_us, if_pos ⟨by omega, h⟩]
      · rw [pk_un e, ih]
        by_cases z : i < j ∧ S i = true
        · rw [if_pos z, if_pos ⟨by omega, z.2⟩]
        · rw [if_neg z, if_neg (fun w => z ⟨by omega, w.2⟩)]
    · rw [rk_ga_f h, ih]
      by_cases z : i < j ∧ S i = true
      · rw [if_pos z, if_pos ⟨by omega, z.2⟩]
      · rw [if_neg z, if_neg (fun w => z ⟨by
          have h1 := w.1
          have h2 : i ≠ j := fun e => h (e ▸ w.2)
          omega, w.2⟩)]

def rk_sh (A : Nat → Int32) (g : Nat) : Nat → (Nat → Int32)
  | 0 => A
  | j + 1 => upd (rk_sh A g j) j (rk_sh A g j (j + g))
theorem rk_sh_0 (A : Nat → Int32) (g : Nat) : rk_sh A g 0 = A := rfl
theorem rk_sh_s (A : Nat → Int32) (g j : Nat) : rk_sh A g (j + 1) = upd (rk_sh A g j) j (rk_sh A g j (j + g)) := rfl
theorem rk_sh_v (A : Nat → Int32) (g : Nat) : ∀ j i, rk_sh A g j i = if i < j then A (i + g) else A i := by
  intro j
  induction j with
  | zero => intro i; rw [if_neg (by omega)]; rfl
  | succ j ih =>
    intro i
    rw [rk_sh_s]
    by_cases e : i = j
    · subst e
      rw [pk_us, ih, if_neg (by omega), if_pos (by omega)]
    · rw [pk_un e, ih]
      by_cases z : i < j
      · rw [if_pos z, if_pos (by omega)]
      · rw [if_neg z, if_neg (by omega)]
theorem rk_bo_sh {A : Nat → Int32} (h : rk_bo A) (g j : Nat) : rk_bo (rk_sh A g j) := by
  intro i
  rw [rk_sh_v]
  split
  · exact h _
  · exact h _

def rk_nr (A : Nat → Int32) (p : Nat) : Nat → (Nat → Int32)
  | 0 => A
  | j + 1 => upd (rk_nr A p j) (p + 16 + j) (rk_nr A p j (p + j))
theorem rk_nr_0 (A : Nat → Int32) (p : Nat) : rk_nr A p 0 = A := rfl
theorem rk_nr_s (A : Nat → Int32) (p j : Nat) : rk_nr A p (j + 1) = upd (rk_nr A p j) (p + 16 + j) (rk_nr A p j (p + j)) := rfl
theorem rk_nr_v (A : Nat → Int32) (p : Nat) : ∀ j, j ≤ 16 → ∀ i, rk_nr A p j i = if p + 16 ≤ i ∧ i < p + 16 + j then A (i - 16) else A i := by
  intro j
  induction j with
  | zero => intro _ i; rw [if_neg (by omega)]; rfl
  | succ j ih =>
    intro hj i
    have ih := ih (by omega)
    rw [rk_nr_s]
    by_cases e : i = p + 16 + j
    · subst e
      rw [pk_us, ih, if_neg (by omega), if_pos (by omega)]
      exact congrArg A (by omega)
    · rw [pk_un e, ih]
      by_cases z : p + 16 ≤ i ∧ i < p + 16 + j
      · rw [if_pos z, if_pos (by omega)]
      · rw [if_neg z, if_neg (by omega)]
theorem rk_bo_nr {A : Nat → Int32} (h : rk_bo A) (p : Nat) {j : Nat} (hj : j ≤ 16) : rk_bo (rk_nr A p j) := by
  intro i
  rw [rk_nr_v A p j hj]
  split
  · exact h _
  · exact h _
end
end
section
section
/-! the log of changes: each revision at most one above the one before it -/
def rk_rr (R : Nat → Int32) (f : Nat) : Nat → Int
  | 0 => f
  | n + 1 => (R n).toInt
theorem rk_rr_s (R : Nat → Int32) (f n : Nat) : rk_rr R f (n + 1) = (R n).toInt := rfl
theorem rk_rr_0 (R : Nat → Int32) (f : Nat) : rk_rr R f 0 = f := rfl
theorem rk_rr_u {R : Nat → Int32} {f c : Nat} {x : Int32} : ∀ n, n ≤ c → rk_rr (upd R c x) f n = rk_rr R f n := by
  intro n h
  cases n with
  | zero => rfl
  | succ n => rw [rk_rr_s, rk_rr_s, pk_un (by omega)]
def rk_lg (rev f ch : Nat) (R : Nat → Int32) : Prop :=
  (∀ n, n < ch → rk_rr R f n ≤ rk_rr R f (n + 1) ∧ rk_rr R f (n + 1) ≤ rk_rr R f n + 1) ∧ rk_rr R f ch ≤ rev ∧ (rev : Int) ≤ rk_rr R f ch + 1
theorem rk_lg_m {rev f ch : Nat} {R : Nat → Int32} (h : rk_lg rev f ch R) (n : Nat) : ∀ d, n + d ≤ ch → rk_rr R f n ≤ rk_rr R f (n + d) ∧ rk_rr R f (n + d) ≤ rk_rr R f n + d := by
  intro d
  induction d with
  | zero => intro _; exact ⟨Int.le_refl _, by simp⟩
  | succ d ih =>
    intro hd
    have h1 := ih (by omega)
    have h2 := h.1 (n + d) (by omega)
    show _ ≤ rk_rr R f (n + d + 1) ∧ rk_rr R f (n + d + 1) ≤ _
    generalize rk_rr R f (n + d + 1) = z at *
    generalize rk_rr R f (n + d) = y at *
    generalize rk_rr R f n = x at *
    omega
theorem rk_lg_r {rev f ch : Nat} {R : Nat → Int32} (h : rk_lg rev f ch R) {i : Nat} (hi : i < ch) : (R i).toInt ≤ rk_rr R f ch := by
  have h1 := (rk_lg_m h (i + 1) (ch - (i + 1)) (by omega)).1
  rw [show i + 1 + (ch - (i + 1)) = ch by omega, rk_rr_s] at h1
  exact h1
theorem rk_lg_ij {rev f ch : Nat} {R : Nat → Int32} (h : rk_lg rev f ch R) {i j : Nat} (hij : i ≤ j) (hj : j < ch) : (R i).toInt ≤ (R j).toInt := by
  have h1 := (rk_lg_m h (i + 1) (j - i) (by omega)).1
  rw [show i + 1 + (j - i) = j + 1 by omega, rk_rr_s, rk_rr_s] at h1
  exact h1
theorem rk_lg_b {rev f ch : Nat} {R : Nat → Int32} (h : rk_lg rev f ch R) : rev ≤ f + ch + 1 := by
  have h1 := (rk_lg_m h 0 ch (by omega)).2
  rw [Nat.zero_add, rk_rr_0] at h1
  have h2 := h.2.2
  omega
theorem rk_lg_bf {rev f ch : Nat} {R : Nat → Int32} (h : rk_lg rev f ch R) (hf : rk_rr R f ch = rev) : rev ≤ f + ch := by
  have h1 := (rk_lg_m h 0 ch (by omega)).2
  rw [Nat.zero_add, rk_rr_0] at h1
  omega
theorem rk_lg_n {rev f ch : Nat} {R : Nat → Int32} (h : rk_lg rev f ch R) (hf : rk_rr R f ch = rev) : rk_lg (rev + 1) f ch R := by
  refine ⟨h.1, ?_, ?_⟩ <;> omega
theorem rk_lg_a {rev f ch : Nat} {R : Nat → Int32} (h : rk_lg rev f ch R) (hv : rev < 2 ^ 30) : rk_lg rev f (ch + 1) (upd R ch (nI rev)) ∧ rk_rr (upd R ch (nI rev)) f (ch + 1) = rev := by
  have e : rk_rr (upd R ch (nI rev)) f (ch + 1) = rev := by
    rw [rk_rr_s, pk_us, nI_toInt (by omega)]
  refine ⟨⟨?_, by rw [e]; exact Int.le_refl _, by rw [e]; omega⟩, e⟩
  intro n hn
  by_cases z : n = ch
  · subst z
    rw [e, rk_rr_u n (Nat.le_refl n)]
    exact ⟨h.2.1, h.2.2⟩
  · rw [rk_rr_u n (by omega), rk_rr_u (n + 1) (by omega)]
    exact h.1 n (by omega)

/-! the rows: every revision from the forgotten one to the present one -/
def rk_rw (rev f ch : Nat) (ef vf R K P V ex va : Nat → Int32) : Prop :=
  ∀ n, n + f ≤ rev → ∀ k, k < 16 → ex (16 * n + k) = rk_fe K R P ((n + f : Nat) : Int) k (ef k) ch ∧ (ex (16 * n + k) ≠ 0 → va (16 * n + k) = rk_fe K R V ((n + f : Nat) : Int) k (vf k) ch)
theorem rk_rw_a {rev f ch k : Nat} {ef vf R K P V ex va va' : Nat → Int32} {p x : Int32} (h : rk_rw rev f ch ef vf R K P V ex va) (hf : f ≤ rev) (hk : k < 16) (hv : rev < 2 ^ 30)
    (hva : ∀ i, i ≠ 16 * (rev - f) + k → va' i = va i) (hx : p ≠ 0 → va' (16 * (rev - f) + k) = x) :
    rk_rw rev f (ch + 1) ef vf (upd R ch (nI rev)) (upd K ch (nI k)) (upd P ch p) (upd V ch x) (upd ex (16 * (rev - f) + k) p) va' := by
  intro n hn j hj
  rw [rk_fe_a, rk_fe_a, nI_toInt (by omega)]
  have hh := h n hn j hj
  by_cases e : 16 * n + j = 16 * (rev - f) + k
  · have e1 : n = rev - f := by omega
    have e2 : k = j := by omega
    subst e1; subst e2
    rw [if_pos ⟨rfl, by omega⟩, if_pos ⟨rfl, by omega⟩, pk_us]
    exact ⟨rfl, hx⟩
  · have e3 : ¬ (nI k = nI j ∧ (rev : Int) ≤ ((n + f : Nat) : Int)) := by
      intro z
      have := (nI_eq (by omega) (by omega)).mp z.1
      have := z.2
      omega
    rw [if_neg e3, if_neg e3, pk_un e, hva _ e]
    exact hh
theorem rk_rw_n {rev f ch : Nat} {ef vf R K P V ex va : Nat → Int32} (h : rk_rw rev f ch ef vf R K P V ex va) (hf : f ≤ rev) (hr : ∀ i, i < ch → (R i).toInt ≤ rev) :
    rk_rw (rev + 1) f ch ef vf R K P V (rk_nr ex (16 * (rev - f)) 16) (rk_nr va (16 * (rev - f)) 16) := by
  intro n hn j hj
  rw [rk_nr_v _ _ 16 (Nat.le_refl 16), rk_nr_v _ _ 16 (Nat.le_refl 16)]
  by_cases e : n + f ≤ rev
  · rw [if_neg (by omega), if_neg (by omega)]
    exact h n e j hj
  · obtain ⟨m, rfl⟩ : ∃ m, n = m + 1 := ⟨n - 1, by omega⟩
    rw [if_pos (by omega), if_pos (by omega), show 16 * (m + 1) + j - 16 = 16 * m + j by omega]
    have hh := h m (by omega) j hj
    rw [rk_fe_r (r := ((m + 1 + f : Nat) : Int)) (r' := ((m + f : Nat) : Int)) ch, rk_fe_r (r := ((m + 1 + f : Nat) : Int)) (r' := ((m + f : Nat) : Int)) ch]
    · exact hh
    · intro i hi
      have := hr i hi
      omega
    · intro i hi
      have := hr i hi
      omega

/-! the keys of now -/
def rk_nw (rev f : Nat) (ke ks kv kl ex ys yv : Nat → Int32) : Prop :=
  ∀ k, k < 16 → ke k = ex (16 * (rev - f) + k) ∧ (ke k = 0 → ks k = 0 ∧ kv k = 0 ∧ kl k = -1) ∧ (ke k ≠ 0 → ks k = ys k ∧ kv k = yv k)
theorem rk_nw_n {rev f : Nat} {ke ks kv kl ex ys yv : Nat → Int32} (h : rk_nw rev f ke ks kv kl ex ys yv) (hf : f ≤ rev) : rk_nw (rev + 1) f ke ks kv kl (rk_nr ex (16 * (rev - f)) 16) ys yv := by
  intro k hk
  have hh := h k hk
  rw [rk_nr_v _ _ 16 (Nat.le_refl 16), if_pos (by omega), show 16 * (rev + 1 - f) + k - 16 = 16 * (rev - f) + k by omega]
  exact hh
theorem rk_nw_p {rev f k : Nat} {ke ks kv kl ex ys yv : Nat → Int32} {a l y : Int32} (h : rk_nw rev f ke ks kv kl ex ys yv) (hk : k < 16) (hy : y = if ke k = 0 then 1 else yv k + 1) :
    rk_nw rev f (upd ke k 1) (upd ks k a) (upd kv k (kv k + 1)) (upd kl k l) (upd ex (16 * (rev - f) + k) 1) (upd ys k a) (upd yv k y) := by
  intro j hj
  by_cases e : j = k
  · subst e
    rw [pk_us, pk_us, pk_us, pk_us, pk_us, pk_us, pk_us]
    refine ⟨rfl, fun z => absurd z (by decide), fun _ => ⟨rfl, ?_⟩⟩
    rw [hy]
    by_cases z : ke j = 0
    · rw [if_pos z, ((h j hk).2.1 z).2.1]; rfl
    · rw [if_neg z, ((h j hk).2.2 z).2]
  · rw [pk_un e, pk_un e, pk_un e, pk_un e, pk_un e, pk_un e, pk_un (by omega)]
    exact h j hj
theorem rk_nw_e {rev f k : Nat} {ke ks kv kl ex ys yv : Nat → Int32} (h : rk_nw rev f ke ks kv kl ex ys yv) :
    rk_nw rev f (upd ke k 0) (upd ks k 0) (upd kv k 0) (upd kl k (-1)) (upd ex (16 * (rev - f) + k) 0) ys yv := by
  intro j hj
  by_cases e : j = k
  · subst e
    rw [pk_us, pk_us, pk_us, pk_us, pk_us]
    exact ⟨rfl, fun _ => ⟨rfl, rfl, rfl⟩, fun z => absurd rfl z⟩
  · rw [pk_un e, pk_un e, pk_un e, pk_un e, pk_un (by omega)]
    exact h j hj

/-! all of it but leases and watches -/
def rk_md (rev f ch : Nat) (ke ks kv kl ef vf R K P V ex va ys yv : Nat → Int32) : Prop :=
  f ≤ rev ∧ ch + rk_ns (fun i => decide (ke i ≠ 0)) 16 ≤ 116 ∧ rk_lg rev f ch R ∧ (∀ i, vp_in (K i) 16) ∧ rk_bo P ∧ rk_bo ef ∧ rk_bo ex ∧ rk_rw rev f ch ef vf R K P V ex va ∧ rk_nw rev f ke ks kv kl ex ys yv
theorem rk_in_u {K : Nat → Int32} (h : ∀ i, vp_in (K i) 16) {k : Nat} (hk : k < 16) (c : Nat) : ∀ i, vp_in (upd K c (nI k) i) 16 := by
  intro i
  by_cases e : i = c
  · rw [e, pk_us]; exact vp_in_nI hk (by decide)
  · rw [pk_un e]; exact h i
theorem rk_md_n {rev f ch : Nat} {ke ks kv kl ef vf R K P V ex va ys yv : Nat → Int32} (h : rk_md rev f ch ke ks kv kl ef vf R K P V ex va ys yv) (hf : rk_rr R f ch = rev) :
    rk_md ((rev + 1)) f ch ke ks kv kl ef vf R K P V (rk_nr ex (16 * (rev - f)) 16) (rk_nr va (16 * (rev - f)) 16) ys yv := by
  obtain ⟨h1, h2, h3, h4, h5, h6, h7, h8, h9⟩ := h
  refine ⟨by omega, h2, rk_lg_n h3 hf, h4, h5, h6, rk_bo_nr h7 _ (Nat.le_refl 16), rk_rw_n h8 h1 ?_, rk_nw_n h9 h1⟩
  intro i hi
  have := rk_lg_r h3 hi
  omega
theorem rk_md_p {rev f ch k : Nat} {ke ks kv kl ef vf R K P V ex va ys yv : Nat → Int32} {x l y : Int32} (h : rk_md rev f ch ke ks kv kl ef vf R K P V ex va ys yv) (hv : rev < 2 ^ 30) (hc : ch < 100) (hk : k < 16) (hy : y = if ke k = 0 then 1 else yv k + 1) :
    rk_md rev f ((ch + 1)) (upd ke k 1) (upd ks k (nI rev)) (upd kv k (kv k + 1)) (upd kl k l) ef vf (upd R ch (nI rev)) (upd K ch (nI k)) (upd P ch 1) (upd V ch x) (upd ex (16 * (rev - f) + k) 1) (upd va (16 * (rev - f) + k) x) (upd ys k (nI rev)) (upd yv k y) ∧ rk_rr (upd R ch (nI rev)) f (ch + 1) = rev := by
  obtain ⟨h1, h2, h3, h4, h5, h6, h7, h8, h9⟩ := h
  obtain ⟨g1, g2⟩ := rk_lg_a h3 hv
  refine ⟨⟨h1, ?_, g1, rk_in_u h4 hk ch, rk_bo_u h5 (Or.inr rfl) _, h6, rk_bo_u h7 (Or.inr rfl) _, rk_rw_a h8 h1 hk hv (fun i hi => pk_un hi) (fun _ => pk_us), rk_nw_p h9 hk hy⟩, g2⟩
  have := rk_ns_le (fun i => decide (upd ke k 1 i ≠ 0)) 16
  omega
theorem rk_md_e {rev f ch k : Nat} {ke ks kv kl ef vf R K P V ex va ys yv : Nat → Int32} (h : rk_md rev f ch ke ks kv kl ef vf R K P V ex va ys yv) (hv : rev < 2 ^ 30) (hk : k < 16) (hy : ke k ≠ 0) :
    rk_md rev f ((ch + 1)) (upd ke k 0) (upd ks k 0) (upd kv k 0) (upd kl k (-1)) ef vf (upd R ch (nI rev)) (upd K ch (nI k)) (upd P ch 0) (upd V ch 0) (upd ex (16 * (rev - f) + k) 0) va ys yv ∧ rk_rr (upd R ch (nI rev)) f (ch + 1) = rev := by
  obtain ⟨h1, h2, h3, h4, h5, h6, h7, h8, h9⟩ := h
  obtain ⟨g1, g2⟩ := rk_lg_a h3 hv
  refine ⟨⟨h1, ?_, g1, rk_in_u h4 hk ch, rk_bo_u h5 (Or.inl rfl) _, h6, rk_bo_u h7 (Or.inl rfl) _, rk_rw_a h8 h1 hk hv (fun i _ => rfl) (fun z => absurd rfl z), rk_nw_e h9⟩, g2⟩
  have := rk_ns_d (S := fun i => decide (ke i ≠ 0)) (S' := fun i => decide (upd ke k 0 i ≠ 0)) (k := k) (decide_eq_true hy) (by rw [pk_us]; decide) (fun i hi => by rw [pk_un hi]) 16 hk
  omega
/-- room: what the stores of both sides need -/
theorem rk_md_c {rev f ch : Nat} {ke ks kv kl ef vf R K P V ex va ys yv : Nat → Int32} (h : rk_md rev f ch ke ks kv kl ef vf R K P V ex va ys yv) : f ≤ rev ∧ ch ≤ 116 ∧ rev ≤ f + ch + 1 := by
  obtain ⟨h1, h2, h3, h4, h5, h6, h7, h8, h9⟩ := h
  have := rk_lg_b h3
  omega
theorem rk_md_c1 {rev f ch k : Nat} {ke ks kv kl ef vf R K P V ex va ys yv : Nat → Int32} (h : rk_md rev f ch ke ks kv kl ef vf R K P V ex va ys yv) (hk : k < 16) (hy : ke k ≠ 0) : ch < 116 := by
  have h2 := h.2.1
  have := rk_ns_q (S := fun i => decide (ke i ≠ 0)) (n := 16) hk (decide_eq_true hy)
  omega
end
end
section
section
/-! branches that are known -/
theorem rk_leT {x y : Int32} {A B : Prop} (a b : Nat) (h : a ≤ b) (q : A) (hx : x = nI a := by rfl) (hy : y = nI b := by rfl) (ha : a < 2 ^ 31 := by omega) (hb : b < 2 ^ 31 := by omega) : (x ≤ y → A) ∧ (¬ x ≤ y → B) := by
  subst hx hy
  exact br_t ((nI_leI ha hb).mpr h) q
theorem rk_leF {x y : Int32} {A B : Prop} (a b : Nat) (h : b < a) (q : B) (hx : x = nI a := by rfl) (hy : y = nI b := by rfl) (ha : a < 2 ^ 31 := by omega) (hb : b < 2 ^ 31 := by omega) : (x ≤ y → A) ∧ (¬ x ≤ y → B) := by
  subst hx hy
  exact br_f (fun z => absurd ((nI_leI ha hb).mp z) (by omega)) q
theorem rk_ltT {x y : Int32} {A B : Prop} (a b : Nat) (h : a < b) (q : A) (hx : x = nI a := by rfl) (hy : y = nI b := by rfl) (ha : a < 2 ^ 31 := by omega) (hb : b < 2 ^ 31 := by omega) : (x < y → A) ∧ (¬ x < y → B) := by
  subst hx hy
  exact br_t ((nI_ltI ha hb).mpr h) q
theorem rk_ltF {x y : Int32} {A B : Prop} (a b : Nat) (h : b ≤ a) (q : B) (hx : x = nI a := by rfl) (hy : y = nI b := by rfl) (ha : a < 2 ^ 31 := by omega) (hb : b < 2 ^ 31 := by omega) : (x < y → A) ∧ (¬ x < y → B) := by
  subst hx hy
  exact br_f (fun z => absurd ((nI_ltI ha hb).mp z) (by omega)) q
theorem rk_eqT {x y : Int32} {A B : Prop} (a b : Nat) (h : a = b) (q : A) (hx : x = nI a := by rfl) (hy : y = nI b := by rfl) : (x = y → A) ∧ (¬ x = y → B) := by
  subst hx hy h
  exact br_t rfl q
theorem rk_eqF {x y : Int32} {A B : Prop} (a b : Nat) (h : a ≠ b) (q : B) (hx : x = nI a := by rfl) (hy : y = nI b := by rfl) (ha : a < 2 ^ 31 := by omega) (hb : b < 2 ^ 31 := by omega) : (x = y → A) ∧ (¬ x = y → B) := by
  subst hx hy
  exact br_f (fun z => absurd ((nI_eq ha hb).mp z) h) q

/-! is it a key, a lease, a watch -/
theorem rk_xk_g {post : Int32 → Prop} {j : Nat} (h : j < 16) (p : post 1) : wpX_isKey post (nI j) :=
  br_f (nI_pos (by omega)) (rk_leF 16 j h p)
theorem rk_xk_b {post : Int32 → Prop} {x : Int32} (h : x < 0 ∨ nI 16 ≤ x) (p : post 0) : wpX_isKey post x := by
  rcases h with h | h
  · exact br_t h p
  · exact br_c (fun _ => p) (fun _ => br_t h p)
theorem rk_xl_g {post : Int32 → Prop} {j : Nat} (h : j < 6) (p : post 1) : wpX_isLease post (nI j) :=
  br_f (nI_pos (by omega)) (rk_leF 6 j h p)
theorem rk_xl_b {post : Int32 → Prop} {x : Int32} (h : x < 0 ∨ nI 6 ≤ x) (p : post 0) : wpX_isLease post x := by
  rcases h with h | h
  · exact br_t h p
  · exact br_c (fun _ => p) (fun _ => br_t h p)
theorem rk_xw_g {post : Int32 → Prop} {j : Nat} (h : j < 4) (p : post 1) : wpX_isWatch post (nI j) :=
  br_f (nI_pos (by omega)) (rk_leF 4 j h p)
theorem rk_xw_b {post : Int32 → Prop} {x : Int32} (h : x < 0 ∨ nI 4 ≤ x) (p : post 0) : wpX_isWatch post x := by
  rcases h with h | h
  · exact br_t h p
  · exact br_c (fun _ => p) (fun _ => br_t h p)
theorem rk_xr_g {post : Int32 → Prop} {i j : Nat} (hi : i < 16) (hj : j < 16) (p : post 1) : wpX_isRange post (nI i) (nI j) :=
  rk_xk_g hi (br_f (by decide) (rk_xk_g hj (br_f (by decide) p)))
theorem rk_xr_b1 {post : Int32 → Prop} {x y : Int32} (h : x < 0 ∨ nI 16 ≤ x) (p : post 0) : wpX_isRange post x y :=
  rk_xk_b h (br_t rfl p)
theorem rk_xr_b2 {post : Int32 → Prop} {i : Nat} {y : Int32} (hi : i < 16) (h : y < 0 ∨ nI 16 ≤ y) (p : post 0) : wpX_isRange post (nI i) y :=
  rk_xk_g hi (br_f (by decide) (rk_xk_b h (br_t rfl p)))

/-! the class's stores -/
theorem rk_x_rem {post : SX → Prop} {rev f ch : Nat} {tm : Int32} {ke km ks kv kl ef vf R K P V lo ll le ws wf wl pr pk hA hK hP hV : Nat → Int32} {k p x : Int32} (hc : ch < 116) (hp : p = 0 ∨ p = 1)
    (h : post ((nI rev), (nI f), tm, (nI (ch + 1)), ke, km, ks, kv, kl, ef, vf, upd R ch (nI rev), upd K ch k, upd P ch p, upd V ch x, lo, ll, le, ws, wf, wl, pr, pk, hA, hK, hP, hV)) : wpX_remember post ((nI rev), (nI f), tm, (nI ch), ke, km, ks, kv, kl, ef, vf, R, K, P, V, lo, ll, le, ws, wf, wl, pr, pk, hA, hK, hP, hV) k p x := by
  have hi : vp_in (nI ch) 116 := vp_in_nI hc (by decide)
  have e : (nI ch).toNatClampNeg = ch := nI_clamp (by omega)
  exact rk_ltT ch 116 hc ⟨hi, nm_r (by rw [e]) ⟨hi, nm_r (by rw [e]) ⟨hi, nm_r (by rw [e, rk_vb hp]) ⟨hi, nm_r (by rw [e]) (nm_r (nI_1 ch) h)⟩⟩⟩⟩
theorem rk_x_wp36 {post : SX → Prop} {rev f ch : Nat} {tm : Int32} {ke km ks kv kl ef vf R K P V lo ll le ws wf wl pr pk hA hK hP hV : Nat → Int32} {k : Nat} {x l : Int32} (hk : k < 16) (hc : ch < 116)
    (h : post ((nI rev), (nI f), tm, (nI (ch + 1)), ke, km, upd ks k (nI rev), upd kv k (kv k + 1), upd kl k l, ef, vf, upd R ch (nI rev), upd K ch (nI k), upd P ch 1, upd V ch x, lo, ll, le, ws, wf, wl, pr, pk, hA, hK, hP, hV)) : wX_writePut_36 post (nI k) x l (nI rev) (nI f) tm (nI ch) ke km ks kv kl ef vf R K P V lo ll le ws wf wl pr pk hA hK hP hV := by
  have hi : vp_in (nI k) 16 := vp_in_nI hk (by decide)
  have e : (nI k).toNatClampNeg = k := nI_clamp (by omega)
  exact ⟨hi, nm_r (by rw [e]) ⟨hi, hi, nm_r (by rw [e]) ⟨hi, nm_r (by rw [e]) (rk_x_rem hc (Or.inr rfl) h)⟩⟩⟩
theorem rk_x_wp {post : SX → Prop} {rev f ch : Nat} {tm : Int32} {ke km ks kv kl ef vf R K P V lo ll le ws wf wl pr pk hA hK hP hV : Nat → Int32} {k : Nat} {x l : Int32} (hk : k < 16) (hc : ch < 116) (hb : ke k = 0 ∨ ke k = 1)
    (h : post ((nI (rev + 1)), (nI f), tm, (nI (ch + 1)), upd ke k 1, upd km k (if ke k = 0 then nI (rev + 1) else km k), upd ks k (nI (rev + 1)), upd kv k (kv k + 1), upd kl k l, ef, vf, upd R ch (nI (rev + 1)), upd K ch (nI k), upd P ch 1, upd V ch x, lo, ll, le, ws, wf, wl, pr, pk, hA, hK, hP, hV)) : wpX_writePut post ((nI rev), (nI f), tm, (nI ch), ke, km, ks, kv, kl, ef, vf, R, K, P, V, lo, ll, le, ws, wf, wl, pr, pk, hA, hK, hP, hV) (nI k) x l := by
  have hi : vp_in (nI k) 16 := vp_in_nI hk (by decide)
  have e : (nI k).toNatClampNeg = k := nI_clamp (by omega)
  refine nm_r (nI_1 rev) ⟨hi, ?_⟩
  by_cases z : ke k = 0
  · rw [if_pos z] at h
    exact br_t (by rw [e]; exact z) ⟨hi, nm_r (by rw [e, rk_vb1]) ⟨hi, nm_r (by rw [e]) (rk_x_wp36 hk hc h)⟩⟩
  · rw [if_neg z, rk_uu, rk_uv (hb.resolve_left z)] at h
    exact br_f (by rw [e]; exact z) (rk_x_wp36 hk hc h)
theorem rk_x_ek {post : SX → Prop} {rev f ch : Nat} {tm : Int32} {ke km ks kv kl ef vf R K P V lo ll le ws wf wl pr pk hA hK hP hV : Nat → Int32} {k : Nat} (hk : k < 16) (hc : ch < 116)
    (h : post ((nI rev), (nI f), tm, (nI (ch + 1)), upd ke k 0, km, upd ks k 0, upd kv k 0, upd kl k (-1), ef, vf, upd R ch (nI rev), upd K ch (nI k), upd P ch 0, upd V ch 0, lo, ll, le, ws, wf, wl, pr, pk, hA, hK, hP, hV)) : wpX_eraseKey post ((nI rev), (nI f), tm, (nI ch), ke, km, ks, kv, kl, ef, vf, R, K, P, V, lo, ll, le, ws, wf, wl, pr, pk, hA, hK, hP, hV) (nI k) := by
  have hi : vp_in (nI k) 16 := vp_in_nI hk (by decide)
  have e : (nI k).toNatClampNeg = k := nI_clamp (by omega)
  exact ⟨hi, nm_r (by rw [e, rk_vb0]) ⟨hi, nm_r (by rw [e]) ⟨hi, nm_r (by rw [e]) ⟨hi, nm_r (by rw [e]) (rk_x_rem hc (Or.inl rfl) h)⟩⟩⟩⟩
theorem rk_x_ho {post : SX → Prop} {rev f ch : Nat} {tm : Int32} {ke km ks kv kl ef vf R K P V lo ll le ws wf wl pr pk hA hK hP hV : Nat → Int32} {w i : Nat} (hw : w < 4) (hi : i < 116) (hp : rk_bo P)
    (h : post ((nI rev), (nI f), tm, (nI ch), ke, km, ks, kv, kl, ef, vf, R, K, P, V, lo, ll, le, ws, wf, wl, upd pr w (R i), upd pk w (K i + 1), upd hA w 1, upd hK w (K i), upd hP w (P i), upd hV w (V i))) : wpX_handOut post ((nI rev), (nI f), tm, (nI ch), ke, km, ks, kv, kl, ef, vf, R, K, P, V, lo, ll, le, ws, wf, wl, pr, pk, hA, hK, hP, hV) (nI w) (nI i) := by
  have vw : vp_in (nI w) 4 := vp_in_nI hw (by decide)
  have vi : vp_in (nI i) 116 := vp_in_nI hi (by decide)
  have ew : (nI w).toNatClampNeg = w := nI_clamp (by omega)
  have ei : (nI i).toNatClampNeg = i := nI_clamp (by omega)
  exact ⟨vi, vw, nm_r (by rw [ew, ei]) ⟨vi, vw, nm_r (by rw [ew, ei]) ⟨vw, nm_r (by rw [ew, rk_vb1]) ⟨vi, vw, nm_r (by rw [ew, ei]) ⟨vi, vw, nm_r (by rw [ew, ei, rk_vb (hp i)]) ⟨vi, vw, nm_r (by rw [ew, ei]) h⟩⟩⟩⟩⟩⟩

/-! the class's counts -/
theorem rk_x_ce {post : Int32 → Prop} {rev f ch : Nat} {tm : Int32} {ke km ks kv kl ef vf R K P V lo ll le ws wf wl pr pk hA hK hP hV : Nat → Int32} (S : Nat → Bool) {a b : Nat} (hb : b < 16) (hlo : ∀ i, i < a → S i = false) (hhi : ∀ i, b < i → S i = false) (hS : ∀ i, a ≤ i → i ≤ b → (S i = true ↔ ke i ≠ 0)) (ha : a < 16)
    (h : post (nI (rk_ns S 16))) : wpX_countExisting post ((nI rev), (nI f), tm, (nI ch), ke, km, ks, kv, kl, ef, vf, R, K, P, V, lo, ll, le, ws, wf, wl, pr, pk, hA, hK, hP, hV) (nI a) (nI b) := by
  have key : ∀ d n j, a ≤ j → j + d = b + 1 → d < n → wX_countExisting_5 post (nI b) (nI rev) (nI f) tm (nI ch) ke km ks kv kl ef vf R K P V lo ll le ws wf wl pr pk hA hK hP hV n (nI (rk_ns S j)) (nI j) := by
    intro d
    induction d with
    | zero =>
      intro n j h1 h2 h3
      obtain ⟨n, rfl⟩ : ∃ m, n = m + 1 := ⟨n - 1, by omega⟩
      refine rk_ltT b j (by omega) ?_
      have e := rk_ns_e (S := S) j (16 - j) (fun i z1 z2 => hhi i (by omega))
      rw [show j + (16 - j) = 16 by omega] at e
      rw [← e]; exact h
    | succ d ih =>
      intro n j h1 h2 h3
      obtain ⟨n, rfl⟩ : ∃ m, n = m + 1 := ⟨n - 1, by omega⟩
      have e : (nI j).toNatClampNeg = j := nI_clamp (by omega)
      refine rk_ltF b j (by omega) ⟨vp_in_nI (by omega) (by decide), ?_⟩
      have ih := ih n (j + 1) (by omega) (by omega) (by omega)
      have hs := hS j h1 (by omega)
      rw [e]
      by_cases z : ke j = 0
      · rw [rk_ns_f (fun y => (hs.mp y) z)] at ih
        exact br_t z (nm_r (nI_1 j) ih)
      · rw [rk_ns_t (hs.mpr z)] at ih
        exact br_f z (nm_r (nI_1 _) (nm_r (nI_1 j) ih))
  by_cases z : a ≤ b
  · have := key (b + 1 - a) (b + 2) a (Nat.le_refl a) (by omega) (by omega)
    rw [rk_ns_z a hlo] at this
    exact ⟨b + 2, this⟩
  · rw [rk_ns_z 16 (fun i _ => by
      by_cases y : i < a
      · exact hlo i y
      · exact hhi i (by omega))] at h
    exact ⟨1, rk_ltT b a (by omega) h⟩
theorem rk_x_cu {post : Int32 → Prop} {rev f ch : Nat} {tm : Int32} {ke km ks kv kl ef vf R K P V lo ll le ws wf wl pr pk hA hK hP hV : Nat → Int32} (S : Nat → Bool) {l : Int32} (hS : ∀ i, i < 16 → (S i = true ↔ kl i = l))
    (h : post (nI (rk_ns S 16))) : wpX_countUnder post ((nI rev), (nI f), tm, (nI ch), ke, km, ks, kv, kl, ef, vf, R, K, P, V, lo, ll, le, ws, wf, wl, pr, pk, hA, hK, hP, hV) l := by
  have key : ∀ d n j, j + d = 16 → d < n → wX_countUnder_4 post l (nI rev) (nI f) tm (nI ch) ke km ks kv kl ef vf R K P V lo ll le ws wf wl pr pk hA hK hP hV n (nI (rk_ns S j)) (nI j) := by
    intro d
    induction d with
    | zero =>
      intro n j h2 h3
      obtain ⟨n, rfl⟩ : ∃ m, n = m + 1 := ⟨n - 1, by omega⟩
      obtain rfl : j = 16 := by omega
      exact rk_leT 16 16 (by omega) h
    | succ d ih =>
      intro n j h2 h3
      obtain ⟨n, rfl⟩ : ∃ m, n = m + 1 := ⟨n - 1, by omega⟩
      have e : (nI j).toNatClampNeg = j := nI_clamp (by omega)
      refine rk_leF 16 j (by omega) ⟨vp_in_nI (by omega) (by decide), ?_⟩
      have ih := ih n (j + 1) (by omega) (by omega)
      have hs := hS j (by omega)
      rw [e]
      by_cases z : kl j = l
      · rw [rk_ns_t (hs.mpr z)] at ih
        exact br_t z (nm_r (nI_1 _) (nm_r (nI_1 j) ih))
      · rw [rk_ns_f (fun y => z (hs.mp y))] at ih
        exact br_f z (nm_r (nI_1 j) ih)
  exact ⟨17, key 16 17 0 rfl (by omega)⟩
theorem rk_x_cc {post : Int32 → Prop} {rev f ch : Nat} {tm : Int32} {ke km ks kv kl ef vf R K P V lo ll le ws wf wl pr pk hA hK hP hV : Nat → Int32} {g : Nat} {r : Int32} (hg : g ≤ ch) (hc : ch ≤ 116) (h1 : ∀ i, i < g → (R i).toInt ≤ r.toInt) (h2 : ∀ i, g ≤ i → i < ch → r.toInt < (R i).toInt)
    (h : post (nI g)) : wpX_countChangesUpTo post ((nI rev), (nI f), tm, (nI ch), ke, km, ks, kv, kl, ef, vf, R, K, P, V, lo, ll, le, ws, wf, wl, pr, pk, hA, hK, hP, hV) r := by
  have key : ∀ d n j c, j + d = ch → d < n → c = (if j < g then j else g) → wX_countChangesUpTo_4 post r (nI rev) (nI f) tm (nI ch) ke km ks kv kl ef vf R K P V lo ll le ws wf wl pr pk hA hK hP hV n (nI c) (nI j) := by
    intro d
    induction d with
    | zero =>
      intro n j c h2 h3 hcc
      obtain ⟨n, rfl⟩ : ∃ m, n = m + 1 := ⟨n - 1, by omega⟩
      obtain rfl : j = ch := by omega
      rw [if_neg (by omega)] at hcc
      subst hcc
      exact rk_leT j j (by omega) h
    | succ d ih =>
      intro n j c h4 h3 hcc
      obtain ⟨n, rfl⟩ : ∃ m, n = m + 1 := ⟨n - 1, by omega⟩
      have e : (nI j).toNatClampNeg = j := nI_clamp (by omega)
      refine rk_leF ch j (by omega) ⟨vp_in_nI (by omega) (by decide), ?_⟩
      rw [e]
      by_cases z : j < g
      · rw [if_pos z] at hcc
        subst hcc
        have := h1 c z
        exact br_f (by rw [rk_lt]; omega) (nm_r (nI_1 c) (nm_r (nI_1 c) (ih n (c + 1) (c + 1) (by omega) (by omega) (by split <;> omega))))
      · rw [if_neg z] at hcc
        subst hcc
        have := h2 j (by omega) (by omega)
        exact br_t (by rw [rk_lt]; omega) (nm_r (nI_1 j) (ih n (j + 1) c (by omega) (by omega) (by split <;> omega)))
  exact ⟨ch + 1, key ch (ch + 1) 0 0 (by omega) (by omega) (by split <;> omega)⟩
end
end
section
section
/-! the class erases: the keys of S, in rising order -/
theorem rk_x_er {post : Int32 → SX → Prop} {rev f ch : Nat} {tm : Int32} {ke km ks kv kl ef vf R K P V lo ll le ws wf wl pr pk hA hK hP hV : Nat → Int32} (S : Nat → Bool) {a b : Nat} {c : Int32} (ha : a < 16) (hb : b < 16) (hlo : ∀ i, i < a → S i = false) (hhi : ∀ i, b < i → S i = false) (hS : ∀ i, a ≤ i → i ≤ b → (S i = true ↔ ke i ≠ 0)) (hc : ch + rk_ns S 16 ≤ 116)
    (h : post c ((nI rev), (nI f), tm, (nI (ch + rk_ns S 16)), (rk_ga S (fun i => i) (fun _ => 0) ke 16), km, (rk_ga S (fun i => i) (fun _ => 0) ks 16), (rk_ga S (fun i => i) (fun _ => 0) kv 16), (rk_ga S (fun i => i) (fun _ => -1) kl 16), ef, vf, (rk_ga S (fun i => ch + rk_ns S i) (fun _ => nI rev) R 16), (rk_ga S (fun i => ch + rk_ns S i) (fun i => nI i) K 16), (rk_ga S (fun i => ch + rk_ns S i) (fun _ => 0) P 16), (rk_ga S (fun i => ch + rk_ns S i) (fun _ => 0) V 16), lo, ll, le, ws, wf, wl, pr, pk, hA, hK, hP, hV)) : ∃ n, wX_erase_52 post (nI b) c n (nI a) (nI rev) (nI f) tm (nI ch) ke km ks kv kl ef vf R K P V lo ll le ws wf wl pr pk hA hK hP hV := by
  have key : ∀ d n j, a ≤ j → j + d = b + 1 → d < n → wX_erase_52 post (nI b) c n (nI j) (nI rev) (nI f) tm (nI (ch + rk_ns S j)) (rk_ga S (fun i => i) (fun _ => 0) ke j) km (rk_ga S (fun i => i) (fun _ => 0) ks j) (rk_ga S (fun i => i) (fun _ => 0) kv j) (rk_ga S (fun i => i) (fun _ => -1) kl j) ef vf (rk_ga S (fun i => ch + rk_ns S i) (fun _ => nI rev) R j) (rk_ga S (fun i => ch + rk_ns S i) (fun i => nI i) K j) (rk_ga S (fun i => ch + rk_ns S i) (fun _ => 0) P j) (rk_ga S (fun i => ch + rk_ns S i) (fun _ => 0) V j) lo ll le ws wf wl pr pk hA hK hP hV := by
    intro d
    induction d with
    | zero =>
      intro n j h1 h2 h3
      obtain ⟨n, rfl⟩ : ∃ m, n = m + 1 := ⟨n - 1, by omega⟩
      refine rk_ltT b j (by omega) ?_
      have hj : ∀ i, j ≤ i → i < j + (16 - j) → S i = false := fun i z1 z2 => hhi i (by omega)
      rw [show (16 : Nat) = j + (16 - j) by omega] at h
      simp only [rk_ns_e j (16 - j) hj, rk_ga_hi j (16 - j) hj] at h
      exact h
    | succ d ih =>
      intro n j h1 h2 h3
      obtain ⟨n, rfl⟩ : ∃ m, n = m + 1 := ⟨n - 1, by omega⟩
      have e : (nI j).toNatClampNeg = j := nI_clamp (by omega)
      refine rk_ltF b j (by omega) ⟨vp_in_nI (by omega) (by decide), ?_⟩
      have ih := ih n (j + 1) (by omega) (by omega) (by omega)
      have hs := hS j h1 (by omega)
      have ek : rk_ga S (fun i => i) (fun _ => 0) ke j j = ke j := by rw [rk_ga_id, if_neg (by omega)]
      rw [e, ek]
      by_cases z : ke j = 0
      · have hn : ¬ S j = true := fun y => (hs.mp y) z
        simp only [rk_ga_f hn, rk_ns_f hn] at ih
        exact br_t z (nm_r (nI_1 j) ih)
      · have hn : S j = true := hs.mpr z
        simp only [rk_ga_t hn, rk_ns_t hn] at ih
        have hm := rk_ns_m S (j + 1) (16 - (j + 1))
        rw [rk_ns_t hn, show j + 1 + (16 - (j + 1)) = 16 by omega] at hm
        exact br_f z (rk_x_ek (by omega) (by omega) (nm_r (nI_1 j) ih))
  by_cases z : a ≤ b
  · have := key (b + 1 - a) (b + 2) a (Nat.le_refl a) (by omega) (by omega)
    simp only [rk_ns_z a hlo, rk_ga_lo a hlo] at this
    exact ⟨b + 2, this⟩
  · have hz : ∀ i, i < 16 → S i = false := fun i _ => by
      by_cases y : i < a
      · exact hlo i y
      · exact hhi i (by omega)
    simp only [rk_ns_z 16 hz, rk_ga_lo 16 hz] at h
    exact ⟨1, rk_ltT b a (by omega) h⟩
theorem rk_x_el29 {post : Int32 → SX → Prop} {rev f ch : Nat} {tm : Int32} {ke km ks kv kl ef vf R K P V lo ll le ws wf wl pr pk hA hK hP hV : Nat → Int32} (S : Nat → Bool) {l c : Int32} (hS : ∀ i, i < 16 → (S i = true ↔ kl i = l)) (hc : ch + rk_ns S 16 ≤ 116)
    (h : post c ((nI rev), (nI f), tm, (nI (ch + rk_ns S 16)), (rk_ga S (fun i => i) (fun _ => 0) ke 16), km, (rk_ga S (fun i => i) (fun _ => 0) ks 16), (rk_ga S (fun i => i) (fun _ => 0) kv 16), (rk_ga S (fun i => i) (fun _ => -1) kl 16), ef, vf, (rk_ga S (fun i => ch + rk_ns S i) (fun _ => nI rev) R 16), (rk_ga S (fun i => ch + rk_ns S i) (fun i => nI i) K 16), (rk_ga S (fun i => ch + rk_ns S i) (fun _ => 0) P 16), (rk_ga S (fun i => ch + rk_ns S i) (fun _ => 0) V 16), lo, ll, le, ws, wf, wl, pr, pk, hA, hK, hP, hV)) : ∃ n, wX_endLease_29 post l c n 0 (nI rev) (nI f) tm (nI ch) ke km ks kv kl ef vf R K P V lo ll le ws wf wl pr pk hA hK hP hV := by
  have key : ∀ d n j, j + d = 16 → d < n → wX_endLease_29 post l c n (nI j) (nI rev) (nI f) tm (nI (ch + rk_ns S j)) (rk_ga S (fun i => i) (fun _ => 0) ke j) km (rk_ga S (fun i => i) (fun _ => 0) ks j) (rk_ga S (fun i => i) (fun _ => 0) kv j) (rk_ga S (fun i => i) (fun _ => -1) kl j) ef vf (rk_ga S (fun i => ch + rk_ns S i) (fun _ => nI rev) R j) (rk_ga S (fun i => ch + rk_ns S i) (fun i => nI i) K j) (rk_ga S (fun i => ch + rk_ns S i) (fun _ => 0) P j) (rk_ga S (fun i => ch + rk_ns S i) (fun _ => 0) V j) lo ll le ws wf wl pr pk hA hK hP hV := by
    intro d
    induction d with
    | zero =>
      intro n j h2 h3
      obtain ⟨n, rfl⟩ : ∃ m, n = m + 1 := ⟨n - 1, by omega⟩
      obtain rfl : j = 16 := by omega
      exact rk_leT 16 16 (by omega) h
    | succ d ih =>
      intro n j h2 h3
      obtain ⟨n, rfl⟩ : ∃ m, n = m + 1 := ⟨n - 1, by omega⟩
      have e : (nI j).toNatClampNeg = j := nI_clamp (by omega)
      refine rk_leF 16 j (by omega) ⟨vp_in_nI (by omega) (by decide), ?_⟩
      have ih := ih n (j + 1) (by omega) (by omega)
      have hs := hS j (by omega)
      have ek : rk_ga S (fun i => i) (fun _ => -1) kl j j = kl j := by rw [rk_ga_id, if_neg (by omega)]
      rw [e, ek]
      by_cases z : kl j = l
      · have hn : S j = true := hs.mpr z
        simp only [rk_ga_t hn, rk_ns_t hn] at ih
        have hm := rk_ns_m S (j + 1) (16 - (j + 1))
        rw [rk_ns_t hn, show j + 1 + (16 - (j + 1)) = 16 by omega] at hm
        exact br_t z (rk_x_ek (by omega) (by omega) (nm_r (nI_1 j) ih))
      · have hn : ¬ S j = true := fun y => z (hs.mp y)
        simp only [rk_ga_f hn, rk_ns_f hn] at ih
        exact br_f z (nm_r (nI_1 j) ih)
  exact ⟨17, key 16 17 0 rfl (by omega)⟩
theorem rk_x_el0 {post : Int32 → SX → Prop} {rev f ch : Nat} {tm : Int32} {ke km ks kv kl ef vf R K P V lo ll le ws wf wl pr pk hA hK hP hV : Nat → Int32} (S : Nat → Bool) {l : Nat} (hl : l < 6) (hS : ∀ i, i < 16 → (S i = true ↔ kl i = nI l)) (hc : ch ≤ 116) (h0 : rk_ns S 16 = 0)
    (h : post 0 ((nI rev), (nI f), tm, (nI ch), ke, km, ks, kv, kl, ef, vf, R, K, P, V, upd lo l 0, ll, le, ws, wf, wl, pr, pk, hA, hK, hP, hV)) : wpX_endLease post ((nI rev), (nI f), tm, (nI ch), ke, km, ks, kv, kl, ef, vf, R, K, P, V, lo, ll, le, ws, wf, wl, pr, pk, hA, hK, hP, hV) (nI l) := by
  have e : (nI l).toNatClampNeg = l := nI_clamp (by omega)
  have hz : ∀ i, i < 16 → S i = false := fun i hi => by
    cases y : S i with
    | false => rfl
    | true =>
      have := rk_ns_q hi y
      omega
  refine ⟨vp_in_nI hl (by decide), nm_r (e' := upd lo l 0) (by rw [e, rk_vb0]) (rk_x_cu S hS ?_)⟩
  rw [h0]
  refine br_t (by decide) (rk_x_el29 S hS (by omega) ?_)
  simp only [rk_ns_z 16 hz, rk_ga_lo 16 hz]
  exact h
theorem rk_x_el1 {post : Int32 → SX → Prop} {rev f ch : Nat} {tm : Int32} {ke km ks kv kl ef vf R K P V lo ll le ws wf wl pr pk hA hK hP hV : Nat → Int32} (S : Nat → Bool) {l : Nat} (hl : l < 6) (hS : ∀ i, i < 16 → (S i = true ↔ kl i = nI l)) (hc : ch + rk_ns S 16 ≤ 116) (h0 : 0 < rk_ns S 16)
    (h : post (nI (rk_ns S 16)) ((nI (rev + 1)), (nI f), tm, (nI (ch + rk_ns S 16)), (rk_ga S (fun i => i) (fun _ => 0) ke 16), km, (rk_ga S (fun i => i) (fun _ => 0) ks 16), (rk_ga S (fun i => i) (fun _ => 0) kv 16), (rk_ga S (fun i => i) (fun _ => -1) kl 16), ef, vf, (rk_ga S (fun i => ch + rk_ns S i) (fun _ => nI (rev + 1)) R 16), (rk_ga S (fun i => ch + rk_ns S i) (fun i => nI i) K 16), (rk_ga S (fun i => ch + rk_ns S i) (fun _ => 0) P 16), (rk_ga S (fun i => ch + rk_ns S i) (fun _ => 0) V 16), upd lo l 0, ll, le, ws, wf, wl, pr, pk, hA, hK, hP, hV)) : wpX_endLease post ((nI rev), (nI f), tm, (nI ch), ke, km, ks, kv, kl, ef, vf, R, K, P, V, lo, ll, le, ws, wf, wl, pr, pk, hA, hK, hP, hV) (nI l) := by
  have e : (nI l).toNatClampNeg = l := nI_clamp (by omega)
  have hn := rk_ns_le S 16
  exact ⟨vp_in_nI hl (by decide), nm_r (e' := upd lo l 0) (by rw [e, rk_vb0]) (rk_x_cu S hS (br_f (nI_nle h0 (by omega)) (nm_r (nI_1 rev) (rk_x_el29 S hS hc h))))⟩

/-! the class looks a revision up -/
theorem rk_x_lc {post : Int32 → Prop} {rev f ch : Nat} {tm : Int32} {ke km ks kv kl ef vf R K P V lo ll le ws wf wl pr pk hA hK hP hV : Nat → Int32} {k : Nat} {r e1 e2 : Int32} (hc : ch ≤ 116)
    (h : ∀ i : Int32, ((i = -1 ∧ rk_fe K R P r.toInt k e1 ch = e1 ∧ rk_fe K R V r.toInt k e2 ch = e2) ∨ ∃ m, m < 116 ∧ i = nI m ∧ rk_fe K R P r.toInt k e1 ch = P m ∧ rk_fe K R V r.toInt k e2 ch = V m) → post i) : wpX_lastChangeOf post ((nI rev), (nI f), tm, (nI ch), ke, km, ks, kv, kl, ef, vf, R, K, P, V, lo, ll, le, ws, wf, wl, pr, pk, hA, hK, hP, hV) (nI k) r := by
  have key : ∀ d n j i, j + d = ch → d < n → ((i = -1 ∧ rk_fe K R P r.toInt k e1 j = e1 ∧ rk_fe K R V r.toInt k e2 j = e2) ∨ ∃ m, m < 116 ∧ i = nI m ∧ rk_fe K R P r.toInt k e1 j = P m ∧ rk_fe K R V r.toInt k e2 j = V m) → wX_lastChangeOf_5 post (nI k) r (nI rev) (nI f) tm (nI ch) ke km ks kv kl ef vf R K P V lo ll le ws wf wl pr pk hA hK hP hV n i (nI j) := by
    intro d
    induction d with
    | zero =>
      intro n j i h2 h3 hq
      obtain ⟨n, rfl⟩ : ∃ m, n = m + 1 := ⟨n - 1, by omega⟩
      obtain rfl : j = ch := by omega
      exact rk_leT j j (by omega) (h i hq)
    | succ d ih =>
      intro n j i h2 h3 hq
      obtain ⟨n, rfl⟩ : ∃ m, n = m + 1 := ⟨n - 1, by omega⟩
      have e : (nI j).toNatClampNeg = j := nI_clamp (by omega)
      refine rk_leF ch j (by omega) ⟨vp_in_nI (by omega) (by decide), ?_⟩
      have ih := fun i => ih n (j + 1) i (by omega) (by omega)
      rw [e]
      simp only [rk_fe_s] at ih
      by_cases z : K j = nI k
      · refine br_t z ⟨vp_in_nI (by omega) (by decide), ?_⟩
        by_cases y : r < R j
        · have y' : ¬ (K j = nI k ∧ (R j).toInt ≤ r.toInt) := by
            intro w
            have := w.2
            rw [rk_lt] at y
            omega
          simp only [if_neg y'] at ih
          exact br_t y (nm_r (nI_1 j) (ih i hq))
        · have y' : K j = nI k ∧ (R j).toInt ≤ r.toInt := by
            rw [rk_lt] at y
            exact ⟨z, by omega⟩
          simp only [if_pos y'] at ih
          exact br_f y (nm_r (nI_1 j) (ih (nI j) (Or.inr ⟨j, by omega, rfl, rfl, rfl⟩)))
      · have y' : ¬ (K j = nI k ∧ (R j).toInt ≤ r.toInt) := fun w => z w.1
        simp only [if_neg y'] at ih
        exact br_f z (nm_r (nI_1 j) (ih i hq))
  exact ⟨ch + 1, key ch (ch + 1) 0 (-1) (by omega) (by omega) (Or.inl ⟨rfl, rfl, rfl⟩)⟩
theorem rk_ne1 {a : Nat} (h : a < 2 ^ 31) : ¬ nI a = -1 := by
  intro e
  have := nI_pos (n := a) h
  rw [e] at this
  exact this (by decide)
theorem rk_x_ea {post : Int32 → Prop} {rev f ch : Nat} {tm : Int32} {ke km ks kv kl ef vf R K P V lo ll le ws wf wl pr pk hA hK hP hV : Nat → Int32} {k : Nat} {r : Int32} (hc : ch ≤ 116) (hk : k < 16) (hp : rk_bo P) (he : rk_bo ef)
    (h : post (rk_fe K R P r.toInt k (ef k) ch)) : wpX_existedAt post ((nI rev), (nI f), tm, (nI ch), ke, km, ks, kv, kl, ef, vf, R, K, P, V, lo, ll, le, ws, wf, wl, pr, pk, hA, hK, hP, hV) (nI k) r := by
  have e : (nI k).toNatClampNeg = k := nI_clamp (by omega)
  refine rk_x_lc (e1 := ef k) (e2 := 0) hc ?_
  intro i hi
  rcases hi with ⟨rfl, h1, _⟩ | ⟨m, hm, rfl, h1, _⟩
  · rw [h1] at h
    refine br_t rfl ⟨vp_in_nI hk (by decide), ?_⟩
    rw [e]
    exact ⟨rk_nb (he k), h⟩
  · rw [h1] at h
    refine br_f (rk_ne1 (by omega)) ⟨vp_in_nI hm (by decide), ?_⟩
    rw [nI_clamp (by omega)]
    exact ⟨rk_nb (hp m), h⟩
theorem rk_x_va {post : Int32 → Prop} {rev f ch : Nat} {tm : Int32} {ke km ks kv kl ef vf R K P V lo ll le ws wf wl pr pk hA hK hP hV : Nat → Int32} {k : Nat} {r : Int32} (hc : ch ≤ 116) (hk : k < 16)
    (h : post (rk_fe K R V r.toInt k (vf k) ch)) : wpX_valueAt post ((nI rev), (nI f), tm, (nI ch), ke, km, ks, kv, kl, ef, vf, R, K, P, V, lo, ll, le, ws, wf, wl, pr, pk, hA, hK, hP, hV) (nI k) r := by
  have e : (nI k).toNatClampNeg = k := nI_clamp (by omega)
  refine rk_x_lc (e1 := 0) (e2 := vf k) hc ?_
  intro i hi
  rcases hi with ⟨rfl, _, h1⟩ | ⟨m, hm, rfl, _, h1⟩
  · rw [h1] at h
    refine br_t rfl ⟨vp_in_nI hk (by decide), ?_⟩
    rw [e]
    exact h
  · rw [h1] at h
    refine br_f (rk_ne1 (by omega)) ⟨vp_in_nI hm (by decide), ?_⟩
    rw [nI_clamp (by omega)]
    exact h

/-! the class's watches -/
def rk_wq (R K wf wl pr pk : Nat → Int32) (w : Nat) : Nat → Bool := fun i =>
  decide (¬ K i < wf w ∧ K i ≤ wl w ∧ ((R i = pr w ∧ ¬ K i < pk w) ∨ (¬ R i = pr w ∧ ¬ R i ≤ pr w)))
theorem rk_x_st {post : Int32 → Prop} {rev f ch : Nat} {tm : Int32} {ke km ks kv kl ef vf R K P V lo ll le ws wf wl pr pk hA hK hP hV : Nat → Int32} {w i : Nat} (hw : w < 4) (hi : i < 116) (h1 : rk_wq R K wf wl pr pk w i = true → post 1) (h0 : ¬ rk_wq R K wf wl pr pk w i = true → post 0) : wpX_isStillToHandOut post ((nI rev), (nI f), tm, (nI ch), ke, km, ks, kv, kl, ef, vf, R, K, P, V, lo, ll, le, ws, wf, wl, pr, pk, hA, hK, hP, hV) (nI w) (nI i) := by
  have vw : vp_in (nI w) 4 := vp_in_nI hw (by decide)
  have vi : vp_in (nI i) 116 := vp_in_nI hi (by decide)
  have ew : (nI w).toNatClampNeg = w := nI_clamp (by omega)
  have ei : (nI i).toNatClampNeg = i := nI_clamp (by omega)
  unfold rk_wq at h1 h0
  rw [decide_eq_true_eq] at h1 h0
  refine ⟨vi, nm_r (e' := K i) (by rw [ei]) ⟨vw, ?_⟩⟩
  rw [ew, ei]
  refine br_c (fun z => h0 (fun y => y.1 z)) (fun z1 => ⟨vw, br_c (fun z2 => ⟨vi, vw, ?_⟩) (fun z2 => h0 (fun y => z2 y.2.1))⟩)
  refine br_c (fun z3 => ⟨vw, br_c (fun z4 => h0 ?_) (fun z4 => h1 ⟨z1, z2, Or.inl ⟨z3, z4⟩⟩)⟩) (fun z3 => ⟨vi, vw, br_c (fun z4 => h0 ?_) (fun z4 => h1 ⟨z1, z2, Or.inr ⟨z3, z4⟩⟩)⟩)
  · rintro ⟨_, _, y | y⟩
    · exact y.2 z4
    · exact y.1 z3
  · rintro ⟨_, _, y | y⟩
    · exact z3 y.1
    · exact y.2 z4
theorem rk_x_cs {post : Int32 → Prop} {rev f ch : Nat} {tm : Int32} {ke km ks kv kl ef vf R K P V lo ll le ws wf wl pr pk hA hK hP hV : Nat → Int32} {w g : Nat} (hw : w < 4) (hg : g ≤ 116) (h : post (nI (rk_ns (rk_wq R K wf wl pr pk w) g))) : wpX_countStillToHandOut post ((nI rev), (nI f), tm, (nI ch), ke, km, ks, kv, kl, ef, vf, R, K, P, V, lo, ll, le, ws, wf, wl, pr, pk, hA, hK, hP, hV) (nI w) (nI g) := by
  have key : ∀ d n j, j + d = g → d < n → wX_countStillToHandOut_5 post (nI w) (nI g) (nI rev) (nI f) tm (nI ch) ke km ks kv kl ef vf R K P V lo ll le ws wf wl pr pk hA hK hP hV n (nI (rk_ns (rk_wq R K wf wl pr pk w) j)) (nI j) := by
    intro d
    induction d with
    | zero =>
      intro n j h2 h3
      obtain ⟨n, rfl⟩ : ∃ m, n = m + 1 := ⟨n - 1, by omega⟩
      obtain rfl : j = g := by omega
      exact rk_leT j j (by omega) h
    | succ d ih =>
      intro n j h2 h3
      obtain ⟨n, rfl⟩ : ∃ m, n = m + 1 := ⟨n - 1, by omega⟩
      have ih := ih n (j + 1) (by omega) (by omega)
      refine rk_leF g j (by omega) (rk_x_st hw (by omega) (fun z => ?_) (fun z => ?_))
      · rw [rk_ns_t z] at ih
        exact br_f (by decide) (nm_r (nI_1 _) (nm_r (nI_1 j) ih))
      · rw [rk_ns_f z] at ih
        exact br_t rfl (nm_r (nI_1 j) ih)
  exact ⟨g + 1, key g (g + 1) 0 (by omega) (by omega)⟩
def rk_ls (R K wf wl pr pk ws : Nat → Int32) (g : Nat) : Nat → Bool := fun w =>
  decide (ws w = 1 ∧ 0 < rk_ns (rk_wq R K wf wl pr pk w) g)
theorem rk_x_lw {post : SX → Prop} {rev f ch : Nat} {tm : Int32} {ke km ks kv kl ef vf R K P V lo ll le ws wf wl pr pk hA hK hP hV : Nat → Int32} {g : Nat} (hg : g ≤ 116) (h : post ((nI rev), (nI f), tm, (nI ch), ke, km, ks, kv, kl, ef, vf, R, K, P, V, lo, ll, le, rk_ga (rk_ls R K wf wl pr pk ws g) (fun i => i) (fun _ => 2) ws 4, wf, wl, pr, pk, hA, hK, hP, hV)) : wpX_loseWatches post ((nI rev), (nI f), tm, (nI ch), ke, km, ks, kv, kl, ef, vf, R, K, P, V, lo, ll, le, ws, wf, wl, pr, pk, hA, hK, hP, hV) (nI g) := by
  have key : ∀ d n j, j + d = 4 → d < n → wX_loseWatches_2 post (nI g) (nI rev) (nI f) tm (nI ch) n (nI j) ke km ks kv kl ef vf R K P V lo ll le (rk_ga (rk_ls R K wf wl pr pk ws g) (fun i => i) (fun _ => 2) ws j) wf wl pr pk hA hK hP hV := by
    intro d
    induction d with
    | zero =>
      intro n j h2 h3
      obtain ⟨n, rfl⟩ : ∃ m, n = m + 1 := ⟨n - 1, by omega⟩
      obtain rfl : j = 4 := by omega
      exact rk_leT 4 4 (by omega) h
    | succ d ih =>
      intro n j h2 h3
      obtain ⟨n, rfl⟩ : ∃ m, n = m + 1 := ⟨n - 1, by omega⟩
      have e : (nI j).toNatClampNeg = j := nI_clamp (by omega)
      have vj : vp_in (nI j) 4 := vp_in_nI (by omega) (by decide)
      have ih := ih n (j + 1) (by omega) (by omega)
      have ek : rk_ga (rk_ls R K wf wl pr pk ws g) (fun i => i) (fun _ => 2) ws j j = ws j := by rw [rk_ga_id, if_neg (by omega)]
      refine rk_leF 4 j (by omega) ⟨vj, ?_⟩
      rw [e, ek]
      have hn := rk_ns_le (rk_wq R K wf wl pr pk j) g
      by_cases z : ws j = 1
      · refine br_t z (rk_x_cs (by omega) hg ?_)
        by_cases y : 0 < rk_ns (rk_wq R K wf wl pr pk j) g
        · rw [rk_ga_t (show rk_ls R K wf wl pr pk ws g j = true from decide_eq_true ⟨z, y⟩)] at ih
          exact br_f (nI_nle y (by omega)) ⟨vj, nm_r rfl (nm_r (nI_1 j) ih)⟩
        · rw [rk_ga_f (show ¬ rk_ls R K wf wl pr pk ws g j = true from fun w => y (of_decide_eq_true w).2)] at ih
          exact rk_leT (rk_ns (rk_wq R K wf wl pr pk j) g) 0 (by omega) (nm_r (nI_1 j) ih)
      · rw [rk_ga_f (show ¬ rk_ls R K wf wl pr pk ws g j = true from fun w => z (of_decide_eq_true w).1)] at ih
        exact br_f z (nm_r (nI_1 j) ih)
  exact ⟨5, key 4 5 0 rfl (by omega)⟩

/-! the class forgets -/
def rk_cy (K A E : Nat → Int32) : Nat → (Nat → Int32)
  | 0 => E
  | i + 1 => upd (rk_cy K A E i) (K i).toNatClampNeg (A i)
theorem rk_cy_s (K A E : Nat → Int32) (i : Nat) : rk_cy K A E (i + 1) = upd (rk_cy K A E i) (K i).toNatClampNeg (A i) := rfl
theorem rk_cy_v {K R A E : Nat → Int32} {r : Int} {k : Nat} (hk : k < 16) (hK : ∀ i, vp_in (K i) 16) : ∀ g, (∀ i, i < g → (R i).toInt ≤ r) → rk_cy K A E g k = rk_fe K R A r k (E k) g := by
  intro g
  induction g with
  | zero => intro _; rfl
  | succ g ih =>
    intro h
    obtain ⟨m, hm, em⟩ := vp_in_of (hK g) (by decide)
    rw [rk_cy_s, rk_fe_s, em, nI_clamp (by omega)]
    by_cases z : k = m
    · subst z
      rw [pk_us, if_pos ⟨rfl, h g (by omega)⟩]
    · rw [pk_un z, if_neg (fun w => z ((nI_eq (by omega) (by omega)).mp w.1).symm)]
      exact ih (fun i hi => h i (by omega))
theorem rk_bo_cy {K A E : Nat → Int32} (hA : rk_bo A) (hE : rk_bo E) : ∀ g, rk_bo (rk_cy K A E g) := by
  intro g
  induction g with
  | zero => exact hE
  | succ g ih => exact rk_bo_u ih (hA g) _
theorem rk_x_cf {post : SX → Prop} {rev f ch : Nat} {tm : Int32} {ke km ks kv kl ef vf R K P V lo ll le ws wf wl pr pk hA hK hP hV : Nat → Int32} {g : Nat} (hg : g ≤ 116) (bP : rk_bo P) (vK : ∀ i, vp_in (K i) 16) (h : post ((nI rev), (nI f), tm, (nI ch), ke, km, ks, kv, kl, rk_cy K P ef g, rk_cy K V vf g, R, K, P, V, lo, ll, le, ws, wf, wl, pr, pk, hA, hK, hP, hV)) : wpX_carryToForgotten post ((nI rev), (nI f), tm, (nI ch), ke, km, ks, kv, kl, ef, vf, R, K, P, V, lo, ll, le, ws, wf, wl, pr, pk, hA, hK, hP, hV) (nI g) := by
  have key : ∀ d n j, j + d = g → d < n → wX_carryToForgotten_2 post (nI g) (nI rev) (nI f) tm (nI ch) n (nI j) ke km ks kv kl (rk_cy K P ef j) (rk_cy K V vf j) R K P V lo ll le ws wf wl pr pk hA hK hP hV := by
    intro d
    induction d with
    | zero =>
      intro n j h2 h3
      obtain ⟨n, rfl⟩ : ∃ m, n = m + 1 := ⟨n - 1, by omega⟩
      obtain rfl : j = g := by omega
      exact rk_leT j j (by omega) h
    | succ d ih =>
      intro n j h2 h3
      obtain ⟨n, rfl⟩ : ∃ m, n = m + 1 := ⟨n - 1, by omega⟩
      have e : (nI j).toNatClampNeg = j := nI_clamp (by omega)
      have vj : vp_in (nI j) 116 := vp_in_nI (by omega) (by decide)
      have ih := ih n (j + 1) (by omega) (by omega)
      have vk : vp_in (K (nI j).toNatClampNeg) 16 := vK _
      exact rk_leF g j (by omega) ⟨vj, vj, vk, nm_r (e' := rk_cy K P ef (j + 1)) (by rw [e, rk_vb (bP j), rk_cy_s]) ⟨vj, vj, vk, nm_r (e' := rk_cy K V vf (j + 1)) (by rw [e, rk_cy_s]) (nm_r (nI_1 j) ih)⟩⟩
  exact ⟨g + 1, key g (g + 1) 0 (by omega) (by omega)⟩
theorem rk_x_dc {post : SX → Prop} {rev f ch : Nat} {tm : Int32} {ke km ks kv kl ef vf R K P V lo ll le ws wf wl pr pk hA hK hP hV : Nat → Int32} {g : Nat} (hg : g ≤ ch) (hc : ch ≤ 116) (bP : rk_bo P) (h : post ((nI rev), (nI f), tm, (nI (ch - g)), ke, km, ks, kv, kl, ef, vf, rk_sh R g (ch - g), rk_sh K g (ch - g), rk_sh P g (ch - g), rk_sh V g (ch - g), lo, ll, le, ws, wf, wl, pr, pk, hA, hK, hP, hV)) : wpX_dropChanges post ((nI rev), (nI f), tm, (nI ch), ke, km, ks, kv, kl, ef, vf, R, K, P, V, lo, ll, le, ws, wf, wl, pr, pk, hA, hK, hP, hV) (nI g) := by
  have key : ∀ d n j, g + j + d = ch → d < n → wX_dropChanges_2 post (nI g) (nI rev) (nI f) tm (nI ch) n (nI (g + j)) ke km ks kv kl ef vf (rk_sh R g j) (rk_sh K g j) (rk_sh P g j) (rk_sh V g j) lo ll le ws wf wl pr pk hA hK hP hV := by
    intro d
    induction d with
    | zero =>
      intro n j h2 h3
      obtain ⟨n, rfl⟩ : ∃ m, n = m + 1 := ⟨n - 1, by omega⟩
      obtain rfl : j = ch - g := by omega
      exact rk_leT ch (g + (ch - g)) (by omega) (nm_r (pk_sub hg) h)
    | succ d ih =>
      intro n j h2 h3
      obtain ⟨n, rfl⟩ : ∃ m, n = m + 1 := ⟨n - 1, by omega⟩
      have e : (nI (g + j)).toNatClampNeg = j + g := by rw [nI_clamp (by omega), Nat.add_comm]
      have es : nI (g + j) - nI g = nI j := by rw [pk_sub (by omega)]; exact congrArg nI (by omega)
      have e2 : (nI (g + j) - nI g).toNatClampNeg = j := by rw [es, nI_clamp (by omega)]
      have v1 : vp_in (nI (g + j)) 116 := vp_in_nI (by omega) (by decide)
      have v2 : vp_in (nI (g + j) - nI g) 116 := by rw [es]; exact vp_in_nI (by omega) (by decide)
      have ih := ih n (j + 1) (by omega) (by omega)
      exact rk_leF ch (g + j) (by omega) ⟨v1, v2, nm_r (e' := rk_sh R g (j + 1)) (by rw [e, e2, rk_sh_s]) ⟨v1, v2, nm_r (e' := rk_sh K g (j + 1)) (by rw [e, e2, rk_sh_s]) ⟨v1, v2, nm_r (e' := rk_sh P g (j + 1)) (by rw [e, e2, rk_vb (rk_bo_sh bP g j _), rk_sh_s]) ⟨v1, v2, nm_r (e' := rk_sh V g (j + 1)) (by rw [e, e2, rk_sh_s]) (nm_r (nI_1 (g + j)) ih)⟩⟩⟩⟩
  exact ⟨ch + 1, key (ch - g) (ch + 1) 0 (by omega) (by omega)⟩
end
end
section
section
/-! sets of keys as bits -/
def rk_bm (S : Nat → Bool) : Nat → Nat
  | 0 => 0
  | j + 1 => if S j = true then rk_bm S j + 2 ^ j else rk_bm S j
theorem rk_bm_t {S : Nat → Bool} {j : Nat} (h : S j = true) : rk_bm S (j + 1) = rk_bm S j + 2 ^ j := if_pos h
theorem rk_bm_f {S : Nat → Bool} {j : Nat} (h : ¬ S j = true) : rk_bm S (j + 1) = rk_bm S j := if_neg h
theorem rk_bm_l (S : Nat → Bool) : ∀ j, rk_bm S j < 2 ^ j := by
  intro j
  induction j with
  | zero => show 0 < 1; omega
  | succ j ih =>
    have e : 2 ^ (j + 1) = 2 ^ j + 2 ^ j := by rw [Nat.pow_succ]; omega
    by_cases h : S j = true
    · rw [rk_bm_t h]; omega
    · rw [rk_bm_f h]; omega
theorem rk_bm_z {S : Nat → Bool} : ∀ n, (∀ i, i < n → S i = false) → rk_bm S n = 0 := by
  intro n
  induction n with
  | zero => intro _; rfl
  | succ n ih =>
    intro h
    rw [rk_bm_f (by rw [h n (by omega)]; decide), ih (fun i hi => h i (by omega))]
theorem rk_bm_e {S : Nat → Bool} (a : Nat) : ∀ d, (∀ i, a ≤ i → i < a + d → S i = false) → rk_bm S (a + d) = rk_bm S a := by
  intro d
  induction d with
  | zero => intro _; rfl
  | succ d ih =>
    intro h
    show rk_bm S (a + d + 1) = _
    rw [rk_bm_f (by rw [h (a + d) (by omega) (by omega)]; decide), ih (fun i h1 h2 => h i h1 (by omega))]
theorem rk_bm_b {S : Nat → Bool} (j : Nat) : ∀ d, rk_bm S (j + 1 + d) / 2 ^ j % 2 = if S j = true then 1 else 0 := by
  intro d
  induction d with
  | zero =>
    show rk_bm S (j + 1) / 2 ^ j % 2 = _
    have hl := rk_bm_l S j
    by_cases h : S j = true
    · rw [rk_bm_t h, if_pos h, Nat.add_div_right _ (Nat.two_pow_pos j), Nat.div_eq_of_lt hl]
    · rw [rk_bm_f h, if_neg h, Nat.div_eq_of_lt hl]
  | succ d ih =>
    show rk_bm S (j + 1 + d + 1) / 2 ^ j % 2 = _
    by_cases h : S (j + 1 + d) = true
    · rw [rk_bm_t h]
      have e : 2 ^ (j + 1 + d) = 2 ^ j * (2 * 2 ^ d) := by
        rw [Nat.pow_add, Nat.pow_add, Nat.mul_assoc]
      rw [e, Nat.add_mul_div_left _ _ (Nat.two_pow_pos j)]
      omega
    · rw [rk_bm_f h]; exact ih
theorem rk_bm_p {S : Nat → Bool} {i n : Nat} (hi : i < n) (h : S i = true) : 0 < rk_bm S n := by
  have e := rk_bm_b (S := S) i (n - (i + 1))
  rw [if_pos h, show i + 1 + (n - (i + 1)) = n by omega] at e
  by_cases z : rk_bm S n = 0
  · rw [z] at e; simp at e
  · omega
theorem rk_sm : ∀ j, j < 16 → ((nI j &&& 31).toBitVec.smod 32).toNat = j := by decide
theorem rk_or {a b : Nat} (ha : a < 2 ^ 32) (hb : b < 2 ^ 32) : nI a ||| nI b = nI (a ||| b) := by
  apply Int32.toBitVec_inj.mp
  apply BitVec.eq_of_toNat_eq
  rw [Int32.toBitVec_or, BitVec.toNat_or, pk_tn ha, pk_tn hb, pk_tn (Nat.or_lt_two_pow ha hb)]
theorem rk_bm_o {S : Nat → Bool} {j : Nat} (hj : j < 16) (h : S j = true) : nI (rk_bm S j) ||| ((1 : Int32) <<< (nI j &&& 31)) = nI (rk_bm S (j + 1)) := by
  have hl := rk_bm_l S j
  have h1 : 2 ^ j ≤ 2 ^ 15 := Nat.pow_le_pow_right (by decide) (by omega)
  have e : (1 : Int32) <<< (nI j &&& 31) = nI (2 ^ j) := by
    have := pk_shlN (n := 1) (nI j &&& 31) j (rk_sm j hj) (by omega)
    rw [Nat.one_mul] at this
    exact this
  rw [e, rk_or (by omega) (by omega), rk_bm_t h]
  have := Nat.two_pow_add_eq_or_of_lt hl 1
  rw [Nat.mul_one] at this
  rw [Nat.or_comm, ← this, Nat.add_comm]
theorem rk_bm_g {S : Nat → Bool} {j : Nat} (hj : j < 16) : (nI (rk_bm S 16) >>> (nI j &&& 31)) &&& 1 = if S j = true then 1 else 0 := by
  have hl := rk_bm_l S 16
  rw [pk_shrN (by omega) _ j (rk_sm j hj), pk_andN (Nat.lt_of_le_of_lt (Nat.div_le_self _ _) (by omega)) 1 (by decide)]
  have e := rk_bm_b (S := S) j (16 - (j + 1))
  rw [show j + 1 + (16 - (j + 1)) = 16 by omega] at e
  rw [show (2 : Nat) ^ 1 = 2 from rfl, e]
  by_cases h : S j = true
  · rw [if_pos h, if_pos h]; rfl
  · rw [if_neg h, if_neg h]; rfl

/-! the reference: is it a key, a lease, a watch -/
theorem rk_yk_g {post : Int32 → Prop} {rev f ch : Nat} {tm : Int32} {ex va km ys yv kl R K P V ll le lo ws wf wl fr lr lk hP hV : Nat → Int32} {j : Nat} (h : j < 16) (p : post 1) : wpY_isKey post ((nI f), (nI rev), (nI ch), tm, ex, va, km, ys, yv, kl, R, K, P, V, ll, le, lo, ws, wf, wl, fr, lr, lk, hP, hV) (nI j) :=
  br_f (nI_pos (by omega)) (rk_ltF 15 j (by omega) p)
theorem rk_yk_b {post : Int32 → Prop} {rev f ch : Nat} {tm : Int32} {ex va km ys yv kl R K P V ll le lo ws wf wl fr lr lk hP hV : Nat → Int32} {x : Int32} (h : x < 0 ∨ nI 16 ≤ x) (p : post 0) : wpY_isKey post ((nI f), (nI rev), (nI ch), tm, ex, va, km, ys, yv, kl, R, K, P, V, ll, le, lo, ws, wf, wl, fr, lr, lk, hP, hV) x := by
  rcases h with h | h
  · exact br_t h p
  · refine br_c (fun _ => p) (fun _ => br_t ?_ p)
    rw [rk_le, nI_toInt (by decide)] at h
    rw [rk_lt, show (15 : Int32).toInt = 15 from by decide]
    omega
theorem rk_yl_g {post : Int32 → Prop} {rev f ch : Nat} {tm : Int32} {ex va km ys yv kl R K P V ll le lo ws wf wl fr lr lk hP hV : Nat → Int32} {j : Nat} (h : j < 6) (p : post 1) : wpY_isLease post ((nI f), (nI rev), (nI ch), tm, ex, va, km, ys, yv, kl, R, K, P, V, ll, le, lo, ws, wf, wl, fr, lr, lk, hP, hV) (nI j) :=
  br_f (nI_pos (by omega)) (rk_ltF 5 j (by omega) p)
theorem rk_yl_b {post : Int32 → Prop} {rev f ch : Nat} {tm : Int32} {ex va km ys yv kl R K P V ll le lo ws wf wl fr lr lk hP hV : Nat → Int32} {x : Int32} (h : x < 0 ∨ nI 6 ≤ x) (p : post 0) : wpY_isLease post ((nI f), (nI rev), (nI ch), tm, ex, va, km, ys, yv, kl, R, K, P, V, ll, le, lo, ws, wf, wl, fr, lr, lk, hP, hV) x := by
  rcases h with h | h
  · exact br_t h p
  · refine br_c (fun _ => p) (fun _ => br_t ?_ p)
    rw [rk_le, nI_toInt (by decide)] at h
    rw [rk_lt, show (5 : Int32).toInt = 5 from by decide]
    omega
theorem rk_yw_g {post : Int32 → Prop} {rev f ch : Nat} {tm : Int32} {ex va km ys yv kl R K P V ll le lo ws wf wl fr lr lk hP hV : Nat → Int32} {j : Nat} (h : j < 4) (p : post 1) : wpY_isWatch post ((nI f), (nI rev), (nI ch), tm, ex, va, km, ys, yv, kl, R, K, P, V, ll, le, lo, ws, wf, wl, fr, lr, lk, hP, hV) (nI j) :=
  br_f (nI_pos (by omega)) (rk_ltF 3 j (by omega) p)
theorem rk_yw_b {post : Int32 → Prop} {rev f ch : Nat} {tm : Int32} {ex va km ys yv kl R K P V ll le lo ws wf wl fr lr lk hP hV : Nat → Int32} {x : Int32} (h : x < 0 ∨ nI 4 ≤ x) (p : post 0) : wpY_isWatch post ((nI f), (nI rev), (nI ch), tm, ex, va, km, ys, yv, kl, R, K, P, V, ll, le, lo, ws, wf, wl, fr, lr, lk, hP, hV) x := by
  rcases h with h | h
  · exact br_t h p
  · refine br_c (fun _ => p) (fun _ => br_t ?_ p)
    rw [rk_le, nI_toInt (by decide)] at h
    rw [rk_lt, show (3 : Int32).toInt = 3 from by decide]
    omega

/-! the reference's rows -/
theorem rk_y_pr {post : Int32 → Prop} {rev f ch : Nat} {tm : Int32} {ex va km ys yv kl R K P V ll le lo ws wf wl fr lr lk hP hV : Nat → Int32} (hf : f ≤ rev) (h : post (nI (16 * (rev - f)))) : wpY_present post ((nI f), (nI rev), (nI ch), tm, ex, va, km, ys, yv, kl, R, K, P, V, ll, le, lo, ws, wf, wl, fr, lr, lk, hP, hV) := by
  have e : (16 : Int32) * (nI rev - nI f) = nI (16 * (rev - f)) := by
    rw [pk_sub hf]; exact pk_mul 16 (rev - f)
  show post _
  rw [e]; exact h
theorem rk_y_en {post : Int32 → Prop} {rev f ch : Nat} {tm : Int32} {ex va km ys yv kl R K P V ll le lo ws wf wl fr lr lk hP hV : Nat → Int32} {k : Nat} (hf : f ≤ rev) (hr : rev - f ≤ 118) (hk : k < 16) (he : rk_bo ex) (h : post (ex (16 * (rev - f) + k))) : wpY_existsNow post ((nI f), (nI rev), (nI ch), tm, ex, va, km, ys, yv, kl, R, K, P, V, ll, le, lo, ws, wf, wl, fr, lr, lk, hP, hV) (nI k) := by
  unfold wpY_existsNow
  refine rk_y_pr hf ?_
  rw [nI_add, nI_clamp (by omega)]
  exact ⟨vp_in_nI (by omega) (by decide), rk_nb (he _), h⟩
theorem rk_y_nr {post : SY → Prop} {rev f ch : Nat} {tm : Int32} {ex va km ys yv kl R K P V ll le lo ws wf wl fr lr lk hP hV : Nat → Int32} (hf : f ≤ rev) (hr : rev - f ≤ 118) (he : rk_bo ex) (h : post ((nI f), (nI (rev + 1)), (nI ch), tm, rk_nr ex (16 * (rev - f)) 16, rk_nr va (16 * (rev - f)) 16, km, ys, yv, kl, R, K, P, V, ll, le, lo, ws, wf, wl, fr, lr, lk, hP, hV)) : wpY_newRevision post ((nI f), (nI rev), (nI ch), tm, ex, va, km, ys, yv, kl, R, K, P, V, ll, le, lo, ws, wf, wl, fr, lr, lk, hP, hV) := by
  have key : ∀ d n j, j + d = 16 → d < n → wY_newRevision_17 post (nI (16 * (rev + 1 - f))) (nI f) (nI (rev + 1)) (nI ch) tm n (nI j) (rk_nr ex (16 * (rev - f)) j) (rk_nr va (16 * (rev - f)) j) km ys yv kl R K P V ll le lo ws wf wl fr lr lk hP hV := by
    intro d
    induction d with
    | zero =>
      intro n j h2 h3
      obtain ⟨n, rfl⟩ : ∃ m, n = m + 1 := ⟨n - 1, by omega⟩
      obtain rfl : j = 16 := by omega
      exact rk_leT 16 16 (by omega) h
    | succ d ih =>
      intro n j h2 h3
      obtain ⟨n, rfl⟩ : ∃ m, n = m + 1 := ⟨n - 1, by omega⟩
      have ih := ih n (j + 1) (by omega) (by omega)
      have e1 : nI (16 * (rev + 1 - f)) - 16 + nI j = nI (16 * (rev - f) + j) := by
        have := pk_sub (a := 16 * (rev + 1 - f)) (b := 16) (by omega)
        rw [show (16 : Int32) = nI 16 from rfl, this, nI_add]
        exact congrArg nI (by omega)
      have e2 : nI (16 * (rev + 1 - f)) + nI j = nI (16 * (rev - f) + 16 + j) := by
        rw [nI_add]
        exact congrArg nI (by omega)
      have v1 : vp_in (nI (16 * (rev + 1 - f)) - 16 + nI j) 1920 := by rw [e1]; exact vp_in_nI (by omega) (by decide)
      have v2 : vp_in (nI (16 * (rev + 1 - f)) + nI j) 1920 := by rw [e2]; exact vp_in_nI (by omega) (by decide)
      have c1 : (nI (16 * (rev + 1 - f)) - 16 + nI j).toNatClampNeg = 16 * (rev - f) + j := by rw [e1, nI_clamp (by omega)]
      have c2 : (nI (16 * (rev + 1 - f)) + nI j).toNatClampNeg = 16 * (rev - f) + 16 + j := by rw [e2, nI_clamp (by omega)]
      exact rk_leF 16 j (by omega) ⟨v1, v2, nm_r (e' := rk_nr ex (16 * (rev - f)) (j + 1)) (by rw [c1, c2, rk_vb (rk_bo_nr he _ (by omega) _), rk_nr_s]) ⟨v1, v2, nm_r (e' := rk_nr va (16 * (rev - f)) (j + 1)) (by rw [c1, c2, rk_nr_s]) (nm_r (nI_1 j) ih)⟩⟩
  refine nm_r (nI_1 rev) (rk_y_pr (by omega) ⟨17, key 16 17 0 rfl (by omega)⟩)
theorem rk_y_nt1 {post : SY → Prop} {rev f ch : Nat} {tm : Int32} {ex va km ys yv kl R K P V ll le lo ws wf wl fr lr lk hP hV : Nat → Int32} {k x : Int32} (hc : ch < 120) (h : post ((nI f), (nI rev), (nI (ch + 1)), tm, ex, va, km, ys, yv, kl, upd R ch (nI rev), upd K ch k, upd P ch 1, upd V ch x, ll, le, lo, ws, wf, wl, fr, lr, lk, hP, hV)) : wpY_note post ((nI f), (nI rev), (nI ch), tm, ex, va, km, ys, yv, kl, R, K, P, V, ll, le, lo, ws, wf, wl, fr, lr, lk, hP, hV) k 1 x := by
  have v : vp_in (nI ch) 120 := vp_in_nI hc (by decide)
  have e : (nI ch).toNatClampNeg = ch := nI_clamp (by omega)
  exact ⟨v, nm_r (by rw [e]) ⟨v, nm_r (by rw [e]) ⟨v, nm_r (by rw [e, rk_vb1]) (br_f (by decide) ⟨v, nm_r (by rw [e]) (nm_r (nI_1 ch) h)⟩)⟩⟩⟩
theorem rk_y_nt0 {post : SY → Prop} {rev f ch : Nat} {tm : Int32} {ex va km ys yv kl R K P V ll le lo ws wf wl fr lr lk hP hV : Nat → Int32} {k x : Int32} (hc : ch < 120) (h : post ((nI f), (nI rev), (nI (ch + 1)), tm, ex, va, km, ys, yv, kl, upd R ch (nI rev), upd K ch k, upd P ch 0, upd V ch 0, ll, le, lo, ws, wf, wl, fr, lr, lk, hP, hV)) : wpY_note post ((nI f), (nI rev), (nI ch), tm, ex, va, km, ys, yv, kl, R, K, P, V, ll, le, lo, ws, wf, wl, fr, lr, lk, hP, hV) k 0 x := by
  have v : vp_in (nI ch) 120 := vp_in_nI hc (by decide)
  have e : (nI ch).toNatClampNeg = ch := nI_clamp (by omega)
  exact ⟨v, nm_r (by rw [e]) ⟨v, nm_r (by rw [e]) ⟨v, nm_r (by rw [e, rk_vb0]) (br_t rfl ⟨v, nm_r (by rw [e]) (nm_r (nI_1 ch) h)⟩)⟩⟩⟩
theorem rk_y_w89 {post : Int32 → SY → Prop} {rev f ch : Nat} {tm : Int32} {ex va km ys yv kl R K P V ll le lo ws wf wl fr lr lk hP hV : Nat → Int32} {k : Nat} {x l y : Int32} (hk : k < 16) (hc : ch < 120)
    (h : post (nI rev) ((nI f), (nI rev), (nI (ch + 1)), tm, ex, va, km, upd ys k (nI rev), upd yv k y, upd kl k l, upd R ch (nI rev), upd K ch (nI k), upd P ch 1, upd V ch x, ll, le, lo, ws, wf, wl, fr, lr, lk, hP, hV)) : wY_write_89 post (nI k) x l y (nI k) (nI f) (nI rev) (nI ch) tm ex va km ys yv kl R K P V ll le lo ws wf wl fr lr lk hP hV := by
  have v : vp_in (nI k) 16 := vp_in_nI hk (by decide)
  have e : (nI k).toNatClampNeg = k := nI_clamp (by omega)
  exact ⟨v, nm_r (by rw [e]) ⟨v, nm_r (by rw [e]) ⟨v, nm_r (by rw [e]) (rk_y_nt1 hc h)⟩⟩⟩
theorem rk_y_w66 {post : Int32 → SY → Prop} {rev f ch : Nat} {tm : Int32} {ex va km ys yv kl R K P V ll le lo ws wf wl fr lr lk hP hV : Nat → Int32} {k : Nat} {x l z m y : Int32} (hk : k < 16) (hc : ch < 120) (hy : y = if z = 0 then yv k + 1 else 1)
    (h : post (nI rev) ((nI f), (nI rev), (nI (ch + 1)), tm, ex, va, upd km k m, upd ys k (nI rev), upd yv k y, upd kl k l, upd R ch (nI rev), upd K ch (nI k), upd P ch 1, upd V ch x, ll, le, lo, ws, wf, wl, fr, lr, lk, hP, hV)) : wY_write_66 post (nI k) x l z m (nI k) (nI f) (nI rev) (nI ch) tm ex va km ys yv kl R K P V ll le lo ws wf wl fr lr lk hP hV := by
  have v : vp_in (nI k) 16 := vp_in_nI hk (by decide)
  have e : (nI k).toNatClampNeg = k := nI_clamp (by omega)
  refine ⟨v, nm_r (e' := upd km k m) (by rw [e]) ?_⟩
  by_cases w : z = 0
  · rw [if_pos w] at hy
    subst hy
    refine br_t w ⟨v, ?_⟩
    rw [e]
    exact rk_y_w89 hk hc h
  · rw [if_neg w] at hy
    subst hy
    exact br_f w (rk_y_w89 hk hc h)
theorem rk_y_w13 {post : Int32 → SY → Prop} {rev f ch : Nat} {tm : Int32} {ex va km ys yv kl R K P V ll le lo ws wf wl fr lr lk hP hV : Nat → Int32} {k : Nat} {x l z m y : Int32} (hk : k < 16) (hc : ch < 120) (hf : f ≤ rev) (hr : rev - f ≤ 118) (he : rk_bo ex) (hy : y = if z = 0 then yv k + 1 else 1) (hm : m = if z = 0 then km k else nI (rev + 1))
    (h : post (nI (rev + 1)) ((nI f), (nI (rev + 1)), (nI (ch + 1)), tm, upd (rk_nr ex (16 * (rev - f)) 16) (16 * (rev + 1 - f) + k) 1, upd (rk_nr va (16 * (rev - f)) 16) (16 * (rev + 1 - f) + k) x, upd km k m, upd ys k (nI (rev + 1)), upd yv k y, upd kl k l, upd R ch (nI (rev + 1)), upd K ch (nI k), upd P ch 1, upd V ch x, ll, le, lo, ws, wf, wl, fr, lr, lk, hP, hV)) : wY_write_13 post (nI k) x l z (nI f) (nI rev) (nI ch) tm ex va km ys yv kl R K P V ll le lo ws wf wl fr lr lk hP hV := by
  have v : vp_in (nI k) 16 := vp_in_nI hk (by decide)
  have e : (nI k).toNatClampNeg = k := nI_clamp (by omega)
  have e1 : nI (16 * (rev + 1 - f)) + nI k = nI (16 * (rev + 1 - f) + k) := nI_add _ _
  have v1 : vp_in (nI (16 * (rev + 1 - f)) + nI k) 1920 := by rw [e1]; exact vp_in_nI (by omega) (by decide)
  have c1 : (nI (16 * (rev + 1 - f)) + nI k).toNatClampNeg = 16 * (rev + 1 - f) + k := by rw [e1, nI_clamp (by omega)]
  refine rk_y_nr hf hr he (rk_y_pr (by omega) ⟨v1, nm_r (e' := upd (rk_nr ex (16 * (rev - f)) 16) (16 * (rev + 1 - f) + k) 1) (by rw [c1, rk_vb1]) (rk_y_pr (by omega) ⟨v1, nm_r (e' := upd (rk_nr va (16 * (rev - f)) 16) (16 * (rev + 1 - f) + k) x) (by rw [c1]) ?_⟩)⟩)
  by_cases w : z = 0
  · rw [if_pos w] at hm
    subst hm
    refine br_t w ⟨v, ?_⟩
    rw [e]
    exact rk_y_w66 hk hc hy h
  · rw [if_neg w] at hm
    subst hm
    exact br_f w (rk_y_w66 hk hc hy h)
theorem rk_y_wr {post : Int32 → SY → Prop} {rev f ch : Nat} {tm : Int32} {ex va km ys yv kl R K P V ll le lo ws wf wl fr lr lk hP hV : Nat → Int32} {k : Nat} {x l c : Int32} (hk : k < 16) (hc : ch < 120) (hf : f ≤ rev) (hr : rev - f ≤ 118) (he : rk_bo ex) (hcc : ex (16 * (rev - f) + k) = c)
    (h : post (nI (rev + 1)) ((nI f), (nI (rev + 1)), (nI (ch + 1)), tm, upd (rk_nr ex (16 * (rev - f)) 16) (16 * (rev + 1 - f) + k) 1, upd (rk_nr va (16 * (rev - f)) 16) (16 * (rev + 1 - f) + k) x, upd km k (if c = 0 then nI (rev + 1) else km k), upd ys k (nI (rev + 1)), upd yv k (if c = 0 then 1 else yv k + 1), upd kl k l, upd R ch (nI (rev + 1)), upd K ch (nI k), upd P ch 1, upd V ch x, ll, le, lo, ws, wf, wl, fr, lr, lk, hP, hV)) : wpY_write post ((nI f), (nI rev), (nI ch), tm, ex, va, km, ys, yv, kl, R, K, P, V, ll, le, lo, ws, wf, wl, fr, lr, lk, hP, hV) (nI k) x l := by
  unfold wpY_write
  refine rk_y_en hf hr hk he ?_
  rw [hcc]
  by_cases w : c = 0
  · rw [if_pos w, if_pos w] at h
    exact br_t w (rk_y_w13 hk hc hf hr he (if_neg (by decide)).symm (if_neg (by decide)).symm h)
  · rw [if_neg w, if_neg w] at h
    exact br_f w (rk_y_w13 hk hc hf hr he (if_pos rfl).symm (if_pos rfl).symm h)

/-! the reference's sets of keys -/
theorem rk_y_ka {post : Int32 → Prop} {rev f ch : Nat} {tm : Int32} {ex va km ys yv kl R K P V ll le lo ws wf wl fr lr lk hP hV : Nat → Int32} (S : Nat → Bool) {a b p : Nat} (ha : a < 16) (hb : b < 16) (hlo : ∀ i, i < a → S i = false) (hhi : ∀ i, b < i → S i = false) (hp : p + 16 ≤ 1920) (hS : ∀ i, a ≤ i → i ≤ b → (S i = true ↔ ex (p + i) ≠ 0))
    (h : post (nI (rk_bm S 16))) : wpY_keysAt post ((nI f), (nI rev), (nI ch), tm, ex, va, km, ys, yv, kl, R, K, P, V, ll, le, lo, ws, wf, wl, fr, lr, lk, hP, hV) (nI p) (nI a) (nI b) := by
  have key : ∀ d n j, a ≤ j → j + d = b + 1 → d < n → wY_keysAt_6 post (nI p) (nI b) (nI f) (nI rev) (nI ch) tm ex va km ys yv kl R K P V ll le lo ws wf wl fr lr lk hP hV n (nI (rk_bm S j)) (nI j) := by
    intro d
    induction d with
    | zero =>
      intro n j h1 h2 h3
      obtain ⟨n, rfl⟩ : ∃ m, n = m + 1 := ⟨n - 1, by omega⟩
      refine rk_ltT b j (by omega) ?_
      have e := rk_bm_e (S := S) j (16 - j) (fun i z1 z2 => hhi i (by omega))
      rw [show j + (16 - j) = 16 by omega] at e
      rw [← e]; exact h
    | succ d ih =>
      intro n j h1 h2 h3
      obtain ⟨n, rfl⟩ : ∃ m, n = m + 1 := ⟨n - 1, by omega⟩
      have ih := ih n (j + 1) (by omega) (by omega) (by omega)
      have hs := hS j h1 (by omega)
      have v : vp_in (nI p + nI j) 1920 := by rw [nI_add]; exact vp_in_nI (by omega) (by decide)
      have c : (nI p + nI j).toNatClampNeg = p + j := by rw [nI_add, nI_clamp (by omega)]
      refine rk_ltF b j (by omega) ⟨v, ?_⟩
      rw [c]
      by_cases z : ex (p + j) = 0
      · rw [rk_bm_f (fun y => (hs.mp y) z)] at ih
        exact br_t z (nm_r (nI_1 j) ih)
      · exact br_f z (nm_r (rk_bm_o (by omega) (hs.mpr z)) (nm_r (nI_1 j) ih))
  by_cases z : a ≤ b
  · have := key (b + 1 - a) (b + 2) a (Nat.le_refl a) (by omega) (by omega)
    rw [rk_bm_z a hlo] at this
    exact ⟨b + 2, this⟩
  · rw [rk_bm_z 16 (fun i _ => by
      by_cases y : i < a
      · exact hlo i y
      · exact hhi i (by omega))] at h
    exact ⟨1, rk_ltT b a (by omega) h⟩
theorem rk_y_bi {post : Int32 → Prop} {rev f ch : Nat} {tm : Int32} {ex va km ys yv kl R K P V ll le lo ws wf wl fr lr lk hP hV : Nat → Int32} (S : Nat → Bool) (h : post (nI (rk_ns S 16))) : wpY_bits post ((nI f), (nI rev), (nI ch), tm, ex, va, km, ys, yv, kl, R, K, P, V, ll, le, lo, ws, wf, wl, fr, lr, lk, hP, hV) (nI (rk_bm S 16)) := by
  have key : ∀ d n j, j + d = 16 → d < n → wY_bits_4 post (nI (rk_bm S 16)) (nI f) (nI rev) (nI ch) tm ex va km ys yv kl R K P V ll le lo ws wf wl fr lr lk hP hV n (nI (rk_ns S j)) (nI j) := by
    intro d
    induction d with
    | zero =>
      intro n j h2 h3
      obtain ⟨n, rfl⟩ : ∃ m, n = m + 1 := ⟨n - 1, by omega⟩
      obtain rfl : j = 16 := by omega
      exact rk_leT 16 16 (by omega) h
    | succ d ih =>
      intro n j h2 h3
      obtain ⟨n, rfl⟩ : ∃ m, n = m + 1 := ⟨n - 1, by omega⟩
      have ih := ih n (j + 1) (by omega) (by omega)
      refine rk_leF 16 j (by omega) (nm_r (e' := nI (rk_ns S (j + 1))) ?_ (nm_r (nI_1 j) ih))
      rw [rk_bm_g (by omega)]
      by_cases z : S j = true
      · rw [if_pos z, rk_ns_t z, nI_1]
      · rw [if_neg z, rk_ns_f z, Int32.add_zero]
  exact ⟨17, key 16 17 0 rfl (by omega)⟩
theorem rk_y_ea11 {post : SY → Prop} {rev f ch : Nat} {tm : Int32} {ex va km ys yv kl R K P V ll le lo ws wf wl fr lr lk hP hV : Nat → Int32} (S : Nat → Bool) (hf : f ≤ rev) (hr : rev - f ≤ 119) (hc : ch + rk_ns S 16 ≤ 116) (h : post ((nI f), (nI rev), (nI (ch + rk_ns S 16)), tm, (rk_ga S (fun i => 16 * (rev - f) + i) (fun _ => 0) ex 16), va, km, ys, yv, (rk_ga S (fun i => i) (fun _ => -1) kl 16), (rk_ga S (fun i => ch + rk_ns S i) (fun _ => nI rev) R 16), (rk_ga S (fun i => ch + rk_ns S i) (fun i => nI i) K 16), (rk_ga S (fun i => ch + rk_ns S i) (fun _ => 0) P 16), (rk_ga S (fun i => ch + rk_ns S i) (fun _ => 0) V 16), ll, le, lo, ws, wf, wl, fr, lr, lk, hP, hV)) : ∃ n, wY_eraseAll_11 post (nI (rk_bm S 16)) n 0 (nI f) (nI rev) (nI ch) tm ex va km ys yv kl R K P V ll le lo ws wf wl fr lr lk hP hV := by
  have key : ∀ d n j, j + d = 16 → d < n → wY_eraseAll_11 post (nI (rk_bm S 16)) n (nI j) (nI f) (nI rev) (nI (ch + rk_ns S j)) tm (rk_ga S (fun i => 16 * (rev - f) + i) (fun _ => 0) ex j) va km ys yv (rk_ga S (fun i => i) (fun _ => -1) kl j) (rk_ga S (fun i => ch + rk_ns S i) (fun _ => nI rev) R j) (rk_ga S (fun i => ch + rk_ns S i) (fun i => nI i) K j) (rk_ga S (fun i => ch + rk_ns S i) (fun _ => 0) P j) (rk_ga S (fun i => ch + rk_ns S i) (fun _ => 0) V j) ll le lo ws wf wl fr lr lk hP hV := by
    intro d
    induction d with
    | zero =>
      intro n j h2 h3
      obtain ⟨n, rfl⟩ : ∃ m, n = m + 1 := ⟨n - 1, by omega⟩
      obtain rfl : j = 16 := by omega
      exact rk_leT 16 16 (by omega) h
    | succ d ih =>
      intro n j h2 h3
      obtain ⟨n, rfl⟩ : ∃ m, n = m + 1 := ⟨n - 1, by omega⟩
      have ih := ih n (j + 1) (by omega) (by omega)
      have e : (nI j).toNatClampNeg = j := nI_clamp (by omega)
      have v : vp_in (nI (16 * (rev - f)) + nI j) 1920 := by rw [nI_add]; exact vp_in_nI (by omega) (by decide)
      have c : (nI (16 * (rev - f)) + nI j).toNatClampNeg = 16 * (rev - f) + j := by rw [nI_add, nI_clamp (by omega)]
      refine rk_leF 16 j (by omega) ?_
      rw [rk_bm_g (by omega)]
      by_cases z : S j = true
      · have hm := rk_ns_m S (j + 1) (16 - (j + 1))
        rw [rk_ns_t z, show j + 1 + (16 - (j + 1)) = 16 by omega] at hm
        simp only [rk_ga_t z, rk_ns_t z] at ih
        rw [if_pos z]
        exact br_t rfl (rk_y_pr hf ⟨v, nm_r (by rw [c, rk_vb0]) ⟨vp_in_nI (by omega) (by decide), nm_r (by rw [e]) (rk_y_nt0 (by omega) (nm_r (nI_1 j) ih))⟩⟩)
      · simp only [rk_ga_f z, rk_ns_f z] at ih
        rw [if_neg z]
        exact br_f (by decide) (nm_r (nI_1 j) ih)
  exact ⟨17, key 16 17 0 rfl (by omega)⟩
theorem rk_y_ea0 {post : SY → Prop} {rev f ch : Nat} {tm : Int32} {ex va km ys yv kl R K P V ll le lo ws wf wl fr lr lk hP hV : Nat → Int32} (S : Nat → Bool) (h0 : rk_ns S 16 = 0) (h : post ((nI f), (nI rev), (nI ch), tm, ex, va, km, ys, yv, kl, R, K, P, V, ll, le, lo, ws, wf, wl, fr, lr, lk, hP, hV)) : wpY_eraseAll post ((nI f), (nI rev), (nI ch), tm, ex, va, km, ys, yv, kl, R, K, P, V, ll, le, lo, ws, wf, wl, fr, lr, lk, hP, hV) (nI (rk_bm S 16)) := by
  have hz : ∀ i, i < 16 → S i = false := fun i hi => by
    cases y : S i with
    | false => rfl
    | true =>
      have := rk_ns_q hi y
      omega
  rw [rk_bm_z 16 hz]
  exact br_t rfl h
theorem rk_y_ea1 {post : SY → Prop} {rev f ch : Nat} {tm : Int32} {ex va km ys yv kl R K P V ll le lo ws wf wl fr lr lk hP hV : Nat → Int32} (S : Nat → Bool) (h0 : 0 < rk_ns S 16) (hf : f ≤ rev) (hr : rev - f ≤ 118) (hc : ch + rk_ns S 16 ≤ 116) (he : rk_bo ex) (h : post ((nI f), (nI (rev + 1)), (nI (ch + rk_ns S 16)), tm, (rk_ga S (fun i => 16 * ((rev + 1) - f) + i) (fun _ => 0) (rk_nr ex (16 * (rev - f)) 16) 16), rk_nr va (16 * (rev - f)) 16, km, ys, yv, (rk_ga S (fun i => i) (fun _ => -1) kl 16), (rk_ga S (fun i => ch + rk_ns S i) (fun _ => nI (rev + 1)) R 16), (rk_ga S (fun i => ch + rk_ns S i) (fun i => nI i) K 16), (rk_ga S (fun i => ch + rk_ns S i) (fun _ => 0) P 16), (rk_ga S (fun i => ch + rk_ns S i) (fun _ => 0) V 16), ll, le, lo, ws, wf, wl, fr, lr, lk, hP, hV)) : wpY_eraseAll post ((nI f), (nI rev), (nI ch), tm, ex, va, km, ys, yv, kl, R, K, P, V, ll, le, lo, ws, wf, wl, fr, lr, lk, hP, hV) (nI (rk_bm S 16)) := by
  obtain ⟨i, hi, hs⟩ := rk_ns_p h0
  have hp := rk_bm_p hi hs
  have hl := rk_bm_l S 16
  exact br_f (nI_ne0 hp (by omega)) (rk_y_nr hf hr he (rk_y_ea11 S (by omega) (by omega) hc h))
theorem rk_y_un {post : Int32 → Prop} {rev f ch : Nat} {tm : Int32} {ex va km ys yv kl R K P V ll le lo ws wf wl fr lr lk hP hV : Nat → Int32} (S : Nat → Bool) {l : Int32} (hf : f ≤ rev) (hr : rev - f ≤ 118) (he : rk_bo ex) (hS : ∀ i, i < 16 → (S i = true ↔ (ex (16 * (rev - f) + i) ≠ 0 ∧ kl i = l))) (h : post (nI (rk_bm S 16))) : wpY_under post ((nI f), (nI rev), (nI ch), tm, ex, va, km, ys, yv, kl, R, K, P, V, ll, le, lo, ws, wf, wl, fr, lr, lk, hP, hV) l := by
  have key : ∀ d n j, j + d = 16 → d < n → wY_under_4 post l (nI f) (nI rev) (nI ch) tm ex va km ys yv kl R K P V ll le lo ws wf wl fr lr lk hP hV n (nI (rk_bm S j)) (nI j) := by
    intro d
    induction d with
    | zero =>
      intro n j h2 h3
      obtain ⟨n, rfl⟩ : ∃ m, n = m + 1 := ⟨n - 1, by omega⟩
      obtain rfl : j = 16 := by omega
      exact rk_leT 16 16 (by omega) h
    | succ d ih =>
      intro n j h2 h3
      obtain ⟨n, rfl⟩ : ∃ m, n = m + 1 := ⟨n - 1, by omega⟩
      have ih := ih n (j + 1) (by omega) (by omega)
      have e : (nI j).toNatClampNeg = j := nI_clamp (by omega)
      have hs := hS j (by omega)
      refine rk_leF 16 j (by omega) (rk_y_en hf hr (by omega) he ?_)
      by_cases z : ex (16 * (rev - f) + j) = 0
      · rw [rk_bm_f (fun y => (hs.mp y).1 z)] at ih
        exact br_t z (nm_r (nI_1 j) ih)
      · refine br_f z ⟨vp_in_nI (by omega) (by decide), ?_⟩
        rw [e]
        by_cases y : kl j = l
        · exact br_t y (nm_r (rk_bm_o (by omega) (hs.mpr ⟨z, y⟩)) (nm_r (nI_1 j) ih))
        · rw [rk_bm_f (fun w => y (hs.mp w).2)] at ih
          exact br_f y (nm_r (nI_1 j) ih)
  exact ⟨17, key 16 17 0 rfl (by omega)⟩
theorem rk_y_nd0 {post : Int32 → SY → Prop} {rev f ch : Nat} {tm : Int32} {ex va km ys yv kl R K P V ll le lo ws wf wl fr lr lk hP hV : Nat → Int32} (S : Nat → Bool) {l : Nat} (hl : l < 6) (hf : f ≤ rev) (hr : rev - f ≤ 118) (he : rk_bo ex) (hS : ∀ i, i < 16 → (S i = true ↔ (ex (16 * (rev - f) + i) ≠ 0 ∧ kl i = nI l))) (h0 : rk_ns S 16 = 0) (h : post 0 ((nI f), (nI rev), (nI ch), tm, ex, va, km, ys, yv, kl, R, K, P, V, ll, le, upd lo l 0, ws, wf, wl, fr, lr, lk, hP, hV)) : wpY_end post ((nI f), (nI rev), (nI ch), tm, ex, va, km, ys, yv, kl, R, K, P, V, ll, le, lo, ws, wf, wl, fr, lr, lk, hP, hV) (nI l) := by
  have e : (nI l).toNatClampNeg = l := nI_clamp (by omega)
  refine rk_y_un S hf hr he hS ⟨vp_in_nI hl (by decide), nm_r (e' := upd lo l 0) (by rw [e, rk_vb0]) (rk_y_ea0 S h0 (rk_y_bi S ?_))⟩
  rw [h0]
  exact h
theorem rk_y_nd1 {post : Int32 → SY → Prop} {rev f ch : Nat} {tm : Int32} {ex va km ys yv kl R K P V ll le lo ws wf wl fr lr lk hP hV : Nat → Int32} (S : Nat → Bool) {l : Nat} (hl : l < 6) (hf : f ≤ rev) (hr : rev - f ≤ 118) (he : rk_bo ex) (hS : ∀ i, i < 16 → (S i = true ↔ (ex (16 * (rev - f) + i) ≠ 0 ∧ kl i = nI l))) (hc : ch + rk_ns S 16 ≤ 116) (h0 : 0 < rk_ns S 16) (h : post (nI (rk_ns S 16)) ((nI f), (nI (rev + 1)), (nI (ch + rk_ns S 16)), tm, (rk_ga S (fun i => 16 * ((rev + 1) - f) + i) (fun _ => 0) (rk_nr ex (16 * (rev - f)) 16) 16), rk_nr va (16 * (rev - f)) 16, km, ys, yv, (rk_ga S (fun i => i) (fun _ => -1) kl 16), (rk_ga S (fun i => ch + rk_ns S i) (fun _ => nI (rev + 1)) R 16), (rk_ga S (fun i => ch + rk_ns S i) (fun i => nI i) K 16), (rk_ga S (fun i => ch + rk_ns S i) (fun _ => 0) P 16), (rk_ga S (fun i => ch + rk_ns S i) (fun _ => 0) V 16), ll, le, upd lo l 0, ws, wf, wl, fr, lr, lk, hP, hV)) : wpY_end post ((nI f), (nI rev), (nI ch), tm, ex, va, km, ys, yv, kl, R, K, P, V, ll, le, lo, ws, wf, wl, fr, lr, lk, hP, hV) (nI l) := by
  have e : (nI l).toNatClampNeg = l := nI_clamp (by omega)
  exact rk_y_un S hf hr he hS ⟨vp_in_nI hl (by decide), nm_r (e' := upd lo l 0) (by rw [e, rk_vb0]) (rk_y_ea1 S h0 hf hr hc he (rk_y_bi S h))⟩
end
end
section
section
/-! leases, watches, the relation -/
def rk_lo (kl lo : Nat → Int32) : Prop := ∀ k, k < 16 → kl k = -1 ∨ ∃ l, l < 6 ∧ kl k = nI l ∧ lo l ≠ 0
def rk_wr (pr pk hA hK fr lr lk : Nat → Int32) (w : Nat) : Prop :=
  (hA w = 0 ∧ lk w < 0 ∧ pr w = fr w ∧ pk w = 0) ∨ (hA w ≠ 0 ∧ hK w = lk w ∧ vp_in (lk w) 16 ∧ pr w = lr w ∧ pk w = lk w + 1 ∧ fr w ≤ lr w)
def rk_wt (ws pr pk hA hK fr lr lk : Nat → Int32) : Prop :=
  ∀ w, w < 4 → (ws w = 0 ∨ ws w = 1 ∨ ws w = 2) ∧ (ws w ≠ 0 → rk_wr pr pk hA hK fr lr lk w)
def rk_Rl (B : Nat) (u : SX) (v : SY) : Prop :=
  ∃ (rev f ch : Nat) (tm : Int32) (ke km ks kv kl ef vf R K P V lo ll le ws wf wl pr pk hA hK hP hV ex va ys yv fr lr lk : Nat → Int32), u = ((nI rev), (nI f), tm, (nI ch), ke, km, ks, kv, kl, ef, vf, R, K, P, V, lo, ll, le, ws, wf, wl, pr, pk, hA, hK, hP, hV) ∧ v = ((nI f), (nI rev), (nI ch), tm, ex, va, km, ys, yv, kl, R, K, P, V, ll, le, lo, ws, wf, wl, fr, lr, lk, hP, hV) ∧ rev ≤ B ∧ rk_md rev f ch ke ks kv kl ef vf R K P V ex va ys yv ∧ rk_rr R f ch = rev ∧ rk_lo kl lo ∧ rk_wt ws pr pk hA hK fr lr lk
theorem rk_Rl_up {B C : Nat} {u : SX} {v : SY} (h : rk_Rl B u v) (hBC : B ≤ C) : rk_Rl C u v := by
  obtain ⟨rev, f, ch, tm, ke, km, ks, kv, kl, ef, vf, R, K, P, V, lo, ll, le, ws, wf, wl, pr, pk, hA, hK, hP, hV, ex, va, ys, yv, fr, lr, lk, h1, h2, hB, hM, hF, hL, hW⟩ := h
  exact ⟨rev, f, ch, tm, ke, km, ks, kv, kl, ef, vf, R, K, P, V, lo, ll, le, ws, wf, wl, pr, pk, hA, hK, hP, hV, ex, va, ys, yv, fr, lr, lk, h1, h2, Nat.le_trans hB hBC, hM, hF, hL, hW⟩
/-- the relation at the head of a turn whose first cell is k -/
def i_Rel (k : Nat) (u : SX) (v : SY) : Prop := rk_Rl (200 * k) u v
theorem i_up {k : Nat} {u : SX} {v : SY} (h : i_Rel k u v) : i_Rel (k + 5) u v := rk_Rl_up h (by omega)

/-! the new objects -/
theorem rk_x_in {post : SX → Prop} (h : post (0, 0, 0, 0, (fun _ => 0), (fun _ => 0), (fun _ => 0), (fun _ => 0), rk_ga (fun _ => true) (fun i => i) (fun _ => -1) (fun _ => 0) 16, (fun _ => 0), (fun _ => 0), (fun _ => 0), (fun _ => 0), (fun _ => 0), (fun _ => 0), (fun _ => 0), (fun _ => 0), (fun _ => 0), (fun _ => 0), (fun _ => 0), (fun _ => 0), (fun _ => 0), (fun _ => 0), (fun _ => 0), (fun _ => 0), (fun _ => 0), (fun _ => 0))) : wpX_init post := by
  have key : ∀ d n j, j + d = 16 → d < n → wX_init_181 post 0 0 0 0 n (nI j) (fun _ => 0) (fun _ => 0) (fun _ => 0) (fun _ => 0) (rk_ga (fun _ => true) (fun i => i) (fun _ => -1) (fun _ => 0) j) (fun _ => 0) (fun _ => 0) (fun _ => 0) (fun _ => 0) (fun _ => 0) (fun _ => 0) (fun _ => 0) (fun _ => 0) (fun _ => 0) (fun _ => 0) (fun _ => 0) (fun _ => 0) (fun _ => 0) (fun _ => 0) (fun _ => 0) (fun _ => 0) (fun _ => 0) (fun _ => 0) := by
    intro d
    induction d with
    | zero =>
      intro n j h2 h3
      obtain ⟨n, rfl⟩ : ∃ m, n = m + 1 := ⟨n - 1, by omega⟩
      obtain rfl : j = 16 := by omega
      exact rk_leT 16 16 (by omega) h
    | succ d ih =>
      intro n j h2 h3
      obtain ⟨n, rfl⟩ : ∃ m, n = m + 1 := ⟨n - 1, by omega⟩
      have ih := ih n (j + 1) (by omega) (by omega)
      exact rk_leF 16 j (by omega) ⟨vp_in_nI (by omega) (by decide), nm_r (e' := rk_ga (fun _ => true) (fun i => i) (fun _ => -1) (fun _ => 0) (j + 1)) (by rw [rk_ga_t rfl, nI_clamp (by omega)]) (nm_r (nI_1 j) ih)⟩
  exact ⟨17, key 16 17 0 rfl (by omega)⟩
theorem rk_y_in {post : SY → Prop} (h : post (0, 0, 0, 0, (fun _ => 0), (fun _ => 0), (fun _ => 0), (fun _ => 0), (fun _ => 0), rk_ga (fun _ => true) (fun i => i) (fun _ => -1) (fun _ => 0) 16, (fun _ => 0), (fun _ => 0), (fun _ => 0), (fun _ => 0), (fun _ => 0), (fun _ => 0), (fun _ => 0), (fun _ => 0), (fun _ => 0), (fun _ => 0), (fun _ => 0), (fun _ => 0), (fun _ => 0), (fun _ => 0), (fun _ => 0))) : wpY_init post := by
  have key : ∀ d n j, j + d = 16 → d < n → wY_init_168 post 0 0 0 0 n (nI j) (fun _ => 0) (fun _ => 0) (fun _ => 0) (fun _ => 0) (fun _ => 0) (rk_ga (fun _ => true) (fun i => i) (fun _ => -1) (fun _ => 0) j) (fun _ => 0) (fun _ => 0) (fun _ => 0) (fun _ => 0) (fun _ => 0) (fun _ => 0) (fun _ => 0) (fun _ => 0) (fun _ => 0) (fun _ => 0) (fun _ => 0) (fun _ => 0) (fun _ => 0) (fun _ => 0) (fun _ => 0) := by
    intro d
    induction d with
    | zero =>
      intro n j h2 h3
      obtain ⟨n, rfl⟩ : ∃ m, n = m + 1 := ⟨n - 1, by omega⟩
      obtain rfl : j = 16 := by omega
      exact rk_leT 16 16 (by omega) h
    | succ d ih =>
      intro n j h2 h3
      obtain ⟨n, rfl⟩ : ∃ m, n = m + 1 := ⟨n - 1, by omega⟩
      have ih := ih n (j + 1) (by omega) (by omega)
      exact rk_leF 16 j (by omega) ⟨vp_in_nI (by omega) (by decide), nm_r (e' := rk_ga (fun _ => true) (fun i => i) (fun _ => -1) (fun _ => 0) (j + 1)) (by rw [rk_ga_t rfl, nI_clamp (by omega)]) (nm_r (nI_1 j) ih)⟩
  exact ⟨17, key 16 17 0 rfl (by omega)⟩
theorem rk_md_0 : rk_md 0 0 0 (fun _ => 0) (fun _ => 0) (fun _ => 0) (rk_ga (fun _ => true) (fun i => i) (fun _ => -1) (fun _ => 0) 16) (fun _ => 0) (fun _ => 0) (fun _ => 0) (fun _ => 0) (fun _ => 0) (fun _ => 0) (fun _ => 0) (fun _ => 0) (fun _ => 0) (fun _ => 0) := by
  have hb : rk_bo (fun _ => 0) := fun _ => Or.inl rfl
  refine ⟨Nat.le_refl 0, ?_, ⟨fun n hn => absurd hn (by omega), Int.le_refl _, by decide⟩, fun _ => vp_in_nI (n := 0) (by decide) (by decide), hb, hb, hb, ?_, ?_⟩
  · rw [rk_ns_z 16 (fun i _ => by simp)]; omega
  · intro n hn k hk
    exact ⟨rfl, fun z => absurd rfl z⟩
  · intro k hk
    refine ⟨rfl, fun _ => ⟨rfl, rfl, ?_⟩, fun z => absurd rfl z⟩
    rw [rk_ga_id, if_pos ⟨hk, rfl⟩]
theorem i_vc0 : wpX_init (fun u => wpY_init (fun v => i_Rel 0 u v)) := by
  refine rk_x_in (rk_y_in ?_)
  refine ⟨0, 0, 0, 0, _, _, _, _, _, _, _, _, _, _, _, _, _, _, _, _, _, _, _, _, _, _, _, _, _, _, _, _, _, _, rfl, rfl, Nat.le_refl 0, rk_md_0, rfl, ?_, ?_⟩
  · intro k hk
    left
    rw [rk_ga_id, if_pos ⟨hk, rfl⟩]
  · intro w hw
    exact ⟨Or.inl rfl, fun z => absurd rfl z⟩

/-! methods that only read -/
theorem i_vc_revision {k : Nat} {u : SX} {v : SY} (I : i_Rel k u v) (hk : k + 5 ≤ 2560) : wpX_revision (fun r => wpY_revision (fun r' => r' = r ∧ i_Rel (k + 5) u v) v) u := by
  have J := i_up I
  obtain ⟨rev, f, ch, tm, ke, km, ks, kv, kl, ef, vf, R, K, P, V, lo, ll, le, ws, wf, wl, pr, pk, hA, hK, hP, hV, ex, va, ys, yv, fr, lr, lk, rfl, rfl, hB, hM, hF, hL, hW⟩ := I
  exact ⟨rfl, J⟩
theorem i_vc_remembered {k : Nat} {u : SX} {v : SY} (I : i_Rel k u v) (hk : k + 5 ≤ 2560) : wpX_remembered (fun r => wpY_remembered (fun r' => r' = r ∧ i_Rel (k + 5) u v) v) u := by
  have J := i_up I
  obtain ⟨rev, f, ch, tm, ke, km, ks, kv, kl, ef, vf, R, K, P, V, lo, ll, le, ws, wf, wl, pr, pk, hA, hK, hP, hV, ex, va, ys, yv, fr, lr, lk, rfl, rfl, hB, hM, hF, hL, hW⟩ := I
  exact ⟨rfl, J⟩
theorem rk_md_r {rev f ch : Nat} {ke ks kv kl ef vf R K P V ex va ys yv : Nat → Int32} (h : rk_md rev f ch ke ks kv kl ef vf R K P V ex va ys yv) (hf : rk_rr R f ch = rev) : rev - f ≤ 116 := by
  obtain ⟨m1, m2, m3, m4, m5, m6, m7, m8, m9⟩ := h
  have := rk_lg_bf m3 hf
  omega
theorem i_vc_made {k : Nat} {u : SX} {v : SY} (I : i_Rel k u v) (hk : k + 5 ≤ 2560) (v1 : Int32) : wpX_made (fun r => wpY_made (fun r' => r' = r ∧ i_Rel (k + 5) u v) v v1) u v1 := by
  have J := i_up I
  obtain ⟨rev, f, ch, tm, ke, km, ks, kv, kl, ef, vf, R, K, P, V, lo, ll, le, ws, wf, wl, pr, pk, hA, hK, hP, hV, ex, va, ys, yv, fr, lr, lk, rfl, rfl, hB, hM, hF, hL, hW⟩ := I
  have hr := rk_md_r hM hF
  obtain ⟨m1, m2, m3, m4, m5, m6, m7, m8, m9⟩ := hM
  unfold wpX_made
  rcases pk_ix v1 (n := 16) (by decide) with hx | hx | ⟨j, hj, rfl⟩
  · refine rk_xk_b (Or.inl hx) (br_t rfl ?_)
    unfold wpY_made
    exact rk_yk_b (Or.inl hx) (br_t rfl ⟨rfl, J⟩)
  · refine rk_xk_b (Or.inr hx) (br_t rfl ?_)
    unfold wpY_made
    exact rk_yk_b (Or.inr hx) (br_t rfl ⟨rfl, J⟩)
  · have vj : vp_in (nI j) 16 := vp_in_nI hj (by decide)
    obtain ⟨n1, n2, n3⟩ := m9 j hj
    refine rk_xk_g hj (br_f (by decide) ⟨vj, ?_⟩)
    rw [nI_clamp (by omega)]
    by_cases z : ke j = 0
    · refine br_t z ?_
      unfold wpY_made
      refine rk_yk_g hj (br_f (by decide) (rk_y_en m1 (by omega) hj m7 ?_))
      rw [← n1]
      exact br_t z ⟨rfl, J⟩
    · refine br_f z ⟨vj, ?_⟩
      unfold wpY_made
      refine rk_yk_g hj (br_f (by decide) (rk_y_en m1 (by omega) hj m7 ?_))
      rw [← n1, nI_clamp (by omega)]
      exact br_f z ⟨vj, rfl, J⟩
theorem i_vc_set {k : Nat} {u : SX} {v : SY} (I : i_Rel k u v) (hk : k + 5 ≤ 2560) (v1 : Int32) : wpX_set (fun r => wpY_set (fun r' => r' = r ∧ i_Rel (k + 5) u v) v v1) u v1 := by
  have J := i_up I
  obtain ⟨rev, f, ch, tm, ke, km, ks, kv, kl, ef, vf, R, K, P, V, lo, ll, le, ws, wf, wl, pr, pk, hA, hK, hP, hV, ex, va, ys, yv, fr, lr, lk, rfl, rfl, hB, hM, hF, hL, hW⟩ := I
  have hr := rk_md_r hM hF
  obtain ⟨m1, m2, m3, m4, m5, m6, m7, m8, m9⟩ := hM
  unfold wpX_set
  rcases pk_ix v1 (n := 16) (by decide) with hx | hx | ⟨j, hj, rfl⟩
  · refine rk_xk_b (Or.inl hx) (br_t rfl ?_)
    unfold wpY_set
    exact rk_yk_b (Or.inl hx) (br_t rfl ⟨rfl, J⟩)
  · refine rk_xk_b (Or.inr hx) (br_t rfl ?_)
    unfold wpY_set
    exact rk_yk_b (Or.inr hx) (br_t rfl ⟨rfl, J⟩)
  · have vj : vp_in (nI j) 16 := vp_in_nI hj (by decide)
    obtain ⟨n1, n2, n3⟩ := m9 j hj
    refine rk_xk_g hj (br_f (by decide) ⟨vj, ?_⟩)
    rw [nI_clamp (by omega)]
    by_cases z : ke j = 0
    · refine br_t z ?_
      unfold wpY_set
      refine rk_yk_g hj (br_f (by decide) (rk_y_en m1 (by omega) hj m7 ?_))
      rw [← n1]
      exact br_t z ⟨rfl, J⟩
    · refine br_f z ⟨vj, ?_⟩
      unfold wpY_set
      refine rk_yk_g hj (br_f (by decide) (rk_y_en m1 (by omega) hj m7 ?_))
      rw [← n1, nI_clamp (by omega)]
      exact br_f z ⟨vj, (n3 z).1.symm, J⟩
theorem i_vc_version {k : Nat} {u : SX} {v : SY} (I : i_Rel k u v) (hk : k + 5 ≤ 2560) (v1 : Int32) : wpX_version (fun r => wpY_version (fun r' => r' = r ∧ i_Rel (k + 5) u v) v v1) u v1 := by
  have J := i_up I
  obtain ⟨rev, f, ch, tm, ke, km, ks, kv, kl, ef, vf, R, K, P, V, lo, ll, le, ws, wf, wl, pr, pk, hA, hK, hP, hV, ex, va, ys, yv, fr, lr, lk, rfl, rfl, hB, hM, hF, hL, hW⟩ := I
  have hr := rk_md_r hM hF
  obtain ⟨m1, m2, m3, m4, m5, m6, m7, m8, m9⟩ := hM
  unfold wpX_version
  rcases pk_ix v1 (n := 16) (by decide) with hx | hx | ⟨j, hj, rfl⟩
  · refine rk_xk_b (Or.inl hx) (br_t rfl ?_)
    unfold wpY_version
    exact rk_yk_b (Or.inl hx) (br_t rfl ⟨rfl, J⟩)
  · refine rk_xk_b (Or.inr hx) (br_t rfl ?_)
    unfold wpY_version
    exact rk_yk_b (Or.inr hx) (br_t rfl ⟨rfl, J⟩)
  · have vj : vp_in (nI j) 16 := vp_in_nI hj (by decide)
    obtain ⟨n1, n2, n3⟩ := m9 j hj
    refine rk_xk_g hj (br_f (by decide) ⟨vj, ?_⟩)
    rw [nI_clamp (by omega)]
    by_cases z : ke j = 0
    · refine br_t z ?_
      unfold wpY_version
      refine rk_yk_g hj (br_f (by decide) (rk_y_en m1 (by omega) hj m7 ?_))
      rw [← n1]
      exact br_t z ⟨rfl, J⟩
    · refine br_f z ⟨vj, ?_⟩
      unfold wpY_version
      refine rk_yk_g hj (br_f (by decide) (rk_y_en m1 (by omega) hj m7 ?_))
      rw [← n1, nI_clamp (by omega)]
      exact br_f z ⟨vj, (n3 z).2.symm, J⟩
theorem i_vc_leaseOf {k : Nat} {u : SX} {v : SY} (I : i_Rel k u v) (hk : k + 5 ≤ 2560) (v1 : Int32) : wpX_leaseOf (fun r => wpY_leaseOf (fun r' => r' = r ∧ i_Rel (k + 5) u v) v v1) u v1 := by
  have J := i_up I
  obtain ⟨rev, f, ch, tm, ke, km, ks, kv, kl, ef, vf, R, K, P, V, lo, ll, le, ws, wf, wl, pr, pk, hA, hK, hP, hV, ex, va, ys, yv, fr, lr, lk, rfl, rfl, hB, hM, hF, hL, hW⟩ := I
  have hr := rk_md_r hM hF
  obtain ⟨m1, m2, m3, m4, m5, m6, m7, m8, m9⟩ := hM
  unfold wpX_leaseOf
  rcases pk_ix v1 (n := 16) (by decide) with hx | hx | ⟨j, hj, rfl⟩
  · refine rk_xk_b (Or.inl hx) (br_t rfl ?_)
    unfold wpY_leaseOf
    exact rk_yk_b (Or.inl hx) (br_t rfl ⟨rfl, J⟩)
  · refine rk_xk_b (Or.inr hx) (br_t rfl ?_)
    unfold wpY_leaseOf
    exact rk_yk_b (Or.inr hx) (br_t rfl ⟨rfl, J⟩)
  · have vj : vp_in (nI j) 16 := vp_in_nI hj (by decide)
    obtain ⟨n1, n2, n3⟩ := m9 j hj
    refine rk_xk_g hj (br_f (by decide) ⟨vj, ?_⟩)
    rw [nI_clamp (by omega)]
    rcases hL j hj with z | ⟨l, hl, z, hlo⟩
    · refine br_t z ?_
      unfold wpY_leaseOf
      refine rk_yk_g hj (br_f (by decide) (rk_y_en m1 (by omega) hj m7 ?_))
      rw [nI_clamp (by omega), z]
      exact br_c (fun _ => ⟨rfl, J⟩) (fun _ => ⟨vj, br_t (by decide) ⟨rfl, J⟩⟩)
    · have z1 : ¬ kl j = -1 := by rw [z]; exact rk_ne1 (by omega)
      refine br_f z1 ⟨vj, ?_⟩
      unfold wpY_leaseOf
      refine rk_yk_g hj (br_f (by decide) (rk_y_en m1 (by omega) hj m7 ?_))
      rw [← n1, nI_clamp (by omega)]
      exact br_f (fun y => z1 (n2 y).2.2) ⟨vj, br_f (by rw [z]; exact nI_pos (by omega)) ⟨vj, rfl, J⟩⟩
theorem i_vc_remaining {k : Nat} {u : SX} {v : SY} (I : i_Rel k u v) (hk : k + 5 ≤ 2560) (v1 : Int32) : wpX_remaining (fun r => wpY_remaining (fun r' => r' = r ∧ i_Rel (k + 5) u v) v v1) u v1 := by
  have J := i_up I
  obtain ⟨rev, f, ch, tm, ke, km, ks, kv, kl, ef, vf, R, K, P, V, lo, ll, le, ws, wf, wl, pr, pk, hA, hK, hP, hV, ex, va, ys, yv, fr, lr, lk, rfl, rfl, hB, hM, hF, hL, hW⟩ := I
  unfold wpX_remaining
  rcases pk_ix v1 (n := 6) (by decide) with hx | hx | ⟨j, hj, rfl⟩
  · refine rk_xl_b (Or.inl hx) (br_t rfl ?_)
    unfold wpY_remaining
    exact rk_yl_b (Or.inl hx) (br_t rfl ⟨rfl, J⟩)
  · refine rk_xl_b (Or.inr hx) (br_t rfl ?_)
    unfold wpY_remaining
    exact rk_yl_b (Or.inr hx) (br_t rfl ⟨rfl, J⟩)
  · have vj : vp_in (nI j) 6 := vp_in_nI hj (by decide)
    refine rk_xl_g hj (br_f (by decide) ⟨vj, ?_⟩)
    rw [nI_clamp (by omega)]
    by_cases z : lo j = 0
    · refine br_t z ?_
      unfold wpY_remaining
      refine rk_yl_g hj (br_f (by decide) ⟨vj, ?_⟩)
      rw [nI_clamp (by omega)]
      exact br_t z ⟨rfl, J⟩
    · refine br_f z ⟨vj, ?_⟩
      unfold wpY_remaining
      refine rk_yl_g hj (br_f (by decide) ⟨vj, ?_⟩)
      rw [nI_clamp (by omega)]
      exact br_f z ⟨vj, rfl, J⟩
theorem rk_lo_n {kl lo : Nat → Int32} (h : rk_lo kl lo) {l : Nat} (hl : l < 6) (z : lo l = 0) : ∀ i, i < 16 → ¬ kl i = nI l := by
  intro i hi e
  rcases h i hi with y | ⟨m, hm, y, ym⟩
  · rw [e] at y
    exact rk_ne1 (by omega) y
  · rw [e] at y
    have := (nI_eq (by omega) (by omega)).mp y
    subst this
    exact ym z
theorem i_vc_keysOf {k : Nat} {u : SX} {v : SY} (I : i_Rel k u v) (hk : k + 5 ≤ 2560) (v1 : Int32) : wpX_keysOf (fun r => wpY_keysOf (fun r' => r' = r ∧ i_Rel (k + 5) u v) v v1) u v1 := by
  have J := i_up I
  obtain ⟨rev, f, ch, tm, ke, km, ks, kv, kl, ef, vf, R, K, P, V, lo, ll, le, ws, wf, wl, pr, pk, hA, hK, hP, hV, ex, va, ys, yv, fr, lr, lk, rfl, rfl, hB, hM, hF, hL, hW⟩ := I
  have hr := rk_md_r hM hF
  obtain ⟨m1, m2, m3, m4, m5, m6, m7, m8, m9⟩ := hM
  unfold wpX_keysOf
  rcases pk_ix v1 (n := 6) (by decide) with hx | hx | ⟨j, hj, rfl⟩
  · refine rk_xl_b (Or.inl hx) (br_t rfl ?_)
    unfold wpY_keysOf
    exact rk_yl_b (Or.inl hx) (br_t rfl ⟨rfl, J⟩)
  · refine rk_xl_b (Or.inr hx) (br_t rfl ?_)
    unfold wpY_keysOf
    exact rk_yl_b (Or.inr hx) (br_t rfl ⟨rfl, J⟩)
  · have vj : vp_in (nI j) 6 := vp_in_nI hj (by decide)
    refine rk_xl_g hj (br_f (by decide) (rk_x_cu (fun i => decide (kl i = nI j)) (fun i _ => decide_eq_true_iff) ?_))
    unfold wpY_keysOf
    refine rk_yl_g hj (br_f (by decide) ⟨vj, ?_⟩)
    rw [nI_clamp (by omega)]
    by_cases z : lo j = 0
    · refine br_t z ⟨?_, J⟩
      rw [rk_ns_z 16 (fun i hi => decide_eq_false (rk_lo_n hL hj z i hi))]
      rfl
    · refine br_f z (rk_y_un (fun i => decide (kl i = nI j)) m1 (by omega) m7 ?_ (rk_y_bi _ ⟨rfl, J⟩))
      intro i hi
      obtain ⟨n1, n2, n3⟩ := m9 i hi
      rw [decide_eq_true_iff, ← n1]
      refine ⟨fun y => ⟨fun w => ?_, y⟩, fun y => y.2⟩
      have := (n2 w).2.2
      rw [y] at this
      exact rk_ne1 (by omega) this
theorem i_vc_handed {k : Nat} {u : SX} {v : SY} (I : i_Rel k u v) (hk : k + 5 ≤ 2560) (v1 : Int32) (v2 : Int32) : wpX_handed (fun r => wpY_handed (fun r' => r' = r ∧ i_Rel (k + 5) u v) v v1 v2) u v1 v2 := by
  have J := i_up I
  obtain ⟨rev, f, ch, tm, ke, km, ks, kv, kl, ef, vf, R, K, P, V, lo, ll, le, ws, wf, wl, pr, pk, hA, hK, hP, hV, ex, va, ys, yv, fr, lr, lk, rfl, rfl, hB, hM, hF, hL, hW⟩ := I
  unfold wpX_handed
  rcases pk_ix v1 (n := 4) (by decide) with hx | hx | ⟨w, hw, rfl⟩
  · refine rk_xw_b (Or.inl hx) (br_t rfl ?_)
    unfold wpY_handed
    exact rk_yw_b (Or.inl hx) (br_t rfl ⟨rfl, J⟩)
  · refine rk_xw_b (Or.inr hx) (br_t rfl ?_)
    unfold wpY_handed
    exact rk_yw_b (Or.inr hx) (br_t rfl ⟨rfl, J⟩)
  · have vw : vp_in (nI w) 4 := vp_in_nI hw (by decide)
    refine rk_xw_g hw (br_f (by decide) ?_)
    by_cases a1 : v2 < 0
    · refine br_t a1 ?_
      unfold wpY_handed
      exact rk_yw_g hw (br_f (by decide) (br_t a1 ⟨rfl, J⟩))
    · refine br_f a1 ?_
      by_cases a2 : v2 ≤ 2
      · refine br_t a2 ⟨vw, ?_⟩
        rw [nI_clamp (by omega)]
        by_cases a3 : ws w = 0
        · refine br_t a3 ?_
          unfold wpY_handed
          refine rk_yw_g hw (br_f (by decide) (br_f a1 (br_t a2 ⟨vw, ?_⟩)))
          rw [nI_clamp (by omega)]
          exact br_t a3 ⟨rfl, J⟩
        · refine br_f a3 ⟨vw, ?_⟩
          rcases (hW w hw).2 a3 with ⟨q1, q2, q3, q4⟩ | ⟨q1, q2, q3, q4, q5, q6⟩
          · refine br_t q1 ?_
            unfold wpY_handed
            refine rk_yw_g hw (br_f (by decide) (br_f a1 (br_t a2 ⟨vw, ?_⟩)))
            rw [nI_clamp (by omega)]
            exact br_f a3 ⟨vw, br_f (Int32.not_le.mpr q2) ⟨rfl, J⟩⟩
          · refine br_f q1 ?_
            have q7 : (0 : Int32) ≤ lk w := by
              obtain ⟨m, hm, e⟩ := vp_in_of q3 (by decide)
              rw [e]
              exact nI_pos' (by omega)
            by_cases a4 : v2 = 0
            · refine br_t a4 ⟨vw, ?_⟩
              unfold wpY_handed
              refine rk_yw_g hw (br_f (by decide) (br_f a1 (br_t a2 ⟨vw, ?_⟩)))
              rw [nI_clamp (by omega)]
              exact br_f a3 ⟨vw, br_t q7 (br_t a4 ⟨vw, q2.symm, J⟩)⟩
            · refine br_f a4 ?_
              by_cases a5 : v2 = 1
              · refine br_t a5 ⟨vw, ?_⟩
                by_cases a6 : hP w = 0
                · refine br_t a6 ?_
                  unfold wpY_handed
                  refine rk_yw_g hw (br_f (by decide) (br_f a1 (br_t a2 ⟨vw, ?_⟩)))
                  rw [nI_clamp (by omega)]
                  exact br_f a3 ⟨vw, br_t q7 (br_f a4 (br_t a5 ⟨vw, br_t a6 ⟨rfl, J⟩⟩))⟩
                · refine br_f a6 ?_
                  unfold wpY_handed
                  refine rk_yw_g hw (br_f (by decide) (br_f a1 (br_t a2 ⟨vw, ?_⟩)))
                  rw [nI_clamp (by omega)]
                  exact br_f a3 ⟨vw, br_t q7 (br_f a4 (br_t a5 ⟨vw, br_f a6 ⟨rfl, J⟩⟩))⟩
              · refine br_f a5 ⟨vw, ?_⟩
                unfold wpY_handed
                refine rk_yw_g hw (br_f (by decide) (br_f a1 (br_t a2 ⟨vw, ?_⟩)))
                rw [nI_clamp (by omega)]
                exact br_f a3 ⟨vw, br_t q7 (br_f a4 (br_f a5 ⟨vw, rfl, J⟩))⟩
      · refine br_f a2 ?_
        unfold wpY_handed
        exact rk_yw_g hw (br_f (by decide) (br_f a1 (br_f a2 ⟨rfl, J⟩)))
end
end
section
section
theorem rk_lo_g {kl lo : Nat → Int32} (h : rk_lo kl lo) (j : Nat) : rk_lo kl (upd lo j 1) := by
  intro k hk
  rcases h k hk with y | ⟨m, hm, y, ym⟩
  · exact Or.inl y
  · refine Or.inr ⟨m, hm, y, ?_⟩
    by_cases e : m = j
    · rw [e, pk_us]; decide
    · rw [pk_un e]; exact ym
theorem i_vc_grant {k : Nat} {u : SX} {v : SY} (I : i_Rel k u v) (hk : k + 5 ≤ 2560) (v1 : Int32) (v2 : Int32) : wpX_grant (fun r u' => wpY_grant (fun r' v' => r' = r ∧ i_Rel (k + 5) u' v') v v1 v2) u v1 v2 := by
  have J := i_up I
  obtain ⟨rev, f, ch, tm, ke, km, ks, kv, kl, ef, vf, R, K, P, V, lo, ll, le, ws, wf, wl, pr, pk, hA, hK, hP, hV, ex, va, ys, yv, fr, lr, lk, rfl, rfl, hB, hM, hF, hL, hW⟩ := I
  unfold wpX_grant
  rcases pk_ix v1 (n := 6) (by decide) with hx | hx | ⟨j, hj, rfl⟩
  · refine rk_xl_b (Or.inl hx) (br_t rfl ?_)
    unfold wpY_grant
    exact rk_yl_b (Or.inl hx) (br_t rfl ⟨rfl, J⟩)
  · refine rk_xl_b (Or.inr hx) (br_t rfl ?_)
    unfold wpY_grant
    exact rk_yl_b (Or.inr hx) (br_t rfl ⟨rfl, J⟩)
  · have vj : vp_in (nI j) 6 := vp_in_nI hj (by decide)
    have e : (nI j).toNatClampNeg = j := nI_clamp (by omega)
    refine rk_xl_g hj (br_f (by decide) ?_)
    by_cases a1 : v2 < 1
    · refine br_t a1 ?_
      unfold wpY_grant
      exact rk_yl_g hj (br_f (by decide) (br_t a1 ⟨rfl, J⟩))
    · refine br_f a1 ?_
      by_cases a2 : v2 ≤ 50
      · refine br_t a2 ⟨vj, ?_⟩
        by_cases z : lo j = 0
        · refine br_t (by rw [e]; exact z) ⟨vj, nm_r (e' := upd lo j 1) (by rw [e, rk_vb1]) ⟨vj, nm_r (e' := upd ll j v2) (by rw [e]) ⟨vj, nm_r (e' := upd le j (tm + v2)) (by rw [e]) ⟨vj, ?_⟩⟩⟩⟩
          unfold wpY_grant
          refine rk_yl_g hj (br_f (by decide) (br_f a1 (br_t a2 ⟨vj, br_t (by rw [e]; exact z) ⟨vj, nm_r (e' := upd lo j 1) (by rw [e, rk_vb1]) ⟨vj, nm_r (e' := upd ll j v2) (by rw [e]) ⟨vj, nm_r (e' := upd le j (tm + v2)) (by rw [e]) ⟨vj, rfl, ?_⟩⟩⟩⟩⟩)))
          exact ⟨rev, f, ch, tm, ke, km, ks, kv, kl, ef, vf, R, K, P, V, (upd lo j 1), (upd ll j v2), (upd le j (tm + v2)), ws, wf, wl, pr, pk, hA, hK, hP, hV, ex, va, ys, yv, fr, lr, lk, rfl, rfl, by omega, hM, hF, rk_lo_g hL j, hW⟩
        · refine br_f (by rw [e]; exact z) ?_
          unfold wpY_grant
          exact rk_yl_g hj (br_f (by decide) (br_f a1 (br_t a2 ⟨vj, br_f (by rw [e]; exact z) ⟨rfl, J⟩⟩)))
      · refine br_f a2 ?_
        unfold wpY_grant
        exact rk_yl_g hj (br_f (by decide) (br_f a1 (br_f a2 ⟨rfl, J⟩)))
theorem i_vc_renew {k : Nat} {u : SX} {v : SY} (I : i_Rel k u v) (hk : k + 5 ≤ 2560) (v1 : Int32) : wpX_renew (fun r u' => wpY_renew (fun r' v' => r' = r ∧ i_Rel (k + 5) u' v') v v1) u v1 := by
  have J := i_up I
  obtain ⟨rev, f, ch, tm, ke, km, ks, kv, kl, ef, vf, R, K, P, V, lo, ll, le, ws, wf, wl, pr, pk, hA, hK, hP, hV, ex, va, ys, yv, fr, lr, lk, rfl, rfl, hB, hM, hF, hL, hW⟩ := I
  unfold wpX_renew
  rcases pk_ix v1 (n := 6) (by decide) with hx | hx | ⟨j, hj, rfl⟩
  · refine rk_xl_b (Or.inl hx) (br_t rfl ?_)
    unfold wpY_renew
    exact rk_yl_b (Or.inl hx) (br_t rfl ⟨rfl, J⟩)
  · refine rk_xl_b (Or.inr hx) (br_t rfl ?_)
    unfold wpY_renew
    exact rk_yl_b (Or.inr hx) (br_t rfl ⟨rfl, J⟩)
  · have vj : vp_in (nI j) 6 := vp_in_nI hj (by decide)
    have e : (nI j).toNatClampNeg = j := nI_clamp (by omega)
    refine rk_xl_g hj (br_f (by decide) ⟨vj, ?_⟩)
    by_cases z : lo j = 0
    · refine br_t (by rw [e]; exact z) ?_
      unfold wpY_renew
      exact rk_yl_g hj (br_f (by decide) ⟨vj, br_t (by rw [e]; exact z) ⟨rfl, J⟩⟩)
    · refine br_f (by rw [e]; exact z) ⟨vj, vj, nm_r (e' := upd le j (tm + ll j)) (by rw [e]) ⟨vj, ?_⟩⟩
      unfold wpY_renew
      refine rk_yl_g hj (br_f (by decide) ⟨vj, br_f (by rw [e]; exact z) ⟨vj, vj, nm_r (e' := upd le j (tm + ll j)) (by rw [e]) ⟨vj, rfl, ?_⟩⟩⟩)
      exact ⟨rev, f, ch, tm, ke, km, ks, kv, kl, ef, vf, R, K, P, V, lo, ll, (upd le j (tm + ll j)), ws, wf, wl, pr, pk, hA, hK, hP, hV, ex, va, ys, yv, fr, lr, lk, rfl, rfl, by omega, hM, hF, hL, hW⟩

/-! watches -/
theorem rk_x_w47 {post : Int32 → SX → Prop} {rev f ch : Nat} {tm : Int32} {ke km ks kv kl ef vf R K P V lo ll le ws wf wl pr pk hA hK hP hV : Nat → Int32} {w : Nat} {a b z : Int32} (hw : w < 4) (hz : nI f < z)
    (h : post 0 ((nI rev), (nI f), tm, (nI ch), ke, km, ks, kv, kl, ef, vf, R, K, P, V, lo, ll, le, upd ws w 1, upd wf w a, upd wl w b, upd pr w z, upd pk w 0, upd hA w 0, hK, hP, hV)) : wX_watch_47 post (nI w) a b z (nI rev) (nI f) tm (nI ch) ke km ks kv kl ef vf R K P V lo ll le ws wf wl pr pk hA hK hP hV := by
  have v : vp_in (nI w) 4 := vp_in_nI hw (by decide)
  have e : (nI w).toNatClampNeg = w := nI_clamp (by omega)
  exact br_t hz ⟨v, nm_r (by rw [e]) ⟨v, nm_r (by rw [e]) ⟨v, nm_r (by rw [e]) ⟨v, nm_r (by rw [e]) ⟨v, nm_r (by rw [e]) ⟨v, nm_r (by rw [e, rk_vb0]) h⟩⟩⟩⟩⟩⟩
theorem rk_y_w56 {post : Int32 → SY → Prop} {rev f ch : Nat} {tm : Int32} {ex va km ys yv kl R K P V ll le lo ws wf wl fr lr lk hP hV : Nat → Int32} {w : Nat} {a b z : Int32} (hw : w < 4) (hz : nI f < z)
    (h : post 0 ((nI f), (nI rev), (nI ch), tm, ex, va, km, ys, yv, kl, R, K, P, V, ll, le, lo, upd ws w 1, upd wf w a, upd wl w b, upd fr w z, lr, upd lk w (-1), hP, hV)) : wY_watch_56 post (nI w) a b z (nI f) (nI rev) (nI ch) tm ex va km ys yv kl R K P V ll le lo ws wf wl fr lr lk hP hV := by
  have v : vp_in (nI w) 4 := vp_in_nI hw (by decide)
  have e : (nI w).toNatClampNeg = w := nI_clamp (by omega)
  exact br_t hz ⟨v, nm_r (by rw [e]) ⟨v, nm_r (by rw [e]) ⟨v, nm_r (by rw [e]) ⟨v, nm_r (by rw [e]) ⟨v, nm_r (by rw [e]) h⟩⟩⟩⟩⟩
theorem rk_wt_w {ws pr pk hA hK fr lr lk : Nat → Int32} (h : rk_wt ws pr pk hA hK fr lr lk) (w : Nat) (z : Int32) : rk_wt (upd ws w 1) (upd pr w z) (upd pk w 0) (upd hA w 0) hK (upd fr w z) lr (upd lk w (-1)) := by
  intro j hj
  by_cases e : j = w
  · subst e
    refine ⟨by rw [pk_us]; exact Or.inr (Or.inl rfl), fun _ => Or.inl ?_⟩
    rw [pk_us, pk_us, pk_us, pk_us, pk_us]
    exact ⟨rfl, by decide, rfl, rfl⟩
  · unfold rk_wr
    rw [pk_un e, pk_un e, pk_un e, pk_un e, pk_un e, pk_un e]
    exact h j hj
theorem rk_watch_core {B : Nat} {rev f ch : Nat} {tm : Int32} {ke km ks kv kl ef vf R K P V lo ll le ws wf wl pr pk hA hK hP hV ex va ys yv fr lr lk : Nat → Int32} {w : Nat} {a b z : Int32} (hw : w < 4) (hC : rev ≤ B) (hM : rk_md rev f ch ke ks kv kl ef vf R K P V ex va ys yv) (hF : rk_rr R f ch = rev) (hL : rk_lo kl lo) (hW : rk_wt ws pr pk hA hK fr lr lk) :
    ∃ (r : Int32) (u' : SX) (v' : SY), (∀ post : Int32 → SX → Prop, post r u' → wX_watch_47 post (nI w) a b z (nI rev) (nI f) tm (nI ch) ke km ks kv kl ef vf R K P V lo ll le ws wf wl pr pk hA hK hP hV) ∧ (∀ post : Int32 → SY → Prop, post r v' → wY_watch_56 post (nI w) a b z (nI f) (nI rev) (nI ch) tm ex va km ys yv kl R K P V ll le lo ws wf wl fr lr lk hP hV) ∧ rk_Rl B u' v' := by
  by_cases q : nI f < z
  · exact ⟨_, _, _, fun post h => rk_x_w47 hw q h, fun post h => rk_y_w56 hw q h, rev, f, ch, tm, ke, km, ks, kv, kl, ef, vf, R, K, P, V, lo, ll, le, (upd ws w 1), (upd wf w a), (upd wl w b), (upd pr w z), (upd pk w 0), (upd hA w 0), hK, hP, hV, ex, va, ys, yv, (upd fr w z), lr, (upd lk w (-1)), rfl, rfl, hC, hM, hF, hL, rk_wt_w hW w z⟩
  · exact ⟨_, _, _, fun post h => br_f q h, fun post h => br_f q h, rev, f, ch, tm, ke, km, ks, kv, kl, ef, vf, R, K, P, V, lo, ll, le, ws, wf, wl, pr, pk, hA, hK, hP, hV, ex, va, ys, yv, fr, lr, lk, rfl, rfl, hC, hM, hF, hL, hW⟩
theorem i_vc_watch {k : Nat} {u : SX} {v : SY} (I : i_Rel k u v) (hk : k + 5 ≤ 2560) (v1 : Int32) (v2 : Int32) (v3 : Int32) (v4 : Int32) : wpX_watch (fun r u' => wpY_watch (fun r' v' => r' = r ∧ i_Rel (k + 5) u' v') v v1 v2 v3 v4) u v1 v2 v3 v4 := by
  have J := i_up I
  obtain ⟨rev, f, ch, tm, ke, km, ks, kv, kl, ef, vf, R, K, P, V, lo, ll, le, ws, wf, wl, pr, pk, hA, hK, hP, hV, ex, va, ys, yv, fr, lr, lk, rfl, rfl, hB, hM, hF, hL, hW⟩ := I
  unfold wpX_watch
  rcases pk_ix v1 (n := 4) (by decide) with hx | hx | ⟨w, hw, rfl⟩
  · refine rk_xw_b (Or.inl hx) (br_t rfl ?_)
    unfold wpY_watch
    exact rk_yw_b (Or.inl hx) (br_t rfl ⟨rfl, J⟩)
  · refine rk_xw_b (Or.inr hx) (br_t rfl ?_)
    unfold wpY_watch
    exact rk_yw_b (Or.inr hx) (br_t rfl ⟨rfl, J⟩)
  · have vw : vp_in (nI w) 4 := vp_in_nI hw (by decide)
    have e : (nI w).toNatClampNeg = w := nI_clamp (by omega)
    refine rk_xw_g hw (br_f (by decide) ?_)
    by_cases hx2 : v2 < 0 ∨ nI 16 ≤ v2
    · refine rk_xr_b1 hx2 (br_t rfl ?_)
      unfold wpY_watch
      exact rk_yw_g hw (br_f (by decide) (rk_yk_b hx2 (br_t rfl ⟨rfl, J⟩)))
    · obtain ⟨a, ha, rfl⟩ : ∃ j, j < 16 ∧ v2 = nI j := by
        rcases pk_ix v2 (n := 16) (by decide) with h | h | h
        · exact absurd (Or.inl h) hx2
        · exact absurd (Or.inr h) hx2
        · exact h
      by_cases hx3 : v3 < 0 ∨ nI 16 ≤ v3
      · refine rk_xr_b2 ha hx3 (br_t rfl ?_)
        unfold wpY_watch
        exact rk_yw_g hw (br_f (by decide) (rk_yk_g ha (br_f (by decide) (rk_yk_b hx3 (br_t rfl ⟨rfl, J⟩)))))
      · obtain ⟨b, hb, rfl⟩ : ∃ j, j < 16 ∧ v3 = nI j := by
          rcases pk_ix v3 (n := 16) (by decide) with h | h | h
          · exact absurd (Or.inl h) hx3
          · exact absurd (Or.inr h) hx3
          · exact h
        refine rk_xr_g ha hb (br_f (by decide) ⟨vw, ?_⟩)
        by_cases z : ws w = 0
        · refine br_t (by rw [e]; exact z) ?_
          by_cases y : v4 = -1
          · obtain ⟨r, u', v', hX, hY, hR⟩ := rk_watch_core (B := 200 * (k + 5)) (a := nI a) (b := nI b) (z := nI rev + 1) hw (by omega) hM hF hL hW
            refine br_t y (hX _ ?_)
            unfold wpY_watch
            exact rk_yw_g hw (br_f (by decide) (rk_yk_g ha (br_f (by decide) (rk_yk_g hb (br_f (by decide) ⟨vw, br_t (by rw [e]; exact z) (br_t y (hY _ ⟨rfl, hR⟩))⟩)))))
          · obtain ⟨r, u', v', hX, hY, hR⟩ := rk_watch_core (B := 200 * (k + 5)) (a := nI a) (b := nI b) (z := v4) hw (by omega) hM hF hL hW
            refine br_f y (hX _ ?_)
            unfold wpY_watch
            exact rk_yw_g hw (br_f (by decide) (rk_yk_g ha (br_f (by decide) (rk_yk_g hb (br_f (by decide) ⟨vw, br_t (by rw [e]; exact z) (br_f y (hY _ ⟨rfl, hR⟩))⟩)))))
        · refine br_f (by rw [e]; exact z) ?_
          unfold wpY_watch
          exact rk_yw_g hw (br_f (by decide) (rk_yk_g ha (br_f (by decide) (rk_yk_g hb (br_f (by decide) ⟨vw, br_f (by rw [e]; exact z) ⟨rfl, J⟩⟩)))))
theorem rk_wt_u {ws pr pk hA hK fr lr lk : Nat → Int32} (h : rk_wt ws pr pk hA hK fr lr lk) (w : Nat) : rk_wt (upd ws w 0) pr pk hA hK fr lr lk := by
  intro j hj
  by_cases e : j = w
  · subst e
    rw [pk_us]
    exact ⟨Or.inl rfl, fun z => absurd rfl z⟩
  · rw [pk_un e]
    exact h j hj
theorem i_vc_unwatch {k : Nat} {u : SX} {v : SY} (I : i_Rel k u v) (hk : k + 5 ≤ 2560) (v1 : Int32) : wpX_unwatch (fun r u' => wpY_unwatch (fun r' v' => r' = r ∧ i_Rel (k + 5) u' v') v v1) u v1 := by
  have J := i_up I
  obtain ⟨rev, f, ch, tm, ke, km, ks, kv, kl, ef, vf, R, K, P, V, lo, ll, le, ws, wf, wl, pr, pk, hA, hK, hP, hV, ex, va, ys, yv, fr, lr, lk, rfl, rfl, hB, hM, hF, hL, hW⟩ := I
  unfold wpX_unwatch
  rcases pk_ix v1 (n := 4) (by decide) with hx | hx | ⟨w, hw, rfl⟩
  · refine rk_xw_b (Or.inl hx) (br_t rfl ?_)
    unfold wpY_unwatch
    exact rk_yw_b (Or.inl hx) (br_t rfl ⟨rfl, J⟩)
  · refine rk_xw_b (Or.inr hx) (br_t rfl ?_)
    unfold wpY_unwatch
    exact rk_yw_b (Or.inr hx) (br_t rfl ⟨rfl, J⟩)
  · have vw : vp_in (nI w) 4 := vp_in_nI hw (by decide)
    have e : (nI w).toNatClampNeg = w := nI_clamp (by omega)
    have JJ : i_Rel (k + 5) ((nI rev), (nI f), tm, (nI ch), ke, km, ks, kv, kl, ef, vf, R, K, P, V, lo, ll, le, upd ws w 0, wf, wl, pr, pk, hA, hK, hP, hV) ((nI f), (nI rev), (nI ch), tm, ex, va, km, ys, yv, kl, R, K, P, V, ll, le, lo, upd ws w 0, wf, wl, fr, lr, lk, hP, hV) := ⟨rev, f, ch, tm, ke, km, ks, kv, kl, ef, vf, R, K, P, V, lo, ll, le, (upd ws w 0), wf, wl, pr, pk, hA, hK, hP, hV, ex, va, ys, yv, fr, lr, lk, rfl, rfl, by omega, hM, hF, hL, rk_wt_u hW w⟩
    refine rk_xw_g hw (br_f (by decide) ⟨vw, ?_⟩)
    rcases (hW w hw).1 with z | z | z
    · refine br_t (by rw [e]; exact z) ?_
      unfold wpY_unwatch
      refine rk_yw_g hw (br_f (by decide) ⟨vw, nm_r (e' := ws w) (by rw [e]) ⟨vw, nm_r (e' := ws) (by rw [e]; exact rk_uv z) (br_t z ⟨rfl, J⟩)⟩⟩)
    · have z0 : ¬ ws w = 0 := by rw [z]; decide
      have z2 : ¬ ws w = 2 := by rw [z]; decide
      refine br_f (by rw [e]; exact z0) ⟨vw, br_f (by rw [e]; exact z2) ⟨vw, nm_r (e' := upd ws w 0) (by rw [e]) ?_⟩⟩
      unfold wpY_unwatch
      exact rk_yw_g hw (br_f (by decide) ⟨vw, nm_r (e' := ws w) (by rw [e]) ⟨vw, nm_r (e' := upd ws w 0) (by rw [e]) (br_f z0 ⟨by rw [z]; rfl, JJ⟩)⟩⟩)
    · have z0 : ¬ ws w = 0 := by rw [z]; decide
      refine br_f (by rw [e]; exact z0) ⟨vw, br_t (by rw [e]; exact z) ⟨vw, nm_r (e' := upd ws w 0) (by rw [e]) ?_⟩⟩
      unfold wpY_unwatch
      exact rk_yw_g hw (br_f (by decide) ⟨vw, nm_r (e' := ws w) (by rw [e]) ⟨vw, nm_r (e' := upd ws w 0) (by rw [e]) (br_f z0 ⟨by rw [z]; rfl, JJ⟩)⟩⟩)

/-! put and swap -/
theorem rk_lo_p {kl lo : Nat → Int32} (h : rk_lo kl lo) {k : Nat} {l : Int32} (hl : l = -1 ∨ ∃ j, j < 6 ∧ l = nI j ∧ lo j ≠ 0) : rk_lo (upd kl k l) lo := by
  intro i hi
  by_cases e : i = k
  · rw [e, pk_us]; exact hl
  · rw [pk_un e]; exact h i hi
theorem rk_Rl_put {C : Nat} {rev f ch : Nat} {tm : Int32} {ke km ks kv kl ef vf R K P V lo ll le ws wf wl pr pk hA hK hP hV ex va ys yv fr lr lk : Nat → Int32} {k : Nat} {x l : Int32} (hM : rk_md rev f ch ke ks kv kl ef vf R K P V ex va ys yv) (hF : rk_rr R f ch = rev) (hL : rk_lo kl lo) (hW : rk_wt ws pr pk hA hK fr lr lk) (hk : k < 16) (hc : ch < 100) (hC : rev + 1 ≤ C) (hv : rev + 1 < 2 ^ 30) (hl : l = -1 ∨ ∃ j, j < 6 ∧ l = nI j ∧ lo j ≠ 0) :
    rk_Rl C ((nI (rev + 1)), (nI f), tm, (nI (ch + 1)), upd ke k 1, upd km k (if ke k = 0 then nI (rev + 1) else km k), upd ks k (nI (rev + 1)), upd kv k (kv k + 1), upd kl k l, ef, vf, upd R ch (nI (rev + 1)), upd K ch (nI k), upd P ch 1, upd V ch x, lo, ll, le, ws, wf, wl, pr, pk, hA, hK, hP, hV) ((nI f), (nI (rev + 1)), (nI (ch + 1)), tm, upd (rk_nr ex (16 * (rev - f)) 16) (16 * (rev + 1 - f) + k) 1, upd (rk_nr va (16 * (rev - f)) 16) (16 * (rev + 1 - f) + k) x, upd km k (if ke k = 0 then nI (rev + 1) else km k), upd ys k (nI (rev + 1)), upd yv k (if ke k = 0 then 1 else yv k + 1), upd kl k l, upd R ch (nI (rev + 1)), upd K ch (nI k), upd P ch 1, upd V ch x, ll, le, lo, ws, wf, wl, fr, lr, lk, hP, hV) := by
  obtain ⟨g1, g2⟩ := rk_md_p (x := x) (l := l) (rk_md_n hM hF) hv hc hk rfl
  exact ⟨(rev + 1), f, (ch + 1), tm, (upd ke k 1), (upd km k (if ke k = 0 then nI (rev + 1) else km k)), (upd ks k (nI (rev + 1))), (upd kv k (kv k + 1)), (upd kl k l), ef, vf, (upd R ch (nI (rev + 1))), (upd K ch (nI k)), (upd P ch 1), (upd V ch x), lo, ll, le, ws, wf, wl, pr, pk, hA, hK, hP, hV, (upd (rk_nr ex (16 * (rev - f)) 16) (16 * (rev + 1 - f) + k) 1), (upd (rk_nr va (16 * (rev - f)) 16) (16 * (rev + 1 - f) + k) x), (upd ys k (nI (rev + 1))), (upd yv k (if ke k = 0 then 1 else yv k + 1)), fr, lr, lk, rfl, rfl, hC, g1, g2, rk_lo_p hL hl, hW⟩
theorem rk_put_core {B : Nat} {rev f ch : Nat} {tm : Int32} {ke km ks kv kl ef vf R K P V lo ll le ws wf wl pr pk hA hK hP hV ex va ys yv fr lr lk : Nat → Int32} {k : Nat} {x l : Int32} (hB : rev ≤ B) (hM : rk_md rev f ch ke ks kv kl ef vf R K P V ex va ys yv) (hF : rk_rr R f ch = rev) (hL : rk_lo kl lo) (hW : rk_wt ws pr pk hA hK fr lr lk) (hk : k < 16) (hv : rev + 1 < 2 ^ 30) (hl : l = -1 ∨ ∃ j, j < 6 ∧ l = nI j ∧ lo j ≠ 0) :
    ∃ (r : Int32) (u' : SX) (v' : SY), (∀ post : Int32 → SX → Prop, post r u' → wX_put_37 post (nI k) x l (nI rev) (nI f) tm (nI ch) ke km ks kv kl ef vf R K P V lo ll le ws wf wl pr pk hA hK hP hV) ∧ (∀ post : Int32 → SY → Prop, post r v' → wY_put_37 post (nI k) x l (nI f) (nI rev) (nI ch) tm ex va km ys yv kl R K P V ll le lo ws wf wl fr lr lk hP hV) ∧ rk_Rl (B + 1) u' v' := by
  have hr := rk_md_r hM hF
  have hcc := (rk_md_c hM).2.1
  by_cases q : ch < 100
  · have hb : ke k = 0 ∨ ke k = 1 := by
      rw [(hM.2.2.2.2.2.2.2.2 k hk).1]
      exact hM.2.2.2.2.2.2.1 _
    refine ⟨nI (rev + 1), _, _, ?_, ?_, rk_Rl_put (x := x) (l := l) (tm := tm) (km := km) (ll := ll) (le := le) (wf := wf) (wl := wl) (hP := hP) (hV := hV) hM hF hL hW hk q (by omega) hv hl⟩
    · intro post h
      exact rk_ltT ch 100 q (rk_x_wp hk (by omega) hb h)
    · intro post h
      exact rk_ltT ch 100 q (rk_y_wr hk (by omega) hM.1 (by omega) hM.2.2.2.2.2.2.1 (hM.2.2.2.2.2.2.2.2 k hk).1.symm h)
  · exact ⟨_, _, _, fun post h => rk_ltF ch 100 (by omega) h, fun post h => rk_ltF ch 100 (by omega) h, rev, f, ch, tm, ke, km, ks, kv, kl, ef, vf, R, K, P, V, lo, ll, le, ws, wf, wl, pr, pk, hA, hK, hP, hV, ex, va, ys, yv, fr, lr, lk, rfl, rfl, by omega, hM, hF, hL, hW⟩
theorem i_vc_put {k : Nat} {u : SX} {v : SY} (I : i_Rel k u v) (hk : k + 5 ≤ 2560) (v1 : Int32) (v2 : Int32) (v3 : Int32) : wpX_put (fun r u' => wpY_put (fun r' v' => r' = r ∧ i_Rel (k + 5) u' v') v v1 v2 v3) u v1 v2 v3 := by
  have J := i_up I
  obtain ⟨rev, f, ch, tm, ke, km, ks, kv, kl, ef, vf, R, K, P, V, lo, ll, le, ws, wf, wl, pr, pk, hA, hK, hP, hV, ex, va, ys, yv, fr, lr, lk, rfl, rfl, hB, hM, hF, hL, hW⟩ := I
  unfold wpX_put
  rcases pk_ix v1 (n := 16) (by decide) with hx | hx | ⟨j, hj, rfl⟩
  · refine rk_xk_b (Or.inl hx) (br_t rfl ?_)
    unfold wpY_put
    exact rk_yk_b (Or.inl hx) (br_t rfl ⟨rfl, J⟩)
  · refine rk_xk_b (Or.inr hx) (br_t rfl ?_)
    unfold wpY_put
    exact rk_yk_b (Or.inr hx) (br_t rfl ⟨rfl, J⟩)
  · refine rk_xk_g hj (br_f (by decide) ?_)
    by_cases a1 : v3 = -1
    · obtain ⟨r, u', v', hX, hY, hR⟩ := rk_put_core (x := v2) (l := v3) hB hM hF hL hW hj (by omega) (Or.inl a1)
      refine br_t a1 (hX _ ?_)
      unfold wpY_put
      exact rk_yk_g hj (br_f (by decide) (br_f (by rw [a1]; decide) (br_t (by rw [a1]; decide) (br_t (by rw [a1]; decide) (hY _ ⟨rfl, rk_Rl_up hR (by omega)⟩)))))
    · refine br_f a1 ?_
      rcases pk_ix v3 (n := 6) (by decide) with hx | hx | ⟨l, hl, rfl⟩
      · refine rk_xl_b (Or.inl hx) (br_t rfl ?_)
        unfold wpY_put
        refine rk_yk_g hj (br_f (by decide) (br_t ?_ ⟨rfl, J⟩))
        have a2 : v3.toInt ≠ (-1 : Int32).toInt := fun w => a1 (Int32.toInt_inj.mp w)
        rw [rk_lt] at hx ⊢
        rw [show (0 : Int32).toInt = 0 from by decide] at hx
        rw [show (-1 : Int32).toInt = -1 from by decide] at a2 ⊢
        omega
      · refine rk_xl_b (Or.inr hx) (br_t rfl ?_)
        unfold wpY_put
        rw [rk_le, nI_toInt (by decide)] at hx
        refine rk_yk_g hj (br_f (by decide) (br_f ?_ (br_f ?_ ⟨rfl, J⟩)))
        · rw [rk_lt, show (-1 : Int32).toInt = -1 from by decide]; omega
        · rw [rk_le, show (5 : Int32).toInt = 5 from by decide]; omega
      · have vl : vp_in (nI l) 6 := vp_in_nI hl (by decide)
        have e : (nI l).toNatClampNeg = l := nI_clamp (by omega)
        have b1 : ¬ nI l < -1 := by
          rw [rk_lt, nI_toInt (by omega), show (-1 : Int32).toInt = -1 from by decide]; omega
        have b2 : nI l ≤ 5 := by
          rw [rk_le, nI_toInt (by omega), show (5 : Int32).toInt = 5 from by decide]; omega
        have b3 : ¬ nI l < 0 := nI_pos (by omega)
        refine rk_xl_g hl (br_f (by decide) ⟨vl, ?_⟩)
        by_cases z : lo l = 0
        · refine br_t (by rw [e]; exact z) ?_
          unfold wpY_put
          exact rk_yk_g hj (br_f (by decide) (br_f b1 (br_t b2 (br_f b3 ⟨vl, br_t (by rw [e]; exact z) ⟨rfl, J⟩⟩))))
        · obtain ⟨r, u', v', hX, hY, hR⟩ := rk_put_core (x := v2) (l := nI l) hB hM hF hL hW hj (by omega) (Or.inr ⟨l, hl, rfl, z⟩)
          refine br_f (by rw [e]; exact z) (hX _ ?_)
          unfold wpY_put
          exact rk_yk_g hj (br_f (by decide) (br_f b1 (br_t b2 (br_f b3 ⟨vl, br_f (by rw [e]; exact z) (hY _ ⟨rfl, rk_Rl_up hR (by omega)⟩)⟩))))
theorem i_vc_swap {k : Nat} {u : SX} {v : SY} (I : i_Rel k u v) (hk : k + 5 ≤ 2560) (v1 : Int32) (v2 : Int32) (v3 : Int32) : wpX_swap (fun r u' => wpY_swap (fun r' v' => r' = r ∧ i_Rel (k + 5) u' v') v v1 v2 v3) u v1 v2 v3 := by
  have J := i_up I
  obtain ⟨rev, f, ch, tm, ke, km, ks, kv, kl, ef, vf, R, K, P, V, lo, ll, le, ws, wf, wl, pr, pk, hA, hK, hP, hV, ex, va, ys, yv, fr, lr, lk, rfl, rfl, hB, hM, hF, hL, hW⟩ := I
  have hr := rk_md_r hM hF
  have hcc := (rk_md_c hM).2.1
  have m1 := hM.1
  have m7 := hM.2.2.2.2.2.2.1
  unfold wpX_swap
  rcases pk_ix v1 (n := 16) (by decide) with hx | hx | ⟨j, hj, rfl⟩
  · refine rk_xk_b (Or.inl hx) (br_t rfl ?_)
    unfold wpY_swap
    exact rk_yk_b (Or.inl hx) (br_t rfl ⟨rfl, J⟩)
  · refine rk_xk_b (Or.inr hx) (br_t rfl ?_)
    unfold wpY_swap
    exact rk_yk_b (Or.inr hx) (br_t rfl ⟨rfl, J⟩)
  · have vj : vp_in (nI j) 16 := vp_in_nI hj (by decide)
    have e : (nI j).toNatClampNeg = j := nI_clamp (by omega)
    obtain ⟨n1, n2, n3⟩ := hM.2.2.2.2.2.2.2.2 j hj
    have hb : ke j = 0 ∨ ke j = 1 := by
      rw [n1]
      exact m7 _
    -- the reference's walk to its comparison, from any end of it
    have hY : ∀ post : Int32 → SY → Prop, wY_swap_29 post (nI j) v2 v3 (ks j) (nI f) (nI rev) (nI ch) tm ex va km ys yv kl R K P V ll le lo ws wf wl fr lr lk hP hV → wpY_swap post ((nI f), (nI rev), (nI ch), tm, ex, va, km, ys, yv, kl, R, K, P, V, ll, le, lo, ws, wf, wl, fr, lr, lk, hP, hV) (nI j) v2 v3 := by
      intro post h
      unfold wpY_swap
      refine rk_yk_g hj (br_f (by decide) (rk_y_en m1 (by omega) hj m7 ?_))
      rw [← n1, e]
      by_cases z : ke j = 0
      · rw [(n2 z).1] at h
        exact br_t z h
      · rw [(n3 z).1] at h
        exact br_f z ⟨vj, h⟩
    refine rk_xk_g hj (br_f (by decide) ⟨vj, ?_⟩)
    rw [e]
    by_cases a1 : ks j = v2
    · refine br_t a1 ?_
      by_cases q : ch < 100
      · refine rk_ltT ch 100 q ⟨vj, rk_x_wp hj (by omega) hb (hY _ (br_t a1 (rk_ltT ch 100 q ?_)))⟩
        refine rk_y_en m1 (by omega) hj m7 ?_
        have hw : ∀ post : Int32 → SY → Prop, wpY_write post ((nI f), (nI rev), (nI ch), tm, ex, va, km, ys, yv, kl, R, K, P, V, ll, le, lo, ws, wf, wl, fr, lr, lk, hP, hV) (nI j) v3 (kl j) → wY_swap_75 post (kl j) v3 (nI j) (nI f) (nI rev) (nI ch) tm ex va km ys yv kl R K P V ll le lo ws wf wl fr lr lk hP hV := fun post h => h
        rw [← n1, e]
        have hfin := hw _ (rk_y_wr (post := fun r' v' => r' = nI (rev + 1) ∧ i_Rel (k + 5) ((nI (rev + 1)), (nI f), tm, (nI (ch + 1)), upd ke j 1, upd km j (if ke j = 0 then nI (rev + 1) else km j), upd ks j (nI (rev + 1)), upd kv j (kv j + 1), upd kl j (kl j), ef, vf, upd R ch (nI (rev + 1)), upd K ch (nI j), upd P ch 1, upd V ch v3, lo, ll, le, ws, wf, wl, pr, pk, hA, hK, hP, hV) v') hj (by omega) m1 (by omega) m7 n1.symm ⟨rfl, rk_Rl_put hM hF hL hW hj q (by omega) (by omega) (hL j hj)⟩)
        by_cases z : ke j = 0
        · rw [(n2 z).2.2] at hfin ⊢
          exact br_t z hfin
        · exact br_f z ⟨vj, hfin⟩
      · refine rk_ltF ch 100 (by omega) (hY _ (br_t a1 (rk_ltF ch 100 (by omega) ⟨rfl, J⟩)))
    · exact br_f a1 (hY _ (br_f a1 ⟨rfl, J⟩))
end
end
section
section
/-! which revision is meant -/
theorem rk_x_rf {post : Int32 → Prop} {rev f ch : Nat} {tm : Int32} {ke km ks kv kl ef vf R K P V lo ll le ws wf wl pr pk hA hK hP hV : Nat → Int32} {q : Nat} (h1 : f ≤ q) (h2 : q ≤ rev) (hv : rev < 2 ^ 30) (h : post 0) : wpX_refusalOfRevision post ((nI rev), (nI f), tm, (nI ch), ke, km, ks, kv, kl, ef, vf, R, K, P, V, lo, ll, le, ws, wf, wl, pr, pk, hA, hK, hP, hV) (nI q) :=
  rk_leT f q h1 (rk_leT q rev h2 h)
theorem rk_pl {rev f ch : Nat} {tm : Int32} {ke km ks kv kl ef vf R K P V lo ll le ws wf wl pr pk hA hK hP hV ex va ys yv fr lr lk : Nat → Int32} (hf : f ≤ rev) (hv : rev < 2 ^ 30) (x : Int32) :
    (∃ q, f ≤ q ∧ q ≤ rev ∧ (∀ post : Int32 → Prop, post (nI q) → wpX_revisionMeant post ((nI rev), (nI f), tm, (nI ch), ke, km, ks, kv, kl, ef, vf, R, K, P, V, lo, ll, le, ws, wf, wl, pr, pk, hA, hK, hP, hV) x) ∧ (∀ post : Int32 → Prop, post (nI (16 * (q - f))) → wpY_placeOf post ((nI f), (nI rev), (nI ch), tm, ex, va, km, ys, yv, kl, R, K, P, V, ll, le, lo, ws, wf, wl, fr, lr, lk, hP, hV) x)) ∨
    (∃ m : Int32, ¬ 0 ≤ m ∧ ¬ m = 0 ∧ (∀ post : Int32 → Prop, post x → wpX_revisionMeant post ((nI rev), (nI f), tm, (nI ch), ke, km, ks, kv, kl, ef, vf, R, K, P, V, lo, ll, le, ws, wf, wl, pr, pk, hA, hK, hP, hV) x) ∧ (∀ post : Int32 → Prop, post m → wpX_refusalOfRevision post ((nI rev), (nI f), tm, (nI ch), ke, km, ks, kv, kl, ef, vf, R, K, P, V, lo, ll, le, ws, wf, wl, pr, pk, hA, hK, hP, hV) x) ∧ (∀ post : Int32 → Prop, post m → wpY_placeOf post ((nI f), (nI rev), (nI ch), tm, ex, va, km, ys, yv, kl, R, K, P, V, ll, le, lo, ws, wf, wl, fr, lr, lk, hP, hV) x)) := by
  by_cases a1 : x = -1
  · refine Or.inl ⟨rev, hf, Nat.le_refl rev, fun post h => br_t a1 h, fun post h => br_t a1 (rk_y_pr hf h)⟩
  · by_cases a2 : x < nI f
    · refine Or.inr ⟨-1000000004, by decide, by decide, fun post h => br_f a1 h, fun post h => br_f (Int32.not_le.mpr a2) h, fun post h => br_f a1 (br_t a2 (br_f (Int32.not_le.mpr a2) h))⟩
    · by_cases a3 : x ≤ nI rev
      · obtain ⟨q, hq, rfl⟩ := nI_of (x := x) (fun z => by
          rw [rk_lt, nI_toInt (by omega)] at a2
          rw [rk_lt, show (0 : Int32).toInt = 0 from by decide] at z
          omega)
        have q1 : f ≤ q := by
          have := mt (nI_ltI hq (by omega)).mpr a2
          omega
        have q2 : q ≤ rev := (nI_leI hq (by omega)).mp a3
        have e : (16 : Int32) * (nI q - nI f) = nI (16 * (q - f)) := by
          rw [pk_sub q1]; exact pk_mul 16 (q - f)
        refine Or.inl ⟨q, q1, q2, fun post h => br_f a1 h, fun post h => br_f a1 (br_f a2 (br_t a3 ?_))⟩
        rw [e]; exact h
      · exact Or.inr ⟨-1000000005, by decide, by decide, fun post h => br_f a1 h, fun post h => br_t (Int32.not_lt.mp a2) (br_f a3 h), fun post h => br_f a1 (br_f a2 (br_f a3 (br_t (Int32.not_lt.mp a2) h)))⟩
theorem rk_rw_q {rev f ch q k : Nat} {ef vf R K P V ex va : Nat → Int32} (h : rk_rw rev f ch ef vf R K P V ex va) (h1 : f ≤ q) (h2 : q ≤ rev) (hv : rev < 2 ^ 30) (hk : k < 16) :
    ex (16 * (q - f) + k) = rk_fe K R P (nI q).toInt k (ef k) ch ∧ (ex (16 * (q - f) + k) ≠ 0 → va (16 * (q - f) + k) = rk_fe K R V (nI q).toInt k (vf k) ch) := by
  have := h (q - f) (by omega) k hk
  rw [show q - f + f = q by omega] at this
  rw [nI_toInt (by omega)]
  exact this
theorem i_vc_value {k : Nat} {u : SX} {v : SY} (I : i_Rel k u v) (hk : k + 5 ≤ 2560) (v1 : Int32) (v2 : Int32) : wpX_value (fun r => wpY_value (fun r' => r' = r ∧ i_Rel (k + 5) u v) v v1 v2) u v1 v2 := by
  have J := i_up I
  obtain ⟨rev, f, ch, tm, ke, km, ks, kv, kl, ef, vf, R, K, P, V, lo, ll, le, ws, wf, wl, pr, pk, hA, hK, hP, hV, ex, va, ys, yv, fr, lr, lk, rfl, rfl, hB, hM, hF, hL, hW⟩ := I
  have hr := rk_md_r hM hF
  have hcc := (rk_md_c hM).2.1
  obtain ⟨m1, m2, m3, m4, m5, m6, m7, m8, m9⟩ := hM
  unfold wpX_value
  rcases pk_ix v1 (n := 16) (by decide) with hx | hx | ⟨j, hj, rfl⟩
  · refine rk_xk_b (Or.inl hx) (br_t rfl ?_)
    unfold wpY_value
    exact rk_yk_b (Or.inl hx) (br_t rfl ⟨rfl, J⟩)
  · refine rk_xk_b (Or.inr hx) (br_t rfl ?_)
    unfold wpY_value
    exact rk_yk_b (Or.inr hx) (br_t rfl ⟨rfl, J⟩)
  · refine rk_xk_g hj (br_f (by decide) ?_)
    rcases rk_pl (rev := rev) (f := f) (ch := ch) (tm := tm) (ke := ke) (km := km) (ks := ks) (kv := kv) (kl := kl) (ef := ef) (vf := vf) (R := R) (K := K) (P := P) (V := V) (lo := lo) (ll := ll) (le := le) (ws := ws) (wf := wf) (wl := wl) (pr := pr) (pk := pk) (hA := hA) (hK := hK) (hP := hP) (hV := hV) (ex := ex) (va := va) (ys := ys) (yv := yv) (fr := fr) (lr := lr) (lk := lk) m1 (by omega) v2 with ⟨q, q1, q2, gX, gY⟩ | ⟨m, z1, z2, gX, gR, gY⟩
    · obtain ⟨w1, w2⟩ := rk_rw_q m8 q1 q2 (by omega) hj
      have v : vp_in (nI (16 * (q - f)) + nI j) 1920 := by rw [nI_add]; exact vp_in_nI (by omega) (by decide)
      have c : (nI (16 * (q - f)) + nI j).toNatClampNeg = 16 * (q - f) + j := by rw [nI_add, nI_clamp (by omega)]
      refine gX _ (rk_x_rf q1 q2 (by omega) (br_t rfl (rk_x_ea hcc hj m5 m6 ?_)))
      rw [← w1]
      by_cases z : ex (16 * (q - f) + j) = 0
      · refine br_t z ?_
        unfold wpY_value
        exact rk_yk_g hj (br_f (by decide) (gY _ (br_t (nI_pos' (by omega)) ⟨v, br_t (by rw [c]; exact z) ⟨rfl, J⟩⟩)))
      · refine br_f z (rk_x_va hcc hj ?_)
        unfold wpY_value
        exact rk_yk_g hj (br_f (by decide) (gY _ (br_t (nI_pos' (by omega)) ⟨v, br_f (by rw [c]; exact z) ⟨v, by rw [c]; exact w2 z, J⟩⟩)))
    · refine gX _ (gR _ (br_f z2 ?_))
      unfold wpY_value
      exact rk_yk_g hj (br_f (by decide) (gY _ (br_f z1 ⟨rfl, J⟩)))

/-! count and keyAt -/
theorem rk_x_rm {rev f ch : Nat} {tm : Int32} {ke km ks kv kl ef vf R K P V lo ll le ws wf wl pr pk hA hK hP hV : Nat → Int32} (x : Int32) : ∃ s : Int32, ∀ post : Int32 → Prop, post s → wpX_revisionMeant post ((nI rev), (nI f), tm, (nI ch), ke, km, ks, kv, kl, ef, vf, R, K, P, V, lo, ll, le, ws, wf, wl, pr, pk, hA, hK, hP, hV) x := by
  by_cases a1 : x = -1
  · exact ⟨_, fun post h => br_t a1 h⟩
  · exact ⟨_, fun post h => br_f a1 h⟩
theorem rk_x_rr1 {post : Int32 → Prop} {rev f ch : Nat} {tm : Int32} {ke km ks kv kl ef vf R K P V lo ll le ws wf wl pr pk hA hK hP hV : Nat → Int32} {a b r : Int32} (h : a < 0 ∨ nI 16 ≤ a) (p : post (-1000000001)) : wpX_refusalOfRangeAt post ((nI rev), (nI f), tm, (nI ch), ke, km, ks, kv, kl, ef, vf, R, K, P, V, lo, ll, le, ws, wf, wl, pr, pk, hA, hK, hP, hV) a b r := by
  unfold wpX_refusalOfRangeAt
  exact rk_xr_b1 h (br_t rfl p)
theorem rk_x_rr2 {post : Int32 → Prop} {rev f ch : Nat} {tm : Int32} {ke km ks kv kl ef vf R K P V lo ll le ws wf wl pr pk hA hK hP hV : Nat → Int32} {a : Nat} {b r : Int32} (ha : a < 16) (h : b < 0 ∨ nI 16 ≤ b) (p : post (-1000000001)) : wpX_refusalOfRangeAt post ((nI rev), (nI f), tm, (nI ch), ke, km, ks, kv, kl, ef, vf, R, K, P, V, lo, ll, le, ws, wf, wl, pr, pk, hA, hK, hP, hV) (nI a) b r := by
  unfold wpX_refusalOfRangeAt
  exact rk_xr_b2 ha h (br_t rfl p)
theorem rk_x_rr3 {post : Int32 → Prop} {rev f ch : Nat} {tm : Int32} {ke km ks kv kl ef vf R K P V lo ll le ws wf wl pr pk hA hK hP hV : Nat → Int32} {a b : Nat} {r : Int32} (ha : a < 16) (hb : b < 16) (h : wpX_refusalOfRevision post ((nI rev), (nI f), tm, (nI ch), ke, km, ks, kv, kl, ef, vf, R, K, P, V, lo, ll, le, ws, wf, wl, pr, pk, hA, hK, hP, hV) r) : wpX_refusalOfRangeAt post ((nI rev), (nI f), tm, (nI ch), ke, km, ks, kv, kl, ef, vf, R, K, P, V, lo, ll, le, ws, wf, wl, pr, pk, hA, hK, hP, hV) (nI a) (nI b) r := by
  unfold wpX_refusalOfRangeAt
  exact rk_xr_g ha hb (br_f (by decide) h)
theorem rk_x_ct {post : Int32 → Prop} {rev f ch : Nat} {tm : Int32} {ke km ks kv kl ef vf R K P V lo ll le ws wf wl pr pk hA hK hP hV : Nat → Int32} (S : Nat → Bool) {a b : Nat} {r : Int32} (ha : a < 16) (hb : b < 16) (hc : ch ≤ 116) (hp : rk_bo P) (he : rk_bo ef) (hlo : ∀ i, i < a → S i = false) (hhi : ∀ i, b < i → S i = false) (hS : ∀ i, a ≤ i → i ≤ b → (S i = true ↔ rk_fe K R P r.toInt i (ef i) ch ≠ 0))
    (h : post (nI (rk_ns S 16))) : ∃ n, wX_count_31 post (nI b) r (nI rev) (nI f) tm (nI ch) ke km ks kv kl ef vf R K P V lo ll le ws wf wl pr pk hA hK hP hV n 0 (nI a) := by
  have key : ∀ d n j, a ≤ j → j + d = b + 1 → d < n → wX_count_31 post (nI b) r (nI rev) (nI f) tm (nI ch) ke km ks kv kl ef vf R K P V lo ll le ws wf wl pr pk hA hK hP hV n (nI (rk_ns S j)) (nI j) := by
    intro d
    induction d with
    | zero =>
      intro n j h1 h2 h3
      obtain ⟨n, rfl⟩ : ∃ m, n = m + 1 := ⟨n - 1, by omega⟩
      refine rk_ltT b j (by omega) ?_
      have e := rk_ns_e (S := S) j (16 - j) (fun i z1 z2 => hhi i (by omega))
      rw [show j + (16 - j) = 16 by omega] at e
      rw [← e]; exact h
    | succ d ih =>
      intro n j h1 h2 h3
      obtain ⟨n, rfl⟩ : ∃ m, n = m + 1 := ⟨n - 1, by omega⟩
      have ih := ih n (j + 1) (by omega) (by omega) (by omega)
      have hs := hS j h1 (by omega)
      refine rk_ltF b j (by omega) (rk_x_ea hc (by omega) hp he ?_)
      by_cases z : rk_fe K R P r.toInt j (ef j) ch = 0
      · rw [rk_ns_f (fun y => (hs.mp y) z)] at ih
        exact br_t z (nm_r (nI_1 j) ih)
      · rw [rk_ns_t (hs.mpr z)] at ih
        exact br_f z (nm_r (nI_1 _) (nm_r (nI_1 j) ih))
  by_cases z : a ≤ b
  · have := key (b + 1 - a) (b + 2) a (Nat.le_refl a) (by omega) (by omega)
    rw [rk_ns_z a hlo] at this
    exact ⟨b + 2, this⟩
  · rw [rk_ns_z 16 (fun i _ => by
      by_cases y : i < a
      · exact hlo i y
      · exact hhi i (by omega))] at h
    exact ⟨1, rk_ltT b a (by omega) h⟩
theorem i_vc_count {k : Nat} {u : SX} {v : SY} (I : i_Rel k u v) (hk : k + 5 ≤ 2560) (v1 : Int32) (v2 : Int32) (v3 : Int32) : wpX_count (fun r => wpY_count (fun r' => r' = r ∧ i_Rel (k + 5) u v) v v1 v2 v3) u v1 v2 v3 := by
  have J := i_up I
  obtain ⟨rev, f, ch, tm, ke, km, ks, kv, kl, ef, vf, R, K, P, V, lo, ll, le, ws, wf, wl, pr, pk, hA, hK, hP, hV, ex, va, ys, yv, fr, lr, lk, rfl, rfl, hB, hM, hF, hL, hW⟩ := I
  have hr := rk_md_r hM hF
  have hcc := (rk_md_c hM).2.1
  obtain ⟨m1, m2, m3, m4, m5, m6, m7, m8, m9⟩ := hM
  unfold wpX_count
  by_cases hx1 : v1 < 0 ∨ nI 16 ≤ v1
  · obtain ⟨s, hs⟩ := rk_x_rm (rev := rev) (f := f) (ch := ch) (tm := tm) (ke := ke) (km := km) (ks := ks) (kv := kv) (kl := kl) (ef := ef) (vf := vf) (R := R) (K := K) (P := P) (V := V) (lo := lo) (ll := ll) (le := le) (ws := ws) (wf := wf) (wl := wl) (pr := pr) (pk := pk) (hA := hA) (hK := hK) (hP := hP) (hV := hV) v3
    refine hs _ (rk_x_rr1 hx1 (br_f (by decide) ?_))
    unfold wpY_count
    exact rk_yk_b hx1 (br_t rfl ⟨rfl, J⟩)
  obtain ⟨a, ha, rfl⟩ : ∃ j, j < 16 ∧ v1 = nI j := by
    rcases pk_ix v1 (n := 16) (by decide) with h | h | h
    · exact absurd (Or.inl h) hx1
    · exact absurd (Or.inr h) hx1
    · exact h
  by_cases hx2 : v2 < 0 ∨ nI 16 ≤ v2
  · obtain ⟨s, hs⟩ := rk_x_rm (rev := rev) (f := f) (ch := ch) (tm := tm) (ke := ke) (km := km) (ks := ks) (kv := kv) (kl := kl) (ef := ef) (vf := vf) (R := R) (K := K) (P := P) (V := V) (lo := lo) (ll := ll) (le := le) (ws := ws) (wf := wf) (wl := wl) (pr := pr) (pk := pk) (hA := hA) (hK := hK) (hP := hP) (hV := hV) v3
    refine hs _ (rk_x_rr2 ha hx2 (br_f (by decide) ?_))
    unfold wpY_count
    exact rk_yk_g ha (br_f (by decide) (rk_yk_b hx2 (br_t rfl ⟨rfl, J⟩)))
  obtain ⟨b, hb, rfl⟩ : ∃ j, j < 16 ∧ v2 = nI j := by
    rcases pk_ix v2 (n := 16) (by decide) with h | h | h
    · exact absurd (Or.inl h) hx2
    · exact absurd (Or.inr h) hx2
    · exact h
  rcases rk_pl (rev := rev) (f := f) (ch := ch) (tm := tm) (ke := ke) (km := km) (ks := ks) (kv := kv) (kl := kl) (ef := ef) (vf := vf) (R := R) (K := K) (P := P) (V := V) (lo := lo) (ll := ll) (le := le) (ws := ws) (wf := wf) (wl := wl) (pr := pr) (pk := pk) (hA := hA) (hK := hK) (hP := hP) (hV := hV) (ex := ex) (va := va) (ys := ys) (yv := yv) (fr := fr) (lr := lr) (lk := lk) m1 (by omega) v3 with ⟨q, q1, q2, gX, gY⟩ | ⟨m, z1, z2, gX, gR, gY⟩
  · refine gX _ (rk_x_rr3 ha hb (rk_x_rf q1 q2 (by omega) (br_t rfl (rk_x_ct (fun i => decide (a ≤ i ∧ i ≤ b ∧ ex (16 * (q - f) + i) ≠ 0)) ha hb hcc m5 m6 ?_ ?_ ?_ ?_))))
    · intro i hi
      exact decide_eq_false (fun w => by omega)
    · intro i hi
      exact decide_eq_false (fun w => by omega)
    · intro i h1 h2
      rw [← (rk_rw_q m8 q1 q2 (by omega) (by omega)).1, decide_eq_true_iff]
      exact ⟨fun w => w.2.2, fun w => ⟨h1, h2, w⟩⟩
    · unfold wpY_count
      refine rk_yk_g ha (br_f (by decide) (rk_yk_g hb (br_f (by decide) (gY _ (br_t (nI_pos' (by omega)) (rk_y_ka (fun i => decide (a ≤ i ∧ i ≤ b ∧ ex (16 * (q - f) + i) ≠ 0)) ha hb ?_ ?_ (by omega) ?_ (rk_y_bi _ ⟨rfl, J⟩)))))))
      · intro i hi
        exact decide_eq_false (fun w => by omega)
      · intro i hi
        exact decide_eq_false (fun w => by omega)
      · intro i h1 h2
        rw [decide_eq_true_iff]
        exact ⟨fun w => w.2.2, fun w => ⟨h1, h2, w⟩⟩
  · refine gX _ (rk_x_rr3 ha hb (gR _ (br_f z2 ?_)))
    unfold wpY_count
    exact rk_yk_g ha (br_f (by decide) (rk_yk_g hb (br_f (by decide) (gY _ (br_f z1 ⟨rfl, J⟩)))))
theorem rk_ka {rev f ch : Nat} {tm : Int32} {ke km ks kv kl ef vf R K P V lo ll le ws wf wl pr pk hA hK hP hV ex va ys yv fr lr lk : Nat → Int32} {b q : Nat} {i : Int32} (hb : b < 16) (hc : ch ≤ 116) (hp : rk_bo P) (he : rk_bo ef) (hr : q - f ≤ 118) (hE : ∀ j, j < 16 → ex (16 * (q - f) + j) = rk_fe K R P (nI q).toInt j (ef j) ch) :
    ∀ d j, j + d = b + 1 → ∀ c : Int32, ∃ r : Int32, (∀ post : Int32 → Prop, ∀ n, d < n → post r → wX_keyAt_32 post (nI b) i (nI q) (nI rev) (nI f) tm (nI ch) ke km ks kv kl ef vf R K P V lo ll le ws wf wl pr pk hA hK hP hV n c (nI j)) ∧ (∀ post : Int32 → Prop, ∀ n, d < n → post r → wY_keyAt_41 post (nI b) (nI (16 * (q - f))) (nI f) (nI rev) (nI ch) tm ex va km ys yv kl R K P V ll le lo ws wf wl fr lr lk hP hV n (i - c) (nI j)) := by
  intro d
  induction d with
  | zero =>
    intro j hj c
    refine ⟨-1000000003, ?_, ?_⟩
    · intro post n hn h
      obtain ⟨n, rfl⟩ : ∃ m, n = m + 1 := ⟨n - 1, by omega⟩
      exact rk_ltT b j (by omega) h
    · intro post n hn h
      obtain ⟨n, rfl⟩ : ∃ m, n = m + 1 := ⟨n - 1, by omega⟩
      exact rk_ltT b j (by omega) h
  | succ d ih =>
    intro j hj c
    have v : vp_in (nI (16 * (q - f)) + nI j) 1920 := by rw [nI_add]; exact vp_in_nI (by omega) (by decide)
    have cc : (nI (16 * (q - f)) + nI j).toNatClampNeg = 16 * (q - f) + j := by rw [nI_add, nI_clamp (by omega)]
    have hj16 := hE j (by omega)
    by_cases z : ex (16 * (q - f) + j) = 0
    · obtain ⟨r, hX, hY⟩ := ih (j + 1) (by omega) c
      refine ⟨r, ?_, ?_⟩
      · intro post n hn h
        obtain ⟨n, rfl⟩ : ∃ m, n = m + 1 := ⟨n - 1, by omega⟩
        refine rk_ltF b j (by omega) (rk_x_ea hc (by omega) hp he ?_)
        rw [← hj16]
        exact br_t z (nm_r (nI_1 j) (hX post n (by omega) h))
      · intro post n hn h
        obtain ⟨n, rfl⟩ : ∃ m, n = m + 1 := ⟨n - 1, by omega⟩
        exact rk_ltF b j (by omega) ⟨v, br_t (by rw [cc]; exact z) (nm_r (nI_1 j) (hY post n (by omega) h))⟩
    · by_cases y : c = i
      · refine ⟨nI j, ?_, ?_⟩
        · intro post n hn h
          obtain ⟨n, rfl⟩ : ∃ m, n = m + 1 := ⟨n - 1, by omega⟩
          refine rk_ltF b j (by omega) (rk_x_ea hc (by omega) hp he ?_)
          rw [← hj16]
          exact br_f z (br_t y h)
        · intro post n hn h
          obtain ⟨n, rfl⟩ : ∃ m, n = m + 1 := ⟨n - 1, by omega⟩
          exact rk_ltF b j (by omega) ⟨v, br_f (by rw [cc]; exact z) (br_t (by rw [y, Int32.sub_self]) h)⟩
      · obtain ⟨r, hX, hY⟩ := ih (j + 1) (by omega) (c + 1)
        have y2 : ¬ i - c = 0 := by
          intro w
          apply y
          have : i - c + c = c := by rw [w, Int32.zero_add]
          rw [Int32.sub_add_cancel] at this
          exact this.symm
        have e : i - c + -1 = i - (c + 1) := by grind
        refine ⟨r, ?_, ?_⟩
        · intro post n hn h
          obtain ⟨n, rfl⟩ : ∃ m, n = m + 1 := ⟨n - 1, by omega⟩
          refine rk_ltF b j (by omega) (rk_x_ea hc (by omega) hp he ?_)
          rw [← hj16]
          exact br_f z (br_f y (nm_e (nm_r (nI_1 j) (hX post n (by omega) h))))
        · intro post n hn h
          obtain ⟨n, rfl⟩ : ∃ m, n = m + 1 := ⟨n - 1, by omega⟩
          exact rk_ltF b j (by omega) ⟨v, br_f (by rw [cc]; exact z) (br_f y2 (nm_r e (nm_r (nI_1 j) (hY post n (by omega) h))))⟩
theorem i_vc_keyAt {k : Nat} {u : SX} {v : SY} (I : i_Rel k u v) (hk : k + 5 ≤ 2560) (v1 : Int32) (v2 : Int32) (v3 : Int32) (v4 : Int32) : wpX_keyAt (fun r => wpY_keyAt (fun r' => r' = r ∧ i_Rel (k + 5) u v) v v1 v2 v3 v4) u v1 v2 v3 v4 := by
  have J := i_up I
  obtain ⟨rev, f, ch, tm, ke, km, ks, kv, kl, ef, vf, R, K, P, V, lo, ll, le, ws, wf, wl, pr, pk, hA, hK, hP, hV, ex, va, ys, yv, fr, lr, lk, rfl, rfl, hB, hM, hF, hL, hW⟩ := I
  have hr := rk_md_r hM hF
  have hcc := (rk_md_c hM).2.1
  obtain ⟨m1, m2, m3, m4, m5, m6, m7, m8, m9⟩ := hM
  unfold wpX_keyAt
  by_cases hx1 : v1 < 0 ∨ nI 16 ≤ v1
  · obtain ⟨s, hs⟩ := rk_x_rm (rev := rev) (f := f) (ch := ch) (tm := tm) (ke := ke) (km := km) (ks := ks) (kv := kv) (kl := kl) (ef := ef) (vf := vf) (R := R) (K := K) (P := P) (V := V) (lo := lo) (ll := ll) (le := le) (ws := ws) (wf := wf) (wl := wl) (pr := pr) (pk := pk) (hA := hA) (hK := hK) (hP := hP) (hV := hV) v4
    refine hs _ (rk_x_rr1 hx1 (br_f (by decide) ?_))
    unfold wpY_keyAt
    exact rk_yk_b hx1 (br_t rfl ⟨rfl, J⟩)
  obtain ⟨a, ha, rfl⟩ : ∃ j, j < 16 ∧ v1 = nI j := by
    rcases pk_ix v1 (n := 16) (by decide) with h | h | h
    · exact absurd (Or.inl h) hx1
    · exact absurd (Or.inr h) hx1
    · exact h
  by_cases hx2 : v2 < 0 ∨ nI 16 ≤ v2
  · obtain ⟨s, hs⟩ := rk_x_rm (rev := rev) (f := f) (ch := ch) (tm := tm) (ke := ke) (km := km) (ks := ks) (kv := kv) (kl := kl) (ef := ef) (vf := vf) (R := R) (K := K) (P := P) (V := V) (lo := lo) (ll := ll) (le := le) (ws := ws) (wf := wf) (wl := wl) (pr := pr) (pk := pk) (hA := hA) (hK := hK) (hP := hP) (hV := hV) v4
    refine hs _ (rk_x_rr2 ha hx2 (br_f (by decide) ?_))
    unfold wpY_keyAt
    exact rk_yk_g ha (br_f (by decide) (rk_yk_b hx2 (br_t rfl ⟨rfl, J⟩)))
  obtain ⟨b, hb, rfl⟩ : ∃ j, j < 16 ∧ v2 = nI j := by
    rcases pk_ix v2 (n := 16) (by decide) with h | h | h
    · exact absurd (Or.inl h) hx2
    · exact absurd (Or.inr h) hx2
    · exact h
  rcases rk_pl (rev := rev) (f := f) (ch := ch) (tm := tm) (ke := ke) (km := km) (ks := ks) (kv := kv) (kl := kl) (ef := ef) (vf := vf) (R := R) (K := K) (P := P) (V := V) (lo := lo) (ll := ll) (le := le) (ws := ws) (wf := wf) (wl := wl) (pr := pr) (pk := pk) (hA := hA) (hK := hK) (hP := hP) (hV := hV) (ex := ex) (va := va) (ys := ys) (yv := yv) (fr := fr) (lr := lr) (lk := lk) m1 (by omega) v4 with ⟨q, q1, q2, gX, gY⟩ | ⟨m, z1, z2, gX, gR, gY⟩
  · refine gX _ (rk_x_rr3 ha hb (rk_x_rf q1 q2 (by omega) (br_t rfl ?_)))
    by_cases z : a ≤ b
    · obtain ⟨r, hX, hY⟩ := rk_ka (rev := rev) (f := f) (ch := ch) (tm := tm) (ke := ke) (km := km) (ks := ks) (kv := kv) (kl := kl) (ef := ef) (vf := vf) (R := R) (K := K) (P := P) (V := V) (lo := lo) (ll := ll) (le := le) (ws := ws) (wf := wf) (wl := wl) (pr := pr) (pk := pk) (hA := hA) (hK := hK) (hP := hP) (hV := hV) (ex := ex) (va := va) (ys := ys) (yv := yv) (fr := fr) (lr := lr) (lk := lk) (q := q) (i := v3) hb hcc m5 m6 (by omega) (fun j hj => (rk_rw_q m8 q1 q2 (by omega) hj).1) (b + 1 - a) a (by omega) 0
      refine ⟨b + 2, hX _ (b + 2) (by omega) ?_⟩
      unfold wpY_keyAt
      refine rk_yk_g ha (br_f (by decide) (rk_yk_g hb (br_f (by decide) (gY _ (br_t (nI_pos' (by omega)) ⟨b + 2, ?_⟩)))))
      have := hY (fun r' => r' = r ∧ i_Rel (k + 5) ((nI rev), (nI f), tm, (nI ch), ke, km, ks, kv, kl, ef, vf, R, K, P, V, lo, ll, le, ws, wf, wl, pr, pk, hA, hK, hP, hV) ((nI f), (nI rev), (nI ch), tm, ex, va, km, ys, yv, kl, R, K, P, V, ll, le, lo, ws, wf, wl, fr, lr, lk, hP, hV)) (b + 2) (by omega) ⟨rfl, J⟩
      rw [Int32.sub_zero] at this
      exact this
    · refine ⟨1, rk_ltT b a (by omega) ?_⟩
      unfold wpY_keyAt
      exact rk_yk_g ha (br_f (by decide) (rk_yk_g hb (br_f (by decide) (gY _ (br_t (nI_pos' (by omega)) ⟨1, rk_ltT b a (by omega) ⟨rfl, J⟩⟩)))))
  · refine gX _ (rk_x_rr3 ha hb (gR _ (br_f z2 ?_)))
    unfold wpY_keyAt
    exact rk_yk_g ha (br_f (by decide) (rk_yk_g hb (br_f (by decide) (gY _ (br_f z1 ⟨rfl, J⟩)))))
end
end
section
section
/-! a change that the one still has to hand out is the one that the other wants -/
theorem rk_wq_y {R K wf wl pr pk hA hK fr lr lk : Nat → Int32} {w i : Nat} (h : rk_wr pr pk hA hK fr lr lk w) (vK : vp_in (K i) 16) :
    rk_wq R K wf wl pr pk w i = true ↔ (¬ R i < fr w ∧ ¬ K i < wf w ∧ K i ≤ wl w ∧ (lk w < 0 ∨ (¬ lk w < 0 ∧ (lr w < R i ∨ (¬ lr w < R i ∧ R i = lr w ∧ ¬ K i ≤ lk w))))) := by
  unfold rk_wq
  rw [decide_eq_true_iff]
  rw [vp_in_iff] at vK
  have e0 : (0 : Int32).toInt = 0 := by decide
  rcases h with ⟨q1, q2, q3, q4⟩ | ⟨q1, q2, q3, q4, q5, q6⟩
  · rw [q3, q4]
    simp only [rk_lt, rk_le, e0, ← Int32.toInt_inj] at *
    generalize (R i).toInt = a at *
    generalize (K i).toInt = b at *
    generalize (fr w).toInt = c at *
    generalize (lk w).toInt = d at *
    generalize (wf w).toInt = e at *
    generalize (wl w).toInt = g at *
    generalize (lr w).toInt = m at *
    omega
  · rw [q4, q5]
    obtain ⟨n, hn, en⟩ := vp_in_of q3 (by decide)
    have e1 : (lk w + 1).toInt = (lk w).toInt + 1 := by
      rw [en, nI_1, nI_toInt (by omega), nI_toInt (by omega)]
      omega
    have e2 : (lk w).toInt = n := by rw [en, nI_toInt (by omega)]
    simp only [rk_lt, rk_le, e0, e1, ← Int32.toInt_inj] at *
    generalize (R i).toInt = a at *
    generalize (K i).toInt = b at *
    generalize (fr w).toInt = c at *
    generalize (lk w).toInt = d at *
    generalize (wf w).toInt = e at *
    generalize (wl w).toInt = g at *
    generalize (lr w).toInt = m at *
    omega
theorem rk_y_wa {post : Int32 → Prop} {rev f ch : Nat} {tm : Int32} {ex va km ys yv kl R K P V ll le lo ws wf wl fr lr lk hP hV : Nat → Int32} {pr pk hA hK : Nat → Int32} {w i : Nat} (hw : w < 4) (hi : i < 120) (h : rk_wr pr pk hA hK fr lr lk w) (vK : vp_in (K i) 16) (h1 : rk_wq R K wf wl pr pk w i = true → post 1) (h0 : ¬ rk_wq R K wf wl pr pk w i = true → post 0) : wpY_isWanted post ((nI f), (nI rev), (nI ch), tm, ex, va, km, ys, yv, kl, R, K, P, V, ll, le, lo, ws, wf, wl, fr, lr, lk, hP, hV) (nI w) (nI i) := by
  have vw : vp_in (nI w) 4 := vp_in_nI hw (by decide)
  have vi : vp_in (nI i) 120 := vp_in_nI hi (by decide)
  have ew : (nI w).toNatClampNeg = w := nI_clamp (by omega)
  have ei : (nI i).toNatClampNeg = i := nI_clamp (by omega)
  rw [rk_wq_y h vK] at h1 h0
  refine ⟨vi, vw, ?_⟩
  rw [ew, ei]
  refine br_c (fun z => h0 (fun y => y.1 z)) (fun z1 => ⟨vi, vw, br_c (fun z => h0 (fun y => y.2.1 z)) (fun z2 => ⟨vi, vw, br_c (fun z3 => ⟨vw, ?_⟩) (fun z => h0 (fun y => z y.2.2.1))⟩)⟩)
  refine br_c (fun z4 => h1 ⟨z1, z2, z3, Or.inl z4⟩) (fun z4 => ⟨vi, vw, br_c (fun z5 => h1 ⟨z1, z2, z3, Or.inr ⟨z4, Or.inl z5⟩⟩) (fun z5 => ⟨vi, vw, br_c (fun z6 => ⟨vi, vw, br_c (fun z7 => h0 ?_) (fun z7 => h1 ⟨z1, z2, z3, Or.inr ⟨z4, Or.inr ⟨z5, z6, z7⟩⟩⟩)⟩) (fun z6 => h0 ?_)⟩)⟩)
  · rintro ⟨_, _, _, y | ⟨_, y | y⟩⟩
    · exact z4 y
    · exact z5 y
    · exact y.2.2 z7
  · rintro ⟨_, _, _, y | ⟨_, y | y⟩⟩
    · exact z4 y
    · exact z5 y
    · exact z6 y.2.1
theorem rk_first (S : Nat → Bool) (n : Nat) : (∀ i, i < n → ¬ S i = true) ∨ ∃ i, i < n ∧ S i = true ∧ ∀ j, j < i → ¬ S j = true := by
  induction n with
  | zero => exact Or.inl (fun i hi => absurd hi (by omega))
  | succ n ih =>
    rcases ih with h | ⟨i, hi, h1, h2⟩
    · by_cases z : S n = true
      · exact Or.inr ⟨n, by omega, z, h⟩
      · refine Or.inl (fun i hi => ?_)
        by_cases e : i = n
        · rw [e]; exact z
        · exact h i (by omega)
    · exact Or.inr ⟨i, by omega, h1, h2⟩
/-- the class's search: past all that is not still to hand out -/
theorem rk_x_nx {post : Int32 → SX → Prop} {rev f ch : Nat} {tm : Int32} {ke km ks kv kl ef vf R K P V lo ll le ws wf wl pr pk hA hK hP hV : Nat → Int32} {w e : Nat} (hw : w < 4) (hc : ch ≤ 116) (he : e ≤ ch) (h : ∀ i, i < e → ¬ rk_wq R K wf wl pr pk w i = true)
    (hE : ∀ n, wX_next_14 post (nI w) (nI rev) (nI f) tm (nI ch) ke km ks kv kl ef vf R K P V lo ll le ws wf wl pr pk hA hK hP hV (n + 1) (nI e)) : ∃ n, wX_next_14 post (nI w) (nI rev) (nI f) tm (nI ch) ke km ks kv kl ef vf R K P V lo ll le ws wf wl pr pk hA hK hP hV n 0 := by
  have key : ∀ d n j, j + d = e → d < n → wX_next_14 post (nI w) (nI rev) (nI f) tm (nI ch) ke km ks kv kl ef vf R K P V lo ll le ws wf wl pr pk hA hK hP hV n (nI j) := by
    intro d
    induction d with
    | zero =>
      intro n j h2 h3
      obtain ⟨n, rfl⟩ : ∃ m, n = m + 1 := ⟨n - 1, by omega⟩
      obtain rfl : j = e := by omega
      exact hE n
    | succ d ih =>
      intro n j h2 h3
      obtain ⟨n, rfl⟩ : ∃ m, n = m + 1 := ⟨n - 1, by omega⟩
      have ih := ih n (j + 1) (by omega) (by omega)
      exact rk_leF ch j (by omega) (rk_x_st hw (by omega) (fun z => absurd z (h j (by omega))) (fun _ => br_t rfl (nm_r (nI_1 j) ih)))
  exact ⟨e + 1, key e (e + 1) 0 (by omega) (by omega)⟩
theorem rk_y_nx {post : Int32 → SY → Prop} {rev f ch : Nat} {tm : Int32} {ex va km ys yv kl R K P V ll le lo ws wf wl fr lr lk hP hV : Nat → Int32} {pr pk hA hK : Nat → Int32} {w e : Nat} (hw : w < 4) (hc : ch ≤ 116) (he : e ≤ ch) (hr : rk_wr pr pk hA hK fr lr lk w) (vK : ∀ i, vp_in (K i) 16) (h : ∀ i, i < e → ¬ rk_wq R K wf wl pr pk w i = true)
    (hE : ∀ n, wY_next_40 post (nI w) (nI f) (nI rev) (nI ch) tm ex va km ys yv kl R K P V ll le lo ws wf wl fr lr lk hP hV (n + 1) (nI e)) : ∃ n, wY_next_40 post (nI w) (nI f) (nI rev) (nI ch) tm ex va km ys yv kl R K P V ll le lo ws wf wl fr lr lk hP hV n 0 := by
  have key : ∀ d n j, j + d = e → d < n → wY_next_40 post (nI w) (nI f) (nI rev) (nI ch) tm ex va km ys yv kl R K P V ll le lo ws wf wl fr lr lk hP hV n (nI j) := by
    intro d
    induction d with
    | zero =>
      intro n j h2 h3
      obtain ⟨n, rfl⟩ : ∃ m, n = m + 1 := ⟨n - 1, by omega⟩
      obtain rfl : j = e := by omega
      exact hE n
    | succ d ih =>
      intro n j h2 h3
      obtain ⟨n, rfl⟩ : ∃ m, n = m + 1 := ⟨n - 1, by omega⟩
      have ih := ih n (j + 1) (by omega) (by omega)
      exact rk_leF ch j (by omega) (rk_y_wa hw (by omega) hr (vK j) (fun z => absurd z (h j (by omega))) (fun _ => br_t rfl (nm_r (nI_1 j) ih)))
  exact ⟨e + 1, key e (e + 1) 0 (by omega) (by omega)⟩
theorem rk_wt_n {ws pr pk hA hK fr lr lk R K wf wl : Nat → Int32} {w i : Nat} (h : rk_wt ws pr pk hA hK fr lr lk) (hr : rk_wr pr pk hA hK fr lr lk w) (vK : vp_in (K i) 16) (hq : rk_wq R K wf wl pr pk w i = true) :
    rk_wt ws (upd pr w (R i)) (upd pk w (K i + 1)) (upd hA w 1) (upd hK w (K i)) fr (upd lr w (R i)) (upd lk w (K i)) := by
  intro j hj
  by_cases e : j = w
  · subst e
    refine ⟨(h j hj).1, fun _ => Or.inr ?_⟩
    rw [pk_us, pk_us, pk_us, pk_us, pk_us, pk_us]
    exact ⟨by decide, rfl, vK, rfl, rfl, Int32.not_lt.mp ((rk_wq_y hr vK).mp hq).1⟩
  · unfold rk_wr
    rw [pk_un e, pk_un e, pk_un e, pk_un e, pk_un e, pk_un e]
    exact h j hj
theorem i_vc_next {k : Nat} {u : SX} {v : SY} (I : i_Rel k u v) (hk : k + 5 ≤ 2560) (v1 : Int32) : wpX_next (fun r u' => wpY_next (fun r' v' => r' = r ∧ i_Rel (k + 5) u' v') v v1) u v1 := by
  have J := i_up I
  obtain ⟨rev, f, ch, tm, ke, km, ks, kv, kl, ef, vf, R, K, P, V, lo, ll, le, ws, wf, wl, pr, pk, hA, hK, hP, hV, ex, va, ys, yv, fr, lr, lk, rfl, rfl, hB, hM, hF, hL, hW⟩ := I
  have hcc := (rk_md_c hM).2.1
  have m4 := hM.2.2.2.1
  have m5 := hM.2.2.2.2.1
  unfold wpX_next wpX_refusalOfHandingOut
  rcases pk_ix v1 (n := 4) (by decide) with hx | hx | ⟨w, hw, rfl⟩
  · refine rk_xw_b (Or.inl hx) (br_t rfl (br_f (by decide) ?_))
    unfold wpY_next
    exact rk_yw_b (Or.inl hx) (br_t rfl ⟨rfl, J⟩)
  · refine rk_xw_b (Or.inr hx) (br_t rfl (br_f (by decide) ?_))
    unfold wpY_next
    exact rk_yw_b (Or.inr hx) (br_t rfl ⟨rfl, J⟩)
  · have vw : vp_in (nI w) 4 := vp_in_nI hw (by decide)
    have e : (nI w).toNatClampNeg = w := nI_clamp (by omega)
    refine rk_xw_g hw (br_f (by decide) ⟨vw, ?_⟩)
    rcases (hW w hw).1 with z | z | z
    · have z1 : ¬ ws w = 1 := by rw [z]; decide
      refine br_t (by rw [e]; exact z) (br_f (by decide) ?_)
      unfold wpY_next
      exact rk_yw_g hw (br_f (by decide) ⟨vw, br_f (by rw [e]; exact z1) ⟨vw, br_t (by rw [e]; exact z) ⟨rfl, J⟩⟩⟩)
    · have z0 : ¬ ws w = 0 := by rw [z]; decide
      have z2 : ¬ ws w = 2 := by rw [z]; decide
      have hr := (hW w hw).2 z0
      refine br_f (by rw [e]; exact z0) ⟨vw, br_f (by rw [e]; exact z2) (br_t rfl ?_)⟩
      rcases rk_first (rk_wq R K wf wl pr pk w) ch with hn | ⟨i, hi, hq, hn⟩
      · refine rk_x_nx hw hcc (Nat.le_refl ch) hn (fun n => rk_leT ch ch (Nat.le_refl ch) ?_)
        unfold wpY_next
        exact rk_yw_g hw (br_f (by decide) ⟨vw, br_t (by rw [e]; exact z) (rk_y_nx hw hcc (Nat.le_refl ch) hr m4 hn (fun n => rk_leT ch ch (Nat.le_refl ch) ⟨rfl, J⟩))⟩)
      · have vi : vp_in (nI i) 116 := vp_in_nI (by omega) (by decide)
        have vi' : vp_in (nI i) 120 := vp_in_nI (by omega) (by decide)
        have ei : (nI i).toNatClampNeg = i := nI_clamp (by omega)
        refine rk_x_nx hw hcc (by omega) hn (fun n => rk_leF ch i hi (rk_x_st hw (by omega) (fun _ => br_f (by decide) (rk_x_ho hw (by omega) m5 ⟨vi, ?_⟩)) (fun y => absurd hq y)))
        rw [ei]
        unfold wpY_next
        refine rk_yw_g hw (br_f (by decide) ⟨vw, br_t (by rw [e]; exact z) (rk_y_nx hw hcc (by omega) hr m4 hn (fun n => rk_leF ch i hi (rk_y_wa hw (by omega) hr (m4 i) (fun _ => br_f (by decide) ?_) (fun y => absurd hq y))))⟩)
        refine ⟨vi', vw, nm_r (e' := upd lr w (R i)) (by rw [e, ei]) ⟨vi', vw, nm_r (e' := upd lk w (K i)) (by rw [e, ei]) ⟨vi', vw, nm_r (e' := upd hP w (P i)) (by rw [e, ei, rk_vb (m5 i)]) ⟨vi', vw, nm_r (e' := upd hV w (V i)) (by rw [e, ei]) ⟨vi', by rw [ei], ?_⟩⟩⟩⟩⟩
        exact ⟨rev, f, ch, tm, ke, km, ks, kv, kl, ef, vf, R, K, P, V, lo, ll, le, ws, wf, wl, (upd pr w (R i)), (upd pk w (K i + 1)), (upd hA w 1), (upd hK w (K i)), (upd hP w (P i)), (upd hV w (V i)), ex, va, ys, yv, fr, (upd lr w (R i)), (upd lk w (K i)), rfl, rfl, by omega, hM, hF, hL, rk_wt_n hW hr (m4 i) hq⟩
    · have z0 : ¬ ws w = 0 := by rw [z]; decide
      have z1 : ¬ ws w = 1 := by rw [z]; decide
      refine br_f (by rw [e]; exact z0) ⟨vw, br_t (by rw [e]; exact z) (br_f (by decide) ?_)⟩
      unfold wpY_next
      exact rk_yw_g hw (br_f (by decide) ⟨vw, br_f (by rw [e]; exact z1) ⟨vw, br_f (by rw [e]; exact z0) ⟨rfl, J⟩⟩⟩)
theorem rk_y_wg {post : Int32 → Prop} {rev f ch : Nat} {tm : Int32} {ex va km ys yv kl R K P V ll le lo ws wf wl fr lr lk hP hV : Nat → Int32} {pr pk hA hK : Nat → Int32} {w : Nat} (hw : w < 4) (hc : ch ≤ 116) (hr : rk_wr pr pk hA hK fr lr lk w) (vK : ∀ i, vp_in (K i) 16)
    (h : post (nI (rk_ns (rk_wq R K wf wl pr pk w) ch))) : ∃ n, wY_waiting_42 post (nI w) (nI f) (nI rev) (nI ch) tm ex va km ys yv kl R K P V ll le lo ws wf wl fr lr lk hP hV n 0 0 := by
  have key : ∀ d n j, j + d = ch → d < n → wY_waiting_42 post (nI w) (nI f) (nI rev) (nI ch) tm ex va km ys yv kl R K P V ll le lo ws wf wl fr lr lk hP hV n (nI (rk_ns (rk_wq R K wf wl pr pk w) j)) (nI j) := by
    intro d
    induction d with
    | zero =>
      intro n j h2 h3
      obtain ⟨n, rfl⟩ : ∃ m, n = m + 1 := ⟨n - 1, by omega⟩
      obtain rfl : j = ch := by omega
      exact rk_leT j j (by omega) h
    | succ d ih =>
      intro n j h2 h3
      obtain ⟨n, rfl⟩ : ∃ m, n = m + 1 := ⟨n - 1, by omega⟩
      have ih := ih n (j + 1) (by omega) (by omega)
      refine rk_leF ch j (by omega) (rk_y_wa hw (by omega) hr (vK j) (fun z => ?_) (fun z => ?_))
      · rw [rk_ns_t z] at ih
        exact br_f (by decide) (nm_r (nI_1 _) (nm_r (nI_1 j) ih))
      · rw [rk_ns_f z] at ih
        exact br_t rfl (nm_r (nI_1 j) ih)
  exact ⟨ch + 1, key ch (ch + 1) 0 (by omega) (by omega)⟩
theorem i_vc_waiting {k : Nat} {u : SX} {v : SY} (I : i_Rel k u v) (hk : k + 5 ≤ 2560) (v1 : Int32) : wpX_waiting (fun r => wpY_waiting (fun r' => r' = r ∧ i_Rel (k + 5) u v) v v1) u v1 := by
  have J := i_up I
  obtain ⟨rev, f, ch, tm, ke, km, ks, kv, kl, ef, vf, R, K, P, V, lo, ll, le, ws, wf, wl, pr, pk, hA, hK, hP, hV, ex, va, ys, yv, fr, lr, lk, rfl, rfl, hB, hM, hF, hL, hW⟩ := I
  have hcc := (rk_md_c hM).2.1
  have m4 := hM.2.2.2.1
  unfold wpX_waiting wpX_refusalOfHandingOut
  rcases pk_ix v1 (n := 4) (by decide) with hx | hx | ⟨w, hw, rfl⟩
  · refine rk_xw_b (Or.inl hx) (br_t rfl (br_f (by decide) ?_))
    unfold wpY_waiting
    exact rk_yw_b (Or.inl hx) (br_t rfl ⟨rfl, J⟩)
  · refine rk_xw_b (Or.inr hx) (br_t rfl (br_f (by decide) ?_))
    unfold wpY_waiting
    exact rk_yw_b (Or.inr hx) (br_t rfl ⟨rfl, J⟩)
  · have vw : vp_in (nI w) 4 := vp_in_nI hw (by decide)
    have e : (nI w).toNatClampNeg = w := nI_clamp (by omega)
    refine rk_xw_g hw (br_f (by decide) ⟨vw, ?_⟩)
    rcases (hW w hw).1 with z | z | z
    · have z1 : ¬ ws w = 1 := by rw [z]; decide
      refine br_t (by rw [e]; exact z) (br_f (by decide) ?_)
      unfold wpY_waiting
      exact rk_yw_g hw (br_f (by decide) ⟨vw, br_f (by rw [e]; exact z1) ⟨vw, br_t (by rw [e]; exact z) ⟨rfl, J⟩⟩⟩)
    · have z0 : ¬ ws w = 0 := by rw [z]; decide
      have z2 : ¬ ws w = 2 := by rw [z]; decide
      have hr := (hW w hw).2 z0
      refine br_f (by rw [e]; exact z0) ⟨vw, br_f (by rw [e]; exact z2) (br_t rfl (rk_x_cs hw hcc ?_))⟩
      unfold wpY_waiting
      exact rk_yw_g hw (br_f (by decide) ⟨vw, br_t (by rw [e]; exact z) (rk_y_wg hw hcc hr m4 ⟨rfl, J⟩)⟩)
    · have z0 : ¬ ws w = 0 := by rw [z]; decide
      have z1 : ¬ ws w = 1 := by rw [z]; decide
      refine br_f (by rw [e]; exact z0) ⟨vw, br_t (by rw [e]; exact z) (br_f (by decide) ?_)⟩
      unfold wpY_waiting
      exact rk_yw_g hw (br_f (by decide) ⟨vw, br_f (by rw [e]; exact z1) ⟨vw, br_f (by rw [e]; exact z0) ⟨rfl, J⟩⟩⟩)
end
end
section
section
theorem rk_ns_sub {S T : Nat → Bool} : ∀ n, (∀ i, i < n → S i = true → T i = true) → rk_ns S n ≤ rk_ns T n := by
  intro n
  induction n with
  | zero => intro _; exact Nat.le_refl 0
  | succ n ih =>
    intro h
    have h1 := ih (fun i hi => h i (by omega))
    by_cases z : S n = true
    · rw [rk_ns_t z, rk_ns_t (h n (by omega) z)]; omega
    · rw [rk_ns_f z]
      by_cases y : T n = true
      · rw [rk_ns_t y]; omega
      · rw [rk_ns_f y]; exact h1
theorem rk_md_s {rev f ch : Nat} {ke ks kv kl ef vf R K P V ex va ys yv : Nat → Int32} {S : Nat → Bool} (h : rk_md rev f ch ke ks kv kl ef vf R K P V ex va ys yv) (hS : ∀ i, i < 16 → S i = true → ke i ≠ 0) : ch + rk_ns S 16 ≤ 116 := by
  have h2 := h.2.1
  have := rk_ns_sub (S := S) (T := fun i => decide (ke i ≠ 0)) 16 (fun i hi z => decide_eq_true (hS i hi z))
  omega
theorem rk_md_g {rev f ch : Nat} {ke ks kv kl ef vf R K P V ex va ys yv : Nat → Int32} (S : Nat → Bool) (h : rk_md rev f ch ke ks kv kl ef vf R K P V ex va ys yv) (hv : rev < 2 ^ 30) (hS : ∀ i, i < 16 → S i = true → ke i ≠ 0) :
    ∀ j, j ≤ 16 → rk_md rev f (ch + rk_ns S j) (rk_ga S (fun i => i) (fun _ => 0) ke j) (rk_ga S (fun i => i) (fun _ => 0) ks j) (rk_ga S (fun i => i) (fun _ => 0) kv j) (rk_ga S (fun i => i) (fun _ => -1) kl j) ef vf (rk_ga S (fun i => ch + rk_ns S i) (fun _ => nI rev) R j) (rk_ga S (fun i => ch + rk_ns S i) (fun i => nI i) K j) (rk_ga S (fun i => ch + rk_ns S i) (fun _ => 0) P j) (rk_ga S (fun i => ch + rk_ns S i) (fun _ => 0) V j) (rk_ga S (fun i => 16 * (rev - f) + i) (fun _ => 0) ex j) va ys yv ∧ (0 < rk_ns S j → rk_rr (rk_ga S (fun i => ch + rk_ns S i) (fun _ => nI rev) R j) f (ch + rk_ns S j) = rev) := by
  intro j
  induction j with
  | zero => intro _; exact ⟨h, fun z => absurd z (Nat.lt_irrefl 0)⟩
  | succ j ih =>
    intro hj
    obtain ⟨h1, h2⟩ := ih (by omega)
    by_cases z : S j = true
    · have ek : rk_ga S (fun i => i) (fun _ => 0) ke j j ≠ 0 := by
        rw [rk_ga_id, if_neg (by omega)]
        exact hS j (by omega) z
      obtain ⟨g1, g2⟩ := rk_md_e (k := j) h1 hv (by omega) ek
      simp only [rk_ga_t z, rk_ns_t z]
      exact ⟨g1, fun _ => g2⟩
    · simp only [rk_ga_f z, rk_ns_f z]
      exact ⟨h1, h2⟩
theorem rk_Rl_er {C : Nat} {rev f ch : Nat} {tm : Int32} {ke km ks kv kl ef vf R K P V lo ll le ws wf wl pr pk hA hK hP hV ex va ys yv fr lr lk : Nat → Int32} (S : Nat → Bool) (hM : rk_md rev f ch ke ks kv kl ef vf R K P V ex va ys yv) (hF : rk_rr R f ch = rev) (hL : rk_lo (rk_ga S (fun i => i) (fun _ => -1) kl 16) lo) (hW : rk_wt ws pr pk hA hK fr lr lk) (hS : ∀ i, i < 16 → S i = true → ke i ≠ 0) (h0 : 0 < rk_ns S 16) (hC : rev + 1 ≤ C) (hv : rev + 1 < 2 ^ 30) :
    rk_Rl C ((nI (rev + 1)), (nI f), tm, (nI (ch + rk_ns S 16)), (rk_ga S (fun i => i) (fun _ => 0) ke 16), km, (rk_ga S (fun i => i) (fun _ => 0) ks 16), (rk_ga S (fun i => i) (fun _ => 0) kv 16), (rk_ga S (fun i => i) (fun _ => -1) kl 16), ef, vf, (rk_ga S (fun i => ch + rk_ns S i) (fun _ => nI (rev + 1)) R 16), (rk_ga S (fun i => ch + rk_ns S i) (fun i => nI i) K 16), (rk_ga S (fun i => ch + rk_ns S i) (fun _ => 0) P 16), (rk_ga S (fun i => ch + rk_ns S i) (fun _ => 0) V 16), lo, ll, le, ws, wf, wl, pr, pk, hA, hK, hP, hV) ((nI f), (nI (rev + 1)), (nI (ch + rk_ns S 16)), tm, (rk_ga S (fun i => 16 * ((rev + 1) - f) + i) (fun _ => 0) (rk_nr ex (16 * (rev - f)) 16) 16), rk_nr va (16 * (rev - f)) 16, km, ys, yv, (rk_ga S (fun i => i) (fun _ => -1) kl 16), (rk_ga S (fun i => ch + rk_ns S i) (fun _ => nI (rev + 1)) R 16), (rk_ga S (fun i => ch + rk_ns S i) (fun i => nI i) K 16), (rk_ga S (fun i => ch + rk_ns S i) (fun _ => 0) P 16), (rk_ga S (fun i => ch + rk_ns S i) (fun _ => 0) V 16), ll, le, lo, ws, wf, wl, fr, lr, lk, hP, hV) := by
  obtain ⟨g1, g2⟩ := rk_md_g S (rk_md_n hM hF) hv hS 16 (Nat.le_refl 16)
  exact ⟨(rev + 1), f, (ch + rk_ns S 16), tm, (rk_ga S (fun i => i) (fun _ => 0) ke 16), km, (rk_ga S (fun i => i) (fun _ => 0) ks 16), (rk_ga S (fun i => i) (fun _ => 0) kv 16), (rk_ga S (fun i => i) (fun _ => -1) kl 16), ef, vf, (rk_ga S (fun i => ch + rk_ns S i) (fun _ => nI (rev + 1)) R 16), (rk_ga S (fun i => ch + rk_ns S i) (fun i => nI i) K 16), (rk_ga S (fun i => ch + rk_ns S i) (fun _ => 0) P 16), (rk_ga S (fun i => ch + rk_ns S i) (fun _ => 0) V 16), lo, ll, le, ws, wf, wl, pr, pk, hA, hK, hP, hV, (rk_ga S (fun i => 16 * ((rev + 1) - f) + i) (fun _ => 0) (rk_nr ex (16 * (rev - f)) 16) 16), (rk_nr va (16 * (rev - f)) 16), ys, yv, fr, lr, lk, rfl, rfl, hC, g1, g2 h0, hL, hW⟩
theorem rk_lo_e {kl lo : Nat → Int32} (h : rk_lo kl lo) (S : Nat → Bool) : rk_lo (rk_ga S (fun i => i) (fun _ => -1) kl 16) lo := by
  intro i hi
  rw [rk_ga_id]
  by_cases z : i < 16 ∧ S i = true
  · rw [if_pos z]; exact Or.inl rfl
  · rw [if_neg z]; exact h i hi
theorem i_vc_erase {k : Nat} {u : SX} {v : SY} (I : i_Rel k u v) (hk : k + 5 ≤ 2560) (v1 : Int32) (v2 : Int32) : wpX_erase (fun r u' => wpY_erase (fun r' v' => r' = r ∧ i_Rel (k + 5) u' v') v v1 v2) u v1 v2 := by
  have J := i_up I
  obtain ⟨rev, f, ch, tm, ke, km, ks, kv, kl, ef, vf, R, K, P, V, lo, ll, le, ws, wf, wl, pr, pk, hA, hK, hP, hV, ex, va, ys, yv, fr, lr, lk, rfl, rfl, hB, hM, hF, hL, hW⟩ := I
  have hr := rk_md_r hM hF
  have hcc := (rk_md_c hM).2.1
  have m1 := hM.1
  have m7 := hM.2.2.2.2.2.2.1
  have m9 := hM.2.2.2.2.2.2.2.2
  unfold wpX_erase
  by_cases hx1 : v1 < 0 ∨ nI 16 ≤ v1
  · refine rk_xr_b1 hx1 (br_t rfl ?_)
    unfold wpY_erase
    exact rk_yk_b hx1 (br_t rfl ⟨rfl, J⟩)
  obtain ⟨a, ha, rfl⟩ : ∃ j, j < 16 ∧ v1 = nI j := by
    rcases pk_ix v1 (n := 16) (by decide) with h | h | h
    · exact absurd (Or.inl h) hx1
    · exact absurd (Or.inr h) hx1
    · exact h
  by_cases hx2 : v2 < 0 ∨ nI 16 ≤ v2
  · refine rk_xr_b2 ha hx2 (br_t rfl ?_)
    unfold wpY_erase
    exact rk_yk_g ha (br_f (by decide) (rk_yk_b hx2 (br_t rfl ⟨rfl, J⟩)))
  obtain ⟨b, hb, rfl⟩ : ∃ j, j < 16 ∧ v2 = nI j := by
    rcases pk_ix v2 (n := 16) (by decide) with h | h | h
    · exact absurd (Or.inl h) hx2
    · exact absurd (Or.inr h) hx2
    · exact h
  obtain ⟨S, hSd⟩ : ∃ S : Nat → Bool, S = fun i => decide (a ≤ i ∧ i ≤ b ∧ ke i ≠ 0) := ⟨_, rfl⟩
  have hlo : ∀ i, i < a → S i = false := fun i hi => by
    rw [hSd]
    exact decide_eq_false (fun w => by omega)
  have hhi : ∀ i, b < i → S i = false := fun i hi => by
    rw [hSd]
    exact decide_eq_false (fun w => by omega)
  have hS : ∀ i, a ≤ i → i ≤ b → (S i = true ↔ ke i ≠ 0) := fun i h1 h2 => by
    rw [hSd]
    simp only [decide_eq_true_iff]
    exact ⟨fun w => w.2.2, fun w => ⟨h1, h2, w⟩⟩
  have hS' : ∀ i, i < 16 → S i = true → ke i ≠ 0 := fun i _ h => by
    rw [hSd] at h
    exact (of_decide_eq_true h).2.2
  have hSy : ∀ i, a ≤ i → i ≤ b → (S i = true ↔ ex (16 * (rev - f) + i) ≠ 0) := fun i h1 h2 => by
    rw [hS i h1 h2, (m9 i (by omega)).1]
  have hn := rk_ns_le S 16
  have hY : ∀ post : Int32 → SY → Prop, (((nI (rk_ns S 16) = 0 → post (-1000000003) ((nI f), (nI rev), (nI ch), tm, ex, va, km, ys, yv, kl, R, K, P, V, ll, le, lo, ws, wf, wl, fr, lr, lk, hP, hV)) ∧ (¬ nI (rk_ns S 16) = 0 → ((nI ch + nI (rk_ns S 16) ≤ 100 → wpY_eraseAll (fun u => post (nI (rk_ns S 16)) u) ((nI f), (nI rev), (nI ch), tm, ex, va, km, ys, yv, kl, R, K, P, V, ll, le, lo, ws, wf, wl, fr, lr, lk, hP, hV) (nI (rk_bm S 16))) ∧ (¬ nI ch + nI (rk_ns S 16) ≤ 100 → post (-1000000002) ((nI f), (nI rev), (nI ch), tm, ex, va, km, ys, yv, kl, R, K, P, V, ll, le, lo, ws, wf, wl, fr, lr, lk, hP, hV)))))) → wpY_erase post ((nI f), (nI rev), (nI ch), tm, ex, va, km, ys, yv, kl, R, K, P, V, ll, le, lo, ws, wf, wl, fr, lr, lk, hP, hV) (nI a) (nI b) := by
    intro post h
    unfold wpY_erase
    exact rk_yk_g ha (br_f (by decide) (rk_yk_g hb (br_f (by decide) (rk_y_pr m1 (rk_y_ka S ha hb hlo hhi (by omega) hSy (rk_y_bi S h))))))
  refine rk_xr_g ha hb (br_f (by decide) (rk_x_ce S hb hlo hhi hS ha ?_))
  by_cases z : rk_ns S 16 = 0
  · exact rk_eqT (rk_ns S 16) 0 z (hY _ (rk_eqT (rk_ns S 16) 0 z ⟨rfl, J⟩))
  · refine rk_eqF (rk_ns S 16) 0 z ?_
    by_cases y : ch + rk_ns S 16 ≤ 100
    · refine rk_leT (ch + rk_ns S 16) 100 y (nm_r (nI_1 rev) (rk_x_er S ha hb hlo hhi hS (by omega) (hY _ (rk_eqF (rk_ns S 16) 0 z (rk_leT (ch + rk_ns S 16) 100 y (rk_y_ea1 S (by omega) m1 (by omega) (by omega) m7 ⟨rfl, ?_⟩) (nI_add _ _)))))) (nI_add _ _)
      exact rk_Rl_er S hM hF (rk_lo_e hL S) hW hS' (by omega) (by omega) (by omega)
    · exact rk_leF (ch + rk_ns S 16) 100 (by omega) (hY _ (rk_eqF (rk_ns S 16) 0 z (rk_leF (ch + rk_ns S 16) 100 (by omega) ⟨rfl, J⟩ (nI_add _ _)))) (nI_add _ _)

/-! a lease ends -/
theorem rk_lo_0 {kl lo : Nat → Int32} (h : rk_lo kl lo) {l : Nat} (hn : ∀ i, i < 16 → ¬ kl i = nI l) : rk_lo kl (upd lo l 0) := by
  intro i hi
  rcases h i hi with y | ⟨m, hm, y, ym⟩
  · exact Or.inl y
  · refine Or.inr ⟨m, hm, y, ?_⟩
    rw [pk_un (fun e => hn i hi (by rw [y, e]))]
    exact ym
theorem rk_lo_1 {kl lo : Nat → Int32} (h : rk_lo kl lo) {l : Nat} {S : Nat → Bool} (hS : ∀ i, i < 16 → (S i = true ↔ kl i = nI l)) : rk_lo (rk_ga S (fun i => i) (fun _ => -1) kl 16) (upd lo l 0) := by
  intro i hi
  rw [rk_ga_id]
  by_cases z : i < 16 ∧ S i = true
  · rw [if_pos z]; exact Or.inl rfl
  · rw [if_neg z]
    rcases h i hi with y | ⟨m, hm, y, ym⟩
    · exact Or.inl y
    · refine Or.inr ⟨m, hm, y, ?_⟩
      rw [pk_un (fun e => z ⟨hi, (hS i hi).mpr (by rw [y, e])⟩)]
      exact ym
theorem rk_end {B l : Nat} {u : SX} {v : SY} (h : rk_Rl B u v) (hl : l < 6) (hB' : B + 1 < 2 ^ 30) :
    ∃ (r : Int32) (u' : SX) (v' : SY), (∀ post : Int32 → SX → Prop, post r u' → wpX_endLease post u (nI l)) ∧ (∀ post : Int32 → SY → Prop, post r v' → wpY_end post v (nI l)) ∧ rk_Rl (B + 1) u' v' := by
  obtain ⟨rev, f, ch, tm, ke, km, ks, kv, kl, ef, vf, R, K, P, V, lo, ll, le, ws, wf, wl, pr, pk, hA, hK, hP, hV, ex, va, ys, yv, fr, lr, lk, rfl, rfl, hB, hM, hF, hL, hW⟩ := h
  have hr := rk_md_r hM hF
  have hcc := (rk_md_c hM).2.1
  have m1 := hM.1
  have m7 := hM.2.2.2.2.2.2.1
  have m9 := hM.2.2.2.2.2.2.2.2
  obtain ⟨S, hSd⟩ : ∃ S : Nat → Bool, S = fun i => decide (kl i = nI l) := ⟨_, rfl⟩
  have hS : ∀ i, i < 16 → (S i = true ↔ kl i = nI l) := fun i _ => by
    rw [hSd]
    exact decide_eq_true_iff
  have hS' : ∀ i, i < 16 → S i = true → ke i ≠ 0 := fun i hi h z => by
    have h1 := (hS i hi).mp h
    rw [((m9 i hi).2.1 z).2.2] at h1
    exact rk_ne1 (by omega) h1.symm
  have hSy : ∀ i, i < 16 → (S i = true ↔ (ex (16 * (rev - f) + i) ≠ 0 ∧ kl i = nI l)) := fun i hi => by
    rw [← (m9 i hi).1]
    exact ⟨fun w => ⟨hS' i hi w, (hS i hi).mp w⟩, fun w => (hS i hi).mpr w.2⟩
  by_cases z : rk_ns S 16 = 0
  · refine ⟨_, _, _, fun post h => rk_x_el0 S hl hS hcc z h, fun post h => rk_y_nd0 S hl m1 (by omega) m7 hSy z h, rev, f, ch, tm, ke, km, ks, kv, kl, ef, vf, R, K, P, V, (upd lo l 0), ll, le, ws, wf, wl, pr, pk, hA, hK, hP, hV, ex, va, ys, yv, fr, lr, lk, rfl, rfl, by omega, hM, hF, rk_lo_0 hL ?_, hW⟩
    intro i hi y
    have := rk_ns_q hi ((hS i hi).mpr y)
    omega
  · exact ⟨_, _, _, fun post h => rk_x_el1 S hl hS (rk_md_s hM hS') (by omega) h, fun post h => rk_y_nd1 S hl m1 (by omega) m7 hSy (rk_md_s hM hS') (by omega) h, rk_Rl_er S hM hF (rk_lo_1 hL hS) hW hS' (by omega) (by omega) (by omega)⟩
theorem i_vc_revoke {k : Nat} {u : SX} {v : SY} (I : i_Rel k u v) (hk : k + 5 ≤ 2560) (v1 : Int32) : wpX_revoke (fun r u' => wpY_revoke (fun r' v' => r' = r ∧ i_Rel (k + 5) u' v') v v1) u v1 := by
  have J := i_up I
  have II : rk_Rl (200 * k) u v := I
  obtain ⟨rev, f, ch, tm, ke, km, ks, kv, kl, ef, vf, R, K, P, V, lo, ll, le, ws, wf, wl, pr, pk, hA, hK, hP, hV, ex, va, ys, yv, fr, lr, lk, rfl, rfl, hB, hM, hF, hL, hW⟩ := I
  unfold wpX_revoke
  rcases pk_ix v1 (n := 6) (by decide) with hx | hx | ⟨j, hj, rfl⟩
  · refine rk_xl_b (Or.inl hx) (br_t rfl ?_)
    unfold wpY_revoke
    exact rk_yl_b (Or.inl hx) (br_t rfl ⟨rfl, J⟩)
  · refine rk_xl_b (Or.inr hx) (br_t rfl ?_)
    unfold wpY_revoke
    exact rk_yl_b (Or.inr hx) (br_t rfl ⟨rfl, J⟩)
  · have vj : vp_in (nI j) 6 := vp_in_nI hj (by decide)
    have e : (nI j).toNatClampNeg = j := nI_clamp (by omega)
    refine rk_xl_g hj (br_f (by decide) ⟨vj, ?_⟩)
    by_cases z : lo j = 0
    · refine br_t (by rw [e]; exact z) ?_
      unfold wpY_revoke
      exact rk_yl_g hj (br_f (by decide) ⟨vj, br_t (by rw [e]; exact z) ⟨rfl, J⟩⟩)
    · obtain ⟨r, ⟨_, _, _, _, _, _, _, _, _, _, _, _, _, _, _, _, _, _, _, _, _, _, _, _, _, _, _⟩, ⟨_, _, _, _, _, _, _, _, _, _, _, _, _, _, _, _, _, _, _, _, _, _, _, _, _⟩, eX, eY, hR⟩ := rk_end II hj (by omega)
      refine br_f (by rw [e]; exact z) (eX _ ?_)
      unfold wpY_revoke
      exact rk_yl_g hj (br_f (by decide) ⟨vj, br_f (by rw [e]; exact z) (eY _ ⟨rfl, rk_Rl_up hR (by omega)⟩)⟩)

/-! time goes on -/
def rk_XD (post : Int32 → SX → Prop) (n : Nat) (x1 x2 : Int32) (u : SX) : Prop := match u with
  | (rev, f, tm, ch, ke, km, ks, kv, kl, ef, vf, R, K, P, V, lo, ll, le, ws, wf, wl, pr, pk, hA, hK, hP, hV) => wX_endLeasesDue_4 post n x1 x2 rev f tm ch ke km ks kv kl ef vf R K P V lo ll le ws wf wl pr pk hA hK hP hV
def rk_YD (post : Int32 → SY → Prop) (J : Int32 → Int32 → Int32 → Int32 → Int32 → Int32 → (Nat → Int32) → (Nat → Int32) → (Nat → Int32) → (Nat → Int32) → (Nat → Int32) → (Nat → Int32) → (Nat → Int32) → (Nat → Int32) → (Nat → Int32) → (Nat → Int32) → (Nat → Int32) → (Nat → Int32) → (Nat → Int32) → (Nat → Int32) → (Nat → Int32) → (Nat → Int32) → (Nat → Int32) → (Nat → Int32) → (Nat → Int32) → (Nat → Int32) → (Nat → Int32) → Prop) (x1 x3 : Int32) (n : Nat) (x2 x4 : Int32) (v : SY) : Prop := match v with
  | (f, rev, ch, tm, ex, va, km, ys, yv, kl, R, K, P, V, ll, le, lo, ws, wf, wl, fr, lr, lk, hP, hV) => wY_advance_35 post J x1 x3 n x2 x4 f rev ch tm ex va km ys yv kl R K P V ll le lo ws wf wl fr lr lk hP hV
def rk_YJ (J : Int32 → Int32 → Int32 → Int32 → Int32 → Int32 → (Nat → Int32) → (Nat → Int32) → (Nat → Int32) → (Nat → Int32) → (Nat → Int32) → (Nat → Int32) → (Nat → Int32) → (Nat → Int32) → (Nat → Int32) → (Nat → Int32) → (Nat → Int32) → (Nat → Int32) → (Nat → Int32) → (Nat → Int32) → (Nat → Int32) → (Nat → Int32) → (Nat → Int32) → (Nat → Int32) → (Nat → Int32) → (Nat → Int32) → (Nat → Int32) → Prop) (x y : Int32) (v : SY) : Prop := match v with
  | (f, rev, ch, tm, ex, va, km, ys, yv, kl, R, K, P, V, ll, le, lo, ws, wf, wl, fr, lr, lk, hP, hV) => J x y f rev ch tm ex va km ys yv kl R K P V ll le lo ws wf wl fr lr lk hP hV
def rk_XA (post : Int32 → SX → Prop) (x1 : Int32) (n : Nat) (x2 x3 : Int32) (u : SX) : Prop := match u with
  | (rev, f, tm, ch, ke, km, ks, kv, kl, ef, vf, R, K, P, V, lo, ll, le, ws, wf, wl, pr, pk, hA, hK, hP, hV) => wX_advance_17 post x1 n x2 x3 rev f tm ch ke km ks kv kl ef vf R K P V lo ll le ws wf wl pr pk hA hK hP hV
def rk_YA (post : Int32 → SY → Prop) (x1 : Int32) (n : Nat) (x2 x3 : Int32) (v : SY) : Prop := match v with
  | (f, rev, ch, tm, ex, va, km, ys, yv, kl, R, K, P, V, ll, le, lo, ws, wf, wl, fr, lr, lk, hP, hV) => wY_advance_17 post x1 n x2 x3 f rev ch tm ex va km ys yv kl R K P V ll le lo ws wf wl fr lr lk hP hV
theorem rk_XD_o {post : Int32 → SX → Prop} {n : Nat} {x1 x2 : Int32} {rev f tm ch : Int32} {ke km ks kv kl ef vf R K P V lo ll le ws wf wl pr pk hA hK hP hV : Nat → Int32} (h : rk_XD post n x1 x2 (rev, f, tm, ch, ke, km, ks, kv, kl, ef, vf, R, K, P, V, lo, ll, le, ws, wf, wl, pr, pk, hA, hK, hP, hV)) : wX_endLeasesDue_4 post n x1 x2 rev f tm ch ke km ks kv kl ef vf R K P V lo ll le ws wf wl pr pk hA hK hP hV := h
theorem rk_YD_o {post : Int32 → SY → Prop} {J : Int32 → Int32 → Int32 → Int32 → Int32 → Int32 → (Nat → Int32) → (Nat → Int32) → (Nat → Int32) → (Nat → Int32) → (Nat → Int32) → (Nat → Int32) → (Nat → Int32) → (Nat → Int32) → (Nat → Int32) → (Nat → Int32) → (Nat → Int32) → (Nat → Int32) → (Nat → Int32) → (Nat → Int32) → (Nat → Int32) → (Nat → Int32) → (Nat → Int32) → (Nat → Int32) → (Nat → Int32) → (Nat → Int32) → (Nat → Int32) → Prop} {x1 x3 : Int32} {n : Nat} {x2 x4 : Int32} {f rev ch tm : Int32} {ex va km ys yv kl R K P V ll le lo ws wf wl fr lr lk hP hV : Nat → Int32} (h : rk_YD post J x1 x3 n x2 x4 (f, rev, ch, tm, ex, va, km, ys, yv, kl, R, K, P, V, ll, le, lo, ws, wf, wl, fr, lr, lk, hP, hV)) : wY_advance_35 post J x1 x3 n x2 x4 f rev ch tm ex va km ys yv kl R K P V ll le lo ws wf wl fr lr lk hP hV := h
theorem rk_XA_o {post : Int32 → SX → Prop} {x1 : Int32} {n : Nat} {x2 x3 : Int32} {rev f tm ch : Int32} {ke km ks kv kl ef vf R K P V lo ll le ws wf wl pr pk hA hK hP hV : Nat → Int32} (h : rk_XA post x1 n x2 x3 (rev, f, tm, ch, ke, km, ks, kv, kl, ef, vf, R, K, P, V, lo, ll, le, ws, wf, wl, pr, pk, hA, hK, hP, hV)) : wX_advance_17 post x1 n x2 x3 rev f tm ch ke km ks kv kl ef vf R K P V lo ll le ws wf wl pr pk hA hK hP hV := h
theorem rk_YA_o {post : Int32 → SY → Prop} {x1 : Int32} {n : Nat} {x2 x3 : Int32} {f rev ch tm : Int32} {ex va km ys yv kl R K P V ll le lo ws wf wl fr lr lk hP hV : Nat → Int32} (h : rk_YA post x1 n x2 x3 (f, rev, ch, tm, ex, va, km, ys, yv, kl, R, K, P, V, ll, le, lo, ws, wf, wl, fr, lr, lk, hP, hV)) : wY_advance_17 post x1 n x2 x3 f rev ch tm ex va km ys yv kl R K P V ll le lo ws wf wl fr lr lk hP hV := h
theorem rk_due : ∀ d l, l + d = 6 → ∀ (B : Nat) (u : SX) (v : SY), rk_Rl B u v → B + d < 2 ^ 30 →
    ∃ (c : Nat) (u' : SX) (v' : SY), (∀ (post : Int32 → SX → Prop) (n : Nat) (x1 : Int32), d < n → post (x1 + nI c) u' → rk_XD post n x1 (nI l) u) ∧
      (∀ (post : Int32 → SY → Prop) (J : Int32 → Int32 → Int32 → Int32 → Int32 → Int32 → (Nat → Int32) → (Nat → Int32) → (Nat → Int32) → (Nat → Int32) → (Nat → Int32) → (Nat → Int32) → (Nat → Int32) → (Nat → Int32) → (Nat → Int32) → (Nat → Int32) → (Nat → Int32) → (Nat → Int32) → (Nat → Int32) → (Nat → Int32) → (Nat → Int32) → (Nat → Int32) → (Nat → Int32) → (Nat → Int32) → (Nat → Int32) → (Nat → Int32) → (Nat → Int32) → Prop) (y1 y3 : Int32) (n : Nat) (x2 : Int32), d < n → rk_YJ J (x2 + nI c) (y3 + 1) v' → rk_YD post J y1 y3 n x2 (nI l) v) ∧ rk_Rl (B + d) u' v' := by
  intro d
  induction d with
  | zero =>
    intro l hl B u v h hB'
    have hh := h
    obtain ⟨rev, f, ch, tm, ke, km, ks, kv, kl, ef, vf, R, K, P, V, lo, ll, le, ws, wf, wl, pr, pk, hA, hK, hP, hV, ex, va, ys, yv, fr, lr, lk, rfl, rfl, hB, hM, hF, hL, hW⟩ := h
    refine ⟨0, _, _, ?_, ?_, hh⟩
    · intro post n x1 hn h
      obtain ⟨n, rfl⟩ : ∃ m, n = m + 1 := ⟨n - 1, by omega⟩
      rw [show x1 + nI 0 = x1 from Int32.add_zero x1] at h
      exact rk_leT 6 l (by omega) h
    · intro post J y1 y3 n x2 hn h
      obtain ⟨n, rfl⟩ : ∃ m, n = m + 1 := ⟨n - 1, by omega⟩
      rw [show x2 + nI 0 = x2 from Int32.add_zero x2] at h
      exact rk_leT 6 l (by omega) (nm_e h)
  | succ d ih =>
    intro l hl B u v h hB'
    have hh := h
    obtain ⟨rev, f, ch, tm, ke, km, ks, kv, kl, ef, vf, R, K, P, V, lo, ll, le, ws, wf, wl, pr, pk, hA, hK, hP, hV, ex, va, ys, yv, fr, lr, lk, rfl, rfl, hB, hM, hF, hL, hW⟩ := h
    have vl : vp_in (nI l) 6 := vp_in_nI (by omega) (by decide)
    have e : (nI l).toNatClampNeg = l := nI_clamp (by omega)
    by_cases z : lo l = 0
    · obtain ⟨c, u', v', hX, hY, hR⟩ := ih (l + 1) (by omega) B _ _ hh (by omega)
      refine ⟨c, u', v', ?_, ?_, rk_Rl_up hR (by omega)⟩
      · intro post n x1 hn h
        obtain ⟨n, rfl⟩ : ∃ m, n = m + 1 := ⟨n - 1, by omega⟩
        exact rk_leF 6 l (by omega) ⟨vl, br_t (by rw [e]; exact z) (nm_r (nI_1 l) (hX post n x1 (by omega) h))⟩
      · intro post J y1 y3 n x2 hn h
        obtain ⟨n, rfl⟩ : ∃ m, n = m + 1 := ⟨n - 1, by omega⟩
        exact rk_leF 6 l (by omega) ⟨vl, br_t (by rw [e]; exact z) (nm_r (nI_1 l) (hY post J y1 y3 n x2 (by omega) h))⟩
    · by_cases y : le l = tm
      · obtain ⟨r, ⟨_, _, _, _, _, _, _, _, _, _, _, _, _, _, _, _, _, _, _, _, _, _, _, _, _, _, _⟩, ⟨_, _, _, _, _, _, _, _, _, _, _, _, _, _, _, _, _, _, _, _, _, _, _, _, _⟩, eX, eY, hR1⟩ := rk_end hh (l := l) (by omega) (by omega)
        obtain ⟨c, u', v', hX, hY, hR⟩ := ih (l + 1) (by omega) (B + 1) _ _ hR1 (by omega)
        have ec : ∀ x : Int32, x + 1 + nI c = x + nI (c + 1) := by
          intro x
          rw [← nI_1]
          grind
        refine ⟨c + 1, u', v', ?_, ?_, rk_Rl_up hR (by omega)⟩
        · intro post n x1 hn h
          obtain ⟨n, rfl⟩ : ∃ m, n = m + 1 := ⟨n - 1, by omega⟩
          rw [← ec] at h
          exact rk_leF 6 l (by omega) ⟨vl, br_f (by rw [e]; exact z) ⟨vl, br_t (by rw [e]; exact y) (eX _ (nm_e (nm_r (nI_1 l) (hX post n (x1 + 1) (by omega) h))))⟩⟩
        · intro post J y1 y3 n x2 hn h
          obtain ⟨n, rfl⟩ : ∃ m, n = m + 1 := ⟨n - 1, by omega⟩
          rw [← ec] at h
          exact rk_leF 6 l (by omega) ⟨vl, br_f (by rw [e]; exact z) ⟨vl, br_t (by rw [e]; exact y) (eY _ (nm_e (nm_r (nI_1 l) (hY post J y1 y3 n (x2 + 1) (by omega) h))))⟩⟩
      · obtain ⟨c, u', v', hX, hY, hR⟩ := ih (l + 1) (by omega) B _ _ hh (by omega)
        refine ⟨c, u', v', ?_, ?_, rk_Rl_up hR (by omega)⟩
        · intro post n x1 hn h
          obtain ⟨n, rfl⟩ : ∃ m, n = m + 1 := ⟨n - 1, by omega⟩
          exact rk_leF 6 l (by omega) ⟨vl, br_f (by rw [e]; exact z) ⟨vl, br_f (by rw [e]; exact y) (nm_r (nI_1 l) (hX post n x1 (by omega) h))⟩⟩
        · intro post J y1 y3 n x2 hn h
          obtain ⟨n, rfl⟩ : ∃ m, n = m + 1 := ⟨n - 1, by omega⟩
          exact rk_leF 6 l (by omega) ⟨vl, br_f (by rw [e]; exact z) ⟨vl, br_f (by rw [e]; exact y) (nm_r (nI_1 l) (hY post J y1 y3 n x2 (by omega) h))⟩⟩
theorem rk_adv {m : Nat} (hm : m ≤ 100) : ∀ d j, j + d = m → ∀ (B : Nat) (u : SX) (v : SY) (x2 : Int32), rk_Rl B u v → B + 6 * d < 2 ^ 30 →
    ∃ (c : Int32) (u' : SX) (v' : SY), (∀ (post : Int32 → SX → Prop) (n : Nat), d < n → post c u' → rk_XA post (nI m) n x2 (nI j) u) ∧
      (∀ (post : Int32 → SY → Prop) (n : Nat), d < n → post c v' → rk_YA post (nI m) n x2 (nI j) v) ∧ rk_Rl (B + 6 * d) u' v' := by
  intro d
  induction d with
  | zero =>
    intro j hj B u v x2 h hB'
    have hh := h
    obtain ⟨rev, f, ch, tm, ke, km, ks, kv, kl, ef, vf, R, K, P, V, lo, ll, le, ws, wf, wl, pr, pk, hA, hK, hP, hV, ex, va, ys, yv, fr, lr, lk, rfl, rfl, hB, hM, hF, hL, hW⟩ := h
    refine ⟨x2, _, _, ?_, ?_, hh⟩
    · intro post n hn h
      obtain ⟨n, rfl⟩ : ∃ m, n = m + 1 := ⟨n - 1, by omega⟩
      exact rk_leT m j (by omega) h
    · intro post n hn h
      obtain ⟨n, rfl⟩ : ∃ m, n = m + 1 := ⟨n - 1, by omega⟩
      exact rk_leT m j (by omega) h
  | succ d ih =>
    intro j hj B u v x2 h hB'
    obtain ⟨rev, f, ch, tm, ke, km, ks, kv, kl, ef, vf, R, K, P, V, lo, ll, le, ws, wf, wl, pr, pk, hA, hK, hP, hV, ex, va, ys, yv, fr, lr, lk, rfl, rfl, hB, hM, hF, hL, hW⟩ := h
    have hT : rk_Rl B ((nI rev), (nI f), tm + 1, (nI ch), ke, km, ks, kv, kl, ef, vf, R, K, P, V, lo, ll, le, ws, wf, wl, pr, pk, hA, hK, hP, hV) ((nI f), (nI rev), (nI ch), tm + 1, ex, va, km, ys, yv, kl, R, K, P, V, ll, le, lo, ws, wf, wl, fr, lr, lk, hP, hV) := ⟨rev, f, ch, (tm + 1), ke, km, ks, kv, kl, ef, vf, R, K, P, V, lo, ll, le, ws, wf, wl, pr, pk, hA, hK, hP, hV, ex, va, ys, yv, fr, lr, lk, rfl, rfl, hB, hM, hF, hL, hW⟩
    obtain ⟨c, ⟨_, _, _, _, _, _, _, _, _, _, _, _, _, _, _, _, _, _, _, _, _, _, _, _, _, _, _⟩, ⟨_, _, _, _, _, _, _, _, _, _, _, _, _, _, _, _, _, _, _, _, _, _, _, _, _⟩, hX1, hY1, hR1⟩ := rk_due 6 0 rfl B _ _ hT (by omega)
    obtain ⟨c2, u2, v2, hX2, hY2, hR2⟩ := ih (j + 1) (by omega) (B + 6) _ _ (x2 + nI c) hR1 (by omega)
    refine ⟨c2, u2, v2, ?_, ?_, rk_Rl_up hR2 (by omega)⟩
    · intro post n hn h
      obtain ⟨n, rfl⟩ : ∃ m, n = m + 1 := ⟨n - 1, by omega⟩
      exact rk_leF m j (by omega) (nm_e ⟨7, rk_XD_o (hX1 _ 7 0 (by omega) (nm_r (e' := x2 + nI c) (by rw [Int32.zero_add]) (nm_r (nI_1 j) (hX2 post n (by omega) h))))⟩)
    · intro post n hn h
      obtain ⟨n, rfl⟩ : ∃ m, n = m + 1 := ⟨n - 1, by omega⟩
      have h2 := hY2 post n (by omega) h
      rw [← nI_1 j] at h2
      exact rk_leF m j (by omega) (nm_e ⟨7, rk_YD_o (hY1 post _ (nI m) (nI j) 7 x2 (by omega) h2)⟩)
theorem i_vc_advance {k : Nat} {u : SX} {v : SY} (I : i_Rel k u v) (hk : k + 5 ≤ 2560) (v1 : Int32) : wpX_advance (fun r u' => wpY_advance (fun r' v' => r' = r ∧ i_Rel (k + 5) u' v') v v1) u v1 := by
  have J := i_up I
  have II : rk_Rl (200 * k) u v := I
  obtain ⟨rev, f, ch, tm, ke, km, ks, kv, kl, ef, vf, R, K, P, V, lo, ll, le, ws, wf, wl, pr, pk, hA, hK, hP, hV, ex, va, ys, yv, fr, lr, lk, rfl, rfl, hB, hM, hF, hL, hW⟩ := I
  by_cases a1 : v1 < 0
  · exact br_t a1 (br_t a1 ⟨rfl, J⟩)
  · refine br_f a1 ?_
    by_cases a2 : v1 ≤ 100
    · obtain ⟨m, hm, rfl⟩ := nI_of2 (n := 100) (by decide) a1 a2
      obtain ⟨c, u', v', hX, hY, hR⟩ := rk_adv hm m 0 (by omega) (200 * k) _ _ 0 II (by omega)
      exact br_t a2 ⟨m + 1, rk_XA_o (hX _ (m + 1) (by omega) (br_f a1 (br_t a2 ⟨m + 1, rk_YA_o (hY _ (m + 1) (by omega) ⟨rfl, rk_Rl_up hR (by omega)⟩)⟩)))⟩
    · exact br_f a2 (br_f a1 (br_f a2 ⟨rfl, J⟩))
end
end
section
section
/-! what is forgotten: a first part of the changes -/
theorem rk_g_ex {rev f ch : Nat} {R : Nat → Int32} (h : rk_lg rev f ch R) (q : Int) : ∀ n, n ≤ ch → ∃ g, g ≤ n ∧ (∀ i, i < g → (R i).toInt ≤ q) ∧ (∀ i, g ≤ i → i < n → q < (R i).toInt) := by
  intro n
  induction n with
  | zero => intro _; exact ⟨0, Nat.le_refl 0, fun i hi => absurd hi (by omega), fun i _ hi => absurd hi (by omega)⟩
  | succ n ih =>
    intro hn
    obtain ⟨g, hg, h1, h2⟩ := ih (by omega)
    by_cases z : g = n
    · subst z
      by_cases y : (R g).toInt ≤ q
      · refine ⟨g + 1, Nat.le_refl _, fun i hi => ?_, fun i ha hb => absurd hb (by omega)⟩
        by_cases e : i = g
        · rw [e]; exact y
        · exact h1 i (by omega)
      · refine ⟨g, by omega, h1, fun i ha hb => ?_⟩
        have e : i = g := by omega
        rw [e]; omega
    · refine ⟨g, by omega, h1, fun i ha hb => ?_⟩
      by_cases e : i = n
      · have a1 := h2 g (Nat.le_refl g) (by omega)
        have a2 := rk_lg_ij h (i := g) (j := n) hg (by omega)
        rw [e]; omega
      · exact h2 i ha (by omega)
theorem rk_fe_sh {K R A : Nat → Int32} {r : Int} {k g n : Nat} {e0 e : Int32} (h0 : e0 = rk_fe K R A r k e g) : ∀ m, m ≤ n → rk_fe (rk_sh K g n) (rk_sh R g n) (rk_sh A g n) r k e0 m = rk_fe K R A r k e (m + g) := by
  intro m
  induction m with
  | zero => intro _; rw [rk_fe_0, Nat.zero_add]; exact h0
  | succ m ih =>
    intro hm
    rw [show m + 1 + g = m + g + 1 by omega, rk_fe_s, rk_fe_s, rk_sh_v, rk_sh_v, rk_sh_v, if_pos (show m < n by omega), if_pos (show m < n by omega), if_pos (show m < n by omega), ih (by omega)]
theorem rk_rr_sh {R : Nat → Int32} {q g n : Nat} {m : Nat} (hm : m < n) : rk_rr (rk_sh R g n) q (m + 1) = (R (m + g)).toInt := by
  rw [rk_rr_s, rk_sh_v, if_pos hm]
theorem rk_md_k {rev f ch q g : Nat} {ke ks kv kl ef vf R K P V ex va ys yv : Nat → Int32} (h : rk_md rev f ch ke ks kv kl ef vf R K P V ex va ys yv) (hF : rk_rr R f ch = rev) (q1 : f ≤ q) (q2 : q ≤ rev) (hg : g ≤ ch) (h1 : ∀ i, i < g → (R i).toInt ≤ q) (h2 : ∀ i, g ≤ i → i < ch → (q : Int) < (R i).toInt) :
    rk_md rev q ((ch - g)) ke ks kv kl (rk_cy K P ef g) (rk_cy K V vf g) (rk_sh R g (ch - g)) (rk_sh K g (ch - g)) (rk_sh P g (ch - g)) (rk_sh V g (ch - g)) (rk_sh ex (16 * (q - f)) (16 * (rev - q) + 16)) (rk_sh va (16 * (q - f)) (16 * (rev - q) + 16)) ys yv ∧ rk_rr (rk_sh R g (ch - g)) q (ch - g) = rev := by
  obtain ⟨m1, m2, m3, m4, m5, m6, m7, m8, m9⟩ := h
  -- the revision after the part that goes
  have hgq : rk_rr R f g ≤ q := by
    cases g with
    | zero => rw [rk_rr_0]; omega
    | succ g => rw [rk_rr_s]; exact h1 g (by omega)
  have hfin : rk_rr (rk_sh R g (ch - g)) q (ch - g) = rev := by
    by_cases z : ch = g
    · have e : ch - g = 0 := by omega
      rw [e, rk_rr_0]
      rw [z] at hF
      omega
    · obtain ⟨m, hm⟩ : ∃ m, ch - g = m + 1 := ⟨ch - g - 1, by omega⟩
      rw [hm, rk_rr_sh (by omega), show m + g = ch - 1 by omega]
      rw [show ch = ch - 1 + 1 by omega, rk_rr_s] at hF
      exact hF
  refine ⟨⟨q2, by omega, ⟨?_, by rw [hfin]; exact Int.le_refl _, by rw [hfin]; omega⟩, ?_, rk_bo_sh m5 _ _, rk_bo_cy m5 m6 g, rk_bo_sh m7 _ _, ?_, ?_⟩, hfin⟩
  · intro n hn
    cases n with
    | zero =>
      rw [rk_rr_sh hn, rk_rr_0, Nat.zero_add]
      have a1 := h2 g (Nat.le_refl g) (by omega)
      have a2 := (m3.1 g (by omega)).2
      rw [rk_rr_s] at a2
      omega
    | succ n =>
      rw [rk_rr_sh hn, rk_rr_sh (by omega)]
      have a2 := m3.1 (n + g + 1) (by omega)
      rw [rk_rr_s, rk_rr_s] at a2
      rw [show n + 1 + g = n + g + 1 by omega]
      exact a2
  · intro i
    rw [rk_sh_v]
    split
    · exact m4 _
    · exact m4 _
  · intro n hn k hk
    have hrow := m8 (n + (q - f)) (by omega) k hk
    rw [show n + (q - f) + f = n + q by omega, show 16 * (n + (q - f)) + k = 16 * n + k + 16 * (q - f) by omega] at hrow
    have hle : ∀ i, i < g → (R i).toInt ≤ ((n + q : Nat) : Int) := fun i hi => by
      have := h1 i hi
      omega
    rw [rk_sh_v, rk_sh_v, if_pos (show 16 * n + k < 16 * (rev - q) + 16 by omega), if_pos (show 16 * n + k < 16 * (rev - q) + 16 by omega), rk_fe_sh (e := ef k) (rk_cy_v hk m4 g hle) (ch - g) (Nat.le_refl _), rk_fe_sh (e := vf k) (rk_cy_v hk m4 g hle) (ch - g) (Nat.le_refl _), show ch - g + g = ch by omega]
    exact hrow
  · intro k hk
    have hnow := m9 k hk
    rw [rk_sh_v, if_pos (show 16 * (rev - q) + k < 16 * (rev - q) + 16 by omega), show 16 * (rev - q) + k + 16 * (q - f) = 16 * (rev - f) + k by omega]
    exact hnow
theorem rk_wt_l {ws pr pk hA hK fr lr lk : Nat → Int32} (h : rk_wt ws pr pk hA hK fr lr lk) {S : Nat → Bool} (hS : ∀ w, S w = true → ws w = 1) : rk_wt (rk_ga S (fun i => i) (fun _ => 2) ws 4) pr pk hA hK fr lr lk := by
  intro w hw
  rw [rk_ga_id]
  by_cases z : w < 4 ∧ S w = true
  · rw [if_pos z]
    refine ⟨Or.inr (Or.inr rfl), fun _ => (h w hw).2 ?_⟩
    rw [hS w z.2]; decide
  · rw [if_neg z]; exact h w hw

/-! the reference loses watches -/
theorem rk_y_l9 {post : SY → Prop} {J2 : Int32 → (Nat → Int32) → (Nat → Int32) → (Nat → Int32) → (Nat → Int32) → (Nat → Int32) → (Nat → Int32) → (Nat → Int32) → (Nat → Int32) → (Nat → Int32) → (Nat → Int32) → (Nat → Int32) → (Nat → Int32) → (Nat → Int32) → (Nat → Int32) → (Nat → Int32) → (Nat → Int32) → (Nat → Int32) → (Nat → Int32) → (Nat → Int32) → (Nat → Int32) → (Nat → Int32) → Prop} {rev f ch : Nat} {tm : Int32} {ex va km ys yv kl R K P V ll le lo ws wf wl fr lr lk hP hV : Nat → Int32} {pr pk hA hK : Nat → Int32} {w q g : Nat} (hw : w < 4) (hc : ch ≤ 116) (hg : g ≤ ch) (hq : q < 2 ^ 30) (hr : rk_wr pr pk hA hK fr lr lk w) (vK : ∀ i, vp_in (K i) 16) (h1 : ∀ i, i < g → (R i).toInt ≤ q) (h2 : ∀ i, g ≤ i → i < ch → (q : Int) < (R i).toInt) (hs : ws w = 1)
    (hJ1 : 0 < rk_ns (rk_wq R K wf wl pr pk w) g → J2 (nI (w + 1)) ex va km ys yv kl R K P V ll le lo (upd ws w 2) wf wl fr lr lk hP hV) (hJ0 : ¬ 0 < rk_ns (rk_wq R K wf wl pr pk w) g → J2 (nI (w + 1)) ex va km ys yv kl R K P V ll le lo ws wf wl fr lr lk hP hV) : ∃ n, wY_lose_9 post J2 (nI q) (nI w) (nI f) (nI rev) (nI ch) tm n 0 ex va km ys yv kl R K P V ll le lo ws wf wl fr lr lk hP hV := by
  have vw : vp_in (nI w) 4 := vp_in_nI hw (by decide)
  have ew : (nI w).toNatClampNeg = w := nI_clamp (by omega)
  have hs' : ws (nI w).toNatClampNeg = 1 := by rw [ew]; exact hs
  have eu : upd ws (nI w).toNatClampNeg (ws (nI w).toNatClampNeg) = ws := rk_uu _ _
  have key : ∀ d n c, c + d = ch → d < n → (∀ i, i < c → i < g → ¬ rk_wq R K wf wl pr pk w i = true) → wY_lose_9 post J2 (nI q) (nI w) (nI f) (nI rev) (nI ch) tm n (nI c) ex va km ys yv kl R K P V ll le lo ws wf wl fr lr lk hP hV := by
    intro d
    induction d with
    | zero =>
      intro n c a1 a2 a3
      obtain ⟨n, rfl⟩ : ∃ m, n = m + 1 := ⟨n - 1, by omega⟩
      refine rk_leT ch c (by omega) (nm_r (nI_1 w) (hJ0 ?_))
      rw [rk_ns_z g (fun i hi => Bool.eq_false_iff.mpr (a3 i (by omega) hi))]
      omega
    | succ d ih =>
      intro n c a1 a2 a3
      obtain ⟨n, rfl⟩ : ∃ m, n = m + 1 := ⟨n - 1, by omega⟩
      have vc : vp_in (nI c) 120 := vp_in_nI (by omega) (by decide)
      have ec : (nI c).toNatClampNeg = c := nI_clamp (by omega)
      refine rk_leF ch c (by omega) ⟨vw, br_t hs' ⟨vc, ?_⟩⟩
      by_cases z : c < g
      · have hle := h1 c z
        refine br_f (by rw [ec, rk_lt, nI_toInt (by omega)]; omega) (rk_y_wa hw (by omega) hr (vK c) (fun y => br_f (by decide) ⟨vw, nm_r (e' := upd ws w 2) (by rw [ew]) (nm_r (nI_1 c) ?_)⟩) (fun y => br_t rfl ⟨vw, vw, nm_r eu (nm_r (nI_1 c) (ih n (c + 1) (by omega) (by omega) ?_))⟩))
        · have hJ := hJ1 (rk_ns_q z y)
          obtain ⟨n, rfl⟩ : ∃ m, n = m + 1 := ⟨n - 1, by omega⟩
          by_cases x : c + 1 = ch
          · exact rk_leT ch (c + 1) (by omega) (nm_r (nI_1 w) hJ)
          · exact rk_leF ch (c + 1) (by omega) ⟨vw, br_f (by rw [ew, pk_us]; decide) (nm_r (nI_1 w) hJ)⟩
        · intro i b1 b2
          by_cases x : i = c
          · rw [x]; exact y
          · exact a3 i (by omega) b2
      · have hlt := h2 c (by omega) (by omega)
        refine br_t (by rw [ec, rk_lt, nI_toInt (by omega)]; exact hlt) ⟨vw, vw, nm_r eu (nm_r (nI_1 c) (ih n (c + 1) (by omega) (by omega) ?_))⟩
        intro i b1 b2
        exact a3 i (by omega) b2
  exact ⟨ch + 1, key ch (ch + 1) 0 (by omega) (by omega) (fun i hi => absurd hi (by omega))⟩
theorem rk_y_lo {post : SY → Prop} {rev f ch : Nat} {tm : Int32} {ex va km ys yv kl R K P V ll le lo ws wf wl fr lr lk hP hV : Nat → Int32} {pr pk hA hK : Nat → Int32} {q g : Nat} (hc : ch ≤ 116) (hg : g ≤ ch) (hq : q < 2 ^ 30) (hW : rk_wt ws pr pk hA hK fr lr lk) (vK : ∀ i, vp_in (K i) 16) (h1 : ∀ i, i < g → (R i).toInt ≤ q) (h2 : ∀ i, g ≤ i → i < ch → (q : Int) < (R i).toInt)
    (h : post ((nI f), (nI rev), (nI ch), tm, ex, va, km, ys, yv, kl, R, K, P, V, ll, le, lo, rk_ga (rk_ls R K wf wl pr pk ws g) (fun i => i) (fun _ => 2) ws 4, wf, wl, fr, lr, lk, hP, hV)) : wpY_lose post ((nI f), (nI rev), (nI ch), tm, ex, va, km, ys, yv, kl, R, K, P, V, ll, le, lo, ws, wf, wl, fr, lr, lk, hP, hV) (nI q) := by
  have key : ∀ d n j, j + d = 4 → d < n → wY_lose_2 post (nI q) (nI f) (nI rev) (nI ch) tm n (nI j) ex va km ys yv kl R K P V ll le lo (rk_ga (rk_ls R K wf wl pr pk ws g) (fun i => i) (fun _ => 2) ws j) wf wl fr lr lk hP hV := by
    intro d
    induction d with
    | zero =>
      intro n j h2 h3
      obtain ⟨n, rfl⟩ : ∃ m, n = m + 1 := ⟨n - 1, by omega⟩
      obtain rfl : j = 4 := by omega
      exact rk_leT 4 4 (by omega) h
    | succ d ih =>
      intro n j h4 h3
      obtain ⟨n, rfl⟩ : ∃ m, n = m + 1 := ⟨n - 1, by omega⟩
      have e : (nI j).toNatClampNeg = j := nI_clamp (by omega)
      have vj : vp_in (nI j) 4 := vp_in_nI (by omega) (by decide)
      have ih := ih n (j + 1) (by omega) (by omega)
      have ek : rk_ga (rk_ls R K wf wl pr pk ws g) (fun i => i) (fun _ => 2) ws j j = ws j := by rw [rk_ga_id, if_neg (by omega)]
      refine rk_leF 4 j (by omega) ?_
      by_cases z : ws j = 1
      · refine rk_y_l9 (by omega) hc hg hq ((hW j (by omega)).2 (by rw [z]; decide)) vK h1 h2 (by rw [ek]; exact z) (fun y => ?_) (fun y => ?_)
        · rw [rk_ga_t (show rk_ls R K wf wl pr pk ws g j = true from decide_eq_true ⟨z, y⟩)] at ih
          exact ih
        · rw [rk_ga_f (show ¬ rk_ls R K wf wl pr pk ws g j = true from fun w => y (of_decide_eq_true w).2)] at ih
          exact ih
      · rw [rk_ga_f (show ¬ rk_ls R K wf wl pr pk ws g j = true from fun w => z (of_decide_eq_true w).1)] at ih
        by_cases y : ch = 0
        · exact ⟨1, rk_leT ch 0 (by omega) (nm_r (nI_1 j) ih)⟩
        · exact ⟨1, rk_leF ch 0 (by omega) ⟨vj, br_f (by rw [e, ek]; exact z) (nm_r (nI_1 j) ih)⟩⟩
  exact ⟨5, key 4 5 0 rfl (by omega)⟩

/-! the reference forgets -/
theorem rk_y_167 {post : Int32 → SY → Prop} {rev f ch : Nat} {tm : Int32} {ex va km ys yv kl R K P V ll le lo ws wf wl fr lr lk hP hV : Nat → Int32} {q : Nat} (q1 : f ≤ q) (q2 : q ≤ rev) (hr : rev - f ≤ 118) (he : rk_bo ex)
    (h : post (nI ch) ((nI q), (nI rev), (nI ch), tm, rk_sh ex (16 * (q - f)) (16 * (rev - q) + 16), rk_sh va (16 * (q - f)) (16 * (rev - q) + 16), km, ys, yv, kl, R, K, P, V, ll, le, lo, ws, wf, wl, fr, lr, lk, hP, hV)) : ∃ n, wY_compact_167 post (nI q) (nI (16 * (q - f))) (nI (16 * (rev - f) + 16)) (nI f) (nI rev) (nI ch) tm n (nI (16 * (q - f))) ex va km ys yv kl R K P V ll le lo ws wf wl fr lr lk hP hV := by
  have key : ∀ d n i, i + d = 16 * (rev - q) + 16 → d < n → wY_compact_167 post (nI q) (nI (16 * (q - f))) (nI (16 * (rev - f) + 16)) (nI f) (nI rev) (nI ch) tm n (nI (16 * (q - f) + i)) (rk_sh ex (16 * (q - f)) i) (rk_sh va (16 * (q - f)) i) km ys yv kl R K P V ll le lo ws wf wl fr lr lk hP hV := by
    intro d
    induction d with
    | zero =>
      intro n i a1 a2
      obtain ⟨n, rfl⟩ : ∃ m, n = m + 1 := ⟨n - 1, by omega⟩
      obtain rfl : i = 16 * (rev - q) + 16 := by omega
      exact rk_leT (16 * (rev - f) + 16) (16 * (q - f) + (16 * (rev - q) + 16)) (by omega) h
    | succ d ih =>
      intro n i a1 a2
      obtain ⟨n, rfl⟩ : ∃ m, n = m + 1 := ⟨n - 1, by omega⟩
      have e : (nI (16 * (q - f) + i)).toNatClampNeg = i + 16 * (q - f) := by rw [nI_clamp (by omega), Nat.add_comm]
      have es : nI (16 * (q - f) + i) - nI (16 * (q - f)) = nI i := by rw [pk_sub (by omega)]; exact congrArg nI (by omega)
      have e2 : (nI (16 * (q - f) + i) - nI (16 * (q - f))).toNatClampNeg = i := by rw [es, nI_clamp (by omega)]
      have v1 : vp_in (nI (16 * (q - f) + i)) 1920 := vp_in_nI (by omega) (by decide)
      have v2 : vp_in (nI (16 * (q - f) + i) - nI (16 * (q - f))) 1920 := by rw [es]; exact vp_in_nI (by omega) (by decide)
      have ih := ih n (i + 1) (by omega) (by omega)
      exact rk_leF (16 * (rev - f) + 16) (16 * (q - f) + i) (by omega) ⟨v1, v2, nm_r (e' := rk_sh ex (16 * (q - f)) (i + 1)) (by rw [e, e2, rk_vb (rk_bo_sh he _ _ _), rk_sh_s]) ⟨v1, v2, nm_r (e' := rk_sh va (16 * (q - f)) (i + 1)) (by rw [e, e2, rk_sh_s]) (nm_r (nI_1 (16 * (q - f) + i)) ih)⟩⟩
  exact ⟨16 * (rev - q) + 17, key (16 * (rev - q) + 16) (16 * (rev - q) + 17) 0 (by omega) (by omega)⟩
theorem rk_y_c63 {post : Int32 → SY → Prop} {rev f ch : Nat} {tm : Int32} {ex va km ys yv kl R K P V ll le lo ws wf wl fr lr lk hP hV : Nat → Int32} {q g : Nat} (q1 : f ≤ q) (q2 : q ≤ rev) (hr : rev - f ≤ 118) (hg : g ≤ ch) (hc : ch ≤ 116) (he : rk_bo ex) (hp : rk_bo P)
    (h : post (nI (ch - g)) ((nI q), (nI rev), (nI (ch - g)), tm, rk_sh ex (16 * (q - f)) (16 * (rev - q) + 16), rk_sh va (16 * (q - f)) (16 * (rev - q) + 16), km, ys, yv, kl, rk_sh R g (ch - g), rk_sh K g (ch - g), rk_sh P g (ch - g), rk_sh V g (ch - g), ll, le, lo, ws, wf, wl, fr, lr, lk, hP, hV)) : wY_compact_63 post (nI q) (nI g) (nI f) (nI rev) (nI ch) tm ex va km ys yv kl R K P V ll le lo ws wf wl fr lr lk hP hV := by
  have key : ∀ d n j, j + d = ch - g → d < n → wY_compact_75 post (nI q) (nI g) (nI f) (nI rev) (nI (ch - g)) tm n (nI j) ex va km ys yv kl (rk_sh R g j) (rk_sh K g j) (rk_sh P g j) (rk_sh V g j) ll le lo ws wf wl fr lr lk hP hV := by
    intro d
    induction d with
    | zero =>
      intro n j a1 a2
      obtain ⟨n, rfl⟩ : ∃ m, n = m + 1 := ⟨n - 1, by omega⟩
      obtain rfl : j = ch - g := by omega
      have e1 : (16 : Int32) * (nI q - nI f) = nI (16 * (q - f)) := by
        rw [pk_sub q1]; exact pk_mul 16 (q - f)
      exact rk_leT (ch - g) (ch - g) (by omega) (nm_r e1 (rk_y_pr (by omega) (nm_r (nI_add (16 * (rev - f)) 16) (rk_y_167 q1 q2 hr he h))))
    | succ d ih =>
      intro n j a1 a2
      obtain ⟨n, rfl⟩ : ∃ m, n = m + 1 := ⟨n - 1, by omega⟩
      have ej : (nI j).toNatClampNeg = j := nI_clamp (by omega)
      have es : (nI j + nI g).toNatClampNeg = j + g := by rw [nI_add, nI_clamp (by omega)]
      have v1 : vp_in (nI j + nI g) 120 := by rw [nI_add]; exact vp_in_nI (by omega) (by decide)
      have v2 : vp_in (nI j) 120 := vp_in_nI (by omega) (by decide)
      have ih := ih n (j + 1) (by omega) (by omega)
      exact rk_leF (ch - g) j (by omega) ⟨v1, v2, nm_r (e' := rk_sh R g (j + 1)) (by rw [es, ej, rk_sh_s]) ⟨v1, v2, nm_r (e' := rk_sh K g (j + 1)) (by rw [es, ej, rk_sh_s]) ⟨v1, v2, nm_r (e' := rk_sh P g (j + 1)) (by rw [es, ej, rk_vb (rk_bo_sh hp g j _), rk_sh_s]) ⟨v1, v2, nm_r (e' := rk_sh V g (j + 1)) (by rw [es, ej, rk_sh_s]) (nm_r (nI_1 j) ih)⟩⟩⟩⟩
  exact nm_r (pk_sub hg) ⟨ch + 1, key (ch - g) (ch + 1) 0 (by omega) (by omega)⟩
theorem rk_y_c39 {post : Int32 → SY → Prop} {rev f ch : Nat} {tm : Int32} {ex va km ys yv kl R K P V ll le lo ws wf wl fr lr lk hP hV : Nat → Int32} {q g : Nat} (hg : g ≤ ch) (hc : ch ≤ 116) (hq : q < 2 ^ 30) (h1 : ∀ i, i < g → (R i).toInt ≤ q) (h2 : ∀ i, g ≤ i → i < ch → (q : Int) < (R i).toInt)
    (h : wY_compact_63 post (nI q) (nI g) (nI f) (nI rev) (nI ch) tm ex va km ys yv kl R K P V ll le lo ws wf wl fr lr lk hP hV) : ∃ n, wY_compact_39 post (nI q) (nI f) (nI rev) (nI ch) tm ex va km ys yv kl R K P V ll le lo ws wf wl fr lr lk hP hV n 0 := by
  have key : ∀ d n j, j + d = g → d < n → wY_compact_39 post (nI q) (nI f) (nI rev) (nI ch) tm ex va km ys yv kl R K P V ll le lo ws wf wl fr lr lk hP hV n (nI j) := by
    intro d
    induction d with
    | zero =>
      intro n j a1 a2
      obtain ⟨n, rfl⟩ : ∃ m, n = m + 1 := ⟨n - 1, by omega⟩
      obtain rfl : j = g := by omega
      by_cases z : j = ch
      · exact rk_leT ch j (by omega) h
      · have hlt := h2 j (Nat.le_refl j) (by omega)
        exact rk_leF ch j (by omega) ⟨vp_in_nI (by omega) (by decide), br_t (by rw [nI_clamp (by omega), rk_lt, nI_toInt (by omega)]; exact hlt) h⟩
    | succ d ih =>
      intro n j a1 a2
      obtain ⟨n, rfl⟩ : ∃ m, n = m + 1 := ⟨n - 1, by omega⟩
      have ih := ih n (j + 1) (by omega) (by omega)
      have hle := h1 j (by omega)
      exact rk_leF ch j (by omega) ⟨vp_in_nI (by omega) (by decide), br_f (by rw [nI_clamp (by omega), rk_lt, nI_toInt (by omega)]; omega) (nm_r (nI_1 j) ih)⟩
  exact ⟨g + 1, key g (g + 1) 0 (by omega) (by omega)⟩
theorem i_vc_compact {k : Nat} {u : SX} {v : SY} (I : i_Rel k u v) (hk : k + 5 ≤ 2560) (v1 : Int32) : wpX_compact (fun r u' => wpY_compact (fun r' v' => r' = r ∧ i_Rel (k + 5) u' v') v v1) u v1 := by
  have J := i_up I
  obtain ⟨rev, f, ch, tm, ke, km, ks, kv, kl, ef, vf, R, K, P, V, lo, ll, le, ws, wf, wl, pr, pk, hA, hK, hP, hV, ex, va, ys, yv, fr, lr, lk, rfl, rfl, hB, hM, hF, hL, hW⟩ := I
  have hr := rk_md_r hM hF
  have hcc := (rk_md_c hM).2.1
  have m1 := hM.1
  have m3 := hM.2.2.1
  have m4 := hM.2.2.2.1
  have m5 := hM.2.2.2.2.1
  have m7 := hM.2.2.2.2.2.2.1
  unfold wpX_compact
  by_cases a2 : v1 < nI f
  · have a2' := Int32.not_le.mpr a2
    exact br_f a2' (br_f (by decide) (br_t a2 (br_f a2' ⟨rfl, J⟩)))
  · have a2' := Int32.not_lt.mp a2
    by_cases a3 : v1 ≤ nI rev
    · obtain ⟨q, hq, rfl⟩ := nI_of (x := v1) (fun z => by
        rw [rk_lt, nI_toInt (by omega)] at a2
        rw [rk_lt, show (0 : Int32).toInt = 0 from by decide] at z
        omega)
      have q1 : f ≤ q := by
        have := mt (nI_ltI hq (by omega)).mpr a2
        omega
      have q2 : q ≤ rev := (nI_leI hq (by omega)).mp a3
      obtain ⟨g, hg, h1, h2⟩ := rk_g_ex m3 (q : Int) ch (Nat.le_refl ch)
      have eq : (nI q).toInt = q := nI_toInt (by omega)
      obtain ⟨g1, g2⟩ := rk_md_k hM hF q1 q2 hg h1 h2
      refine rk_x_rf q1 q2 (by omega) (br_t rfl (rk_x_cc hg hcc (fun i hi => by rw [eq]; exact h1 i hi) (fun i b1 b2 => by rw [eq]; exact h2 i b1 b2) (rk_x_lw (by omega) (rk_x_cf (by omega) m5 m4 (rk_x_dc hg hcc m5 ?_)))))
      refine br_f a2 (br_t a3 (rk_y_lo hcc hg (by omega) hW m4 h1 h2 (rk_y_c39 hg hcc (by omega) h1 h2 (rk_y_c63 q1 q2 (by omega) hg hcc m7 m5 ⟨rfl, ?_⟩))))
      exact ⟨rev, q, (ch - g), tm, ke, km, ks, kv, kl, (rk_cy K P ef g), (rk_cy K V vf g), (rk_sh R g (ch - g)), (rk_sh K g (ch - g)), (rk_sh P g (ch - g)), (rk_sh V g (ch - g)), lo, ll, le, (rk_ga (rk_ls R K wf wl pr pk ws g) (fun i => i) (fun _ => 2) ws 4), wf, wl, pr, pk, hA, hK, hP, hV, (rk_sh ex (16 * (q - f)) (16 * (rev - q) + 16)), (rk_sh va (16 * (q - f)) (16 * (rev - q) + 16)), ys, yv, fr, lr, lk, rfl, rfl, by omega, g1, g2, hL, rk_wt_l hW (fun w z => (of_decide_eq_true z).1)⟩
    · exact br_t a2' (br_f a3 (br_f (by decide) (br_f a2 (br_f a3 (br_t a2' ⟨rfl, J⟩)))))
end
end
