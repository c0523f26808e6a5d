section
theorem pk_us {f : Nat → Int32} {k : Nat} {x : Int32} : upd f k x k = x := if_pos rfl
theorem pk_un {f : Nat → Int32} {k j : Nat} {x : Int32} (h : j ≠ k) : upd f k x j = f j := if_neg h
theorem pk_sub {a b : Nat} (h : b ≤ a) : nI a - nI b = nI (a - b) := by
  obtain ⟨c, rfl⟩ : ∃ c, a = c + b := ⟨a - b, by omega⟩
  rw [← nI_add, Int32.add_sub_cancel, Nat.add_sub_cancel]
theorem pk_m1 (n : Nat) : nI (n + 1) + (-1) = nI n := by
  rw [← nI_1, Int32.add_assoc, show (1 : Int32) + (-1) = 0 from rfl, Int32.add_zero]
theorem pk_mul (a b : Nat) : nI a * nI b = nI (a * b) := (Int32.ofNat_mul a b).symm
theorem pk_ix (x : Int32) {n : Nat} (hn : n < 2 ^ 31) : x < 0 ∨ nI n ≤ x ∨ ∃ j : Nat, j < n ∧ x = nI j := by
  by_cases h : x < 0
  · exact Or.inl h
  · obtain ⟨j, hj, rfl⟩ := nI_of h
    by_cases h2 : j < n
    · exact Or.inr (Or.inr ⟨j, h2, rfl⟩)
    · exact Or.inr (Or.inl (nI_le (by omega) hj))
theorem pk_le {x y : Int32} {A B : Prop} (a b : Nat) (f : a ≤ b → A) (g : b < a → B) (hx : x = nI a := by rfl) (hy : y = nI b := by rfl) (ha : a < 2 ^ 31 := by omega) (hb : b < 2 ^ 31 := by omega) : (x ≤ y → A) ∧ (¬ x ≤ y → B) := by
  subst hx hy
  rw [nI_leI ha hb]
  exact ⟨f, fun z => g (by omega)⟩
theorem pk_lt {x y : Int32} {A B : Prop} (a b : Nat) (f : a < b → A) (g : b ≤ a → B) (hx : x = nI a := by rfl) (hy : y = nI b := by rfl) (ha : a < 2 ^ 31 := by omega) (hb : b < 2 ^ 31 := by omega) : (x < y → A) ∧ (¬ x < y → B) := by
  subst hx hy
  rw [nI_ltI ha hb]
  exact ⟨f, fun z => g (by omega)⟩
theorem pk_eq {x y : Int32} {A B : Prop} (a b : Nat) (f : a = b → A) (g : a ≠ b → B) (hx : x = nI a := by rfl) (hy : y = nI b := by rfl) (ha : a < 2 ^ 31 := by omega) (hb : b < 2 ^ 31 := by omega) : (x = y → A) ∧ (¬ x = y → B) := by
  subst hx hy
  rw [nI_eq ha hb]
  exact ⟨f, g⟩
theorem pk_in {x : Int32} (n N : Nat) (h : n < N) (hx : x = nI n := by rfl) (hN : N < 2 ^ 31 := by omega) : vp_in x N := by
  subst hx
  exact vp_in_nI h hN
theorem pk_cl {x : Int32} (n : Nat) (hx : x = nI n := by rfl) (h : n < 2 ^ 31 := by omega) : x.toNatClampNeg = n := by
  subst hx
  exact nI_clamp h
theorem pk_tn {n : Nat} (h : n < 2 ^ 32) : (nI n).toBitVec.toNat = n := Nat.mod_eq_of_lt h
theorem pk_and (x : Int32) {m : Int32} (k : Nat) (hm : m.toBitVec.toNat = 2 ^ k - 1) : x &&& m = nI (x.toBitVec.toNat % 2 ^ k) := by
  apply Int32.toBitVec_inj.mp
  apply BitVec.eq_of_toNat_eq
  rw [Int32.toBitVec_and, BitVec.toNat_and, hm, Nat.and_two_pow_sub_one_eq_mod]
  show _ = (BitVec.ofNat 32 _).toNat
  rw [BitVec.toNat_ofNat]
  exact (Nat.mod_eq_of_lt (Nat.lt_of_le_of_lt (Nat.mod_le _ _) x.toBitVec.isLt)).symm
theorem pk_andN {n : Nat} (h : n < 2 ^ 32) {m : Int32} (k : Nat) (hm : m.toBitVec.toNat = 2 ^ k - 1) : nI n &&& m = nI (n % 2 ^ k) := by
  rw [pk_and _ k hm, pk_tn h]
theorem pk_shl (a s : Int32) (k : Nat) (hs : (s.toBitVec.smod 32).toNat = k) : (a <<< s).toBitVec.toNat = a.toBitVec.toNat * 2 ^ k % 2 ^ 32 := by
  show (a.toBitVec <<< (s.toBitVec.smod 32).toNat).toNat = _
  rw [hs, BitVec.toNat_shiftLeft, Nat.shiftLeft_eq]
theorem pk_shlN {n : Nat} (s : Int32) (k : Nat) (hs : (s.toBitVec.smod 32).toNat = k) (h : n * 2 ^ k < 2 ^ 32) : nI n <<< s = nI (n * 2 ^ k) := by
  apply Int32.toBitVec_inj.mp
  apply BitVec.eq_of_toNat_eq
  have hn : n < 2 ^ 32 := Nat.lt_of_le_of_lt (Nat.le_mul_of_pos_right n (Nat.two_pow_pos k)) h
  rw [pk_shl _ _ k hs, pk_tn hn, pk_tn h, Nat.mod_eq_of_lt h]
theorem pk_shr (a s : Int32) (k : Nat) (hs : (s.toBitVec.smod 32).toNat = k) : (a >>> s).toInt = a.toInt >>> k := by
  show (a.toBitVec.sshiftRight (s.toBitVec.smod 32).toNat).toInt = _
  rw [hs, BitVec.toInt_sshiftRight]
  rfl
theorem pk_shrN {n : Nat} (h : n < 2 ^ 31) (s : Int32) (k : Nat) (hs : (s.toBitVec.smod 32).toNat = k) : nI n >>> s = nI (n / 2 ^ k) := by
  apply Int32.toInt_inj.mp
  have h2 : n / 2 ^ k ≤ n := Nat.div_le_self _ _
  rw [pk_shr _ _ k hs, nI_toInt h, nI_toInt (by omega), Int.shiftRight_eq_div_pow]
  rfl

/-! the class's own pure pictures -/
theorem rk_vb0 : vp_nar .boolean 0 = 0 := by decide
theorem rk_vb1 : vp_nar .boolean 1 = 1 := by decide
theorem rk_vb {x : Int32} (h : x = 0 ∨ x = 1) : vp_nar .boolean x = x := by
  rcases h with h | h
  · rw [h]; exact rk_vb0
  · rw [h]; exact rk_vb1
theorem rk_nb {x : Int32} (h : x = 0 ∨ x = 1) : narrow .boolean (.int x) = .int x := by
  rcases h with h | h
  · rw [h]; decide
  · rw [h]; decide
theorem rk_uu (A : Nat → Int32) (k : Nat) : upd A k (A k) = A := by
  funext j
  by_cases h : j = k
  · rw [h, pk_us]
  · rw [pk_un h]
theorem rk_uv {A : Nat → Int32} {k : Nat} {x : Int32} (h : A k = x) : upd A k x = A := by
  rw [← h]; exact rk_uu A k
theorem rk_le (a b : Int32) : a ≤ b ↔ a.toInt ≤ b.toInt := Int32.le_iff_toInt_le
theorem rk_lt (a b : Int32) : a < b ↔ a.toInt < b.toInt := Int32.lt_iff_toInt_lt

def rk_bo (A : Nat → Int32) : Prop := ∀ i, A i = 0 ∨ A i = 1
theorem rk_bo_u {A : Nat → Int32} (h : rk_bo A) {x : Int32} (hx : x = 0 ∨ x = 1) (k : Nat) : rk_bo (upd A k x) := by
  intro i
  by_cases e : i = k
  · rw [e, pk_us]; exact hx
  · rw [pk_un e]; exact h i

def rk_fe (K R P : Nat → Int32) (r : Int) (k : Nat) (e : Int32) : Nat → Int32
  | 0 => e
  | i + 1 => if K i = nI k ∧ (R i).toInt ≤ r then P i else rk_fe K R P r k e i
theorem rk_fe_0 (K R P : Nat → Int32) (r : Int) (k : Nat) (e : Int32) : rk_fe K R P r k e 0 = e := rfl
theorem rk_fe_s (K R P : Nat → Int32) (r : Int) (k : Nat) (e : Int32) (i : Nat) : rk_fe K R P r k e (i + 1) = if K i = nI k ∧ (R i).toInt ≤ r then P i else rk_fe K R P r k e i := rfl
theorem rk_fe_u {K R P : Nat → Int32} {r : Int} {k : Nat} {e : Int32} {c : Nat} {a b d : Int32} : ∀ n, n ≤ c → rk_fe (upd K c a) (upd R c b) (upd P c d) r k e n = rk_fe K R P r k e n := by
  intro n
  induction n with
  | zero => intro _; rfl
  | succ n ih =>
    intro h
    rw [rk_fe_s, rk_fe_s, pk_un (by omega), pk_un (by omega), pk_un (by omega), ih (by omega)]
theorem rk_fe_a {K R P : Nat → Int32} {r : Int} {k : Nat} {e : Int32} {c : Nat} {a b d : Int32} : rk_fe (upd K c a) (upd R c b) (upd P c d) r k e (c + 1) = if a = nI k ∧ b.toInt ≤ r then d else rk_fe K R P r k e c := by
  rw [rk_fe_s, pk_us, pk_us, pk_us, rk_fe_u c (Nat.le_refl c)]
theorem rk_fe_r {K R P : Nat → Int32} {r r' : Int} {k : Nat} {e : Int32} : ∀ n, (∀ i, i < n → ((R i).toInt ≤ r ↔ (R i).toInt ≤ r')) → rk_fe K R P r k e n = rk_fe K R P r' k e n := by
  intro n
  induction n with
  | zero => intro _; rfl
  | succ n ih =>
    intro h
    rw [rk_fe_s, rk_fe_s, ih (fun i hi => h i (by omega))]
    simp only [h n (by omega)]

def rk_ns (S : Nat → Bool) : Nat → Nat
  | 0 => 0
  | j + 1 => if S j = true then rk_ns S j + 1 else rk_ns S j
theorem rk_ns_t {S : Nat → Bool} {j : Nat} (h : S j = true) : rk_ns S (j + 1) = rk_ns S j + 1 := if_pos h
theorem rk_ns_f {S : Nat → Bool} {j : Nat} (h : ¬ S j = true) : rk_ns S (j + 1) = rk_ns S j := if_neg h
theorem rk_ns_le (S : Nat → Bool) : ∀ n, rk_ns S n ≤ n := by
  intro n
  induction n with
  | zero => exact Nat.le_refl 0
  | succ n ih =>
    by_cases h : S n = true
    · rw [rk_ns_t h]; omega
    · rw [rk_ns_f h]; omega
theorem rk_ns_m (S : Nat → Bool) (n : Nat) : ∀ d, rk_ns S n ≤ rk_ns S (n + d) := by
  intro d
  induction d with
  | zero => exact Nat.le_refl _
  | succ d ih =>
    show rk_ns S n ≤ rk_ns S (n + d + 1)
    by_cases h : S (n + d) = true
    · rw [rk_ns_t h]; omega
    · rw [rk_ns_f h]; exact ih
theorem rk_ns_c {S S' : Nat → Bool} : ∀ n, (∀ i, i < n → S i = S' i) → rk_ns S n = rk_ns S' n := by
  intro n
  induction n with
  | zero => intro _; rfl
  | succ n ih =>
    intro h
    show (if S n = true then _ else _) = (if S' n = true then _ else _)
    rw [h n (by omega), ih (fun i hi => h i (by omega))]
theorem rk_ns_d {S S' : Nat → Bool} {k : Nat} (hk : S k = true) (hk' : S' k = false) (h : ∀ i, i ≠ k → S' i = S i) : ∀ n, k < n → rk_ns S' n + 1 = rk_ns S n := by
  intro n
  induction n with
  | zero => intro h; omega
  | succ n ih =>
    intro hn
    by_cases e : n = k
    · subst e
      rw [rk_ns_t hk, rk_ns_f (by rw [hk']; decide), rk_ns_c n (fun i hi => h i (by omega))]
    · have := ih (by omega)
      by_cases z : S n = true
      · rw [rk_ns_t z, rk_ns_t (by rw [h n e]; exact z)]; omega
      · rw [rk_ns_f z, rk_ns_f (by rw [h n e]; exact z)]; omega
theorem rk_ns_z {S : Nat → Bool} : ∀ n, (∀ i, i < n → S i = false) → rk_ns S n = 0 := by
  intro n
  induction n with
  | zero => intro _; rfl
  | succ n ih =>
    intro h
    rw [rk_ns_f (by rw [h n (by omega)]; decide), ih (fun i hi => h i (by omega))]
theorem rk_ns_e {S : Nat → Bool} (a : Nat) : ∀ d, (∀ i, a ≤ i → i < a + d → S i = false) → rk_ns S (a + d) = rk_ns S a := by
  intro d
  induction d with
  | zero => intro _; rfl
  | succ d ih =>
    intro h
    show rk_ns S (a + d + 1) = _
    rw [rk_ns_f (by rw [h (a + d) (by omega) (by omega)]; decide), ih (fun i h1 h2 => h i h1 (by omega))]
theorem rk_ns_p {S : Nat → Bool} {n : Nat} (h : 0 < rk_ns S n) : ∃ i, i < n ∧ S i = true := by
  by_cases z : ∃ i, i < n ∧ S i = true
  · exact z
  · have : rk_ns S n = 0 := rk_ns_z n (fun i hi => by
      cases e : S i with
      | false => rfl
      | true => exact absurd ⟨i, hi, e⟩ z)
    omega
theorem rk_ns_q {S : Nat → Bool} {n i : Nat} (hi : i < n) (h : S i = true) : 0 < rk_ns S n := by
  have h1 := rk_ns_m S (i + 1) (n - (i + 1))
  rw [rk_ns_t h, show i + 1 + (n - (i + 1)) = n by omega] at h1
  omega

def rk_ga (S : Nat → Bool) (ix : Nat → Nat) (x : Nat → Int32) (A : Nat → Int32) : Nat → (Nat → Int32)
  | 0 => A
  | j + 1 => if S j = true then upd (rk_ga S ix x A j) (ix j) (x j) else rk_ga S ix x A j
theorem rk_ga_0 {S : Nat → Bool} {ix : Nat → Nat} {x A : Nat → Int32} : rk_ga S ix x A 0 = A := rfl
theorem rk_ga_t {S : Nat → Bool} {ix : Nat → Nat} {x A : Nat → Int32} {j : Nat} (h : S j = true) : rk_ga S ix x A (j + 1) = upd (rk_ga S ix x A j) (ix j) (x j) := if_pos h
theorem rk_ga_f {S : Nat → Bool} {ix : Nat → Nat} {x A : Nat → Int32} {j : Nat} (h : ¬ S j = true) : rk_ga S ix x A (j + 1) = rk_ga S ix x A j := if_neg h
theorem rk_ga_lo {S : Nat → Bool} {ix : Nat → Nat} {x A : Nat → Int32} : ∀ a, (∀ i, i < a → S i = false) → rk_ga S ix x A a = A := by
  intro a
  induction a with
  | zero => intro _; rfl
  | succ a ih =>
    intro h
    rw [rk_ga_f (by rw [h a (by omega)]; decide), ih (fun i hi => h i (by omega))]
theorem rk_ga_hi {S : Nat → Bool} {ix : Nat → Nat} {x A : Nat → Int32} (a : Nat) : ∀ d, (∀ i, a ≤ i → i < a + d → S i = false) → rk_ga S ix x A (a + d) = rk_ga S ix x A a := by
  intro d
  induction d with
  | zero => intro _; rfl
  | succ d ih =>
    intro h
    show rk_ga S ix x A (a + d + 1) = _
    rw [rk_ga_f (by rw [h (a + d) (by omega) (by omega)]; decide), ih (fun i h1 h2 => h i h1 (by omega))]
theorem rk_ga_id {S : Nat → Bool} {x A : Nat → Int32} (i : Nat) : ∀ j, rk_ga S (fun n => n) x A j i = if i < j ∧ S i = true then x i else A i := by
  intro j
  induction j with
  | zero => rw [if_neg (by omega)]; rfl
  | succ j ih =>
    by_cases h : S j = true
    · rw [rk_ga_t h]
      by_cases e : i = j
      · subst e
        rw [pk_us, if_pos ⟨by omega, h⟩]
      · rw [pk_un e, ih]
        by_cases z : i < j ∧ S i = true
        · rw [if_pos z, if_pos ⟨by omega, z.2⟩]
        · rw [if_neg z, if_neg (fun w => z ⟨by omega, w.2⟩)]
    · rw [rk_ga_f h, ih]
      by_cases z : i < j ∧ S i = true
      · rw [if_pos z, if_pos ⟨by omega, z.2⟩]
      · rw [if_neg z, if_neg (fun w => z ⟨by
          have h1 := w.1
          have h2 : i ≠ j := fun e => h (e ▸ w.2)
          omega, w.2⟩)]

def rk_sh (A : Nat → Int32) (g : Nat) : Nat → (Nat → Int32)
  | 0 => A
  | j + 1 => upd (rk_sh A g j) j (rk_sh A g j (j + g))
theorem rk_sh_0 (A : Nat → Int32) (g : Nat) : rk_sh A g 0 = A := rfl
theorem rk_sh_s (A : Nat → Int32) (g j : Nat) : rk_sh A g (j + 1) = upd (rk_sh A g j) j (rk_sh A g j (j + g)) := rfl
theorem rk_sh_v (A : Nat → Int32) (g : Nat) : ∀ j i, rk_sh A g j i = if i < j then A (i + g) else A i := by
  intro j
  induction j with
  | zero => intro i; rw [if_neg (by omega)]; rfl
  | succ j ih =>
    intro i
    rw [rk_sh_s]
    by_cases e : i = j
    · subst e
      rw [pk_us, ih, if_neg (by omega), if_pos (by omega)]
    · rw [pk_un e, ih]
      by_cases z : i < j
      · rw [if_pos z, if_pos (by omega)]
      · rw [if_neg z, if_neg (by omega)]
theorem rk_bo_sh {A : Nat → Int32} (h : rk_bo A) (g j : Nat) : rk_bo (rk_sh A g j) := by
  intro i
  rw [rk_sh_v]
  split
  · exact h _
  · exact h _

def rk_nr (A : Nat → Int32) (p : Nat) : Nat → (Nat → Int32)
  | 0 => A
  | j + 1 => upd (rk_nr A p j) (p + 16 + j) (rk_nr A p j (p + j))
theorem rk_nr_0 (A : Nat → Int32) (p : Nat) : rk_nr A p 0 = A := rfl
theorem rk_nr_s (A : Nat → Int32) (p j : Nat) : rk_nr A p (j + 1) = upd (rk_nr A p j) (p + 16 + j) (rk_nr A p j (p + j)) := rfl
theorem rk_nr_v (A : Nat → Int32) (p : Nat) : ∀ j, j ≤ 16 → ∀ i, rk_nr A p j i = if p + 16 ≤ i ∧ i < p + 16 + j then A (i - 16) else A i := by
  intro j
  induction j with
  | zero => intro _ i; rw [if_neg (by omega)]; rfl
  | succ j ih =>
    intro hj i
    have ih := ih (by omega)
    rw [rk_nr_s]
    by_cases e : i = p + 16 + j
    · subst e
      rw [pk_us, ih, if_neg (by omega), if_pos (by omega)]
      exact congrArg A (by omega)
    · rw [pk_un e, ih]
      by_cases z : p + 16 ≤ i ∧ i < p + 16 + j
      · rw [if_pos z, if_pos (by omega)]
      · rw [if_neg z, if_neg (by omega)]
theorem rk_bo_nr {A : Nat → Int32} (h : rk_bo A) (p : Nat) {j : Nat} (hj : j ≤ 16) : rk_bo (rk_nr A p j) := by
  intro i
  rw [rk_nr_v A p j hj]
  split
  · exact h _
  · exact h _
end
