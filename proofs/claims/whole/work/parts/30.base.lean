/-! Numbers as integers; rows of the heap -/
def iZ (z : Int) : Int32 := Int32.ofInt z
def jZ (z : Int) : Int64 := Int64.ofInt z
theorem lit32 (n : Nat) : (OfNat.ofNat n : Int32) = iZ (OfNat.ofNat n) := by
  show Int32.ofNat n = Int32.ofInt (n : Int)
  rw [Int32.ofInt_eq_ofNat]
theorem litJ (n : Nat) : (OfNat.ofNat n : Int64) = jZ (OfNat.ofNat n) := by
  show Int64.ofNat n = Int64.ofInt (n : Int)
  rw [Int64.ofInt_eq_ofNat]
theorem iz_add (a b : Int) : iZ a + iZ b = iZ (a + b) := (Int32.ofInt_add a b).symm
theorem iz_sub (a b : Int) : iZ a - iZ b = iZ (a - b) := (Int32.ofInt_sub a b).symm
theorem iz_mul (a b : Int) : iZ a * iZ b = iZ (a * b) := (Int32.ofInt_mul a b).symm
theorem iz_neg (a : Int) : -iZ a = iZ (-a) := (Int32.ofInt_neg a).symm
theorem jz_add (a b : Int) : jZ a + jZ b = jZ (a + b) := (Int64.ofInt_add a b).symm
theorem jz_sub (a b : Int) : jZ a - jZ b = jZ (a - b) := (Int64.ofInt_sub a b).symm
theorem jz_mul (a b : Int) : jZ a * jZ b = jZ (a * b) := (Int64.ofInt_mul a b).symm
theorem iz_i {a : Int} (h1 : -2147483648 ≤ a) (h2 : a < 2147483648) : (iZ a).toInt = a := Int32.toInt_ofInt_of_le h1 h2
theorem jz_i {a : Int} (h1 : -9223372036854775808 ≤ a) (h2 : a < 9223372036854775808) : (jZ a).toInt = a := Int64.toInt_ofInt_of_le h1 h2
theorem iz_of (x : Int32) : ∃ a : Int, -2147483648 ≤ a ∧ a < 2147483648 ∧ x = iZ a := ⟨x.toInt, x.le_toInt, x.toInt_lt, (Int32.ofInt_toInt x).symm⟩
theorem jz_of (x : Int64) : ∃ a : Int, -9223372036854775808 ≤ a ∧ a < 9223372036854775808 ∧ x = jZ a := ⟨x.toInt, x.le_toInt, x.toInt_lt, (Int64.ofInt_toInt x).symm⟩
theorem iz_eq {a b : Int} (h1 : -2147483648 ≤ a ∧ a < 2147483648 ∧ -2147483648 ≤ b ∧ b < 2147483648) : iZ a = iZ b ↔ a = b := by
  rw [← Int32.toInt_inj, iz_i (by omega) (by omega), iz_i (by omega) (by omega)]
theorem iz_lt {a b : Int} (h1 : -2147483648 ≤ a ∧ a < 2147483648 ∧ -2147483648 ≤ b ∧ b < 2147483648) : iZ a < iZ b ↔ a < b := by
  rw [Int32.lt_iff_toInt_lt, iz_i (by omega) (by omega), iz_i (by omega) (by omega)]
theorem jz_eq {a b : Int} (h1 : -9223372036854775808 ≤ a ∧ a < 9223372036854775808 ∧ -9223372036854775808 ≤ b ∧ b < 9223372036854775808) : jZ a = jZ b ↔ a = b := by
  rw [← Int64.toInt_inj, jz_i (by omega) (by omega), jz_i (by omega) (by omega)]
theorem jz_lt {a b : Int} (h1 : -9223372036854775808 ≤ a ∧ a < 9223372036854775808 ∧ -9223372036854775808 ≤ b ∧ b < 9223372036854775808) : jZ a < jZ b ↔ a < b := by
  rw [Int64.lt_iff_toInt_lt, jz_i (by omega) (by omega), jz_i (by omega) (by omega)]
theorem ix_iz {a : Int} (h : 0 ≤ a ∧ a < 2147483648) : ix (iZ a) = a.toNat := by
  show (iZ a).toInt.toNat = _
  rw [iz_i (by omega) (by omega)]
theorem inb_iz {a : Int} {n : Nat} (h : -2147483648 ≤ a ∧ a < 2147483648) : (inb (iZ a) n = true) ↔ (0 ≤ a ∧ a < n) := by
  unfold inb
  rw [decide_eq_true_iff, iz_i h.1 h.2]
theorem nI_iz (n : Nat) : nI n = iZ n := (Int32.ofInt_eq_ofNat).symm
theorem iz_l {a : Int} (h : -2147483648 ≤ a ∧ a < 2147483648) : (iZ a).toInt64 = jZ a := by
  apply Int64.toInt_inj.mp
  rw [Int32.toInt_toInt64, iz_i h.1 h.2, jz_i (by omega) (by omega)]
theorem jz_n {a : Int} (h : -2147483648 ≤ a ∧ a < 2147483648) : (jZ a).toInt32 = iZ a := by
  apply Int32.toInt_inj.mp
  rw [Int64.toInt_toInt32, iz_i h.1 h.2, jz_i (by omega) (by omega), Int.bmod]
  split <;> omega
theorem iz_div {a b : Int} (h : 0 ≤ a ∧ a < 2147483648 ∧ 0 < b ∧ b < 2147483648) : iZ a / iZ b = iZ (a / b) := by
  apply Int32.toInt_inj.mp
  have h2 : a / b ≤ a := Int.ediv_le_self b (by omega)
  have h3 : 0 ≤ a / b := Int.ediv_nonneg (by omega) (by omega)
  rw [Int32.toInt_div_of_ne_right _ _ (fun q => ?_), iz_i (by omega) (by omega), iz_i (by omega) (by omega), iz_i (by omega) (by omega), Int.tdiv_eq_ediv_of_nonneg (by omega)]
  have := congrArg Int32.toInt q
  rw [iz_i (by omega) (by omega)] at this
  have e : (-1 : Int32).toInt = -1 := rfl
  omega
theorem jz_div {a b : Int} (h : 0 ≤ a ∧ a < 9223372036854775808 ∧ 0 < b ∧ b < 9223372036854775808) : jZ a / jZ b = jZ (a / b) := by
  apply Int64.toInt_inj.mp
  have h2 : a / b ≤ a := Int.ediv_le_self b (by omega)
  have h3 : 0 ≤ a / b := Int.ediv_nonneg (by omega) (by omega)
  rw [Int64.toInt_div_of_ne_right _ _ (fun q => ?_), jz_i (by omega) (by omega), jz_i (by omega) (by omega), jz_i (by omega) (by omega), Int.tdiv_eq_ediv_of_nonneg (by omega)]
  have := congrArg Int64.toInt q
  rw [jz_i (by omega) (by omega)] at this
  have e : (-1 : Int64).toInt = -1 := rfl
  omega
theorem irem_iz {a b : Int} (h : 0 ≤ a ∧ a < 2147483648 ∧ 0 < b ∧ b < 2147483648) : irem (iZ a) (iZ b) = iZ (a % b) := by
  unfold irem
  rw [iz_div h, iz_mul, iz_sub]
  congr 1
  have := Int.emod_add_mul_ediv a b
  rw [Int.mul_comm] at this
  omega
theorem lrem_jz {a b : Int} (h : 0 ≤ a ∧ a < 9223372036854775808 ∧ 0 < b ∧ b < 9223372036854775808) : lrem (jZ a) (jZ b) = jZ (a % b) := by
  unfold lrem
  rw [jz_div h, jz_mul, jz_sub]
  congr 1
  have := Int.emod_add_mul_ediv a b
  rw [Int.mul_comm] at this
  omega
theorem cmp_jz {a b : Int} (h1 : -9223372036854775808 ≤ a ∧ a < 9223372036854775808 ∧ -9223372036854775808 ≤ b ∧ b < 9223372036854775808) : lg_cmp (jZ a) (jZ b) = iZ (if a < b then -1 else if a = b then 0 else 1) := by
  unfold lg_cmp
  have h2 : jZ b < jZ a ↔ b < a := jz_lt (by omega)
  simp only [jz_lt h1, jz_eq h1, h2]
  by_cases q1 : a < b
  · simp [q1, show ¬ a = b by omega, show ¬ b < a by omega]
    try rfl
  · by_cases q2 : a = b
    · subst q2
      simp
      try rfl
    · simp [q1, q2, show b < a by omega]
      try rfl
theorem bI_s {α : Type} (x : Int32) (h : Hp) (k : Int32 → Hp → Option α) : bI (some (some (vI x), h)) k = k x h := rfl
theorem bL_s {α : Type} (x : Int64) (h : Hp) (k : Int64 → Hp → Option α) : bL (some (some (vL x), h)) k = k x h := rfl
theorem bV_s {α : Type} (h : Hp) (k : Hp → Option α) : bV (some (none, h)) k = k h := rfl
theorem bR_s {α : Type} (x : Nat) (k : Nat → Option α) : bR (some x) k = k x := rfl
/-! the model's cells: it is 68, its rows 69 to 91 -/
def smR : List (Nat × Nat) := [(1, 69), (4, 70), (5, 71), (6, 72), (9, 73), (10, 74), (11, 75), (12, 76), (15, 77), (16, 78), (17, 79), (18, 80), (23, 81), (25, 82), (26, 83), (27, 84), (28, 85), (29, 86), (31, 87), (32, 88), (33, 89), (34, 90), (35, 91)]
def smN : List (Nat × Nat) := [(69, 1000), (70, 1002), (71, 1002), (72, 1002), (73, 22), (74, 140), (75, 2200), (76, 2200), (77, 4), (78, 1100), (79, 420), (80, 4), (81, 294175), (82, 144), (83, 144), (84, 144), (85, 144), (86, 41), (87, 625), (88, 41), (89, 1681), (90, 41), (91, 41)]
def SM (h : Hp) : Prop := (∀ q ∈ smR, hR h 68 q.1 = some q.2) ∧ ∀ q ∈ smN, hN h q.1 = q.2
theorem SM.r {h : Hp} (S : SM h) (k v : Nat) (hq : (k, v) ∈ smR := by decide) : hR h 68 k = some v := S.1 (k, v) hq
theorem SM.n {h : Hp} (S : SM h) (k v : Nat) (hq : (k, v) ∈ smN := by decide) : hN h k = v := S.2 (k, v) hq
abbrev st (h : Hp) (z : Int) : Int32 := hI h 74 z.toNat
/-- a row's numbers as integers -/
def rz (h : Hp) (r : Nat) (z : Int) : Int := (hI h r z.toNat).toInt
theorem rz_iz (h : Hp) (r : Nat) (z : Int) : hI h r z.toNat = iZ (rz h r z) := (Int32.ofInt_toInt _).symm
theorem rz_iz' (h : Hp) (r k : Nat) : hI h r k = iZ (rz h r k) := (Int32.ofInt_toInt _).symm
theorem rz_rg (h : Hp) (r : Nat) (z : Int) : -2147483648 ≤ rz h r z ∧ rz h r z < 2147483648 := ⟨Int32.le_toInt _, Int32.toInt_lt _⟩
theorem ifp_n {α : Type} {c c' : Prop} {a b : α} (h : c ↔ c') : ifp c a b = ifp c' a b := by rw [propext h]
theorem isB_0 : isB (iZ 0) = true := by decide
theorem isB_1 : isB (iZ 1) = true := by decide
theorem lpZ {P : Int → Prop} (N : Int) (hx : ∀ k, N ≤ k → P k) (hs : ∀ k, k < N → P (k + 1) → P k) : ∀ k, P k := by
  have key : ∀ (n : Nat) (k : Int), (N - k).toNat ≤ n → P k := by
    intro n
    induction n with
    | zero => intro k hk; exact hx k (by omega)
    | succ n ih =>
      intro k hk
      by_cases h : k < N
      · exact hs k h (ih (k + 1) (by omega))
      · exact hx k (by omega)
  exact fun k => key _ k (Nat.le_refl _)
/-- downward, to below 0 -/
theorem lpD {P : Int → Prop} (hx : ∀ k, k < 0 → P k) (hs : ∀ k, 0 ≤ k → P (k - 1) → P k) : ∀ k, P k := by
  have key : ∀ (n : Nat) (k : Int), (k + 1).toNat ≤ n → P k := by
    intro n
    induction n with
    | zero => intro k hk; exact hx k (by omega)
    | succ n ih =>
      intro k hk
      by_cases h : k < 0
      · exact hx k h
      · exact hs k (by omega) (ih (k - 1) (by omega))
  exact fun k => key _ k (Nat.le_refl _)
