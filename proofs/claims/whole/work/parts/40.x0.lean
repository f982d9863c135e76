/-! the class: bits -/
theorem sl32 : ∀ n, n < 32 → ((nI n &&& 31).toBitVec.smod 32).toNat = n := by decide +kernel
theorem b_shr {n k : Nat} (hn : n < 2147483648) (hk : k < 32) : iZ n >>> (iZ k &&& iZ 31) = iZ ((n / 2 ^ k : Nat) : Int) := by
  rw [← nI_iz, ← nI_iz, ← nI_iz]; exact pk_shrN hn _ k (sl32 k hk)
theorem b_shl {n k : Nat} (hk : k < 32) (hn : n * 2 ^ k < 4294967296) : iZ n <<< (iZ k &&& iZ 31) = iZ ((n * 2 ^ k : Nat) : Int) := by
  rw [← nI_iz, ← nI_iz, ← nI_iz]; exact pk_shlN _ k (sl32 k hk) hn
theorem b_or (a b : Nat) : iZ a ||| iZ b = iZ ((a ||| b : Nat) : Int) := by
  rw [← nI_iz, ← nI_iz, ← nI_iz]
  apply Int32.toBitVec_inj.1
  exact BitVec.ofNat_or.symm
theorem b_and (a b : Nat) : iZ a &&& iZ b = iZ ((a &&& b : Nat) : Int) := by
  rw [← nI_iz, ← nI_iz, ← nI_iz]
  apply Int32.toBitVec_inj.1
  exact BitVec.ofNat_and.symm
theorem b_xor (a b : Nat) : iZ a ^^^ iZ b = iZ ((a ^^^ b : Nat) : Int) := by
  rw [← nI_iz, ← nI_iz, ← nI_iz]
  apply Int32.toBitVec_inj.1
  exact BitVec.ofNat_xor.symm
/-- a bit is looked at -/
theorem b_tst {n k : Nat} (hn : n < 2147483648) (hk : k < 32) : ((iZ n >>> (iZ k &&& iZ 31)) &&& iZ 1 = iZ 0) ↔ n.testBit k = false := by
  rw [b_shr hn hk, show (1 : Int) = ((1 : Nat) : Int) from rfl, b_and, Nat.and_one_is_mod, show (0 : Int) = ((0 : Nat) : Int) from rfl]
  have h1 : n / 2 ^ k ≤ n := Nat.div_le_self _ _
  rw [iz_eq (by omega), Nat.testBit_eq_decide_div_mod_eq]
  simp only [decide_eq_false_iff_not]
  omega
theorem b_one {k : Nat} (hk : k < 31) : iZ 1 <<< (iZ k &&& iZ 31) = iZ ((2 ^ k : Nat) : Int) := by
  have h := Nat.pow_le_pow_right (n := 2) (by decide) (show k ≤ 30 by omega)
  have := b_shl (n := 1) (k := k) (by omega) (by omega)
  rw [Nat.one_mul] at this
  exact this
theorem tb_or {a k j : Nat} : (a ||| 2 ^ k).testBit j = true ↔ a.testBit j = true ∨ j = k := by
  rw [Nat.testBit_or, Nat.testBit_two_pow]
  simp only [Bool.or_eq_true, decide_eq_true_eq]
  constructor
  · rintro (h | h); exact Or.inl h; exact Or.inr h.symm
  · rintro (h | h); exact Or.inl h; exact Or.inr h.symm
theorem or_lt {a k n : Nat} (ha : a < 2 ^ n) (hk : k < n) : a ||| 2 ^ k < 2 ^ n := Nat.or_lt_two_pow ha (Nat.pow_lt_pow_right (by decide) hk)
/-! the class's cells -/
def sxR : List (Nat × Nat × Nat) := [(0, 0, 1), (0, 1, 4), (0, 2, 6), (0, 3, 8), (0, 4, 12), (0, 5, 20), (0, 6, 23), (0, 7, 25), (0, 8, 29), (0, 9, 46), (0, 10, 47), (1, 0, 2), (2, 0, 3), (4, 0, 5), (6, 0, 7), (8, 0, 9), (8, 1, 10), (12, 0, 13), (12, 2, 14), (12, 3, 16), (12, 4, 17), (12, 5, 18), (14, 0, 15), (20, 0, 21), (20, 1, 22), (25, 0, 26), (25, 1, 27), (25, 2, 28), (29, 0, 30), (29, 1, 34), (29, 2, 38), (29, 3, 42), (30, 0, 31), (30, 1, 33), (31, 0, 32), (34, 0, 35), (34, 1, 37), (35, 0, 36), (38, 0, 39), (38, 1, 41), (39, 0, 40), (42, 0, 43), (42, 1, 45), (43, 0, 44), (48, 0, 49), (48, 1, 50), (48, 2, 51), (48, 3, 52), (48, 4, 53), (48, 5, 54), (48, 6, 55), (55, 0, 56), (55, 1, 57), (58, 0, 59), (58, 1, 60), (58, 2, 61), (58, 3, 62), (58, 4, 63), (58, 5, 64), (58, 6, 65), (65, 0, 66), (65, 1, 67)]
def sxN : List (Nat × Nat) := [(3, 1000), (5, 40), (7, 40), (9, 13), (10, 41), (13, 41), (15, 40), (16, 6), (17, 6), (18, 6), (21, 41), (22, 41), (26, 12), (27, 12), (28, 24), (29, 4), (32, 40), (33, 41), (36, 40), (37, 41), (40, 40), (41, 41), (44, 40), (45, 41), (46, 41), (47, 6), (49, 6), (50, 13), (51, 41), (52, 13), (53, 41), (54, 41), (56, 1000), (57, 32), (59, 6), (60, 13), (61, 41), (62, 13), (63, 41), (64, 41), (66, 1000), (67, 32), (92, 1)]
def SX (h : Hp) : Prop := (∀ q ∈ sxR, hR h q.1 q.2.1 = some q.2.2) ∧ ∀ q ∈ sxN, hN h q.1 = q.2
theorem SX.r {h : Hp} (S : SX h) (r k v : Nat) (hq : (r, k, v) ∈ sxR := by decide) : hR h r k = some v := S.1 (r, k, v) hq
theorem SX.n {h : Hp} (S : SX h) (k v : Nat) (hq : (k, v) ∈ sxN := by decide) : hN h k = v := S.2 (k, v) hq
/-- one of the two stairs -/
def TO (o : Nat) : Prop := o = 48 ∨ o = 58
theorem SX.o0 {h : Hp} (S : SX h) {o : Nat} (t : TO o) : hR h o 0 = some (o + 1) := by rcases t with rfl | rfl <;> exact S.1 (_, _, _) (by decide)
theorem SX.o1 {h : Hp} (S : SX h) {o : Nat} (t : TO o) : hR h o 1 = some (o + 2) := by rcases t with rfl | rfl <;> exact S.1 (_, _, _) (by decide)
theorem SX.o2 {h : Hp} (S : SX h) {o : Nat} (t : TO o) : hR h o 2 = some (o + 3) := by rcases t with rfl | rfl <;> exact S.1 (_, _, _) (by decide)
theorem SX.o3 {h : Hp} (S : SX h) {o : Nat} (t : TO o) : hR h o 3 = some (o + 4) := by rcases t with rfl | rfl <;> exact S.1 (_, _, _) (by decide)
theorem SX.o4 {h : Hp} (S : SX h) {o : Nat} (t : TO o) : hR h o 4 = some (o + 5) := by rcases t with rfl | rfl <;> exact S.1 (_, _, _) (by decide)
theorem SX.o5 {h : Hp} (S : SX h) {o : Nat} (t : TO o) : hR h o 5 = some (o + 6) := by rcases t with rfl | rfl <;> exact S.1 (_, _, _) (by decide)
theorem SX.o6 {h : Hp} (S : SX h) {o : Nat} (t : TO o) : hR h o 6 = some (o + 7) := by rcases t with rfl | rfl <;> exact S.1 (_, _, _) (by decide)
theorem SX.d0 {h : Hp} (S : SX h) {o : Nat} (t : TO o) : hR h (o + 7) 0 = some (o + 8) := by rcases t with rfl | rfl <;> exact S.1 (_, _, _) (by decide)
theorem SX.d1 {h : Hp} (S : SX h) {o : Nat} (t : TO o) : hR h (o + 7) 1 = some (o + 9) := by rcases t with rfl | rfl <;> exact S.1 (_, _, _) (by decide)
theorem SX.n1 {h : Hp} (S : SX h) {o : Nat} (t : TO o) : hN h (o + 1) = 6 := by rcases t with rfl | rfl <;> exact S.2 (_, _) (by decide)
theorem SX.n2 {h : Hp} (S : SX h) {o : Nat} (t : TO o) : hN h (o + 2) = 13 := by rcases t with rfl | rfl <;> exact S.2 (_, _) (by decide)
theorem SX.n3 {h : Hp} (S : SX h) {o : Nat} (t : TO o) : hN h (o + 3) = 41 := by rcases t with rfl | rfl <;> exact S.2 (_, _) (by decide)
theorem SX.n4 {h : Hp} (S : SX h) {o : Nat} (t : TO o) : hN h (o + 4) = 13 := by rcases t with rfl | rfl <;> exact S.2 (_, _) (by decide)
theorem SX.n5 {h : Hp} (S : SX h) {o : Nat} (t : TO o) : hN h (o + 5) = 41 := by rcases t with rfl | rfl <;> exact S.2 (_, _) (by decide)
theorem SX.n6 {h : Hp} (S : SX h) {o : Nat} (t : TO o) : hN h (o + 6) = 41 := by rcases t with rfl | rfl <;> exact S.2 (_, _) (by decide)
theorem SX.n8 {h : Hp} (S : SX h) {o : Nat} (t : TO o) : hN h (o + 8) = 1000 := by rcases t with rfl | rfl <;> exact S.2 (_, _) (by decide)
theorem SX.n9 {h : Hp} (S : SX h) {o : Nat} (t : TO o) : hN h (o + 9) = 32 := by rcases t with rfl | rfl <;> exact S.2 (_, _) (by decide)
/-- the heap of a step: the least that is not met -/
noncomputable def mx (P : Int → Prop) : Int := pif (¬ P 0) 0 (pif (¬ P 1) 1 (pif (¬ P 2) 2 (pif (¬ P 3) 3 (pif (¬ P 4) 4 (pif (¬ P 5) 5 6)))))
noncomputable def Hpf (q : Int → Int) : Nat → Int → Int
  | 0, _ => 0
  | n + 1, s => pif (q (26 + s) = 1) (-1) (mx fun m => ∃ k, 0 ≤ k ∧ k < q 8 ∧ s + q (9 + k) ≤ q 0 ∧ q (26 + (s + q (9 + k))) ≠ 1 ∧ Hpf q n (s + q (9 + k)) = m)
noncomputable def Hpv (q : Int → Int) (s : Int) : Int := Hpf q 41 s
/-! a stair of the class -/
def SR (h : Hp) (o : Nat) (q : Int → Int) : Prop :=
  (hI h o 7 = iZ (q 0) ∧ hI h o 8 = iZ (q 8) ∧ hI h o 10 = iZ (q 1) ∧ hI h o 11 = iZ (q 15) ∧ hI h o 12 = iZ (if q 2 < 0 then -1 else 1 - q 2) ∧ hI h o 13 = iZ (q 3) ∧ hI h o 14 = iZ (q 4) ∧ hI h o 15 = iZ (q 5) ∧ hI h o 16 = iZ (q 6)) ∧
  (∃ B : Nat, B < 8192 ∧ hI h o 9 = iZ B ∧ ∀ z : Nat, B.testBit z = true ↔ ∃ k : Int, 0 ≤ k ∧ k < q 8 ∧ q (9 + k) = z) ∧
  (∀ k : Int, 0 ≤ k → k < q 8 → hI h (o + 1) k.toNat = iZ (q (9 + k))) ∧
  (hI h (o + 2) 0 = iZ 0 ∧ ∀ k : Int, 0 ≤ k → k < q 8 → hI h (o + 2) (q (9 + k)).toNat = iZ (k + 1)) ∧
  (∀ s : Int, 0 ≤ s → s ≤ 40 → hI h (o + 3) s.toNat = iZ (q (26 + s))) ∧
  (∀ a : Nat, a ≤ 12 → ∃ B : Nat, B < 8192 ∧ hI h (o + 4) a = iZ B ∧ ∀ z : Nat, z < 16 → (B.testBit z = true ↔ Brd q 0 a z)) ∧
  (∀ s : Int, 0 ≤ s → s ≤ q 0 → hI h (o + 5) s.toNat = iZ (Hpv q s)) ∧
  (∀ s : Int, 0 ≤ s → s ≤ q 0 → ∃ F : Int, F ≤ q 0 ∧ s ≤ F ∧ hI h (o + 6) s.toNat = iZ F ∧ ∀ t, s < t → (t ≤ F ↔ t ≤ q 0 ∧ ¬ ∃ j, s < j ∧ j < t ∧ q (26 + j) = 3))
theorem SR.top {h : Hp} {o : Nat} {q : Int → Int} (R : SR h o q) : hI h o 7 = iZ (q 0) := R.1.1
theorem SR.n {h : Hp} {o : Nat} {q : Int → Int} (R : SR h o q) : hI h o 8 = iZ (q 8) := R.1.2.1
theorem SR.cre {h : Hp} {o : Nat} {q : Int → Int} (R : SR h o q) : hI h o 10 = iZ (q 1) := R.1.2.2.1
theorem SR.bar {h : Hp} {o : Nat} {q : Int → Int} (R : SR h o q) : hI h o 11 = iZ (q 15) := R.1.2.2.2.1
theorem SR.foot {h : Hp} {o : Nat} {q : Int → Int} (R : SR h o q) : hI h o 12 = iZ (if q 2 < 0 then -1 else 1 - q 2) := R.1.2.2.2.2.1
theorem SR.lea {h : Hp} {o : Nat} {q : Int → Int} (R : SR h o q) : hI h o 13 = iZ (q 3) := R.1.2.2.2.2.2.1
theorem SR.mos {h : Hp} {o : Nat} {q : Int → Int} (R : SR h o q) : hI h o 14 = iZ (q 4) := R.1.2.2.2.2.2.2.1
theorem SR.gre {h : Hp} {o : Nat} {q : Int → Int} (R : SR h o q) : hI h o 15 = iZ (q 5) := R.1.2.2.2.2.2.2.2.1
theorem SR.tim {h : Hp} {o : Nat} {q : Int → Int} (R : SR h o q) : hI h o 16 = iZ (q 6) := R.1.2.2.2.2.2.2.2.2
theorem SR.bits {h : Hp} {o : Nat} {q : Int → Int} (R : SR h o q) : ∃ B : Nat, B < 8192 ∧ hI h o 9 = iZ B ∧ ∀ z : Nat, B.testBit z = true ↔ ∃ k : Int, 0 ≤ k ∧ k < q 8 ∧ q (9 + k) = z := R.2.1
theorem SR.str {h : Hp} {o : Nat} {q : Int → Int} (R : SR h o q) {k : Int} (h1 : 0 ≤ k) (h2 : k < q 8) : hI h (o + 1) k.toNat = iZ (q (9 + k)) := R.2.2.1 k h1 h2
theorem SR.pl0 {h : Hp} {o : Nat} {q : Int → Int} (R : SR h o q) : hI h (o + 2) 0 = iZ 0 := R.2.2.2.1.1
theorem SR.pl {h : Hp} {o : Nat} {q : Int → Int} (R : SR h o q) {k : Int} (h1 : 0 ≤ k) (h2 : k < q 8) : hI h (o + 2) (q (9 + k)).toNat = iZ (k + 1) := R.2.2.2.1.2 k h1 h2
theorem SR.kin {h : Hp} {o : Nat} {q : Int → Int} (R : SR h o q) {s : Int} (h1 : 0 ≤ s) (h2 : s ≤ 40) : hI h (o + 3) s.toNat = iZ (q (26 + s)) := R.2.2.2.2.1 s h1 h2
theorem SR.brd {h : Hp} {o : Nat} {q : Int → Int} (R : SR h o q) {a : Nat} (h1 : a ≤ 12) : ∃ B : Nat, B < 8192 ∧ hI h (o + 4) a = iZ B ∧ ∀ z : Nat, z < 16 → (B.testBit z = true ↔ Brd q 0 a z) := R.2.2.2.2.2.1 a h1
theorem SR.hp {h : Hp} {o : Nat} {q : Int → Int} (R : SR h o q) {s : Int} (h1 : 0 ≤ s) (h2 : s ≤ q 0) : hI h (o + 5) s.toNat = iZ (Hpv q s) := R.2.2.2.2.2.2.1 s h1 h2
theorem SR.far {h : Hp} {o : Nat} {q : Int → Int} (R : SR h o q) {s : Int} (h1 : 0 ≤ s) (h2 : s ≤ q 0) : ∃ F : Int, F ≤ q 0 ∧ s ≤ F ∧ hI h (o + 6) s.toNat = iZ F ∧ ∀ t, s < t → (t ≤ F ↔ t ≤ q 0 ∧ ¬ ∃ j, s < j ∧ j < t ∧ q (26 + j) = 3) := R.2.2.2.2.2.2.2 s h1 h2
theorem SR.tr {h h' : Hp} {o : Nat} {q : Int → Int} (R : SR h o q) (e : ∀ r, o ≤ r → r ≤ o + 6 → hI h' r = hI h r) : SR h' o q := by
  unfold SR
  rw [e o (by omega) (by omega), e (o + 1) (by omega) (by omega), e (o + 2) (by omega) (by omega), e (o + 3) (by omega) (by omega), e (o + 4) (by omega) (by omega), e (o + 5) (by omega) (by omega), e (o + 6) (by omega) (by omega)]
  exact R
/-! a choice of answers -/
theorem ifp_T {α : Type} {a b : α} : ifp True a b = a := ifp_t trivial
theorem ifp_F {α : Type} {a b : α} : ifp False a b = b := ifp_f id
theorem ifp_r {α : Type} {c : Prop} {a b r : α} (h1 : c → a = r) (h2 : ¬ c → b = r) : ifp c a b = r := by
  by_cases h : c
  · rw [ifp_t h]; exact h1 h
  · rw [ifp_f h]; exact h2 h
theorem rb_t {c : Prop} {h : Hp} (q : c) : (some (some (vI (iZ 1)), h) : Option Rs) = some (some (vI (bZ c)), h) := by rw [bZ_t q]
theorem rb_f {c : Prop} {h : Hp} (q : ¬ c) : (some (some (vI (iZ 0)), h) : Option Rs) = some (some (vI (bZ c)), h) := by rw [bZ_f q]
theorem ri_e {a b : Int} {h : Hp} (q : a = b) : (some (some (vI (iZ a)), h) : Option Rs) = some (some (vI (iZ b)), h) := by rw [q]
theorem rj_e {a b : Int} {h : Hp} (q : a = b) : (some (some (vL (jZ a)), h) : Option Rs) = some (some (vL (jZ b)), h) := by rw [q]
/-- a stride is told -/
def Tld (q : Int → Int) (z : Int) : Prop := ∃ k, 0 ≤ k ∧ k < q 8 ∧ q (9 + k) = z
theorem x_tells (d : Nat) {h : Hp} {o : Nat} {q : Int → Int} (R : SR h o q) (V : VS q) {z : Int} (hz : -2147483648 ≤ z ∧ z < 2147483648) : evm (d + 1) 28 [vR 5 o, vI (iZ z)] h = some (some (vI (bZ (Tld q z))), h) := by
  rw [e_Stair_tells]
  obtain ⟨B, b1, b2, b3⟩ := R.bits
  simp (disch := omega) only [lit32, litJ, iz_add, iz_sub, iz_mul, iz_neg, nI_iz, ix_iz, inb_iz, ifp_t, ifp_f, ifp_T, ifp_F, iz_eq, iz_lt, bI_s, bL_s, bV_s, bR_s, b2]
  have no : (z < 1 ∨ 12 < z) → ¬ Tld q z := by
    rintro h0 ⟨k, k1, k2, k3⟩
    have := V.str k1 k2
    omega
  refine ifp_r (fun h1 => rb_f (no (Or.inl h1))) (fun h1 => ifp_r (fun h2 => rb_f (no (Or.inr h2))) (fun h2 => ?_))
  have e : z = ((z.toNat : Nat) : Int) := by omega
  have bb := b3 z.toNat
  rw [← e] at bb
  rw [show iZ z = iZ ((z.toNat : Nat) : Int) by rw [← e], ifp_n (b_tst (show B < 2147483648 by omega) (show z.toNat < 32 by omega))]
  refine ifp_r (fun h3 => rb_f (fun t => ?_)) (fun h3 => rb_t ?_)
  · rw [bb.mpr t] at h3; cases h3
  · exact bb.mp (by simpa using h3)
theorem x_isBarred (d : Nat) {h : Hp} (S : SX h) {o : Nat} (t : TO o) {q : Int → Int} (R : SR h o q) {a z : Int} (ha : 0 ≤ a ∧ a ≤ 12) (hz : 0 ≤ z ∧ z ≤ 12) : evm (d + 1) 29 [vR 5 o, vI (iZ a), vI (iZ z)] h = some (some (vI (bZ (Brd q 0 a z))), h) := by
  rw [e_Stair_isBarred]
  obtain ⟨B, b1, b2, b3⟩ := R.brd (a := a.toNat) (by omega)
  simp (disch := omega) only [S.o3 t, S.n4 t, lit32, litJ, iz_add, iz_sub, iz_mul, iz_neg, nI_iz, ix_iz, inb_iz, ifp_t, ifp_f, ifp_T, ifp_F, iz_eq, iz_lt, bI_s, bL_s, bV_s, bR_s, b2]
  have e : z = ((z.toNat : Nat) : Int) := by omega
  have bb := b3 z.toNat (by omega)
  rw [← e, show ((a.toNat : Nat) : Int) = a by omega] at bb
  rw [show iZ z = iZ ((z.toNat : Nat) : Int) by rw [← e], ifp_n (b_tst (show B < 2147483648 by omega) (show z.toNat < 32 by omega))]
  refine ifp_r (fun h3 => rb_f (fun t => ?_)) (fun h3 => rb_t ?_)
  · rw [bb.mpr t] at h3; cases h3
  · exact bb.mp (by simpa using h3)
theorem x_isGreat (d : Nat) {h : Hp} {o : Nat} {q : Int → Int} (R : SR h o q) (V : VS q) {z : Int} (hz : 0 ≤ z ∧ z ≤ 1000) : evm (d + 1) 30 [vR 5 o, vI (iZ z)] h = some (some (vI (bZ (Grt q z))), h) := by
  rw [e_Stair_isGreat, R.gre]
  have v := V.gre
  simp (disch := omega) only [lit32, litJ, iz_add, iz_sub, iz_mul, iz_neg, nI_iz, ix_iz, inb_iz, ifp_t, ifp_f, ifp_T, ifp_F, iz_eq, iz_lt, bI_s, bL_s, bV_s, bR_s]
  unfold Grt
  refine ifp_r (fun h1 => rb_f (by omega)) (fun h1 => ifp_r (fun h2 => rb_f (by omega)) (fun h2 => rb_t (by omega)))
theorem x_longest (d : Nat) {h : Hp} (S : SX h) {o : Nat} (t : TO o) {q : Int → Int} (R : SR h o q) (V : VS q) : evm (d + 1) 32 [vR 5 o] h = some (some (vI (iZ (q (9 + (q 8 - 1))))), h) := by
  rw [e_Stair_longest, R.n]
  have v := V.n
  have r := R.str (k := q 8 - 1) (by omega) (by omega)
  simp (disch := omega) only [S.o0 t, S.n1 t, lit32, litJ, iz_add, iz_sub, iz_mul, iz_neg, nI_iz, ix_iz, inb_iz, ifp_t, ifp_f, ifp_T, ifp_F, iz_eq, iz_lt, bI_s, bL_s, bV_s, bR_s, r]
theorem x_creakKinds (d : Nat) {h : Hp} {o : Nat} {q : Int → Int} (R : SR h o q) (V : VS q) : evm (d + 1) 33 [vR 5 o] h = some (some (vI (iZ (mxC q + 1))), h) := by
  rw [e_Stair_creakKinds, R.cre]
  have v := V.cre
  simp (disch := omega) only [lit32, litJ, iz_add, iz_sub, iz_mul, iz_neg, nI_iz, ix_iz, inb_iz, ifp_t, ifp_f, ifp_T, ifp_F, iz_eq, iz_lt, bI_s, bL_s, bV_s, bR_s]
  unfold mxC
  refine ifp_r (fun h1 => ri_e (by rw [if_pos (by omega)]; omega)) (fun h1 => ri_e (by rw [if_neg (by omega)]))
theorem x_greatKinds (d : Nat) {h : Hp} {o : Nat} {q : Int → Int} (R : SR h o q) (V : VS q) : evm (d + 1) 34 [vR 5 o] h = some (some (vI (iZ (mxG q + 1))), h) := by
  rw [e_Stair_greatKinds, R.gre, R.tim]
  have v := V.gre
  simp (disch := omega) only [lit32, litJ, iz_add, iz_sub, iz_mul, iz_neg, nI_iz, ix_iz, inb_iz, ifp_t, ifp_f, ifp_T, ifp_F, iz_eq, iz_lt, bI_s, bL_s, bV_s, bR_s]
  unfold mxG
  refine ifp_r (fun h1 => ri_e (by rw [if_pos (by omega)]; omega)) (fun h1 => ri_e (by rw [if_neg (by omega)]))
theorem b_and1 (x : Int) (hx : 0 ≤ x) : iZ x &&& iZ 1 = iZ (x % 2) := by
  have e : x = ((x.toNat : Nat) : Int) := by omega
  rw [e, show (1 : Int) = ((1 : Nat) : Int) from rfl, b_and, Nat.and_one_is_mod]
  congr 1
def FtT (q : Int → Int) (t : Int) : Prop := q 2 < 0 ∨ q 2 = (t + 1) % 2
theorem x_footFits (d : Nat) {h : Hp} {o : Nat} {q : Int → Int} (R : SR h o q) (V : VS q) {z : Int} (hz : 0 ≤ z ∧ z ≤ 1000) : evm (d + 1) 31 [vR 5 o, vI (iZ z)] h = some (some (vI (bZ (FtT q z))), h) := by
  rw [e_Stair_footFits, R.foot]
  have v := V.foot
  unfold FtT
  by_cases h0 : q 2 < 0
  · rw [if_pos h0]
    simp (disch := omega) only [lit32, litJ, iz_add, iz_sub, iz_mul, iz_neg, nI_iz, ix_iz, inb_iz, ifp_t, ifp_f, ifp_T, ifp_F, iz_eq, iz_lt, bI_s, bL_s, bV_s, bR_s]
    exact rb_t (Or.inl h0)
  · rw [if_neg h0]
    simp (disch := omega) only [lit32, litJ, iz_add, iz_sub, iz_mul, iz_neg, nI_iz, ix_iz, inb_iz, ifp_t, ifp_f, ifp_T, ifp_F, iz_eq, iz_lt, bI_s, bL_s, bV_s, bR_s, b_and1 z hz.1]
    exact ifp_r (fun h1 => rb_t (by omega)) (fun h1 => rb_f (by omega))
/-! one who climbs -/
def cFw (s t la cr g : Int) : Nat → Int32 := fun j => if j = 1 then iZ s else if j = 2 then iZ t else if j = 3 then iZ la else if j = 4 then iZ cr else if j = 5 then iZ g else 0
theorem cFw_1 (s t la cr g : Int) : cFw s t la cr g 1 = iZ s := rfl
theorem cFw_2 (s t la cr g : Int) : cFw s t la cr g 2 = iZ t := rfl
theorem cFw_3 (s t la cr g : Int) : cFw s t la cr g 3 = iZ la := rfl
theorem cFw_4 (s t la cr g : Int) : cFw s t la cr g 4 = iZ cr := rfl
theorem cFw_5 (s t la cr g : Int) : cFw s t la cr g 5 = iZ g := rfl
theorem cFw_u1 (s t la cr g x : Int) : up (cFw s t la cr g) 1 (iZ x) = cFw x t la cr g := by
  funext j; unfold up cFw; by_cases e : j = 1 <;> simp [e]
theorem cFw_u2 (s t la cr g x : Int) : up (cFw s t la cr g) 2 (iZ x) = cFw s x la cr g := by
  funext j; unfold up cFw; by_cases e : j = 2 <;> simp [e]
theorem cFw_u3 (s t la cr g x : Int) : up (cFw s t la cr g) 3 (iZ x) = cFw s t x cr g := by
  funext j; unfold up cFw; by_cases e : j = 3 <;> simp [e]
theorem cFw_u4 (s t la cr g x : Int) : up (cFw s t la cr g) 4 (iZ x) = cFw s t la x g := by
  funext j; unfold up cFw; by_cases e : j = 4 <;> simp [e]
theorem cFw_u5 (s t la cr g x : Int) : up (cFw s t la cr g) 5 (iZ x) = cFw s t la cr x := by
  funext j; unfold up cFw; by_cases e : j = 5 <;> simp [e]
/-- the climber c stands so, with these strides -/
def CH (h : Hp) (c : Nat) (s t la cr g : Int) (S : Nat → Int32) : Hp := wI (wI h c (cFw s t la cr g)) (c + 1) S
theorem CH_I {h : Hp} {c : Nat} {s t la cr g : Int} {S : Nat → Int32} : hI (CH h c s t la cr g S) c = cFw s t la cr g := by
  unfold CH; rw [wI_n _ _ (by omega), wI_I]
theorem CH_S {h : Hp} {c : Nat} {s t la cr g : Int} {S : Nat → Int32} : hI (CH h c s t la cr g S) (c + 1) = S := by
  unfold CH; rw [wI_I]
theorem CH_n {h : Hp} {c r : Nat} {s t la cr g : Int} {S : Nat → Int32} (e : r ≠ c ∧ r ≠ c + 1) : hI (CH h c s t la cr g S) r = hI h r := by
  unfold CH; rw [wI_n _ _ e.2, wI_n _ _ e.1]
theorem CH_L {h : Hp} {c : Nat} {s t la cr g : Int} {S : Nat → Int32} : hL (CH h c s t la cr g S) = hL h := rfl
theorem CH_R {h : Hp} {c : Nat} {s t la cr g : Int} {S : Nat → Int32} : hR (CH h c s t la cr g S) = hR h := rfl
theorem CH_N {h : Hp} {c : Nat} {s t la cr g : Int} {S : Nat → Int32} : hN (CH h c s t la cr g S) = hN h := rfl
theorem CH_wL {h : Hp} {c r : Nat} {s t la cr g : Int} {S : Nat → Int32} {T : Nat → Int64} : wL (CH h c s t la cr g S) r T = CH (wL h r T) c s t la cr g S := rfl
theorem CH_sL {h : Hp} {c r k : Nat} {s t la cr g : Int} {S : Nat → Int32} {x : Int64} : sL (CH h c s t la cr g S) r k x = CH (sL h r k x) c s t la cr g S := rfl
theorem CH_s {h : Hp} {c : Nat} {s t la cr g : Int} {S : Nat → Int32} (k : Nat) (x : Int32) : sI (CH h c s t la cr g S) (c + 1) k x = CH h c s t la cr g (up S k x) := by
  unfold CH; rw [sI_wI]
theorem CH_x {h : Hp} {c : Nat} {f : Nat → Int32} {S : Nat → Int32} (k : Nat) (x : Int32) : sI (wI (wI h c f) (c + 1) S) c k x = wI (wI h c (up f k x)) (c + 1) S := by
  rw [sI_w, wI_n _ _ (show c ≠ c + 1 by omega), wI_I, wI_c _ _ _ (show c + 1 ≠ c by omega), wI_wI]
theorem CH_1 {h : Hp} {c : Nat} {s t la cr g : Int} {S : Nat → Int32} (x : Int) : sI (CH h c s t la cr g S) c 1 (iZ x) = CH h c x t la cr g S := by
  unfold CH; rw [CH_x, cFw_u1]
theorem CH_2 {h : Hp} {c : Nat} {s t la cr g : Int} {S : Nat → Int32} (x : Int) : sI (CH h c s t la cr g S) c 2 (iZ x) = CH h c s x la cr g S := by
  unfold CH; rw [CH_x, cFw_u2]
theorem CH_3 {h : Hp} {c : Nat} {s t la cr g : Int} {S : Nat → Int32} (x : Int) : sI (CH h c s t la cr g S) c 3 (iZ x) = CH h c s t x cr g S := by
  unfold CH; rw [CH_x, cFw_u3]
theorem CH_4 {h : Hp} {c : Nat} {s t la cr g : Int} {S : Nat → Int32} (x : Int) : sI (CH h c s t la cr g S) c 4 (iZ x) = CH h c s t la x g S := by
  unfold CH; rw [CH_x, cFw_u4]
theorem CH_5 {h : Hp} {c : Nat} {s t la cr g : Int} {S : Nat → Int32} (x : Int) : sI (CH h c s t la cr g S) c 5 (iZ x) = CH h c s t la cr x S := by
  unfold CH; rw [CH_x, cFw_u5]
theorem CH_self {h : Hp} {c : Nat} {s t la cr g : Int} {S : Nat → Int32} (e : hI h c = cFw s t la cr g) (e' : hI h (c + 1) = S) : CH h c s t la cr g S = h := by
  unfold CH
  rw [← e, wI_self, ← e', wI_self]
theorem CH_CH {h : Hp} {c : Nat} {s t la cr g s' t' la' cr' g' : Int} {S S' : Nat → Int32} : CH (CH h c s t la cr g S) c s' t' la' cr' g' S' = CH h c s' t' la' cr' g' S' := by
  unfold CH
  rw [wI_c _ _ _ (show c + 1 ≠ c by omega), wI_wI, wI_wI]
theorem SR.ch {h : Hp} {o c : Nat} {q : Int → Int} (R : SR h o q) (t : TO o) (hc : c ≤ 46) {s b la cr g : Int} {S : Nat → Int32} : SR (CH h c s b la cr g S) o q := by
  refine R.tr (fun r r1 r2 => CH_n ?_)
  unfold TO at t
  omega
theorem x_put (d : Nat) {h : Hp} {c : Nat} {s t la cr g s' t' la' cr' g' : Int} {S : Nat → Int32} : evm (d + 1) 2 [vR 0 c, vI (iZ s'), vI (iZ t'), vI (iZ la'), vI (iZ cr'), vI (iZ g')] (CH h c s t la cr g S) = some (none, CH h c s' t' la' cr' g' S) := by
  rw [e_Climber_put, CH_1, CH_2, CH_3, CH_4, CH_5]
theorem x_start (d : Nat) {h : Hp} {c : Nat} {s t la cr g : Int} {S : Nat → Int32} : evm (d + 2) 1 [vR 0 c] (CH h c s t la cr g S) = some (none, CH h c 0 0 0 0 0 S) := by
  rw [e_Climber_start]
  simp only [lit32]
  rw [x_put, bV_s]
