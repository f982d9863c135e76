/-! plain ways: what both sides count -/
noncomputable def vcA (q : Int → Int) : Nat → Int → Int
  | 0 => fun j => pif (j = 0) 1 0
  | n + 1 => fun j => pif (j = 0) (sZ (fun k => vcA q n (q (9 + k) - 1)) (q 8)) (vcA q n (j - 1))
noncomputable def Anq (q : Int → Int) (z : Int) : Int := pif (z < 0) 0 (vcA q z.toNat 0)
theorem Anq_0 (q : Int → Int) : Anq q 0 = 1 := by
  unfold Anq
  rw [pif_f (by omega)]
  show vcA q 0 0 = 1
  unfold vcA
  exact pif_t rfl
theorem Anq_n (q : Int → Int) {z : Int} (h : z < 0) : Anq q z = 0 := by
  unfold Anq; exact pif_t h
theorem vcA_e (q : Int → Int) : ∀ (n : Nat) (j : Int), 0 ≤ j → vcA q n j = Anq q (n - j) := by
  intro n
  induction n with
  | zero =>
    intro j hj
    unfold vcA
    by_cases e : j = 0
    · rw [pif_t e, e]
      exact (Anq_0 q).symm
    · rw [pif_f e]
      exact (Anq_n q (by omega)).symm
  | succ n ih =>
    intro j hj
    by_cases e : j = 0
    · rw [e]
      unfold Anq
      rw [pif_f (by omega), show (((n + 1 : Nat) : Int) - 0).toNat = n + 1 by omega]
    · unfold vcA
      rw [pif_f e, ih (j - 1) (by omega)]
      congr 1
      omega
theorem Anq_s {q : Int → Int} (V : VS q) {z : Int} (h : 1 ≤ z) : Anq q z = sZ (fun k => Anq q (z - q (9 + k))) (q 8) := by
  obtain ⟨n, hn⟩ : ∃ n : Nat, z = ((n + 1 : Nat) : Int) := ⟨z.toNat - 1, by omega⟩
  have e1 : Anq q z = vcA q (n + 1) 0 := by
    rw [vcA_e q (n + 1) 0 (by omega), hn]; congr 1
  rw [e1]
  unfold vcA
  rw [pif_t rfl]
  refine sZ_c (fun k k1 k2 => ?_)
  have := V.str k1 k2
  rw [vcA_e q n _ (by omega)]
  congr 1
  omega
/-! alike by a number -/
def Cgr (N a b : Int) : Prop := a % N = b % N
theorem Cgr.rf (N a : Int) : Cgr N a a := rfl
theorem Cgr.tr {N a b c : Int} (h : Cgr N a b) (g : Cgr N b c) : Cgr N a c := Eq.trans h g
theorem Cgr.sy {N a b : Int} (h : Cgr N a b) : Cgr N b a := Eq.symm h
theorem Cgr.ad {N a b c e : Int} (h : Cgr N a b) (g : Cgr N c e) : Cgr N (a + c) (b + e) := by
  unfold Cgr at *
  rw [Int.add_emod, h, g, ← Int.add_emod]
theorem Cgr.mu {N a b c e : Int} (h : Cgr N a b) (g : Cgr N c e) : Cgr N (a * c) (b * e) := by
  unfold Cgr at *
  rw [Int.mul_emod, h, g, ← Int.mul_emod]
theorem Cgr.md (N a : Int) : Cgr N (a % N) a := Int.emod_emod_of_dvd a (Int.dvd_refl N)
theorem Cgr.su {N n : Int} {f g : Int → Int} (h : ∀ k, 0 ≤ k → k < n → Cgr N (f k) (g k)) : Cgr N (sZ f n) (sZ g n) := by
  have : ∀ m, 0 ≤ m → m ≤ n → Cgr N (sZ f m) (sZ g m) := by
    refine upZ ?_ (fun k hk ih h2 => ?_)
    · intro _
      rw [sZ_0 _ (Int.le_refl 0), sZ_0 _ (Int.le_refl 0)]
      exact Cgr.rf _ _
    · rw [sZ_s _ hk, sZ_s _ hk]
      exact (ih (by omega)).ad (h k hk (by omega))
  by_cases e : 0 ≤ n
  · exact this n e (Int.le_refl n)
  · rw [sZ_0 _ (by omega), sZ_0 _ (by omega)]
    exact Cgr.rf _ _
/-- a square of numbers that moves by n -/
def RpC (q : Int → Int) (N : Int) (B : Int → Int → Int) (n : Int) : Prop := ∀ m, 0 ≤ m → ∀ i, 0 ≤ i → i < 12 → Cgr N (sZ (fun j => B i j * Anq q (m - j)) 12) (Anq q (m + n - i))
theorem RpC.mul {q : Int → Int} {N : Int} {R B C : Int → Int → Int} {a b : Int} (hR : RpC q N R a) (hB : RpC q N B b) (hb : 0 ≤ b) (h : ∀ i j, 0 ≤ i → i < 12 → 0 ≤ j → j < 12 → Cgr N (C i j) (sZ (fun k => R i k * B k j) 12)) : RpC q N C (a + b) := by
  intro m hm i i1 i2
  have s1 : Cgr N (sZ (fun j => C i j * Anq q (m - j)) 12) (sZ (fun j => sZ (fun k => R i k * (B k j * Anq q (m - j))) 12) 12) := by
    refine Cgr.su (fun j j1 j2 => ?_)
    have e : sZ (fun k => R i k * (B k j * Anq q (m - j))) 12 = sZ (fun k => R i k * B k j) 12 * Anq q (m - j) := by
      rw [← sZ_mul]
      refine sZ_c (fun k _ _ => ?_)
      exact (Int.mul_assoc _ _ _).symm
    rw [e]
    exact (h i j i1 i2 j1 j2).mu (Cgr.rf _ _)
  rw [sZ_swap] at s1
  have s2 : Cgr N (sZ (fun k => sZ (fun j => R i k * (B k j * Anq q (m - j))) 12) 12) (sZ (fun k => R i k * Anq q (m + b - k)) 12) := by
    refine Cgr.su (fun k k1 k2 => ?_)
    have e := sZ_mul' (fun j => B k j * Anq q (m - j)) (R i k) 12
    rw [e]
    exact (Cgr.rf _ _).mu (hB m hm k k1 k2)
  have s3 := hR (m + b) (by omega) i i1 i2
  have e3 : m + b + a - i = m + (a + b) - i := by omega
  rw [e3] at s3
  exact (s1.tr s2).tr s3
theorem RpC.one (q : Int → Int) {N : Int} {B : Int → Int → Int} (h : ∀ i j, 0 ≤ i → i < 12 → 0 ≤ j → j < 12 → B i j = pif (i = j) (1 % N) 0) : RpC q N B 0 := by
  intro m hm i i1 i2
  have e : sZ (fun j => B i j * Anq q (m - j)) 12 = (1 % N) * Anq q (m - i) := by
    rw [sZ_o (i := i) ⟨i1, i2⟩ (fun k k1 k2 k3 => by
      rw [h i k i1 i2 k1 k2, pif_f (fun z => k3 z.symm), Int.zero_mul])]
    rw [h i i i1 i2 i1 i2, pif_t rfl]
  rw [e]
  have := (Cgr.md N 1).mu (Cgr.rf N (Anq q (m - i)))
  rw [Int.one_mul] at this
  rw [show m + 0 - i = m - i by omega]
  exact this
theorem RpC.step {q : Int → Int} (V : VS q) {N : Int} {B : Int → Int → Int} (h0 : ∀ j, 0 ≤ j → j < 12 → B 0 j = pif (∃ k, 0 ≤ k ∧ k < q 8 ∧ q (9 + k) = j + 1) (1 % N) 0) (h : ∀ i j, 1 ≤ i → i < 12 → 0 ≤ j → j < 12 → B i j = pif (j = i - 1) (1 % N) 0) : RpC q N B 1 := by
  intro m hm i i1 i2
  by_cases e : i = 0
  · rw [e, show m + 1 - 0 = m + 1 by omega, Anq_s V (z := m + 1) (by omega)]
    have e1 : sZ (fun j => B 0 j * Anq q (m - j)) 12 = sZ (fun j => sZ (fun k => pif (j = q (9 + k) - 1) (1 % N * Anq q (m + 1 - q (9 + k))) 0) (q 8)) 12 := by
      refine sZ_c (fun j j1 j2 => ?_)
      rw [h0 j j1 j2]
      by_cases c : ∃ k, 0 ≤ k ∧ k < q 8 ∧ q (9 + k) = j + 1
      · rw [pif_t c]
        obtain ⟨k, k1, k2, k3⟩ := c
        rw [sZ_o (i := k) ⟨k1, k2⟩ (fun k' a1 a2 a3 => pif_f (fun y => by
          rcases Int.lt_or_gt_of_ne a3 with l | l
          · have := V.inc a1 l k2; omega
          · have := V.inc k1 l a2; omega))]
        rw [pif_t (by omega), show m + 1 - q (9 + k) = m - j by omega]
      · rw [pif_f c, Int.zero_mul]
        exact (sZ_z (fun k k1 k2 => pif_f (fun y => c ⟨k, k1, k2, by omega⟩))).symm
    rw [e1, sZ_swap]
    refine Cgr.su (fun k k1 k2 => ?_)
    have st := V.str k1 k2
    rw [sZ_o (i := q (9 + k) - 1) (by omega) (fun j _ _ j3 => pif_f j3), pif_t rfl]
    have := (Cgr.md N 1).mu (Cgr.rf N (Anq q (m + 1 - q (9 + k))))
    rw [Int.one_mul] at this
    exact this
  · have e1 : sZ (fun j => B i j * Anq q (m - j)) 12 = (1 % N) * Anq q (m - (i - 1)) := by
      rw [sZ_o (i := i - 1) (by omega) (fun k k1 k2 k3 => by
        rw [h i k (by omega) i2 k1 k2, pif_f k3, Int.zero_mul])]
      rw [h i (i - 1) (by omega) i2 (by omega) (by omega), pif_t rfl]
    rw [e1, show m + 1 - i = m - (i - 1) by omega]
    have := (Cgr.md N 1).mu (Cgr.rf N (Anq q (m - (i - 1))))
    rw [Int.one_mul] at this
    exact this
theorem RpC.fin {q : Int → Int} {N n : Int} {B : Int → Int → Int} (h : RpC q N B n) (b : 0 ≤ B 0 0 ∧ B 0 0 < N) : B 0 0 = Anq q n % N := by
  have := h 0 (by omega) 0 (by omega) (by omega)
  rw [sZ_o (i := 0) (by omega) (fun k k1 k2 k3 => by rw [Anq_n q (by omega), Int.mul_zero])] at this
  rw [show (0 : Int) - 0 = 0 by omega, Anq_0, Int.mul_one, show 0 + n - 0 = n by omega] at this
  unfold Cgr at this
  rw [Int.emod_eq_of_lt b.1 b.2] at this
  exact this
/-- a row of numbers that moves by n -/
def RpP (q : Int → Int) (N : Int) (od : Int) (p : Int → Int) (n : Int) : Prop := ∀ m, 0 ≤ m → Cgr N (sZ (fun i => p i * Anq q (m + i)) od) (Anq q (m + n))
theorem RpP.one (q : Int → Int) {N od : Int} {p : Int → Int} (ho : 1 ≤ od) (h : ∀ i, 0 ≤ i → i < od → p i = pif (i = 0) (1 % N) 0) : RpP q N od p 0 := by
  intro m hm
  rw [sZ_o (i := 0) (by omega) (fun k k1 k2 k3 => by rw [h k k1 k2, pif_f k3, Int.zero_mul]), h 0 (by omega) (by omega), pif_t rfl]
  have := (Cgr.md N 1).mu (Cgr.rf N (Anq q (m + 0)))
  rw [Int.one_mul] at this
  exact this
/-- the square of a row, moved -/
theorem RpP.sq {q : Int → Int} {N od n s : Int} {p : Int → Int} (h : RpP q N od p n) (hn : 0 ≤ n) (hs : 0 ≤ s) {m : Int} (hm : 0 ≤ m) : Cgr N (sZ (fun i => sZ (fun k => p i * p k * Anq q (m + (i + k + s))) od) od) (Anq q (m + (2 * n + s))) := by
  have s1 : Cgr N (sZ (fun i => sZ (fun k => p i * p k * Anq q (m + (i + k + s))) od) od) (sZ (fun i => p i * Anq q (m + s + n + i)) od) := by
    refine Cgr.su (fun i i1 i2 => ?_)
    have e : sZ (fun k => p i * p k * Anq q (m + (i + k + s))) od = p i * sZ (fun k => p k * Anq q (m + i + s + k)) od := by
      rw [← sZ_mul']
      refine sZ_c (fun k _ _ => ?_)
      rw [Int.mul_assoc, show m + (i + k + s) = m + i + s + k by omega]
    rw [e]
    have := h (m + i + s) (by omega)
    rw [show m + i + s + n = m + s + n + i by omega] at this
    exact (Cgr.rf _ _).mu this
  have s2 := h (m + s + n) (by omega)
  rw [show m + s + n + n = m + (2 * n + s) by omega] at s2
  exact s1.tr s2
theorem RpP.fin {q : Int → Int} {N od n : Int} {p f : Int → Int} (h : RpP q N od p n) (hf : ∀ i, 0 ≤ i → i < od → f i = Anq q i % N) : sZ (fun i => p i * f i) od % N = Anq q n % N := by
  have s1 : Cgr N (sZ (fun i => p i * f i) od) (sZ (fun i => p i * Anq q (0 + i)) od) := by
    refine Cgr.su (fun i i1 i2 => ?_)
    rw [hf i i1 i2, show 0 + i = i by omega]
    exact (Cgr.rf _ _).mu (Cgr.md _ _)
  have := s1.tr (h 0 (by omega))
  rw [show 0 + n = n by omega] at this
  exact this
