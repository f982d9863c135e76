/-! sums -/
theorem sZ_add (f g : Int → Int) (n : Int) : sZ (fun k => f k + g k) n = sZ f n + sZ g n := by
  by_cases hn : 0 ≤ n
  · refine upZ (P := fun n => sZ (fun k => f k + g k) n = sZ f n + sZ g n) ?_ (fun k hk ih => ?_) n hn
    · rw [sZ_0 _ (by omega), sZ_0 _ (by omega), sZ_0 _ (by omega)]; rfl
    · rw [sZ_s _ hk, sZ_s _ hk, sZ_s _ hk, ih]; omega
  · rw [sZ_0 _ (by omega), sZ_0 _ (by omega), sZ_0 _ (by omega)]; rfl
theorem sZ_sub (f g : Int → Int) (n : Int) : sZ (fun k => f k - g k) n = sZ f n - sZ g n := by
  by_cases hn : 0 ≤ n
  · refine upZ (P := fun n => sZ (fun k => f k - g k) n = sZ f n - sZ g n) ?_ (fun k hk ih => ?_) n hn
    · rw [sZ_0 _ (by omega), sZ_0 _ (by omega), sZ_0 _ (by omega)]; rfl
    · rw [sZ_s _ hk, sZ_s _ hk, sZ_s _ hk, ih]; omega
  · rw [sZ_0 _ (by omega), sZ_0 _ (by omega), sZ_0 _ (by omega)]; rfl
theorem sZ_mul (f : Int → Int) (c n : Int) : sZ (fun k => f k * c) n = sZ f n * c := by
  by_cases hn : 0 ≤ n
  · refine upZ (P := fun n => sZ (fun k => f k * c) n = sZ f n * c) ?_ (fun k hk ih => ?_) n hn
    · rw [sZ_0 _ (by omega), sZ_0 _ (by omega), Int.zero_mul]
    · rw [sZ_s _ hk, sZ_s _ hk, ih, Int.add_mul]
  · rw [sZ_0 _ (by omega), sZ_0 _ (by omega), Int.zero_mul]
theorem sZ_mul' (f : Int → Int) (c n : Int) : sZ (fun k => c * f k) n = c * sZ f n := by
  rw [Int.mul_comm, ← sZ_mul]
  exact sZ_c fun k _ _ => Int.mul_comm _ _
theorem sZ_swap (f : Int → Int → Int) (m n : Int) : sZ (fun i => sZ (fun j => f i j) n) m = sZ (fun j => sZ (fun i => f i j) m) n := by
  by_cases hm : 0 ≤ m
  · refine upZ (P := fun m => sZ (fun i => sZ (fun j => f i j) n) m = sZ (fun j => sZ (fun i => f i j) m) n) ?_ (fun k hk ih => ?_) m hm
    · rw [sZ_0 _ (by omega)]
      exact (sZ_z fun k _ _ => sZ_0 _ (by omega)).symm
    · rw [sZ_s _ hk, ih, ← sZ_add]
      exact sZ_c fun j _ _ => (sZ_s _ hk).symm
  · rw [sZ_0 _ (by omega)]
    exact (sZ_z fun k _ _ => sZ_0 _ (by omega)).symm
/-- one more at a place -/
theorem sZ_up {f f' : Int → Int} {n i x : Int} (hi : 0 ≤ i ∧ i < n) (h1 : f' i = f i + x) (h2 : ∀ k, 0 ≤ k → k < n → k ≠ i → f' k = f k) : sZ f' n = sZ f n + x := by
  have e : sZ f' n = sZ (fun k => f k + pif (k = i) x 0) n := by
    refine sZ_c fun k k1 k2 => ?_
    by_cases hk : k = i
    · rw [pif_t hk, hk, h1]
    · rw [pif_f hk, h2 k k1 k2 hk, Int.add_zero]
  rw [e, sZ_add]
  have : ∀ m, 0 ≤ m → sZ (fun k => pif (k = i) x 0) m = pif (i < m) x 0 := by
    refine upZ ?_ (fun k hk ih => ?_)
    · rw [sZ_0 _ (by omega), pif_f (by omega)]
    · rw [sZ_s _ hk, ih]
      rcases Int.lt_trichotomy i k with z | z | z
      · rw [pif_t z, pif_f (by omega), pif_t (by omega), Int.add_zero]
      · rw [pif_f (by omega), pif_t (by omega), pif_t (by omega), Int.zero_add]
      · rw [pif_f (by omega), pif_f (by omega), pif_f (by omega), Int.zero_add]
  rw [this n (by omega), pif_t hi.2]
theorem sZ_1 {f : Int → Int} {n k : Int} (hf : ∀ k, 0 ≤ k → k < n → 0 ≤ f k) (hk : 0 ≤ k ∧ k < n) : f k ≤ sZ f n := by
  have h1 := sZ_m hf (show 0 ≤ k + 1 by omega) (show k + 1 ≤ n by omega) (Int.le_refl n)
  have h2 := sZ_nn (f := f) (n := k) (fun j j1 j2 => hf j j1 (by omega))
  rw [sZ_s _ hk.1] at h1
  omega
/-- more places, all empty -/
theorem sZ_x {f : Int → Int} {m n : Int} (h0 : 0 ≤ m) (h : m ≤ n) (hf : ∀ k, m ≤ k → k < n → f k = 0) : sZ f n = sZ f m := by
  have : ∀ d, 0 ≤ d → m + d ≤ n → sZ f (m + d) = sZ f m := by
    refine upZ (fun _ => by rw [Int.add_zero]) (fun d hd ih hle => ?_)
    rw [← Int.add_assoc, sZ_s _ (by omega), ih (by omega), hf _ (by omega) (by omega), Int.add_zero]
  have := this (n - m) (by omega) (by omega)
  rwa [show m + (n - m) = n by omega] at this
theorem sZ_cat (f : Int → Int) {m n : Int} (h0 : 0 ≤ m) (h1 : 0 ≤ n) : sZ f (m + n) = sZ f m + sZ (fun k => f (m + k)) n := by
  refine upZ (P := fun n => sZ f (m + n) = sZ f m + sZ (fun k => f (m + k)) n) ?_ (fun k hk ih => ?_) n h1
  · rw [Int.add_zero, sZ_0 (fun k => f (m + k)) (by omega), Int.add_zero]
  · rw [← Int.add_assoc, sZ_s _ (by omega), ih, sZ_s _ hk]; omega
theorem sZ_flat (f : Int → Int) {a b : Int} (ha : 0 ≤ a) (hb : 0 ≤ b) : sZ f (a * b) = sZ (fun i => sZ (fun j => f (i * b + j)) b) a := by
  refine upZ (P := fun a => sZ f (a * b) = sZ (fun i => sZ (fun j => f (i * b + j)) b) a) ?_ (fun k hk ih => ?_) a ha
  · rw [Int.zero_mul, sZ_0 _ (by omega), sZ_0 _ (by omega)]
  · rw [Int.add_mul, Int.one_mul, sZ_cat _ (Int.mul_nonneg hk hb) hb, ih, sZ_s _ hk]
/-- shifted up, some fall out -/
theorem sZ_sh {f : Int → Int} {a n : Int} (ha : 0 ≤ a) (hf : ∀ k, 0 ≤ k → 0 ≤ f k) : sZ (fun k => pif (0 ≤ k - a) (f (k - a)) 0) n ≤ sZ f n := by
  by_cases hn : 0 ≤ n
  · have key : ∀ m, 0 ≤ m → sZ (fun k => pif (0 ≤ k - a) (f (k - a)) 0) m = sZ f (m - a) := by
      refine upZ ?_ (fun k hk ih => ?_)
      · rw [sZ_0 _ (by omega), sZ_0 _ (by omega)]
      · rw [sZ_s _ hk, ih]
        by_cases h : 0 ≤ k - a
        · rw [pif_t h, show k + 1 - a = (k - a) + 1 by omega, sZ_s _ h]
        · rw [pif_f h, sZ_0 f (by omega), sZ_0 f (by omega)]; rfl
    rw [key n hn]
    by_cases h : 0 ≤ n - a
    · exact sZ_m (n := n) (fun k h1 _ => hf k h1) h (by omega) (by omega)
    · rw [sZ_0 f (by omega)]; exact sZ_nn fun k h1 _ => hf k h1
  · rw [sZ_0 _ (by omega), sZ_0 _ (by omega)]; omega
/-! a crowd that parts -/
noncomputable def wAll (q v co ca : Int → Int) (s l c g t : Int) : Int := sZ (Wt q v co ca s l c g t) (q 8)
noncomputable def wFst (q v co ca : Int → Int) (s l c g t : Int) : Int := frs (fun k => 0 < Wt q v co ca s l c g t k) (q 8)
noncomputable def wLft (q v co ca : Int → Int) (s l c g t x : Int) : Int := x - sZ (fun k => x * Wt q v co ca s l c g t k / wAll q v co ca s l c g t) (q 8)
/-- how many of x go on with the k-th stride -/
noncomputable def shr (q v co ca : Int → Int) (s l c g t k x : Int) : Int := pif (0 < wAll q v co ca s l c g t) (x * Wt q v co ca s l c g t k / wAll q v co ca s l c g t + pif (k = wFst q v co ca s l c g t) (wLft q v co ca s l c g t x) 0) 0
theorem sZ_div {f : Int → Int} {n a : Int} (ha : 0 < a) (hf : ∀ k, 0 ≤ k → k < n → 0 ≤ f k) : sZ (fun k => f k / a) n ≤ sZ f n / a := by
  by_cases hn : 0 ≤ n
  · have : ∀ m, 0 ≤ m → m ≤ n → sZ (fun k => f k / a) m * a ≤ sZ f m := by
      refine upZ (fun _ => ?_) (fun k hk ih hle => ?_)
      · rw [sZ_0 _ (by omega), sZ_0 _ (by omega), Int.zero_mul]; omega
      · have := ih (by omega)
        rw [sZ_s _ hk, sZ_s _ hk, Int.add_mul]
        have := Int.ediv_mul_le (f k) (show a ≠ 0 by omega)
        omega
    exact Int.le_ediv_of_mul_le ha (this n hn (Int.le_refl _))
  · rw [sZ_0 _ (by omega), sZ_0 _ (by omega)]; rw [Int.zero_ediv]; omega
theorem wAll_b {q v co ca : Int → Int} (V : VS q) {s l c g t : Int} : 0 ≤ wAll q v co ca s l c g t ∧ wAll q v co ca s l c g t ≤ 54 := by
  have vn := V.n
  unfold wAll
  refine ⟨sZ_nn fun k _ _ => (Wt_b q v co ca s l c g t k).1, ?_⟩
  have : ∀ m, 0 ≤ m → sZ (Wt q v co ca s l c g t) m ≤ 9 * m := by
    refine upZ ?_ (fun k hk ih => ?_)
    · rw [sZ_0 _ (by omega)]; omega
    · rw [sZ_s _ hk]; have := (Wt_b q v co ca s l c g t k).2; omega
  have := this (q 8) (by omega)
  omega
theorem shr_0 {q v co ca : Int → Int} {s l c g t k : Int} : shr q v co ca s l c g t k 0 = 0 := by
  unfold shr wLft
  by_cases h : 0 < wAll q v co ca s l c g t
  · rw [pif_t h]
    rw [Int.zero_mul, Int.zero_ediv, sZ_z (fun k _ _ => by rw [Int.zero_mul, Int.zero_ediv])]
    by_cases h2 : k = wFst q v co ca s l c g t
    · rw [pif_t h2]; rfl
    · rw [pif_f h2]; rfl
  · rw [pif_f h]
theorem wLft_b {q v co ca : Int → Int} {s l c g t x : Int} (h0 : 0 ≤ x) (h : 0 < wAll q v co ca s l c g t) : 0 ≤ wLft q v co ca s l c g t x ∧ wLft q v co ca s l c g t x ≤ x := by
  unfold wLft
  have nn : ∀ k, 0 ≤ x * Wt q v co ca s l c g t k := fun k => Int.mul_nonneg h0 (Wt_b q v co ca s l c g t k).1
  have h1 := sZ_div (f := fun k => x * Wt q v co ca s l c g t k) (n := q 8) h (fun k _ _ => nn k)
  rw [sZ_mul'] at h1
  have h2 : x * sZ (Wt q v co ca s l c g t) (q 8) / wAll q v co ca s l c g t = x := by
    show x * wAll q v co ca s l c g t / wAll q v co ca s l c g t = x
    exact Int.mul_ediv_cancel x (by omega)
  rw [h2] at h1
  have h3 : 0 ≤ sZ (fun k => x * Wt q v co ca s l c g t k / wAll q v co ca s l c g t) (q 8) := sZ_nn fun k _ _ => Int.ediv_nonneg (nn k) (by omega)
  omega
theorem shr_b {q v co ca : Int → Int} {s l c g t k x : Int} (h0 : 0 ≤ x) : 0 ≤ shr q v co ca s l c g t k x := by
  unfold shr
  by_cases h : 0 < wAll q v co ca s l c g t
  · rw [pif_t h]
    have h1 : 0 ≤ x * Wt q v co ca s l c g t k / wAll q v co ca s l c g t := Int.ediv_nonneg (Int.mul_nonneg h0 (Wt_b q v co ca s l c g t k).1) (by omega)
    have h2 := wLft_b (s := s) (l := l) (c := c) (g := g) (t := t) h0 h
    by_cases h3 : k = wFst q v co ca s l c g t
    · rw [pif_t h3]; omega
    · rw [pif_f h3]; omega
  · rw [pif_f h]; omega
theorem shr_s {q v co ca : Int → Int} (V : VS q) {s l c g t x : Int} (h0 : 0 ≤ x) : sZ (fun k => shr q v co ca s l c g t k x) (q 8) ≤ x := by
  have vn := V.n
  by_cases h : 0 < wAll q v co ca s l c g t
  · have e : sZ (fun k => shr q v co ca s l c g t k x) (q 8) = sZ (fun k => x * Wt q v co ca s l c g t k / wAll q v co ca s l c g t + pif (k = wFst q v co ca s l c g t) (wLft q v co ca s l c g t x) 0) (q 8) := sZ_c fun k _ _ => by unfold shr; rw [pif_t h]
    rw [e, sZ_add]
    have lb := wLft_b (s := s) (l := l) (c := c) (g := g) (t := t) h0 h
    have e2 : sZ (fun k => pif (k = wFst q v co ca s l c g t) (wLft q v co ca s l c g t x) 0) (q 8) ≤ wLft q v co ca s l c g t x := by
      by_cases hf : 0 ≤ wFst q v co ca s l c g t ∧ wFst q v co ca s l c g t < q 8
      · have := sZ_up (f := fun _ => 0) (f' := fun k => pif (k = wFst q v co ca s l c g t) (wLft q v co ca s l c g t x) 0) (n := q 8) (x := wLft q v co ca s l c g t x) hf (by show pif _ _ _ = _; rw [pif_t rfl, Int.zero_add]) (fun k _ _ hk => pif_f hk)
        rw [this, sZ_z (fun _ _ _ => rfl)]; omega
      · rw [sZ_z (fun k k1 k2 => pif_f (by omega))]; omega
    have e3 : wLft q v co ca s l c g t x = x - sZ (fun k => x * Wt q v co ca s l c g t k / wAll q v co ca s l c g t) (q 8) := rfl
    omega
  · rw [sZ_z (fun k _ _ => by unfold shr; rw [pif_f h])]; exact h0
theorem shr_m {q v co ca : Int → Int} (V : VS q) {s l c g t k x : Int} (hk : 0 ≤ k ∧ k < q 8) (h : ¬ May q v False s l c g t k) : shr q v co ca s l c g t k x = 0 := by
  have w0 : Wt q v co ca s l c g t k = 0 := pif_f h
  unfold shr
  by_cases ha : 0 < wAll q v co ca s l c g t
  · rw [pif_t ha, w0, Int.mul_zero, Int.zero_ediv]
    by_cases h3 : k = wFst q v co ca s l c g t
    · rcases frs_b (fun k => 0 < Wt q v co ca s l c g t k) (q 8) (by have := V.n; omega) with ⟨a, _⟩ | ⟨_, _, a, _⟩
      · have : wFst q v co ca s l c g t = -1 := a
        omega
      · have : 0 < Wt q v co ca s l c g t (wFst q v co ca s l c g t) := a
        rw [← h3, w0] at this; omega
    · rw [pif_f h3]; rfl
  · rw [pif_f ha]
