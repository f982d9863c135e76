/-! ways are not many: at most 2 to the steps that are left -/
theorem sm_b {q : Int → Int} (V : VS q) (D : Nat) (f : Int → Int) (hf : ∀ k, 0 ≤ k → k < q 8 → 0 ≤ f k ∧ (q (9 + k) ≤ D → f k ≤ (2 : Int) ^ (D - (q (9 + k)).toNat)) ∧ (¬ q (9 + k) ≤ D → f k = 0)) :
    ∀ m, 0 ≤ m → m ≤ q 8 → ∀ j : Nat, (∀ k, 0 ≤ k → k < m → q (9 + k) ≤ j) → sZ f m + (2 : Int) ^ (D - j) ≤ 2 ^ D := by
  have mono : ∀ a b : Nat, a ≤ b → (2 : Int) ^ a ≤ 2 ^ b := by
    intro a b hab
    have := Nat.pow_le_pow_right (n := 2) (by decide) hab
    exact_mod_cast this
  refine upZ (fun _ j _ => ?_) (fun m hm ih hle j hj => ?_)
  · rw [sZ_0 _ (by omega)]
    have := mono (D - j) D (by omega)
    omega
  · obtain ⟨f1, f2, f3⟩ := hf m hm (by omega)
    have vs := V.str hm (by omega : m < q 8)
    have hjm := hj m hm (by omega)
    have i1 := ih (by omega) ((q (9 + m)).toNat - 1) (fun k k1 k2 => by have := V.inc k1 k2 (by omega : m < q 8); omega)
    rw [sZ_s _ hm]
    by_cases hd : q (9 + m) ≤ D
    · have := f2 hd
      have e : D - ((q (9 + m)).toNat - 1) = (D - (q (9 + m)).toNat) + 1 := by omega
      rw [e, Int.pow_succ] at i1
      have := mono (D - j) (D - (q (9 + m)).toNat) (by omega)
      omega
    · rw [f3 hd]
      have e : D - ((q (9 + m)).toNat - 1) = 0 := by omega
      have e2 : D - j = 0 := by omega
      rw [e] at i1
      rw [e2]
      omega
theorem Wf_b {q v : Int → Int} (V : VS q) {u : Prop} {e : Int → Prop} : ∀ (n : Nat) (s l c g t : Int), s ≤ q 0 → 0 ≤ Wf q v u e n s l c g t ∧ Wf q v u e n s l c g t ≤ 2 ^ (q 0 - s).toNat := by
  have pos : ∀ n : Nat, (1 : Int) ≤ 2 ^ n := by
    intro n
    have := Nat.one_le_two_pow (n := n)
    exact_mod_cast this
  intro n
  induction n with
  | zero =>
    intro s l c g t hs
    have := pos (q 0 - s).toNat
    show (0 : Int) ≤ 0 ∧ (0 : Int) ≤ _
    omega
  | succ n ih =>
    intro s l c g t hs
    rw [Wf]
    have p := pos (q 0 - s).toNat
    by_cases h1 : s = q 0
    · rw [pif_t h1]
      by_cases h2 : e t
      · rw [pif_t h2]; omega
      · rw [pif_f h2]; omega
    · rw [pif_f h1]
      have hf : ∀ k, 0 ≤ k → k < q 8 → 0 ≤ (fun k => pif (May q v u s l c g t k) (Wf q v u e n (s + q (9 + k)) (k + 1) (nxC q s c k) (nxG q g k) (t + 1)) 0) k ∧ (q (9 + k) ≤ ((q 0 - s).toNat : Nat) → (fun k => pif (May q v u s l c g t k) (Wf q v u e n (s + q (9 + k)) (k + 1) (nxC q s c k) (nxG q g k) (t + 1)) 0) k ≤ (2 : Int) ^ ((q 0 - s).toNat - (q (9 + k)).toNat)) ∧ (¬ q (9 + k) ≤ ((q 0 - s).toNat : Nat) → (fun k => pif (May q v u s l c g t k) (Wf q v u e n (s + q (9 + k)) (k + 1) (nxC q s c k) (nxG q g k) (t + 1)) 0) k = 0) := by
        intro k k1 k2
        have vs := V.str k1 k2
        show 0 ≤ pif _ _ _ ∧ (_ → pif _ _ _ ≤ _) ∧ (_ → pif _ _ _ = 0)
        by_cases hm : May q v u s l c g t k
        · have i := ih (s + q (9 + k)) (k + 1) (nxC q s c k) (nxG q g k) (t + 1) hm.1
          rw [pif_t hm]
          refine ⟨i.1, fun hd => ?_, fun hd => ?_⟩
          · have e : (q 0 - s).toNat - (q (9 + k)).toNat = (q 0 - (s + q (9 + k))).toNat := by omega
            rw [e]; exact i.2
          · have := hm.1; omega
        · rw [pif_f hm]
          refine ⟨Int.le_refl _, fun _ => ?_, fun _ => rfl⟩
          have := pos ((q 0 - s).toNat - (q (9 + k)).toNat)
          omega
      refine ⟨sZ_nn fun k k1 k2 => (hf k k1 k2).1, ?_⟩
      have b := sm_b V (q 0 - s).toNat _ hf (q 8) (by have := V.n; omega) (Int.le_refl _) 12 (fun k k1 k2 => by have := V.str k1 k2; omega)
      have := pos ((q 0 - s).toNat - 12)
      omega
theorem Wy_b {q v : Int → Int} (V : VS q) {u : Prop} {e : Int → Prop} {s l c g t : Int} (h0 : 0 ≤ s) (hs : s ≤ q 0) : 0 ≤ Wy q v u e s l c g t ∧ Wy q v u e s l c g t ≤ 1099511627776 := by
  obtain ⟨a, b⟩ := Wf_b (v := v) V (u := u) (e := e) 41 s l c g t hs
  refine ⟨a, Int.le_trans b ?_⟩
  have v1 := V.top
  have h := Nat.pow_le_pow_right (n := 2) (by decide) (show (q 0 - s).toNat ≤ 40 by omega)
  have h2 : (2 : Nat) ^ 40 = 1099511627776 := by decide
  rw [h2] at h
  have h3 := Int.ofNat_le.mpr h
  rw [Int.natCast_pow] at h3
  exact h3
/-- lawful ways by the k-th of the strides -/
noncomputable def Wk (q v : Int → Int) (u : Prop) (e : Int → Prop) (s l c g t : Int) (k : Int) : Int := pif (May q v u s l c g t k) (Wy q v u e (s + q (9 + k)) (k + 1) (nxC q s c k) (nxG q g k) (t + 1)) 0
theorem Wy_k {q v : Int → Int} (V : VS q) {u : Prop} {e : Int → Prop} {s l c g t : Int} (h0 : 0 ≤ s) (h1 : s < q 0) : Wy q v u e s l c g t = sZ (Wk q v u e s l c g t) (q 8) := by
  rw [Wy_e V h0 (by omega), pif_f (by omega)]
  rfl
theorem Wk_b {q v : Int → Int} (V : VS q) {u : Prop} {e : Int → Prop} {s l c g t k : Int} (h0 : 0 ≤ s) (h1 : 0 ≤ k) (h2 : k < q 8) : 0 ≤ Wk q v u e s l c g t k ∧ Wk q v u e s l c g t k ≤ 1099511627776 := by
  unfold Wk
  have := V.str h1 h2
  by_cases hm : May q v u s l c g t k
  · rw [pif_t hm]; exact Wy_b V (by omega) hm.1
  · rw [pif_f hm]; omega
theorem sZ_m {f : Int → Int} {n : Int} (hf : ∀ k, 0 ≤ k → k < n → 0 ≤ f k) {a b : Int} (h1 : 0 ≤ a) (h2 : a ≤ b) (h3 : b ≤ n) : sZ f a ≤ sZ f b := by
  have : ∀ d, 0 ≤ d → a + d ≤ n → sZ f a ≤ sZ f (a + d) := by
    refine upZ (fun _ => by rw [Int.add_zero]; exact Int.le_refl _) (fun d hd ih hle => ?_)
    have := ih (by omega)
    have := hf (a + d) (by omega) (by omega)
    rw [show a + (d + 1) = a + d + 1 by omega, sZ_s _ (by omega)]
    omega
  have := this (b - a) (by omega) (by omega)
  rwa [show a + (b - a) = b by omega] at this
/-- the stride of a number -/
def xPk (A : Int → Int) (n x k : Int) : Prop := 0 ≤ k ∧ k < n ∧ sZ A k ≤ x ∧ x < sZ A (k + 1)
theorem xPk_u {A : Int → Int} {n x k k' : Int} (hA : ∀ k, 0 ≤ k → k < n → 0 ≤ A k) (h : xPk A n x k) (h' : xPk A n x k') : k = k' := by
  obtain ⟨a1, a2, a3, a4⟩ := h
  obtain ⟨b1, b2, b3, b4⟩ := h'
  rcases Int.lt_trichotomy k k' with z | z | z
  · have := sZ_m hA (show 0 ≤ k + 1 by omega) (show k + 1 ≤ k' by omega) (by omega); omega
  · exact z
  · have := sZ_m hA (show 0 ≤ k' + 1 by omega) (show k' + 1 ≤ k by omega) (by omega); omega
noncomputable def xpk (A : Int → Int) (n x : Int) : Int := @dite _ (∃ k, xPk A n x k) (Classical.propDecidable _) (fun h => Classical.choose h) (fun _ => -1)
theorem xpk_e {A : Int → Int} {n x k : Int} (hA : ∀ k, 0 ≤ k → k < n → 0 ≤ A k) (h : xPk A n x k) : xpk A n x = k := by
  have e : xpk A n x = Classical.choose (⟨k, h⟩ : ∃ k, xPk A n x k) := dif_pos ⟨k, h⟩
  rw [e]
  exact xPk_u hA (Classical.choose_spec (⟨k, h⟩ : ∃ k, xPk A n x k)) h
/-- there is one -/
theorem xPk_x {A : Int → Int} {n x : Int} (h0 : 0 ≤ x) (h1 : x < sZ A n) : ∃ k, xPk A n x k := by
  by_cases hn : 0 ≤ n
  · have : ∀ m, 0 ≤ m → m ≤ n → x < sZ A m → ∃ k, xPk A n x k := by
      refine upZ (fun _ h => ?_) (fun k hk ih hle h => ?_)
      · rw [sZ_0 A (by omega)] at h; omega
      · by_cases hx : x < sZ A k
        · exact ih (by omega) hx
        · exact ⟨k, hk, by omega, by omega, h⟩
    exact this n hn (Int.le_refl _) h1
  · rw [sZ_0 A (by omega)] at h1; omega
/-- the i-th stride from a node of the way of a number -/
noncomputable def SA (q v : Int → Int) (e : Int → Prop) : Nat → Int → Int → Int → Int → Int → Int → Int
  | 0, s, l, c, g, t, x => pif (s = q 0) (-1) (q (9 + xpk (Wk q v False e s l c g t) (q 8) x))
  | i + 1, s, l, c, g, t, x => pif (s = q 0) (-1) (SA q v e i (s + q (9 + xpk (Wk q v False e s l c g t) (q 8) x)) (xpk (Wk q v False e s l c g t) (q 8) x + 1) (nxC q s c (xpk (Wk q v False e s l c g t) (q 8) x)) (nxG q g (xpk (Wk q v False e s l c g t) (q 8) x)) (t + 1) (x - sZ (Wk q v False e s l c g t) (xpk (Wk q v False e s l c g t) (q 8) x)))
