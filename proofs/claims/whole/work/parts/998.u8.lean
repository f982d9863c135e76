/-! lines: strides -/
theorem x_add {d : Nat} (hd : 1 ≤ d) {h : Hp} (X : SX h) {p : Nat} (tt : TO p) {T : Int} (hT : 0 ≤ T ∧ T < 6) (h8 : hI h p 8 = iZ T) {B : Nat} (hB : B < 8192) (h9 : hI h p 9 = iZ B) {s : Int → Int} (hs : ∀ k, 0 ≤ k → k < T → hI h (p + 1) k.toNat = iZ (s k)) (sb : ∀ k, 0 ≤ k → k < T → 1 ≤ s k ∧ s k ≤ 12) (inc : ∀ i j, 0 ≤ i → i < j → j < T → s i < s j) {v : Int} (hv : 1 ≤ v ∧ v ≤ 12) (nv : ∀ k, 0 ≤ k → k < T → s k ≠ v) : ∃ (f : Nat → Int32) (s' : Int → Int), evm d 27 [vR 5 p, vI (iZ v)] h = some (none, sI (sI (wI h (p + 1) f) p 8 (iZ (T + 1))) p 9 (iZ ((B ||| 2 ^ v.toNat : Nat) : Int))) ∧ (∀ k, 0 ≤ k → k < T + 1 → f k.toNat = iZ (s' k)) ∧ (∀ i j, 0 ≤ i → i < j → j < T + 1 → s' i < s' j) ∧ ∀ z, (∃ k, 0 ≤ k ∧ k < T + 1 ∧ s' k = z) ↔ (∃ k, 0 ≤ k ∧ k < T ∧ s k = z) ∨ z = v := by
  obtain ⟨d, rfl⟩ : ∃ e, d = e + 1 := ⟨d - 1, by omega⟩
  have tp : 48 ≤ p := by unfold TO at tt; omega
  have lp : ∀ (m : Nat) (a : Int), a = m → a ≤ T → ∀ f : Nat → Int32, (∀ k, 0 ≤ k → k < a → f k.toNat = iZ (s k)) → (∀ k, a ≤ k → k < T → f (k + 1).toNat = iZ (s k) ∧ v < s k) → ∃ (f' : Nat → Int32) (s' : Int → Int), L_Stair_addStride_26 d p (iZ v) (iZ a) (wI h (p + 1) f) = some (none, sI (sI (wI h (p + 1) f') p 8 (iZ (T + 1))) p 9 (iZ ((B ||| 2 ^ v.toNat : Nat) : Int))) ∧ (∀ k, 0 ≤ k → k < T + 1 → f' k.toNat = iZ (s' k)) ∧ (∀ i j, 0 ≤ i → i < j → j < T + 1 → s' i < s' j) ∧ ∀ z, (∃ k, 0 ≤ k ∧ k < T + 1 ∧ s' k = z) ↔ (∃ k, 0 ≤ k ∧ k < T ∧ s k = z) ∨ z = v := by
    have fin : ∀ (a : Int), 0 ≤ a → a ≤ T → (a = 0 ∨ s (a - 1) < v) → ∀ f : Nat → Int32, (∀ k, 0 ≤ k → k < a → f k.toNat = iZ (s k)) → (∀ k, a ≤ k → k < T → f (k + 1).toNat = iZ (s k) ∧ v < s k) → ∃ (f' : Nat → Int32) (s' : Int → Int), L_Stair_addStride_62 d p (iZ v) (iZ a) (wI h (p + 1) f) = some (none, sI (sI (wI h (p + 1) f') p 8 (iZ (T + 1))) p 9 (iZ ((B ||| 2 ^ v.toNat : Nat) : Int))) ∧ (∀ k, 0 ≤ k → k < T + 1 → f' k.toNat = iZ (s' k)) ∧ (∀ i j, 0 ≤ i → i < j → j < T + 1 → s' i < s' j) ∧ ∀ z, (∃ k, 0 ≤ k ∧ k < T + 1 ∧ s' k = z) ↔ (∃ k, 0 ≤ k ∧ k < T ∧ s k = z) ∨ z = v := by
      intro a a0 aT la f f1 f2
      have lo : ∀ k, 0 ≤ k → k < a → s k < v := by
        intro k k1 k2
        rcases la with y | y
        · omega
        · by_cases e : k = a - 1
          · rw [e]; exact y
          · have := inc k (a - 1) k1 (by omega) (by omega); omega
      refine ⟨up f a.toNat (iZ v), fun k => if k < a then s k else if k = a then v else s (k - 1), ?_, fun k k1 k2 => ?_, fun i j i1 i2 i3 => ?_, fun z => ?_⟩
      · rw [e_Stair_addStride_62]
        have ib : inb (iZ a) 6 = true := (inb_iz (by omega)).mpr (by omega)
        have sh : (1 : Int32) <<< (iZ v &&& 31) = iZ ((2 ^ v.toNat : Nat) : Int) := by
          have := b_one (k := v.toNat) (by omega)
          rw [show ((v.toNat : Nat) : Int) = v by omega] at this
          exact this
        simp only [wI_R, wI_N, X.o0 tt, X.n1 tt, bR_s]
        rw [ifp_t ib, ix_iz (by omega), sI_wI]
        have g8 : hI (wI h (p + 1) (up f a.toNat (iZ v))) p 8 = iZ T := by rw [wI_n _ _ (by omega)]; exact h8
        have g9 : ∀ w, hI (sI (wI h (p + 1) (up f a.toNat (iZ v))) p 8 w) p 9 = iZ B := fun w => by rw [sI_o _ _ (by omega), wI_n _ _ (by omega)]; exact h9
        rw [g8, g9, sh, b_or, show (1 : Int32) = iZ 1 from rfl, iz_add]
      · dsimp only
        by_cases c1 : k < a
        · rw [if_pos c1, up_n _ _ (by omega)]; exact f1 k k1 c1
        · rw [if_neg c1]
          by_cases c2 : k = a
          · rw [if_pos c2, c2, up_e]
          · rw [if_neg c2, up_n _ _ (by omega)]
            have := (f2 (k - 1) (by omega) (by omega)).1
            rw [show k - 1 + 1 = k by omega] at this
            exact this
      · dsimp only
        by_cases c1 : i < a
        · rw [if_pos c1]
          by_cases c2 : j < a
          · rw [if_pos c2]; exact inc i j i1 i2 (by omega)
          · rw [if_neg c2]
            have li := lo i i1 c1
            by_cases c3 : j = a
            · rw [if_pos c3]; exact li
            · rw [if_neg c3]
              have := (f2 (j - 1) (by omega) (by omega)).2
              omega
        · rw [if_neg c1, if_neg (show ¬ j < a by omega), if_neg (show ¬ j = a by omega)]
          by_cases c3 : i = a
          · rw [if_pos c3]
            exact (f2 (j - 1) (by omega) (by omega)).2
          · rw [if_neg c3]; exact inc (i - 1) (j - 1) (by omega) (by omega) (by omega)
      · dsimp only
        constructor
        · rintro ⟨k, k1, k2, k3⟩
          by_cases c1 : k < a
          · rw [if_pos c1] at k3; exact Or.inl ⟨k, k1, by omega, k3⟩
          · rw [if_neg c1] at k3
            by_cases c2 : k = a
            · rw [if_pos c2] at k3; exact Or.inr k3.symm
            · rw [if_neg c2] at k3; exact Or.inl ⟨k - 1, by omega, by omega, k3⟩
        · rintro (⟨k, k1, k2, k3⟩ | y)
          · by_cases c1 : k < a
            · exact ⟨k, k1, by omega, by rw [if_pos c1]; exact k3⟩
            · exact ⟨k + 1, by omega, by omega, by rw [if_neg (by omega), if_neg (by omega), show k + 1 - 1 = k by omega]; exact k3⟩
          · exact ⟨a, a0, by omega, by rw [if_neg (by omega), if_pos rfl]; exact y.symm⟩
    intro m
    induction m with
    | zero =>
      intro a ea aT f f1 f2
      have a0 : a = 0 := by omega
      rw [e_Stair_addStride_26, ifp_f (fun y => by rw [show (0 : Int32) = iZ 0 from rfl] at y; have := (iz_lt (by omega)).mp y; omega)]
      exact fin a (by omega) aT (Or.inl a0) f f1 f2
    | succ m ih =>
      intro a ea aT f f1 f2
      have ibm : inb (iZ (a - 1)) 6 = true := (inb_iz (by omega)).mpr (by omega)
      have iba : inb (iZ a) 6 = true := (inb_iz (by omega)).mpr (by omega)
      have g1 : hI (wI h (p + 1) f) (p + 1) (a - 1).toNat = iZ (s (a - 1)) := by rw [wI_I]; exact f1 (a - 1) (by omega) (by omega)
      have sbm := sb (a - 1) (by omega) (by omega)
      rw [e_Stair_addStride_26, ifp_t (by rw [show (0 : Int32) = iZ 0 from rfl]; exact (iz_lt (by omega)).mpr (by omega))]
      simp only [wI_R, wI_N, X.o0 tt, X.n1 tt, bR_s, show (1 : Int32) = iZ 1 from rfl, iz_sub]
      rw [ifp_t ibm, ix_iz (show 0 ≤ a - 1 ∧ a - 1 < 2147483648 by omega), g1]
      by_cases c : v < s (a - 1)
      · rw [ifp_t ((iz_lt (by omega)).mpr c), ifp_t ibm, ifp_t iba, ix_iz (show 0 ≤ a ∧ a < 2147483648 by omega), sI_wI, iz_neg, iz_add]
        refine ih (a + -1) (by omega) (by omega) _ (fun k k1 k2 => ?_) (fun k k1 k2 => ?_)
        · rw [up_n _ _ (by omega)]; exact f1 k k1 (by omega)
        · by_cases e : k = a - 1
          · rw [e, show (a - 1 + 1).toNat = a.toNat by congr 1; omega, up_e]
            exact ⟨rfl, c⟩
          · rw [up_n _ _ (by omega)]; exact f2 k (by omega) k2
      · rw [ifp_f (fun y => c ((iz_lt (by omega)).mp y))]
        have := nv (a - 1) (by omega) (by omega)
        exact fin a (by omega) aT (Or.inr (by omega)) f f1 f2
  rw [e_Stair_addStride, h8, ifp_t (by rw [show (6 : Int32) = iZ 6 from rfl]; exact (iz_lt (by omega)).mpr (by omega)), ifp_f (fun y => by rw [show (1 : Int32) = iZ 1 from rfl] at y; have := (iz_lt (by omega)).mp y; omega), ifp_f (fun y => by rw [show (12 : Int32) = iZ 12 from rfl] at y; have := (iz_lt (by omega)).mp y; omega)]
  have := lp T.toNat T (by omega) (Int.le_refl _) (hI h (p + 1)) hs (fun k k1 k2 => by omega)
  rw [wI_self] at this
  exact this
/-- what is wrong with a stride -/
noncomputable def sfc (c : Int → Int) (n : Int) (q : Int → Int) (i : Nat) : Int := pif (nfc c n i 1 12 = 0) (pif (Tld q (nvl c n (Tok c n i))) 3 (pif (q 8 = 6) 5 0)) (nfc c n i 1 12)
theorem x_tld {d : Nat} (hd : 1 ≤ d) {h : Hp} {p : Nat} {q : Int → Int} (P : PBt h p q) (V : VPn q) {z : Int} (hz : -2147483648 ≤ z ∧ z < 2147483648) : evm d 28 [vR 5 p, vI (iZ z)] h = some (some (vI (bZ (Tld q z))), h) := by
  obtain ⟨d, rfl⟩ : ∃ e, d = e + 1 := ⟨d - 1, by omega⟩
  rw [e_Stair_tells]
  obtain ⟨B, b1, b2, b3⟩ := P
  simp (disch := omega) only [lit32, litJ, iz_add, iz_sub, iz_mul, iz_neg, nI_iz, ix_iz, inb_iz, ifp_t, ifp_f, ifp_T, ifp_F, iz_eq, iz_lt, bI_s, bL_s, bV_s, bR_s, b2]
  have no : (z < 1 ∨ 12 < z) → ¬ Tld q z := by
    rintro h0 ⟨k, k1, k2, k3⟩
    have := V.2.2.2.2.2.2.2.2.1 k k1 k2
    omega
  refine ifp_r (fun h1 => rb_f (no (Or.inl h1))) (fun h1 => ifp_r (fun h2 => rb_f (no (Or.inr h2))) (fun h2 => ?_))
  have e : z = ((z.toNat : Nat) : Int) := by omega
  have bb := b3 z.toNat
  rw [← e] at bb
  rw [show iZ z = iZ ((z.toNat : Nat) : Int) by rw [← e], ifp_n (b_tst (show B < 2147483648 by omega) (show z.toNat < 32 by omega))]
  refine ifp_r (fun h3 => rb_f (fun t => ?_)) (fun h3 => rb_t ?_)
  · rw [bb.mpr t] at h3; cases h3
  · exact bb.mp (by simpa using h3)
/-- the model looks whether it is told -/
theorem u_dup {e : Nat} (he : 1 ≤ e) {h : Hp} {c : Int → Int} {n : Int} {N i : Nat} (M : JM h c n N i) {q : Int → Int} (P : PMd h q) (V : VPn q) {v : Int} (hv : 1 ≤ v ∧ v ≤ 12) : ∀ k : Int, 0 ≤ k → (∃ j, k ≤ j ∧ j < q 8 ∧ q (9 + j) = v) → ∃ h', L_M_readStride_39 e 68 (iZ (q 8)) (iZ v) (iZ k) h = some (none, h') ∧ pMf h h' ∧ JF h' (3 + 16 * Tok c n i) := by
  have v8 := V.2.2.2.2.2.2.1
  have F := M.fl (k := 3) (by omega)
  have fb := F.2.2
  have nz : ¬ iZ (3 + 16 * Tok c n i) = (0 : Int32) := fun y => by rw [show (0 : Int32) = iZ 0 from rfl] at y; have := (iz_eq (by omega)).mp y; omega
  have aft : ∀ x3 : Int32, L_M_readStride_39 e 68 (iZ (q 8)) (iZ v) x3 (sI h 68 8 (iZ (3 + 16 * Tok c n i))) = some (none, sI h 68 8 (iZ (3 + 16 * Tok c n i))) := by
    intro x3
    have e86 : L_M_readStride_86 e 68 (iZ (q 8)) (iZ v) (sI h 68 8 (iZ (3 + 16 * Tok c n i))) = some (none, sI h 68 8 (iZ (3 + 16 * Tok c n i))) := by
      rw [e_M_readStride_86, F.2.1, ifp_f nz]
    rw [e_M_readStride_39, F.2.1, ifp_f nz, u_wrF he F]
    simp only [bV_s]
    rw [e86]
    exact ifp_r (fun _ => ifp_r (fun _ => rfl) (fun _ => rfl)) (fun _ => ifp_r (fun _ => rfl) (fun _ => rfl))
  refine lpZ (q 8) (fun k hk k0 ex => ?_) (fun k hk ih k0 ex => ?_)
  · obtain ⟨j, j1, j2, _⟩ := ex; omega
  · have g : hI h 74 (79 + k).toNat = iZ (q (9 + k)) := by
      have := P (9 + k) (by omega) (by omega)
      rw [show (70 + (9 + k)).toNat = (79 + k).toNat by congr 1; omega] at this
      exact this
    have sb := V.2.2.2.2.2.2.2.2.1 k k0 hk
    rw [e_M_readStride_39, ifp_t ((iz_lt (by omega)).mpr hk), M.2.2, ifp_t (show iZ 0 = (0 : Int32) from rfl)]
    simp only [(sN74 M.1.1).1, (sN74 M.1.1).2, bR_s, show (79 : Int32) = iZ 79 from rfl, show (1 : Int32) = iZ 1 from rfl, iz_add]
    rw [ifp_t ((inb_iz (by omega)).mpr (by omega)), ix_iz (by omega), g]
    by_cases q9 : q (9 + k) = v
    · rw [ifp_t (by rw [q9]), show (3 : Int32) = iZ 3 from rfl, u_wr he M]
      simp only [bV_s]
      exact ⟨_, aft _, pMf.s _ _ (Or.inr rfl), F⟩
    · rw [ifp_f (fun y => q9 ((iz_eq (by omega)).mp y))]
      refine ih (by omega) ?_
      obtain ⟨j, j1, j2, j3⟩ := ex
      refine ⟨j, ?_, j2, j3⟩
      by_cases ej : j = k
      · subst ej; exact absurd j3 q9
      · omega
theorem u_nodup {e : Nat} {h : Hp} {c : Int → Int} {n : Int} {N i : Nat} (M : JM h c n N i) {q : Int → Int} (P : PMd h q) (V : VPn q) {v : Int} (hv : 1 ≤ v ∧ v ≤ 12) : ∀ k : Int, 0 ≤ k → k ≤ 1000 → (¬ ∃ j, k ≤ j ∧ j < q 8 ∧ q (9 + j) = v) → L_M_readStride_39 e 68 (iZ (q 8)) (iZ v) (iZ k) h = ifp (iZ (q 8) = (6 : Int32)) (bV (evm e 147 [vR 12 68, vI (5 : Int32)] h) fun h1 => L_M_readStride_86 e 68 (iZ (q 8)) (iZ v) h1) (L_M_readStride_86 e 68 (iZ (q 8)) (iZ v) h) := by
  have v8 := V.2.2.2.2.2.2.1
  refine lpZ (q 8) (fun k hk k0 kb ex => ?_) (fun k hk ih k0 kb ex => ?_)
  · rw [e_M_readStride_39, ifp_f (fun y => by have := (iz_lt (by omega)).mp y; omega)]
  · have g : hI h 74 (79 + k).toNat = iZ (q (9 + k)) := by
      have := P (9 + k) (by omega) (by omega)
      rw [show (70 + (9 + k)).toNat = (79 + k).toNat by congr 1; omega] at this
      exact this
    have sb := V.2.2.2.2.2.2.2.2.1 k k0 hk
    rw [e_M_readStride_39, ifp_t ((iz_lt (by omega)).mpr hk), M.2.2, ifp_t (show iZ 0 = (0 : Int32) from rfl)]
    simp only [(sN74 M.1.1).1, (sN74 M.1.1).2, bR_s, show (79 : Int32) = iZ 79 from rfl, show (1 : Int32) = iZ 1 from rfl, iz_add]
    rw [ifp_t ((inb_iz (by omega)).mpr (by omega)), ix_iz (by omega), g]
    rw [ifp_f (fun y => ex ⟨k, Int.le_refl _, hk, (iz_eq (by omega)).mp y⟩)]
    exact ih (by omega) (by omega) (fun ⟨j, j1, j2, j3⟩ => ex ⟨j, by omega, j2, j3⟩)
