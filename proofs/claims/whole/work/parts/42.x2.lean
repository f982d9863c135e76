/-! the law of mood -/
theorem lpN {P : Nat → Prop} {N : Nat} (hx : P N) (hs : ∀ k, k < N → P (k + 1) → P k) : ∀ k, k ≤ N → P k := by
  have key : ∀ n k, N - k = n → k ≤ N → P k := by
    intro n
    induction n with
    | zero => intro k h1 h2; have : k = N := by omega
              rw [this]; exact hx
    | succ n ih => intro k h1 h2; exact hs k (by omega) (ih (k + 1) (by omega) (by omega))
  exact fun k hk => key _ k rfl hk
noncomputable def ib (k : Int) (a b : Int32) : Int32 := if k = 4 then a + b else if k = 5 then a - b else if k = 6 then a * b else if k = 7 then bZ (a < b) else if k = 8 then bZ (a = b) else if k = 9 then bZ (a ≠ iZ 0 ∧ b ≠ iZ 0) else bZ (a ≠ iZ 0 ∨ b ≠ iZ 0)
theorem m_both (d : Nat) {h : Hp} {k : Int} {a b : Int32} (hk : 4 ≤ k ∧ k ≤ 10) : evm (d + 1) 175 [vI (iZ k), vI a, vI b] h = some (some (vI (ib k a b)), h) := by
  rw [e_M_both]
  rw [e_M_both_74, e_M_both_88]
  unfold ib
  have c : k = 4 ∨ k = 5 ∨ k = 6 ∨ k = 7 ∨ k = 8 ∨ k = 9 ∨ k = 10 := by omega
  rcases c with rfl | rfl | rfl | rfl | rfl | rfl | rfl <;> simp (disch := omega) only [lit32, litJ, iz_add, iz_sub, iz_mul, iz_neg, nI_iz, ix_iz, inb_iz, ifp_t, ifp_f, ifp_T, ifp_F, iz_eq, iz_lt, bI_s, bL_s, bV_s, bR_s, Int.reduceAdd, Int.reduceEq, if_true, if_false]
  · exact ifp_r (fun y => rb_t y) (fun y => rb_f y)
  · exact ifp_r (fun y => rb_t y) (fun y => rb_f y)
  · exact ifp_r (fun y => rb_f (fun z => z.1 y)) (fun y => ifp_r (fun y' => rb_f (fun z => z.2 y')) (fun y' => rb_t ⟨y, y'⟩))
  · exact ifp_r (fun y => ifp_r (fun y' => rb_f (fun z => z.elim (fun z => z y) (fun z => z y'))) (fun y' => rb_t (Or.inr y'))) (fun y => rb_t (Or.inl y))
theorem x_joined (d : Nat) {h : Hp} {k : Int} {a b : Int32} (hk : 4 ≤ k ∧ k ≤ 10) : evm (d + 1) 15 [vI (iZ (-(k + 2))), vI a, vI b] h = some (some (vI (ib k a b)), h) := by
  rw [e_Mood_joined]
  rw [e_Mood_joined_74, e_Mood_joined_88]
  unfold ib
  have c : k = 4 ∨ k = 5 ∨ k = 6 ∨ k = 7 ∨ k = 8 ∨ k = 9 ∨ k = 10 := by omega
  rcases c with rfl | rfl | rfl | rfl | rfl | rfl | rfl <;> simp (disch := omega) only [lit32, litJ, iz_add, iz_sub, iz_mul, iz_neg, nI_iz, ix_iz, inb_iz, ifp_t, ifp_f, ifp_T, ifp_F, iz_eq, iz_lt, bI_s, bL_s, bV_s, bR_s, Int.reduceAdd, Int.reduceNeg, Int.reduceEq, if_true, if_false]
  · exact ifp_r (fun y => rb_t y) (fun y => rb_f y)
  · exact ifp_r (fun y => rb_t y) (fun y => rb_f y)
  · exact ifp_r (fun y => rb_f (fun z => z.1 y)) (fun y => ifp_r (fun y' => rb_f (fun z => z.2 y')) (fun y' => rb_t ⟨y, y'⟩))
  · exact ifp_r (fun y => ifp_r (fun y' => rb_f (fun z => z.elim (fun z => z y) (fun z => z y'))) (fun y' => rb_t (Or.inr y'))) (fun y => rb_t (Or.inl y))
def hgt (co : Int → Int) : Nat → Nat
  | 0 => 0
  | i + 1 => if co i = 1 ∨ co i = 2 then hgt co i + 1 else if co i = 3 then hgt co i else hgt co i - 1
noncomputable def stk (co ca : Int → Int) (F : Int → Int32) : Nat → Nat → Int32
  | 0, _ => 0
  | i + 1, j => if co i = 1 ∨ co i = 2 then (if j = hgt co i then (if co i = 1 then iZ (ca i) else F (ca i)) else stk co ca F i j) else if co i = 3 then (if j = hgt co i - 1 then bZ (stk co ca F i j = iZ 0) else stk co ca F i j) else if j = hgt co i - 2 then ib (co i) (stk co ca F i j) (stk co ca F i (j + 1)) else stk co ca F i j
/-- a code that stands -/
def WFc (co ca : Int → Int) (n : Nat) : Prop := (1 ≤ n ∧ n ≤ 1000 ∧ co n = 0 ∧ hgt co n = 1) ∧ ∀ i : Nat, i < n → (1 ≤ co i ∧ co i ≤ 10) ∧ (co i = 1 → 0 ≤ ca i ∧ ca i ≤ 9999) ∧ (co i = 2 → 0 ≤ ca i ∧ ca i ≤ 3) ∧ (co i = 3 → 1 ≤ hgt co i) ∧ (4 ≤ co i → 2 ≤ hgt co i) ∧ hgt co i < 31
theorem m_worthL (d : Nat) {h : Hp} (S : SM h) {co ca : Int → Int} {n : Nat} (W : WFc co ca n) (h1 : ∀ i : Nat, i ≤ n → hI h 75 i = iZ (co i)) (h2 : ∀ i : Nat, i < n → hI h 76 i = iZ (ca i)) {F : Int → Int32} (hF : ∀ k : Nat, k < 4 → hI h 77 k = F k) : ∀ i, i ≤ n → ∀ P : Nat → Int32, (∀ j, j < hgt co i → P j = stk co ca F i j) → ∃ P', L_M_worthAt_4 (d + 1) 68 (iZ (hgt co i)) (iZ i) (wI h 78 P) = some (some (vI (stk co ca F n 0)), wI h 78 P') := by
  obtain ⟨⟨w1, w2, w3, w4⟩, w5⟩ := W
  refine lpN (fun P hP => ?_) (fun i hi ih P hP => ?_)
  · have S' : SM (wI h 78 P) := S
    rw [e_M_worthAt_4]
    have e := h1 n (Nat.le_refl _)
    rw [w3] at e
    simp (disch := omega) only [S'.r 11 75, S'.n 75 2200, S'.r 16 78, S'.n 78 1100, wI_n h P (show 75 ≠ 78 by decide), wI_I, lit32, litJ, iz_add, iz_sub, iz_mul, iz_neg, nI_iz, ix_iz, inb_iz, ifp_t, ifp_f, ifp_T, ifp_F, iz_eq, iz_lt, bI_s, bL_s, bV_s, bR_s, Int.toNat_natCast, e, Int.toNat_zero]
    exact ⟨P, by rw [hP 0 (by omega)]⟩
  · have S' : SM (wI h 78 P) := S
    obtain ⟨⟨a1, a2⟩, a3, a4, a5, a6, a7⟩ := w5 i hi
    have e := h1 i (by omega)
    have e2 := h2 i hi
    rw [e_M_worthAt_4]
    simp (disch := omega) only [S'.r 11 75, S'.n 75 2200, wI_n h P (show 75 ≠ 78 by decide), lit32, litJ, iz_add, iz_sub, iz_mul, iz_neg, nI_iz, ix_iz, inb_iz, ifp_t, ifp_f, ifp_T, ifp_F, iz_eq, iz_lt, bI_s, bL_s, bV_s, bR_s, Int.toNat_natCast, e]
    have c12 : co i = 1 ∨ co i = 2 → ∃ P', L_M_worthAt_33 (d + 1) 68 (iZ (hgt co i)) (iZ i) (iZ (co i)) (wI h 78 P) = some (some (vI (stk co ca F n 0)), wI h 78 P') := by
      intro c
      have eh : hgt co (i + 1) = hgt co i + 1 := by rw [hgt, if_pos c]
      have go : ∀ x, x = (if co i = 1 then iZ (ca i) else F (ca i)) → ∃ P', L_M_worthAt_4 (d + 1) 68 (iZ ((hgt co i : Int) + 1)) (iZ ((i : Int) + 1)) (wI h 78 (up P (hgt co i) x)) = some (some (vI (stk co ca F n 0)), wI h 78 P') := by
        intro x hx
        have := ih (up P (hgt co i) x) (fun j hj => ?_)
        · rw [eh] at this; exact this
        · rw [stk, if_pos c]
          by_cases ej : j = hgt co i
          · rw [if_pos ej, ej, up_e, hx]
          · rw [if_neg ej, up_n _ _ ej, hP j (by omega)]
      rw [e_M_worthAt_33]
      rcases c with c | c
      · have a3' := a3 c
        simp (disch := omega) only [S'.r 16 78, S'.n 78 1100, S'.r 12 76, S'.n 76 2200, wI_n h P (show 76 ≠ 78 by decide), lit32, litJ, iz_add, iz_sub, iz_mul, iz_neg, nI_iz, ix_iz, inb_iz, ifp_t, ifp_f, ifp_T, ifp_F, iz_eq, iz_lt, bI_s, bL_s, bV_s, bR_s, Int.toNat_natCast, e2, sI_wI]
        exact go _ (by rw [if_pos c])
      · have a4' := a4 c
        have e3 := hF (ca i).toNat (by omega)
        simp (disch := omega) only [S'.r 16 78, S'.n 78 1100, S'.r 12 76, S'.n 76 2200, S'.r 15 77, S'.n 77 4, wI_n h P (show 76 ≠ 78 by decide), wI_n h P (show 77 ≠ 78 by decide), lit32, litJ, iz_add, iz_sub, iz_mul, iz_neg, nI_iz, ix_iz, inb_iz, ifp_t, ifp_f, ifp_T, ifp_F, iz_eq, iz_lt, bI_s, bL_s, bV_s, bR_s, Int.toNat_natCast, e2, sI_wI, e3]
        exact go _ (by rw [if_neg (by omega), show ((ca i).toNat : Int) = ca i by omega])
    by_cases c1 : co i = 1
    · rw [ifp_t c1]; exact c12 (Or.inl c1)
    · rw [ifp_f c1]
      by_cases c2 : co i = 2
      · rw [ifp_t c2]; exact c12 (Or.inr c2)
      · rw [ifp_f c2, e_M_worthAt_71]
        by_cases c3 : co i = 3
        · have a5' := a5 c3
          have eh : hgt co (i + 1) = hgt co i := by rw [hgt, if_neg (by omega), if_pos c3]
          have et : ((hgt co i : Int) - 1).toNat = hgt co i - 1 := by omega
          have go : ∀ x, x = bZ (stk co ca F i (hgt co i - 1) = iZ 0) → ∃ P', L_M_worthAt_4 (d + 1) 68 (iZ (hgt co i)) (iZ ((i : Int) + 1)) (wI h 78 (up P (hgt co i - 1) x)) = some (some (vI (stk co ca F n 0)), wI h 78 P') := by
            intro x hx
            have := ih (up P (hgt co i - 1) x) (fun j hj => ?_)
            · rw [eh] at this; exact this
            · rw [stk, if_neg (by omega), if_pos c3]
              by_cases ej : j = hgt co i - 1
              · rw [if_pos ej, ej, up_e, hx]
              · rw [if_neg ej, up_n _ _ ej, hP j (by omega)]
          simp (disch := omega) only [S'.r 16 78, S'.n 78 1100, lit32, litJ, iz_add, iz_sub, iz_mul, iz_neg, nI_iz, ix_iz, inb_iz, ifp_t, ifp_f, ifp_T, ifp_F, iz_eq, iz_lt, bI_s, bL_s, bV_s, bR_s, et, sI_wI, wI_I]
          rw [hP (hgt co i - 1) (by omega)]
          by_cases c4 : stk co ca F i (hgt co i - 1) = iZ 0
          · rw [ifp_t c4]; exact go _ (bZ_t c4).symm
          · rw [ifp_f c4]; exact go _ (bZ_f c4).symm
        · have a6' := a6 (by omega)
          have eh : hgt co (i + 1) = hgt co i - 1 := by rw [hgt, if_neg (by omega), if_neg c3]
          have et : ((hgt co i : Int) + -1).toNat = hgt co i - 1 := by omega
          have et2 : ((hgt co i : Int) + -1 - 1).toNat = hgt co i - 2 := by omega
          simp (disch := omega) only [S'.r 16 78, S'.n 78 1100, lit32, litJ, iz_add, iz_sub, iz_mul, iz_neg, nI_iz, ix_iz, inb_iz, ifp_t, ifp_f, ifp_T, ifp_F, iz_eq, iz_lt, bI_s, bL_s, bV_s, bR_s, et, et2, wI_I]
          rw [m_both d (by omega), bI_s]
          simp (disch := omega) only [S'.r 16 78, S'.n 78 1100, lit32, litJ, iz_add, iz_sub, iz_mul, iz_neg, nI_iz, ix_iz, inb_iz, ifp_t, ifp_f, ifp_T, ifp_F, iz_eq, iz_lt, bI_s, bL_s, bV_s, bR_s, et, et2, wI_I, sI_wI]
          rw [hP (hgt co i - 2) (by omega), hP (hgt co i - 1) (by omega)]
          have := ih (up P (hgt co i - 2) (ib (co i) (stk co ca F i (hgt co i - 2)) (stk co ca F i (hgt co i - 1)))) (fun j hj => ?_)
          · rw [eh, show ((hgt co i - 1 : Nat) : Int) = (hgt co i : Int) + -1 by omega] at this; exact this
          · rw [stk, if_neg (by omega), if_neg c3]
            by_cases ej : j = hgt co i - 2
            · rw [if_pos ej, ej, up_e, show hgt co i - 2 + 1 = hgt co i - 1 by omega]
            · rw [if_neg ej, up_n _ _ ej, hP j (by omega)]
def deed (a b : Int) : Int := if a = 1 then b else if a = 2 then -(1 + b) else -(a + 2)
def fct (z la s t : Int) : Int → Int32 := fun k => iZ (if k = 0 then z else if k = 1 then la else if k = 2 then s else t)
theorem x_fact (d : Nat) {h : Hp} {a b z la s t : Int} (c : a = 1 ∧ 0 ≤ b ∧ b ≤ 9999 ∨ a = 2 ∧ 0 ≤ b ∧ b ≤ 3) : evm (d + 1) 14 [vI (iZ (deed a b)), vI (iZ z), vI (iZ la), vI (iZ s), vI (iZ t)] h = some (some (vI (if a = 1 then iZ b else fct z la s t b)), h) := by
  rw [e_Mood_fact]
  unfold deed fct
  rcases c with ⟨rfl, c⟩ | ⟨rfl, c⟩
  · simp only [if_true]
    simp (disch := omega) only [lit32, litJ, iz_add, iz_sub, iz_mul, iz_neg, nI_iz, ix_iz, inb_iz, ifp_t, ifp_f, ifp_T, ifp_F, iz_eq, iz_lt, bI_s, bL_s, bV_s, bR_s]
  · have : b = 0 ∨ b = 1 ∨ b = 2 ∨ b = 3 := by omega
    rcases this with rfl | rfl | rfl | rfl <;> simp (disch := omega) only [lit32, litJ, iz_add, iz_sub, iz_mul, iz_neg, nI_iz, ix_iz, inb_iz, ifp_t, ifp_f, ifp_T, ifp_F, iz_eq, iz_lt, bI_s, bL_s, bV_s, bR_s, Int.reduceAdd, Int.reduceNeg, Int.reduceEq, if_true, if_false]
theorem x_moodL (d : Nat) {h : Hp} (S : SX h) {o : Nat} (t : TO o) {co ca : Int → Int} {n : Nat} (W : WFc co ca n) (h0 : hI h (o + 7) 2 = iZ n) (h1 : ∀ i : Nat, i < n → hI h (o + 8) i = iZ (deed (co i) (ca i))) {z la s b : Int} : ∀ i, i ≤ n → ∀ P : Nat → Int32, (∀ j, j < hgt co i → P j = stk co ca (fct z la s b) i j) → ∃ P', L_Mood_of_15 (d + 1) (o + 7) (iZ z) (iZ la) (iZ s) (iZ b) (iZ (hgt co i)) (iZ i) (wI h (o + 9) P) = some (some (vI (stk co ca (fct z la s b) n 0)), wI h (o + 9) P') := by
  obtain ⟨⟨w1, w2, w3, w4⟩, w5⟩ := W
  refine lpN (fun P hP => ?_) (fun i hi ih P hP => ?_)
  · have S' : SX (wI h (o + 9) P) := S
    rw [e_Mood_of_15]
    simp (disch := omega) only [S'.d1 t, S'.n9 t, wI_n h P (show o + 7 ≠ o + 9 by omega), h0, wI_I, lit32, litJ, iz_add, iz_sub, iz_mul, iz_neg, nI_iz, ix_iz, inb_iz, ifp_t, ifp_f, ifp_T, ifp_F, iz_eq, iz_lt, bI_s, bL_s, bV_s, bR_s, Int.toNat_zero]
    exact ⟨P, by rw [hP 0 (by omega)]⟩
  · have S' : SX (wI h (o + 9) P) := S
    obtain ⟨⟨a1, a2⟩, a3, a4, a5, a6, a7⟩ := w5 i hi
    have e := h1 i hi
    have db : deed (co i) (ca i) = if co i ≤ 2 then (if co i = 1 then ca i else -(1 + ca i)) else -(co i + 2) := by
      unfold deed
      by_cases c1 : co i = 1
      · rw [if_pos c1, if_pos (by omega), if_pos c1]
      · rw [if_neg c1]
        by_cases c2 : co i = 2
        · rw [if_pos c2, if_pos (by omega), if_neg c1]
        · rw [if_neg c2, if_neg (by omega)]
    rw [e_Mood_of_15]
    by_cases c : co i ≤ 2
    · have c' : co i = 1 ∨ co i = 2 := by omega
      have bd : -5 < deed (co i) (ca i) ∧ deed (co i) (ca i) ≤ 9999 := by
        rw [db, if_pos c]
        by_cases c1 : co i = 1
        · rw [if_pos c1]; have := a3 c1; omega
        · rw [if_neg c1]; have := a4 (by omega); omega
      have eh : hgt co (i + 1) = hgt co i + 1 := by rw [hgt, if_pos c']
      simp (disch := omega) only [S'.d0 t, S'.d1 t, S'.n8 t, S'.n9 t, wI_n h P (show o + 7 ≠ o + 9 by omega), wI_n h P (show o + 8 ≠ o + 9 by omega), h0, lit32, litJ, iz_add, iz_sub, iz_mul, iz_neg, nI_iz, ix_iz, inb_iz, ifp_t, ifp_f, ifp_T, ifp_F, iz_eq, iz_lt, bI_s, bL_s, bV_s, bR_s, Int.toNat_natCast, e]
      rw [x_fact d (by omega), bI_s]
      simp (disch := omega) only [S'.n9 t, lit32, litJ, iz_add, iz_sub, iz_mul, iz_neg, nI_iz, ix_iz, inb_iz, ifp_t, ifp_f, ifp_T, ifp_F, iz_eq, iz_lt, bI_s, bL_s, bV_s, bR_s, Int.toNat_natCast, sI_wI]
      have := ih (up P (hgt co i) (if co i = 1 then iZ (ca i) else fct z la s b (ca i))) (fun j hj => ?_)
      · rw [eh] at this; exact this
      · rw [stk, if_pos c']
        by_cases ej : j = hgt co i
        · rw [if_pos ej, ej, up_e]
        · rw [if_neg ej, up_n _ _ ej, hP j (by omega)]
    · have bd : deed (co i) (ca i) = -(co i + 2) := by rw [db, if_neg c]
      rw [bd] at e
      simp (disch := omega) only [S'.d0 t, S'.d1 t, S'.n8 t, S'.n9 t, wI_n h P (show o + 7 ≠ o + 9 by omega), wI_n h P (show o + 8 ≠ o + 9 by omega), h0, lit32, litJ, iz_add, iz_sub, iz_mul, iz_neg, nI_iz, ix_iz, inb_iz, ifp_t, ifp_f, ifp_T, ifp_F, iz_eq, iz_lt, bI_s, bL_s, bV_s, bR_s, Int.toNat_natCast, e]
      rw [e_Mood_of_85]
      by_cases c3 : co i = 3
      · have a5' := a5 c3
        have eh : hgt co (i + 1) = hgt co i := by rw [hgt, if_neg (by omega), if_pos c3]
        have et : ((hgt co i : Int) - 1).toNat = hgt co i - 1 := by omega
        have go : ∀ x, x = bZ (stk co ca (fct z la s b) i (hgt co i - 1) = iZ 0) → ∃ P', L_Mood_of_15 (d + 1) (o + 7) (iZ z) (iZ la) (iZ s) (iZ b) (iZ (hgt co i)) (iZ ((i : Int) + 1)) (wI h (o + 9) (up P (hgt co i - 1) x)) = some (some (vI (stk co ca (fct z la s b) n 0)), wI h (o + 9) P') := by
          intro x hx
          have := ih (up P (hgt co i - 1) x) (fun j hj => ?_)
          · rw [eh] at this; exact this
          · rw [stk, if_neg (by omega), if_pos c3]
            by_cases ej : j = hgt co i - 1
            · rw [if_pos ej, ej, up_e, hx]
            · rw [if_neg ej, up_n _ _ ej, hP j (by omega)]
        simp (disch := omega) only [lit32, litJ, iz_add, iz_sub, iz_mul, iz_neg, nI_iz, ix_iz, inb_iz, ifp_t, ifp_f, ifp_T, ifp_F, iz_eq, iz_lt, bI_s, bL_s, bV_s, bR_s]
        rw [e_Mood_of_92]
        simp (disch := omega) only [S'.d1 t, S'.n9 t, lit32, litJ, iz_add, iz_sub, iz_mul, iz_neg, nI_iz, ix_iz, inb_iz, ifp_t, ifp_f, ifp_T, ifp_F, iz_eq, iz_lt, bI_s, bL_s, bV_s, bR_s, et, sI_wI, wI_I]
        rw [hP (hgt co i - 1) (by omega)]
        by_cases c4 : stk co ca (fct z la s b) i (hgt co i - 1) = iZ 0
        · rw [ifp_t c4]; exact go _ (bZ_t c4).symm
        · rw [ifp_f c4]; exact go _ (bZ_f c4).symm
      · have a6' := a6 (by omega)
        have eh : hgt co (i + 1) = hgt co i - 1 := by rw [hgt, if_neg (by omega), if_neg c3]
        have et : ((hgt co i : Int) + -1).toNat = hgt co i - 1 := by omega
        have et2 : ((hgt co i : Int) + -1 - 1).toNat = hgt co i - 2 := by omega
        simp (disch := omega) only [S'.d1 t, S'.n9 t, lit32, litJ, iz_add, iz_sub, iz_mul, iz_neg, nI_iz, ix_iz, inb_iz, ifp_t, ifp_f, ifp_T, ifp_F, iz_eq, iz_lt, bI_s, bL_s, bV_s, bR_s, et, et2, wI_I]
        rw [x_joined d (by omega), bI_s]
        simp (disch := omega) only [S'.n9 t, lit32, litJ, iz_add, iz_sub, iz_mul, iz_neg, nI_iz, ix_iz, inb_iz, ifp_t, ifp_f, ifp_T, ifp_F, iz_eq, iz_lt, bI_s, bL_s, bV_s, bR_s, et, et2, wI_I, sI_wI]
        rw [hP (hgt co i - 2) (by omega), hP (hgt co i - 1) (by omega)]
        have := ih (up P (hgt co i - 2) (ib (co i) (stk co ca (fct z la s b) i (hgt co i - 2)) (stk co ca (fct z la s b) i (hgt co i - 1)))) (fun j hj => ?_)
        · rw [eh, show ((hgt co i - 1 : Nat) : Int) = (hgt co i : Int) + -1 by omega] at this; exact this
        · rw [stk, if_neg (by omega), if_neg c3]
          by_cases ej : j = hgt co i - 2
          · rw [if_pos ej, ej, up_e, show hgt co i - 2 + 1 = hgt co i - 1 by omega]
          · rw [if_neg ej, up_n _ _ ej, hP j (by omega)]
