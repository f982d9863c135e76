/-! many, manyOf, game, fit: the class's answers -/
theorem WC_A {h : Hp} {q : Int → Int} {A : Nat} (M : WMe h q (-1) (q 3) (q 4) (Wy q z0 False (eAll q (-1))) A) : WC h q A := ⟨-1, M.1.1.1, Or.inr (Or.inr (Or.inl ⟨rfl, M⟩))⟩
theorem WC_X {h : Hp} {q : Int → Int} {A : Nat} {x : Int} (hx : 0 ≤ x ∧ x ≤ 40) (M : WMe h q x (mxI (q 3) x) (mnI (q 4) x) (Wy q z0 False (eAll q x)) A) : WC h q A := ⟨x, M.1.1.1, Or.inr (Or.inr (Or.inr (Or.inl ⟨hx, M⟩)))⟩
theorem WC_G {h : Hp} {q : Int → Int} {A : Nat} (M : WMe h q (-3) 0 (q 4) (Gv q z0 False) A) : WC h q A := ⟨-3, M.1.1.1, Or.inr (Or.inr (Or.inr (Or.inr ⟨rfl, M⟩)))⟩
theorem X_manyFrom (d : Nat) {h : Hp} {o p A G P c0 s0 : Nat} {q v z co ca : Int → Int} (S : XS h o p q v z co ca) (W : XW h A G P c0 s0 q co ca) :
    ∃ k A', evm (d + 86) 130 [vR 11 0, vR 0 4] h = some (some (vL (jZ (WyH q v (eAll q (-1))))), k) ∧ XFr h k ∧ XW k A' G P c0 s0 q co ca ∧ WMe k q (-1) (q 3) (q 4) (Wy q z0 False (eAll q (-1))) A' ∧ HndR k 6 q v := by
  have hc : 92 < hC h := W.2.2.2.2.1.1
  have V := S.2.2.2.1.2.1
  have vc := V.cnt
  have a5 := S.2.2.1.1
  obtain ⟨h', A', b1, f, M⟩ := x_beginAll (d + 80) S.1 S.2.1.1 S.2.2.2.1.1 V W.2.1.1 W.2.1.2 ⟨W.2.2.2.2.1.2.1.1, hc, W.lim⟩ W.2.2.2.2.2.1
  obtain ⟨g, T, f1, ⟨gR, gN⟩, S', f2, f3, f4⟩ := x_handFrom d S W f (pu := -1) (le := q 3) (mo := q 4) (e := eAll q (-1)) (by omega) (by omega) eAll_A M
  have w := W.ways f T (pS v (v 0)) (v 0) (stv q (pL q v (v 0))) (pR q v (v 0)) (pG q v (v 0)) S' (WC_A f3)
  have r' : ∀ j, hR h' 0 j = hR h 0 j := fun j => f.2.2.1 0 j (Or.inl (by omega)) (by omega)
  refine ⟨_, A', ?_, w.1, w.2, f3, ⟨CH_I, fun j j1 j2 => ?_⟩⟩
  · rw [e_X_manyFrom, S.1.r 0 3 8, bR_s, a5, bR_s, b1, bV_s, r', S.1.r 0 2 6, bR_s, f1, bV_s, gR, r', r', r', S.1.r 0 3 8, bR_s, a5, bR_s, S.1.r 0 2 6, bR_s]
    simp only [lit32]
    rw [f2, bL_s]
  · have : hI (CH (wL h' A' T) 6 (pS v (v 0)) (v 0) (stv q (pL q v (v 0))) (pR q v (v 0)) (pG q v (v 0)) S') (6 + 1) = S' := CH_S
    rw [this]
    exact f4 j j1 j2
theorem X_many (d : Nat) {h : Hp} {o p A G P c0 s0 : Nat} {q v z co ca : Int → Int} (S : XS h o p q v z co ca) (W : XW h A G P c0 s0 q co ca) :
    ∃ k A', evm (d + 87) 110 [vR 11 0] h = some (some (vL (jZ (WyH q v (eAll q (-1))))), k) ∧ XFr h k ∧ XW k A' G P c0 s0 q co ca := by
  obtain ⟨k, A', e1, e2, e3, _⟩ := X_manyFrom d S W
  refine ⟨k, A', ?_, e2, e3⟩
  rw [show d + 87 = (d + 86) + 1 from rfl, e_X_many, S.1.r 0 1 4, bR_s, e1, bL_s]
theorem X_manyOf (d : Nat) {h : Hp} {o p A G P c0 s0 : Nat} {q v z co ca : Int → Int} (S : XS h o p q v z co ca) (W : XW h A G P c0 s0 q co ca) {x : Int} (hx : -2147483648 ≤ x ∧ x < 2147483648) :
    ∃ k A', evm (d + 86) 111 [vR 11 0, vI (iZ x)] h = some (some (vL (jZ (if 0 ≤ x ∧ x ≤ 40 then WyH q v (eAll q x) else -1))), k) ∧ XFr h k ∧ XW k A' G P c0 s0 q co ca := by
  have hc : 92 < hC h := W.2.2.2.2.1.1
  have V := S.2.2.2.1.2.1
  have vc := V.cnt
  have a5 := S.2.2.1.1
  by_cases ok : 0 ≤ x ∧ x ≤ 40
  · rw [if_pos ok]
    obtain ⟨h', A', b1, f, M⟩ := x_beginEx (d + 80) S.1 S.2.1.1 S.2.2.2.1.1 V W.2.1.1 W.2.1.2 ⟨W.2.2.2.2.1.2.1.1, hc, W.lim⟩ W.2.2.2.2.2.1 ok
    obtain ⟨g, T, f1, ⟨gR, gN⟩, S', f2, f3, f4⟩ := x_handFrom d S W f (pu := x) (le := mxI (q 3) x) (mo := mnI (q 4) x) (e := eAll q x) (by omega) (by unfold mxI mnI; split <;> split <;> omega) (eAll_X ok.1) M
    have w := W.ways f T (pS v (v 0)) (v 0) (stv q (pL q v (v 0))) (pR q v (v 0)) (pG q v (v 0)) S' (WC_X ok f3)
    have r' : ∀ j, hR h' 0 j = hR h 0 j := fun j => f.2.2.1 0 j (Or.inl (by omega)) (by omega)
    refine ⟨_, A', ?_, w.1, w.2⟩
    rw [show d + 86 = (d + 85) + 1 from rfl, e_X_manyOf]
    simp (disch := omega) only [lit32, litJ, iz_add, iz_sub, iz_mul, iz_neg, nI_iz, ix_iz, inb_iz, ifp_t, ifp_f, ifp_T, ifp_F, iz_eq, iz_lt, bI_s, bL_s, bV_s, bR_s, S.1.r 0 3 8, a5, b1, r', S.1.r 0 2 6, S.1.r 0 1 4, f1, gR, f2]
  · rw [if_neg ok]
    refine ⟨h, A, ?_, XFr.rf h, W⟩
    rw [show d + 86 = (d + 85) + 1 from rfl, e_X_manyOf]
    by_cases c : x < 0
    · simp (disch := omega) only [lit32, litJ, iz_add, iz_sub, iz_mul, iz_neg, nI_iz, ix_iz, inb_iz, ifp_t, ifp_f, ifp_T, ifp_F, iz_eq, iz_lt, bI_s, bL_s, bV_s, bR_s]
      rfl
    · simp (disch := omega) only [lit32, litJ, iz_add, iz_sub, iz_mul, iz_neg, nI_iz, ix_iz, inb_iz, ifp_t, ifp_f, ifp_T, ifp_F, iz_eq, iz_lt, bI_s, bL_s, bV_s, bR_s]
      rfl
theorem X_fit (d : Nat) {h : Hp} {o p A G P c0 s0 : Nat} {q v z co ca : Int → Int} (S : XS h o p q v z co ca) (W : XW h A G P c0 s0 q co ca) :
    ∃ k A', evm (d + 86) 122 [vR 11 0] h = some (some (vL (jZ (Wy q v True (eAll q (-1)) 0 0 0 0 0))), k) ∧ XFr h k ∧ XW k A' G P c0 s0 q co ca := by
  have hc : 92 < hC h := W.2.2.2.2.1.1
  have V := S.2.2.2.1.2.1
  have vc := V.cnt
  have a5 := S.2.2.1.1
  obtain ⟨h', A', b1, f, M, WBt⟩ := x_beginDusty (d + 80) (v := v) S.1 S.2.1.1 S.2.2.2.1.1 V S.2.2.2.2.1.2.2.2 W.2.1.1 W.2.1.2 ⟨W.2.2.2.2.1.2.1.1, hc, W.lim⟩
  obtain ⟨⟨s1, b1', la1, cr1, g1, w6⟩, _⟩ := W.1
  have fr := fun T s b la cr g S => W.wfr f T s b la cr g S
  have X' : SX h' := (fr (hL h' A') 0 0 0 0 0 (hI h' 7)).sx hc S.1
  have i6 : hI h' 6 = cFw s1 b1' la1 cr1 g1 := by rw [f.1 6 (Or.inl (by omega)) (by decide) (by decide) (by decide)]; exact w6
  have e0 : CH h' 6 s1 b1' la1 cr1 g1 (hI h' 7) = h' := CH_self i6 rfl
  have st := x_start (d + 83) (h := h') (c := 6) (s := s1) (t := b1') (la := la1) (cr := cr1) (g := g1) (S := hI h' 7)
  rw [e0] at st
  have eg : CH (wL h' A' (hL h' A')) 6 0 0 0 0 0 (hI h' 7) = CH h' 6 0 0 0 0 0 (hI h' 7) := by rw [wL_self]
  have Rg : SR (CH h' 6 0 0 0 0 0 (hI h' 7)) o q := by
    rw [← eg]
    exact (S.fr hc (fr _ _ _ _ _ _ _)).2.2.2.1.1
  have Wg : WMe (CH h' 6 0 0 0 0 0 (hI h' 7)) q (-2) (q 3) (q 4) (Wy q v True (eAll q (-1))) A' := ⟨M.1.tr (CH_n (by decide)) (CH_n (by decide)), M.2.1, M.2.2⟩
  have WBg : WB (CH h' 6 0 0 0 0 0 (hI h' 7)) q v True (-2) (q 3) (q 4) := WBt.tr (CH_n (by decide)) (CH_n (by decide)) (CH_n (by decide))
  have c00 : crC q 0 = 0 := by unfold crC; split <;> rfl
  have mc := mxC_b V
  have mg := mxG_b V
  have v1 := V.top
  have vn := V.n
  obtain ⟨T', S', f1, f2, f3⟩ := x_fromG d (h := CH h' 6 0 0 0 0 0 (hI h' 7)) X' S.2.1.1 Rg V WBg (by decide) eAll_A f.2.2.2.2.1 f.2.2.2.2.2.1.2 Wg (s := 0) (l := 0) (cr := 0) (g := 0) (b := 0) CH_I ⟨⟨by omega, by omega, by rw [c00]; omega, by omega⟩, fun y => by omega⟩ (by omega) (fun y => by omega) (fun _ => rfl)
  rw [CH_wL, CH_CH, c00] at f1
  rw [CH_wL, CH_CH] at f2
  have wc : WC (CH (wL h' A' T') 6 0 0 (stv q 0) 0 0 S') q A' := ⟨-2, f2.1.1.1, Or.inr (Or.inl rfl)⟩
  have w := W.ways f T' 0 0 (stv q 0) 0 0 S' wc
  have r' : ∀ j, hR h' 0 j = hR h 0 j := fun j => f.2.2.1 0 j (Or.inl (by omega)) (by omega)
  have gR : hR (CH h' 6 0 0 0 0 0 (hI h' 7)) = hR h' := rfl
  refine ⟨_, A', ?_, w.1, w.2⟩
  rw [show d + 86 = (d + 85) + 1 from rfl, e_X_fit]
  simp (disch := omega) only [lit32, litJ, iz_add, iz_sub, iz_mul, iz_neg, nI_iz, ix_iz, inb_iz, ifp_t, ifp_f, ifp_T, ifp_F, iz_eq, iz_lt, bI_s, bL_s, bV_s, bR_s, S.1.r 0 3 8, a5, S.1.r 0 9 46, b1, r', S.1.r 0 2 6, st, gR, f1]
