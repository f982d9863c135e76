/-! game, of the class -/
/-- the ghost goes where the hand is -/
theorem x_handG (d : Nat) {h h' : Hp} {o p A A' G P c0 s0 : Nat} {q v z co ca : Int → Int} (S : XS h o p q v z co ca) (W : XW h A G P c0 s0 q co ca) (f : Wfr h h' A A') :
    ∃ S1, evm (d + 2) 3 [vR 0 6, vR 0 4] h' = some (none, CH h' 6 (pS v (v 0)) (v 0) (stv q (pL q v (v 0))) (pR q v (v 0)) (pG q v (v 0)) S1) ∧ (∀ j : Int, 0 ≤ j → j < v 0 → S1 j.toNat = iZ (v (1 + j))) ∧ SX h' ∧ SR (CH h' 6 (pS v (v 0)) (v 0) (stv q (pL q v (v 0))) (pR q v (v 0)) (pG q v (v 0)) S1) o q := by
  obtain ⟨⟨s1, b1, la1, cr1, g1, w6⟩, _⟩ := W.1
  have hc : 92 < hC h := W.2.2.2.2.1.1
  have fr := fun T s b la cr g S => W.wfr f T s b la cr g S
  have X' : SX h' := (fr (hL h' A') 0 0 0 0 0 (hI h' 7)).sx hc S.1
  obtain ⟨T0, b2, b3, b4⟩ := S.2.2.2.2.1
  have i4 : hI h' 4 = hI h 4 := f.1 4 (Or.inl (by omega)) (by decide) (by decide) (by decide)
  have i5 : hI h' 5 = hI h 5 := f.1 5 (Or.inl (by omega)) (by decide) (by decide) (by decide)
  have i6 : hI h' 6 = cFw s1 b1 la1 cr1 g1 := by rw [f.1 6 (Or.inl (by omega)) (by decide) (by decide) (by decide)]; exact w6
  have e0 : CH h' 6 s1 b1 la1 cr1 g1 (hI h' 7) = h' := CH_self i6 rfl
  have fo := x_follow d (h := h') (c := 6) (c' := 4) (by decide) (X'.r 6 0 7) (X'.n 7 40) (X'.r 4 0 5) (X'.n 5 40) (s := s1) (b := b1) (la := la1) (cr := cr1) (g := g1) (S := hI h' 7) (by rw [i4]; exact b3.1)
  rw [e0] at fo
  refine ⟨_, fo, fun j j1 j2 => ?_, X', ?_⟩
  · have := T0.1
    have e1 : cpy 40 (hI h' (4 + 1)) (hI h' 7) j.toNat = hI h' 5 j.toNat := if_pos (by omega)
    rw [e1, i5]
    exact b3.2 j j1 j2
  · have eg : CH (wL h' A' (hL h' A')) 6 (pS v (v 0)) (v 0) (stv q (pL q v (v 0))) (pR q v (v 0)) (pG q v (v 0)) (cpy 40 (hI h' (4 + 1)) (hI h' 7)) = CH h' 6 (pS v (v 0)) (v 0) (stv q (pL q v (v 0))) (pR q v (v 0)) (pG q v (v 0)) (cpy 40 (hI h' (4 + 1)) (hI h' 7)) := by rw [wL_self]
    rw [← eg]
    exact (S.fr hc (fr _ _ _ _ _ _ _)).2.2.2.1.1
theorem X_game (d : Nat) {h : Hp} {o p A G P c0 s0 : Nat} {q v z co ca : Int → Int} (S : XS h o p q v z co ca) (W : XW h A G P c0 s0 q co ca) :
    ∃ k A', evm (d + 45) 119 [vR 11 0] h = some (some (vI (iZ (if pS v (v 0) = q 0 then -1 else Gv q v False (pS v (v 0)) (pL q v (v 0)) (pC q v (v 0)) (pG q v (v 0)) (v 0)))), k) ∧ XFr h k ∧ XW k A' G P c0 s0 q co ca := by
  have hc : 92 < hC h := W.2.2.2.2.1.1
  have V := S.2.2.2.1.2.1
  have vc := V.cnt
  have v1 := V.top
  have a5 := S.2.2.1.1
  obtain ⟨T0, b2, b3, b4⟩ := S.2.2.2.2.1
  have nr := hand_nr V T0
  have n0 := nr.1.1
  have i41 : hI h 4 1 = iZ (pS v (v 0)) := by rw [b3.1]; rfl
  by_cases ok : pS v (v 0) = q 0
  · rw [if_pos ok]
    refine ⟨h, A, ?_, XFr.rf h, W⟩
    rw [show d + 45 = (d + 44) + 1 from rfl, e_X_game]
    simp (disch := omega) only [lit32, litJ, iz_add, iz_sub, iz_mul, iz_neg, nI_iz, ix_iz, inb_iz, ifp_t, ifp_f, ifp_T, ifp_F, iz_eq, iz_lt, bI_s, bL_s, bV_s, bR_s, S.1.r 0 1 4, a5, i41, S.2.2.2.1.1.top]
  · rw [if_neg ok]
    obtain ⟨h', A', b1, f, M⟩ := x_beginGame (d + 39) S.1 S.2.1.1 S.2.2.2.1.1 V W.2.1.1 W.2.1.2 ⟨W.2.2.2.2.1.2.1.1, hc, W.lim⟩ W.2.2.2.2.2.1
    obtain ⟨S1, fo, S1e, X', Rg⟩ := x_handG (d + 42) S W f
    have hcr := pR_b (q := q) (v := v) T0.1.1
    have Wg : WMe (CH h' 6 (pS v (v 0)) (v 0) (stv q (pL q v (v 0))) (pR q v (v 0)) (pG q v (v 0)) S1) q (-3) 0 (q 4) (Gv q z0 False) A' := ⟨M.1.tr (CH_n (by decide)) (CH_n (by decide)), M.2.1, M.2.2⟩
    obtain ⟨T', S', f1, f2, f3⟩ := x_winning (h := CH h' 6 (pS v (v 0)) (v 0) (stv q (pL q v (v 0))) (pR q v (v 0)) (pG q v (v 0)) S1) X' S.2.1.1 Rg V (Wg.1.f z0 (by omega) (by omega)) rfl f.2.2.2.2.1 Wg.2.1 (Nat.le_trans f.2.2.2.2.2.1.2 (by decide)) 40 d (pS v (v 0)) (pL q v (v 0)) (pR q v (v 0)) (pG q v (v 0)) (v 0) 0 S1 (hL h' A') (by omega) (by omega) nr hcr (by omega) (fun y => by rw [S1e _ (by omega) (by omega), hand_stv V T0 y, show 1 + (v 0 - 1) = v 0 by omega]) (fun y => hand_l0 y) Wg.2.2
    rw [CH_wL, CH_CH, wL_self, CH_wL, CH_CH, show 40 + d + 4 = d + 44 by omega] at f1
    have f3' : WMe (CH (wL h' A' T') 6 (pS v (v 0)) (v 0) (stv q (pL q v (v 0))) (pR q v (v 0)) (pG q v (v 0)) S') q (-3) 0 (q 4) (Gv q z0 False) A' := ⟨M.1.tr (CH_n (by decide)) (CH_n (by decide)), M.2.1, by rw [CH_L, wL_L]; exact f2⟩
    have w := W.ways f T' (pS v (v 0)) (v 0) (stv q (pL q v (v 0))) (pR q v (v 0)) (pG q v (v 0)) S' (WC_G f3')
    have r' : ∀ j, hR h' 0 j = hR h 0 j := fun j => f.2.2.1 0 j (Or.inl (by omega)) (by omega)
    have gR : hR (CH h' 6 (pS v (v 0)) (v 0) (stv q (pL q v (v 0))) (pR q v (v 0)) (pG q v (v 0)) S1) = hR h' := rfl
    refine ⟨_, A', ?_, w.1, w.2⟩
    rw [show d + 45 = (d + 44) + 1 from rfl, e_X_game]
    simp (disch := omega) only [lit32, litJ, iz_add, iz_sub, iz_mul, iz_neg, nI_iz, ix_iz, inb_iz, ifp_t, ifp_f, ifp_T, ifp_F, iz_eq, iz_lt, bI_s, bL_s, bV_s, bR_s, S.1.r 0 1 4, a5, i41, S.2.2.2.1.1.top, S.1.r 0 3 8, b1, r', S.1.r 0 2 6, fo, gR, f1]
    refine ri_e ?_
    rw [Gv_v (v := v) z0]
    rfl
