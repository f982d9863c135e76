/-! the class: two, rank -/
theorem X_two (d : Nat) {h : Hp} {o p A G P c0 s0 : Nat} {q v z co ca : Int → Int} (S : XS h o p q v z co ca) (W : XW h A G P c0 s0 q co ca) :
    ∃ k P', evm (d + 4) 118 [vR 11 0] h = some (some (vL (jZ (if 24 < q 0 then -1 else Bt q 0 (q 0)))), k) ∧ XFr h k ∧ XW k A G P' c0 s0 q co ca := by
  have lim := W.lim
  have W0 := W
  have V := S.2.2.2.1.2.1
  have v1 := V.top
  have m1 : (-1 : Int64) = jZ (-1) := rfl
  rw [e_X_two, m1]
  by_cases c : 24 < q 0
  · rw [if_pos c]
    refine ⟨h, P, ?_, XFr.rf h, W⟩
    simp (disch := omega) only [lit32, litJ, iz_add, iz_sub, iz_mul, iz_neg, nI_iz, ix_iz, inb_iz, ifp_t, ifp_f, ifp_T, ifp_F, iz_eq, iz_lt, bI_s, bL_s, bV_s, bR_s, S.2.2.1.1, S.2.2.2.1.1.top]
  · rw [if_neg c]
    obtain ⟨⟨w1, w2⟩, ⟨a1, a2, a3⟩, ⟨g1, g2, g3⟩, ⟨p1, p2⟩, ⟨c1, ⟨c2, c3, c4⟩, c5, c6, c7, c8, c9, cA⟩, wc, ⟨kn, t1, t2, t3⟩, ⟨r1, r2⟩, cc⟩ := W
    obtain ⟨k, P', e1, f1, f2, f3, f4, f5, f6, f7⟩ := x_pairs d S.1 S.2.1.1 S.2.2.2.1.1 V (by omega) p1 p2 ⟨c4, c1, lim⟩
    have Pq : P' = P ∨ P' = hC h := by rcases f7 with y | y <;> omega
    have cle : hC h ≤ hC k := by rcases f7 with y | y <;> omega
    have nA' : hN k A = hN h A := f4 A (Or.inl c2)
    have nG' : hN k G = hN h G := f4 G (Or.inl c3)
    refine ⟨k, P', ?_, ⟨fun r y _ => f1 r y, fun r y => f2 r (by unfold Dm; omega) (by omega), fun r j y n => f3 r j y (by omega), f4, cle⟩, ⟨w1.tr (f1 6 (Or.inl (by omega))), w2.tr (f1 14 (Or.inl (by omega)))⟩, ⟨?_, by rw [nA']; exact ⟨a2, a3⟩⟩, ⟨?_, by rw [nG']; exact ⟨g2, g3⟩⟩, ⟨f5, Or.inr f6⟩, ⟨by omega, ⟨by omega, by omega, by rcases f7 with y | y <;> omega⟩, c5, c6, by omega, c8, by omega, by omega⟩, wc.tr (f1 8 (Or.inl (by omega))) (f1 9 (Or.inl (by omega))) (f2 A (Or.inl c2) (by omega)) nA', ⟨kn, t1, ?_, ?_⟩, ⟨?_, ?_⟩, cc⟩
    · simp (disch := omega) only [lit32, litJ, iz_add, iz_sub, iz_mul, iz_neg, nI_iz, ix_iz, inb_iz, ifp_t, ifp_f, ifp_T, ifp_F, iz_eq, iz_lt, bI_s, bL_s, bV_s, bR_s, S.2.2.1.1, S.2.2.2.1.1.top, S.1.r 0 6 23, e1]
    · rw [f3 8 2 (Or.inl (by omega)) (by omega)]; exact a1
    · rw [f3 12 6 (Or.inl (by omega)) (by omega)]; exact g1
    · rw [f2 12 (Or.inl (by omega)) (by omega)]; exact t2
    · rw [f2 12 (Or.inl (by omega)) (by omega), f2 13 (Or.inl (by omega)) (by omega)]; exact t3
    · rw [nA', nG']
      rcases f7 with ⟨y1, y2, y3⟩ | ⟨y1, y2, y3, y4⟩
      · rw [y2, y1, f4 P (Or.inl c4)]; exact r1
      · omega
    · rw [nA', nG']
      rcases f7 with ⟨y1, y2, y3⟩ | ⟨y1, y2, y3, y4⟩
      · rw [y3, y1, f4 P (Or.inl c4)]; exact r2
      · omega
theorem Rk_e {q v : Int → Int} (V : VS q) {i k0 : Int} (hk : 0 ≤ k0 ∧ k0 < q 8) (e : v (1 + i) = q (9 + k0)) : Rk q v i = sZ (Wk q z0 False (eAll q (-1)) (pS v i) (pL q v i) (pC q v i) (pG q v i) i) k0 := by
  unfold Rk
  rw [sZ_x (m := k0) hk.1 (by omega) (fun k k1 k2 => ?_)]
  · refine sZ_c (fun k k1 k2 => ?_)
    have := V.inc k1 k2 hk.2
    rw [e, pif_t this, Wk_v (v := v) z0]
  · refine pif_f (fun y => ?_)
    rw [e] at y
    by_cases ek : k = k0
    · rw [ek] at y; omega
    · have := V.inc hk.1 (show k0 < k by omega) k2
      omega
theorem X_rank (d : Nat) {h : Hp} {o p A G P c0 s0 : Nat} {q v z co ca : Int → Int} (S : XS h o p q v z co ca) (W : XW h A G P c0 s0 q co ca) :
    ∃ k A', evm (d + 88) 112 [vR 11 0] h = some (some (vL (jZ (if lwN q v = 0 then sZ (Rk q v) (v 0) else -1))), k) ∧ XFr h k ∧ XW k A' G P c0 s0 q co ca := by
  have hc : 92 < hC h := W.2.2.2.2.1.1
  have V := S.2.2.2.1.2.1
  have vc := V.cnt
  have v1 := V.top
  have vn := V.n
  have a5 := S.2.2.1.1
  obtain ⟨T0, b2, b3, b4⟩ := S.2.2.2.2.1
  have t1 := T0.1
  have m1 : (-1 : Int64) = jZ (-1) := rfl
  have lb : -1 ≤ lwN q v ∧ lwN q v ≤ 2 := by
    unfold lwN
    split
    · omega
    · split
      · omega
      · split <;> omega
  rw [show d + 88 = (d + 87) + 1 from rfl, e_X_rank, X_lawful (d + 85) S, bI_s, m1]
  simp only [lit32]
  rw [ifp_n (iz_eq (by omega))]
  by_cases ok : lwN q v = 0
  · rw [if_pos ok, ifp_t ok]
    obtain ⟨h', A', e1, f, M⟩ := x_beginAll (d + 82) S.1 S.2.1.1 S.2.2.2.1.1 V W.2.1.1 W.2.1.2 ⟨W.2.2.2.2.1.2.1.1, hc, W.lim⟩ W.2.2.2.2.2.1
    obtain ⟨⟨s1, b1, la1, cr1, g1, w6⟩, _⟩ := W.1
    have i6 : hI h' 6 = cFw s1 b1 la1 cr1 g1 := by rw [f.1 6 (Or.inl (by omega)) (by decide) (by decide) (by decide)]; exact w6
    have e0 : CH (wL h' A' (hL h' A')) 6 s1 b1 la1 cr1 g1 (hI h' 7) = h' := by rw [wL_self]; exact CH_self i6 rfl
    have fr := W.wfr f (hL h' A') s1 b1 la1 cr1 g1 (hI h' 7)
    rw [e0] at fr
    have S' := S.fr hc fr
    have X' := S'.1
    have R' := S'.2.2.2.1.1
    have b3' := S'.2.2.2.2.1.2.2.1
    have WB' := M.1.f z0 (by omega) (by omega)
    have FF := x_from X' S.2.1.1 R' V WB' (by decide) eAll_A f.2.2.2.2.1 M.2.1 (Nat.le_trans f.2.2.2.2.2.1.2 (by decide))
    have st := x_start (d + 85) (h := wL h' A' (hL h' A')) (c := 6) (s := s1) (t := b1) (la := la1) (cr := cr1) (g := g1) (S := hI h' 7)
    rw [e0] at st
    have loop : ∀ i : Int, (0 ≤ i ∧ i ≤ v 0) → ∀ (T : Nat → Int64) (U : Nat → Int32), Mem q (PM q (q 3) (q 4)) (FM q (-1)) (Wy q z0 False (eAll q (-1))) T → (0 < i → U (i - 1).toNat = iZ (stv q (pL q v i))) → ∃ T' U', L_X_rank_33 (d + 87) 0 (jZ (sZ (Rk q v) i)) (iZ i) (CH (wL h' A' T) 6 (pS v i) i (stv q (pL q v i)) (pR q v i) (pG q v i) U) = some (some (vL (jZ (sZ (Rk q v) (v 0)))), CH (wL h' A' T') 6 (pS v (v 0)) (v 0) (stv q (pL q v (v 0))) (pR q v (v 0)) (pG q v (v 0)) U') ∧ Mem q (PM q (q 3) (q 4)) (FM q (-1)) (Wy q z0 False (eAll q (-1))) T' := by
      have i4 : ∀ {T U i}, hI (CH (wL h' A' T) 6 (pS v i) i (stv q (pL q v i)) (pR q v i) (pG q v i) U) 4 2 = iZ (v 0) := fun {T U i} => by
        rw [CH_n (by decide)]
        show hI h' 4 2 = _
        rw [b3'.1]; rfl
      have i5 : ∀ {T U i} (j : Int), 0 ≤ j → j < v 0 → hI (CH (wL h' A' T) 6 (pS v i) i (stv q (pL q v i)) (pR q v i) (pG q v i) U) 5 j.toNat = iZ (v (1 + j)) := fun {T U i} j j1 j2 => by
        rw [CH_n (by decide)]
        exact b3'.2 j j1 j2
      have XX : ∀ {T U i}, SX (CH (wL h' A' T) 6 (pS v i) i (stv q (pL q v i)) (pR q v i) (pG q v i) U) := fun {_ _ _} => X'
      have HO : ∀ {T U i}, hR (CH (wL h' A' T) 6 (pS v i) i (stv q (pL q v i)) (pR q v i) (pG q v i) U) 0 11 = some o := fun {_ _ _} => S'.2.2.1.1
      refine lpZ (v 0) (fun i hi hib T U Mm hU => ?_) (fun i hi ih hib T U Mm hU => ?_)
      · have ei : i = v 0 := by omega
        refine ⟨T, U, ?_, Mm⟩
        rw [ei, e_X_rank_33]
        simp (disch := omega) only [lit32, litJ, iz_add, iz_sub, iz_mul, iz_neg, nI_iz, ix_iz, inb_iz, ifp_t, ifp_f, ifp_T, ifp_F, iz_eq, iz_lt, bI_s, bL_s, bV_s, bR_s, XX.r 0 1 4, i4]
      · obtain ⟨kx, k1, k2, k3, k4⟩ := T0.2.1 i hib.1 hi
        have nd := T0.2.1.nd V i hib.1 (by omega)
        have nr : Nr q (pS v i) (pL q v i) (crC q (pR q v i)) (pG q v i) i := ⟨nd, fun y => Classical.byContradiction fun w => by
          have : i = 0 := by omega
          rw [this] at y
          have e : pS v 0 = 0 := sZ_0 _ (by omega)
          omega⟩
        have n0 := nd.1
        have sb := V.str k1 k2
        have m4 := k4.1
        obtain ⟨T1, U1, g1', g2', g3'⟩ := x_ahead X' S.2.1.1 R' V WB' FF d (k0 := kx) (S := U) (T := T) nr (pR_b hib.1) hU (fun y => by rw [y]; exact if_pos (by omega)) Mm ⟨k1, k2⟩
        have go := x_go (d + 85) (h := wL h' A' T1) X' S.2.1.1 R' V (c := 6) (by decide) (X'.r 6 0 7) (X'.n 7 40) (s := pS v i) (b := i) (la := stv q (pL q v i)) (cr := pR q v i) (g := pG q v i) (k := kx) (S := U1) ⟨k1, k2⟩ (by omega) (by omega)
        have es : pS v i + q (9 + kx) = pS v (i + 1) := by rw [pS_s v hib.1, k3]
        have el : q (9 + kx) = stv q (pL q v (i + 1)) := by rw [pL_s V hib.1 k1 k2 k3, stv_k q k1]
        have er : crN q (pR q v i) (pS v (i + 1)) = pR q v (i + 1) := by rw [pR_s q v hib.1]; rfl
        have eg : nxG q (pG q v i) kx = pG q v (i + 1) := (pG_n hib.1 k3).symm
        rw [es, er, eg] at go
        obtain ⟨T', U', i1, i2⟩ := ih (by omega) T1 (up U1 i.toNat (iZ (q (9 + kx)))) g2' (fun _ => by rw [show i + 1 - 1 = i by omega, up_e, el])
        refine ⟨T', U', ?_, i2⟩
        rw [← i1, e_X_rank_33]
        simp (disch := omega) only [lit32, litJ, iz_add, iz_sub, iz_mul, iz_neg, nI_iz, ix_iz, inb_iz, ifp_t, ifp_f, ifp_T, ifp_F, iz_eq, iz_lt, bI_s, bL_s, bV_s, bR_s, XX.r 0 1 4, i4, XX.r 0 3 8, HO, XX.r 0 2 6, XX.r 4 0 5, XX.n 5 40, i5 i hib.1 hi, k3, g1', go, jz_add]
        have rk := Rk_e V (v := v) ⟨k1, k2⟩ k3
        have ec : sZ (Wk q z0 False (eAll q (-1)) (pS v i) (pL q v i) (crC q (pR q v i)) (pG q v i) i) kx = Rk q v i := rk.symm
        rw [ec, sZ_s _ hib.1, ← el]
    have z1 : pS v 0 = 0 := sZ_0 _ (by omega)
    have z2 : stv q (pL q v 0) = 0 := by
      have : pL q v 0 = 0 := if_pos (by omega)
      rw [this]; rfl
    have z3 : pR q v 0 = 0 := sZ_0 _ (by omega)
    have z4 : pG q v 0 = 0 := sZ_0 _ (by omega)
    obtain ⟨T', U', g1', g2'⟩ := loop 0 (by omega) (hL h' A') (hI h' 7) M.2.2 (fun y => by omega)
    rw [z1, z2, z3, z4, sZ_0 _ (Int.le_refl 0)] at g1'
    have r' : ∀ j, hR h' 0 j = hR h 0 j := fun j => f.2.2.1 0 j (Or.inl (by omega)) (by omega)
    have wm : WMe (CH (wL h' A' T') 6 (pS v (v 0)) (v 0) (stv q (pL q v (v 0))) (pR q v (v 0)) (pG q v (v 0)) U') q (-1) (q 3) (q 4) (Wy q z0 False (eAll q (-1))) A' := ⟨M.1.tr (CH_n (by decide)) (CH_n (by decide)), M.2.1, by rw [CH_L, wL_L]; exact g2'⟩
    have w := W.ways f T' (pS v (v 0)) (v 0) (stv q (pL q v (v 0))) (pR q v (v 0)) (pG q v (v 0)) U' (WC_A wm)
    refine ⟨_, A', ?_, w.1, w.2⟩
    rw [S.1.r 0 3 8, bR_s, a5, bR_s, e1, bV_s, r', S.1.r 0 2 6, bR_s, st, bV_s]
    simp only [litJ]
    exact g1'
  · rw [if_neg ok, ifp_f ok]
    exact ⟨h, A, rfl, XFr.rf h, W⟩
