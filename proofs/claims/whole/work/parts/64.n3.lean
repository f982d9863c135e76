/-! the model: rank, climb -/
noncomputable def Rk (q v : Int → Int) (i : Int) : Int := sZ (fun k => pif (q (9 + k) < v (1 + i)) (Wk q v False (eAll q (-1)) (pS v i) (pL q v i) (pC q v i) (pG q v i) i k) 0) (q 8)
theorem M_rank (d : Nat) {h : Hp} (M : MV h) : ∃ h', evm (d + 7) 208 [vR 12 68] h = some (some (vL (jZ (if lwN (rz h 74) (rz h 79) = 0 then sZ (Rk (rz h 74) (rz h 79)) (rz h 79 0) else -1))), h') ∧ Ms h h' (rz h 79) (rz h 80) := by
  rw [e_M_rank0, sI_w h, sI_wI]
  obtain ⟨f, f1, f2, f3, f4, f5⟩ := m_lawfulNow (d + 2) M (f0 := up (up (hI h 68) 0 0) 24 0) rfl
  have ac : Sc h (wI h 68 f) := Sc.f f5
  have lb : -1 ≤ lwN (rz h 74) (rz h 79) ∧ lwN (rz h 74) (rz h 79) ≤ 2 := by
    unfold lwN
    split
    · omega
    · split
      · omega
      · split <;> omega
  rw [f1, bI_s, show (0 : Int32) = iZ 0 from rfl, ifp_n (iz_eq (by omega))]
  by_cases h0 : lwN (rz h 74) (rz h 79) = 0
  · rw [ifp_t h0, if_pos h0]
    obtain ⟨T, t1, t2, t3, t4⟩ := m_laid d M (f := f) f3 f5 (a := -1) (by omega) False
    rw [bZ_f (fun z => z)] at t1
    have e79 := t3.z (r := 79) (by decide)
    have e74 := t3.z (r := 74) (by decide)
    rw [show (-1 : Int32) = iZ (-1) from rfl, t1, bV_s, m_takenMany (d + 5) t4.1, bI_s, e79]
    obtain ⟨K, hK⟩ : ∃ K, K = wL (wI h 68 f) 81 T := ⟨_, rfl⟩
    have KT : hL K 81 = T := by rw [hK]; exact wL_L _ _ _
    have K24 : hI K 68 24 = 0 := by rw [hK]; show hI (wI h 68 f) 68 24 = 0; rw [wI_I]; exact f3
    have K2 : hI K 68 2 = hI h 68 2 := by rw [hK]; show hI (wI h 68 f) 68 2 = _; rw [wI_I]; exact f5
    rw [← hK] at t3 t4 e79 e74 ⊢
    have V := M.2.1
    have vt := M.2.2
    have v1 := V.top
    have vn := V.n
    have vc := mxC_b V
    have vg := mxG_b V
    obtain ⟨q, hq⟩ : ∃ q, q = rz h 74 := ⟨_, rfl⟩
    obtain ⟨v, hv⟩ : ∃ v, v = rz h 79 := ⟨_, rfl⟩
    have e80 := t3.z (r := 80) (by decide)
    rw [← hq] at e74 V v1 vn vc vg vt t2 ⊢
    rw [← hv] at e79 vt t2 ⊢
    have tab : ∀ s l c g t, Nd q s l c g t → T (plc s l c g t).toNat = jZ (Wy q v False (eAll q (-1)) s l c g t) := by
      intro s l c g t n
      have := t2 s l c g t n trivial
      unfold LyF at this
      rw [pif_f (fun z => z)] at this
      exact this
    have HN := vt.2.1
    have ix0 : ix (iZ 0) = 0 := rfl
    -- the heap where the first number is another, and the place is found
    have loop : ∀ i, 0 ≤ i ∧ i ≤ v 0 → ∀ (j : Int) (F : Nat → Int32), 0 ≤ j ∧ j ≤ v 0 → F 24 = 0 → F 2 = hI h 68 2 → ∃ h', L_M_rank0_37 (d + 6) 68 (jZ (sZ (Rk q v) i)) (iZ (v 0)) (iZ i) (sI (wI K 68 F) 79 0 (iZ j)) = some (some (vL (jZ (sZ (Rk q v) (v 0)))), h') ∧ Ms h h' v (rz h 80) := by
      have vb := vt.1
      have s2 : ∀ (F : Nat → Int32) (a b : Int32), sI (sI (wI K 68 F) 79 0 a) 79 0 b = sI (wI K 68 F) 79 0 b := by
        intro F a b
        rw [sI_w (wI K 68 F), sI_wI, sI_w (wI K 68 F)]
        congr 1
        funext j; unfold up
        by_cases e : j = 0
        · rw [if_pos e, if_pos e]
        · rw [if_neg e, if_neg e, if_neg e]
      refine lpZ (v 0) (fun i hi hb j F hj F24 F2 => ?_) (fun i hi ih hb j F hj F24 F2 => ?_)
      · have S' : SM (sI (wI K 68 F) 79 0 (iZ j)) := t4.1
        rw [e_M_rank0_37]
        simp (disch := omega) only [lit32, litJ, iz_add, iz_sub, iz_mul, iz_neg, nI_iz, ix_iz, inb_iz, ifp_t, ifp_f, ifp_T, ifp_F, iz_eq, iz_lt, bI_s, bL_s, bV_s, bR_s, S'.r 17 79, S'.n 79 420]
        rw [show i = v 0 by omega, show Int.toNat 0 = 0 from rfl, s2]
        have aK : Sc K (wI K 68 F) := Sc.f (by rw [F2, K2])
        refine ⟨_, rfl, (t3.d.tr aK.d).tr Sd_0, ?_, ?_⟩
        · have := rz_s (wI K 68 F) 79 (k := 0) (x := v 0) (by omega)
          have e : rz (wI K 68 F) 79 = rz K 79 := wI_rz K F (by decide)
          rw [e, e79] at this
          rw [show (0 : Nat) = Int.toNat 0 from rfl, this, hv]
          exact zup_id
        · rw [rz_n _ _ _ (by decide), wI_rz K F (by decide)]; exact e80
      · have aK : Sc K (wI K 68 F) := Sc.f (by rw [F2, K2])
        have MF := t4.sc aK
        have eF : rz (wI K 68 F) 79 = v := by rw [wI_rz K F (by decide), e79]
        obtain ⟨Mi, e79i⟩ := MV_0 MF (i := i) (by rw [eF]; omega)
        rw [eF] at e79i
        have e74i : rz (sI (wI K 68 F) 79 0 (iZ i)) 74 = q := by rw [rz_n _ _ _ (by decide), wI_rz K F (by decide)]; exact e74
        obtain ⟨f', g1, g2, g3, g4, g5⟩ := m_now (d + 3) Mi (f0 := hI (sI (wI K 68 F) 79 0 (iZ i)) 68) rfl
        rw [wI_self] at g1
        rw [e79i, e74i] at g2
        have zz : zup v 0 i 0 = i := zup_e v 0 i
        rw [zz] at g2
        have I68 : hI (sI (wI K 68 F) 79 0 (iZ i)) 68 = F := by rw [sI_w, wI_n _ _ (by decide), wI_I]
        rw [I68] at g3 g5
        have comm : wI (sI (wI K 68 F) 79 0 (iZ i)) 68 f' = sI (wI K 68 f') 79 0 (iZ i) := by
          rw [sI_w (wI K 68 F), sI_w (wI K 68 f'), wI_c _ _ _ (show 79 ≠ 68 by decide), wI_wI, wI_n _ _ (show 79 ≠ 68 by decide), wI_n _ _ (show 79 ≠ 68 by decide)]
        rw [comm] at g1 g2
        have af : Sc (sI (wI K 68 F) 79 0 (iZ i)) (sI (wI K 68 f') 79 0 (iZ i)) := by rw [← comm]; exact Sc.f (by rw [I68]; exact g5)
        have Mf := Mi.sc af
        have e79f : rz (sI (wI K 68 f') 79 0 (iZ i)) 79 = zup v 0 i := by rw [af.z (r := 79) (by decide)]; exact e79i
        have e74f : rz (sI (wI K 68 f') 79 0 (iZ i)) 74 = q := by rw [af.z (r := 74) (by decide)]; exact e74i
        have Nf : Nw (sI (wI K 68 f') 79 0 (iZ i)) (rz (sI (wI K 68 f') 79 0 (iZ i)) 74) (rz (sI (wI K 68 f') 79 0 (iZ i)) 79) (rz (sI (wI K 68 f') 79 0 (iZ i)) 79 0) := by rw [e74f, e79f, zz]; exact g2
        have Df : Dst (sI (wI K 68 f') 79 0 (iZ i)) = False := Dst_f (by rw [sI_w, wI_n _ _ (by decide), wI_I, g3]; exact F24)
        have LTf : hL (sI (wI K 68 f') 79 0 (iZ i)) 81 = T := KT
        have cS := pS_c (v := v) (v' := zup v 0 i) (n := i) (fun j j1 _ => zup_j j1) i hb.1 (Int.le_refl _)
        have cL := pL_c (q := q) (v := v) (v' := zup v 0 i) (n := i) (fun j j1 _ => zup_j j1) i hb.1 (Int.le_refl _)
        have cR := pR_c (q := q) (v := v) (v' := zup v 0 i) (n := i) (fun j j1 _ => zup_j j1) i hb.1 (Int.le_refl _)
        have cC := pC_c (q := q) (v := v) (v' := zup v 0 i) (n := i) (fun j j1 _ => zup_j j1) i hb.1 (Int.le_refl _)
        have cG := pG_c (q := q) (v := v) (v' := zup v 0 i) (n := i) (fun j j1 _ => zup_j j1) i hb.1 (Int.le_refl _)
        have nd := HN.nd V i hb.1 (by omega)
        have hv1 : hI (sI (wI K 68 f') 79 0 (iZ i)) 79 (1 + i).toNat = iZ (v (1 + i)) := by
          rw [rz_iz, e79f, zup_j (by omega)]
        have S' : SM (sI (wI K 68 f') 79 0 (iZ i)) := Mf.1
        have loop2 : ∀ k, 0 ≤ k ∧ k ≤ q 8 → ∃ h', L_M_rank0_58 (d + 6) 68 (jZ (sZ (Rk q v) i + sZ (fun k => pif (q (9 + k) < v (1 + i)) (Wk q v False (eAll q (-1)) (pS v i) (pL q v i) (pC q v i) (pG q v i) i k) 0) k)) (iZ (v 0)) (iZ i) (iZ k) (sI (wI K 68 f') 79 0 (iZ i)) = some (some (vL (jZ (sZ (Rk q v) (v 0)))), h') ∧ Ms h h' v (rz h 80) := by
          refine lpZ (q 8) (fun k hk hkb => ?_) (fun k hk ihk hkb => ?_)
          · rw [e_M_rank0_58, m_strides (d + 5) S', bI_s, e74f]
            simp (disch := omega) only [lit32, litJ, iz_add, iz_sub, iz_mul, iz_neg, nI_iz, ix_iz, inb_iz, ifp_t, ifp_f, ifp_T, ifp_F, iz_eq, iz_lt, bI_s, bL_s, bV_s, bR_s]
            rw [show k = q 8 by omega]
            have := ih (by omega) i f' (by omega) (by rw [g3]; exact F24) (by rw [g5]; exact F2)
            rw [sZ_s _ hb.1] at this
            exact this
          · have vs := V.str hkb.1 hk
            have vr := rz_rg h 79 (1 + i)
            rw [← hv] at vr
            have ihk' := ihk (by omega)
            rw [sZ_s _ hkb.1, ← Int.add_assoc] at ihk'
            rw [e_M_rank0_58, m_strides (d + 5) S', bI_s, e74f]
            simp (disch := omega) only [lit32, litJ, iz_add, iz_sub, iz_mul, iz_neg, nI_iz, ix_iz, inb_iz, ifp_t, ifp_f, ifp_T, ifp_F, iz_eq, iz_lt, bI_s, bL_s, bV_s, bR_s]
            rw [e_M_rank0_67, m_strideOf (d + 5) S' (by omega), bI_s, e74f]
            simp (disch := omega) only [lit32, litJ, iz_add, iz_sub, iz_mul, iz_neg, nI_iz, ix_iz, inb_iz, ifp_t, ifp_f, ifp_T, ifp_F, iz_eq, iz_lt, bI_s, bL_s, bV_s, bR_s, S'.r 17 79, S'.n 79 420, hv1]
            by_cases h1 : q (9 + k) < v (1 + i)
            · rw [ifp_t h1]
              rw [pif_t h1] at ihk'
              rw [m_mayNow (d + 1) Mf Nf (by rw [e74f]; omega), bI_s, e74f, e79f, Df]
              simp only [bZ_0]
              have eM : MayH q (zup v 0 i) False k ↔ May q v False (pS v i) (pL q v i) (pC q v i) (pG q v i) i k := by
                unfold MayH
                rw [zz, cS, cL, cC, cG]
                exact May_vi _
              by_cases hm : May q v False (pS v i) (pL q v i) (pC q v i) (pG q v i) i k
              · rw [ifp_f (fun y => y (eM.mpr hm)), S'.r 23 81, bR_s, Nf.1, Nf.2.1, Nf.2.2.1, e74f, e79f, zz, m_creakOf (d + 5) S' (by rw [e74f]; exact V), bI_s, e74f, Nf.2.2.2, e74f, e79f, zz, cS, cL, cR, cG]
                have nx := m_nextAt (d + 4) S' (by rw [e74f]; exact V) (s := pS v i) (l := pL q v i) (c := pC q v i) (g := pG q v i) (t := i) (k := k) (by rw [e74f]; have := hm.1; have := nd.1; omega) (by rw [e74f]; omega)
                rw [e74f] at nx
                have ec : (if q 1 < 0 then 0 else pR q v i) = pC q v i := rfl
                have pb := plc_b V (nd.nx V hkb.1 hk hm)
                rw [ec, nx, bI_s, S'.n 81 294175, ifp_t ((inb_iz (by omega)).mpr (by omega)), ix_iz (by omega), LTf, tab _ _ _ _ _ (nd.nx V hkb.1 hk hm), jz_add]
                have ew : Wk q v False (eAll q (-1)) (pS v i) (pL q v i) (pC q v i) (pG q v i) i k = Wy q v False (eAll q (-1)) (pS v i + q (9 + k)) (k + 1) (nxC q (pS v i) (pC q v i) k) (nxG q (pG q v i) k) (i + 1) := by unfold Wk; rw [pif_t hm]
                rw [← ew]
                exact ihk'
              · rw [ifp_t (fun y => hm (eM.mp y)), jz_add]
                have ew : Wk q v False (eAll q (-1)) (pS v i) (pL q v i) (pC q v i) (pG q v i) i k = 0 := pif_f hm
                rw [ew] at ihk'
                exact ihk'
            · rw [ifp_f h1, jz_add]
              rw [pif_f h1] at ihk'
              exact ihk'
        have S0 : SM (sI (wI K 68 F) 79 0 (iZ j)) := t4.1
        rw [e_M_rank0_37]
        simp (disch := omega) only [lit32, litJ, iz_add, iz_sub, iz_mul, iz_neg, nI_iz, ix_iz, inb_iz, ifp_t, ifp_f, ifp_T, ifp_F, iz_eq, iz_lt, bI_s, bL_s, bV_s, bR_s, S0.r 17 79, S0.n 79 420]
        rw [show Int.toNat 0 = 0 from rfl, s2, g1, bV_s]
        have := loop2 0 (by omega)
        rw [sZ_0 (fun k => pif (q (9 + k) < v (1 + i)) (Wk q v False (eAll q (-1)) (pS v i) (pL q v i) (pC q v i) (pG q v i) i k) 0) (Int.le_refl 0), Int.add_zero] at this
        exact this
    have vb := vt.1
    have := loop 0 (by omega) (v 0) (hI K 68) (by omega) K24 K2
    rw [sZ_0 _ (Int.le_refl 0), wI_self] at this
    have e0 : sI K 79 0 (iZ (v 0)) = K := by
      have : iZ (v 0) = hI K 79 0 := by rw [show hI K 79 0 = iZ (rz K 79 0) from rz_iz K 79 0, e79]
      rw [this, sI_w]
      have : up (hI K 79) 0 (hI K 79 0) = hI K 79 := by
        funext j; unfold up
        by_cases e : j = 0
        · rw [if_pos e, e]
        · rw [if_neg e]
      rw [this, wI_self]
    rw [e0] at this
    exact this
  · rw [ifp_f h0, if_neg h0]
    exact ⟨_, rfl, ac.ms⟩
/-- a climb by moods -/
noncomputable def Cl (q co ca : Int → Int) : Nat → Int → Int → Int → Int → Int → Int → Int × Int
  | 0, s, _, _, _, t, _ => (s, t)
  | n + 1, s, l, c, g, t, z => @ite _ (0 < wAll q z0 co ca s l c g t) (Classical.propDecidable _) (Cl q co ca n (s + q (9 + xpk (Wt q z0 co ca s l c g t) (q 8) (nG z / 65536 % wAll q z0 co ca s l c g t))) (xpk (Wt q z0 co ca s l c g t) (q 8) (nG z / 65536 % wAll q z0 co ca s l c g t) + 1) (nxC q s c (xpk (Wt q z0 co ca s l c g t) (q 8) (nG z / 65536 % wAll q z0 co ca s l c g t))) (nxG q g (xpk (Wt q z0 co ca s l c g t) (q 8) (nG z / 65536 % wAll q z0 co ca s l c g t))) (t + 1) (nG z)) (s, t)
theorem Cl_t {q co ca : Int → Int} {n : Nat} {s l c g t z : Int} (h : 0 < wAll q z0 co ca s l c g t) : Cl q co ca (n + 1) s l c g t z = Cl q co ca n (s + q (9 + xpk (Wt q z0 co ca s l c g t) (q 8) (nG z / 65536 % wAll q z0 co ca s l c g t))) (xpk (Wt q z0 co ca s l c g t) (q 8) (nG z / 65536 % wAll q z0 co ca s l c g t) + 1) (nxC q s c (xpk (Wt q z0 co ca s l c g t) (q 8) (nG z / 65536 % wAll q z0 co ca s l c g t))) (nxG q g (xpk (Wt q z0 co ca s l c g t) (q 8) (nG z / 65536 % wAll q z0 co ca s l c g t))) (t + 1) (nG z) := if_pos h
theorem Cl_f {q co ca : Int → Int} {n : Nat} {s l c g t z : Int} (h : ¬ 0 < wAll q z0 co ca s l c g t) : Cl q co ca (n + 1) s l c g t z = (s, t) := if_neg h
theorem wAll_top {q co ca : Int → Int} (V : VS q) {s l c g t : Int} (h : q 0 ≤ s) : wAll q z0 co ca s l c g t = 0 := sZ_z fun k k1 k2 => by
  have := V.str k1 k2
  exact pif_f (fun y => by have := y.1; omega)
/-- who is chosen -/
theorem Wt_pk {q co ca : Int → Int} (V : VS q) {s l c g t z : Int} (h : 0 < wAll q z0 co ca s l c g t) : xPk (Wt q z0 co ca s l c g t) (q 8) (nG z / 65536 % wAll q z0 co ca s l c g t) (xpk (Wt q z0 co ca s l c g t) (q 8) (nG z / 65536 % wAll q z0 co ca s l c g t)) ∧ May q z0 False s l c g t (xpk (Wt q z0 co ca s l c g t) (q 8) (nG z / 65536 % wAll q z0 co ca s l c g t)) := by
  have wnn : ∀ k, 0 ≤ k → k < q 8 → 0 ≤ Wt q z0 co ca s l c g t k := fun k _ _ => (Wt_b q z0 co ca s l c g t k).1
  obtain ⟨k, pk⟩ := xPk_x (A := Wt q z0 co ca s l c g t) (n := q 8) (x := nG z / 65536 % wAll q z0 co ca s l c g t) (Int.emod_nonneg _ (by omega)) (Int.emod_lt_of_pos _ h)
  rw [xpk_e wnn pk]
  refine ⟨pk, Classical.byContradiction fun y => ?_⟩
  have w0 : Wt q z0 co ca s l c g t k = 0 := pif_f y
  obtain ⟨p1, p2, p3, p4⟩ := pk
  rw [sZ_s _ p1] at p4
  omega
theorem M_climb (d : Nat) {h : Hp} (M : MV h) (W : LW (rz h 74) (rz h 75) (rz h 76)) {x y : Int} (hx : -2147483648 ≤ x ∧ x < 2147483648) (hy : -2147483648 ≤ y ∧ y < 2147483648) : ∃ h', evm (d + 6) 237 [vR 12 68, vI (iZ x), vI (iZ y)] h = some (some (vI (iZ (if (0 ≤ x ∧ x ≤ 9999) ∧ 0 ≤ y ∧ y ≤ 1 then (if y = 0 then (Cl (rz h 74) (rz h 75) (rz h 76) 41 0 0 0 0 0 x).1 else (Cl (rz h 74) (rz h 75) (rz h 76) 41 0 0 0 0 0 x).2) else -1))), h') ∧ Ms h h' (rz h 79) (rz h 80) := by
  rw [e_M_climb, sI_w h, sI_wI, show (0 : Int32) = iZ 0 from rfl, show (9999 : Int32) = iZ 9999 from rfl, show (1 : Int32) = iZ 1 from rfl, m_within (d + 4) hx (by omega) (by omega), bI_s, ifp_n bZ_0, m_within (d + 4) hy (by omega) (by omega), bI_s, ifp_n bZ_0]
  have ac : Sc h (wI h 68 (up (up (hI h 68) 0 (iZ 0)) 24 (iZ 0))) := Sc.f rfl
  by_cases h1 : 0 ≤ x ∧ x ≤ 9999
  · rw [ifp_f (fun z => z h1)]
    by_cases h2 : 0 ≤ y ∧ y ≤ 1
    · rw [ifp_f (fun z => z h2), if_pos ⟨h1, h2⟩, iz_l (by omega)]
      obtain ⟨K, hK⟩ : ∃ K, K = wI h 68 (up (up (hI h 68) 0 (iZ 0)) 24 (iZ 0)) := ⟨_, rfl⟩
      rw [← hK] at ac ⊢
      have M1 := M.sc ac
      have K24 : hI K 68 24 = 0 := by rw [hK]; rfl
      have e74 := ac.z (r := 74) (by decide)
      have e75 := ac.z (r := 75) (by decide)
      have e76 := ac.z (r := 76) (by decide)
      have V := M.2.1
      have Vk := M1.2.1
      obtain ⟨q, hq⟩ : ∃ q, q = rz h 74 := ⟨_, rfl⟩
      obtain ⟨co, hco⟩ : ∃ co, co = rz h 75 := ⟨_, rfl⟩
      obtain ⟨ca, hca⟩ : ∃ ca, ca = rz h 76 := ⟨_, rfl⟩
      rw [← hq] at e74 V W ⊢
      rw [← hco] at e75 W ⊢
      rw [← hca] at e76 W ⊢
      have v1 := V.top
      have vn := V.n
      have vcr := V.cre
      have vc := mxC_b V
      have vg := mxG_b V
      have S' : ∀ {F P L D T}, SM (MC K F P L D T) := fun {_ _ _ _ _} => M1.1
      have c74 : ∀ {F P L D T}, rz (MC K F P L D T) 74 = q := fun {_ _ _ _ _} => by rw [MC_z (by decide)]; exact e74
      have c75 : ∀ {F P L D T}, rz (MC K F P L D T) 75 = co := fun {_ _ _ _ _} => by rw [MC_z (by decide)]; exact e75
      have c76 : ∀ {F P L D T}, rz (MC K F P L D T) 76 = ca := fun {_ _ _ _ _} => by rw [MC_z (by decide)]; exact e76
      have wt : ∀ s l c g t k, Nd q s l c g t → 0 ≤ k ∧ k < q 8 → ∀ F P L D T, ∃ F' P', evm (d + 5) 214 [vR 12 68, vI (iZ s), vI (iZ l), vI (iZ c), vI (iZ g), vI (iZ t), vI (iZ k)] (MC K F P L D T) = some (some (vI (iZ (Wt q z0 co ca s l c g t k))), MC K F' P' L D T) := by
        intro s l c g t k nd hk F P L D T
        obtain ⟨n1, n2, n3, n4⟩ := nd
        have Du' : hI (MC K F P L D T) 68 24 = 0 := by rw [MC_I (by decide)]; exact K24
        obtain ⟨f, p, e⟩ := m_weightAt d (h := MC K F P L D T) S' (by rw [c74]; exact V) (by rw [c74, c75, c76]; exact W) Du' (s := s) (l := l) (c := c) (g := g) (t := t) (k := k) (by omega) (by rw [c74]; exact n2) (by omega) (by omega) (by omega) (by rw [c74]; exact hk)
        rw [c74, c75, c76, MC_w, Wt_v] at e
        exact ⟨f, p, e⟩
      have fin : ∀ s t A : Int, A ≤ 0 ∧ -100 ≤ A → ∀ F P L D T, (0 ≤ s ∧ s ≤ 40) → (0 ≤ t ∧ t ≤ 40) → ∀ l c g, L_M_climb_55 (d + 5) 68 (iZ y) (iZ s) (iZ l) (iZ c) (iZ g) (iZ t) (iZ A) (MC K F P L D T) = some (some (vI (iZ (if y = 0 then s else t))), MC K F P L D T) := by
        intro s t A hA F P L D T hs ht l c g
        rw [e_M_climb_55]
        simp (disch := omega) only [lit32, litJ, iz_add, iz_sub, iz_mul, iz_neg, nI_iz, ix_iz, inb_iz, ifp_t, ifp_f, ifp_T, ifp_F, iz_eq, iz_lt, bI_s, bL_s, bV_s, bR_s]
        exact ifp_r (fun z => ri_e (by rw [if_pos z])) (fun z => ri_e (by rw [if_neg z]))
      have loop : ∀ (m : Nat) (s l c g t z A : Int), q 0 - s < m → Nd q s l c g t → (0 ≤ z ∧ z < 2147483648) → (0 < A ∧ A ≤ 1000) → ∀ F P L, L 36 = jZ z → ∃ h', L_M_climb_55 (d + 5) 68 (iZ y) (iZ s) (iZ l) (iZ c) (iZ g) (iZ t) (iZ A) (MC K F P L (hL K 86) (hL K 81)) = some (some (vI (iZ (if y = 0 then (Cl q co ca m s l c g t z).1 else (Cl q co ca m s l c g t z).2))), h') ∧ Sc K h' := by
        intro m
        induction m with
        | zero => intro s l c g t z A h1 nd; have := nd.1; omega
        | succ m ih =>
          intro s l c g t z A h1 nd hz hA F P L hL36
          obtain ⟨n1, n2, n3, n4⟩ := id nd
          have ab := wAll_b (v := z0) (co := co) (ca := ca) V (s := s) (l := l) (c := c) (g := g) (t := t)
          have l66 : ∀ k, 0 ≤ k ∧ k ≤ q 8 → ∀ F P, ∃ h', L_M_climb_66 (d + 5) 68 (iZ y) (iZ s) (iZ l) (iZ c) (iZ g) (iZ t) (iZ (sZ (Wt q z0 co ca s l c g t) k)) (iZ k) (MC K F P L (hL K 86) (hL K 81)) = some (some (vI (iZ (if y = 0 then (Cl q co ca (m + 1) s l c g t z).1 else (Cl q co ca (m + 1) s l c g t z).2))), h') ∧ Sc K h' := by
            refine lpZ (q 8) (fun k hk hb F P => ?_) (fun k hk ihk hb F P => ?_)
            · have ew : sZ (Wt q z0 co ca s l c g t) k = wAll q z0 co ca s l c g t := by rw [show k = q 8 by omega]; rfl
              rw [e_M_climb_66, m_strides (d + 4) S', bI_s, c74, ew]
              simp (disch := omega) only [lit32, litJ, iz_add, iz_sub, iz_mul, iz_neg, nI_iz, ix_iz, inb_iz, ifp_t, ifp_f, ifp_T, ifp_F, iz_eq, iz_lt, bI_s, bL_s, bV_s, bR_s]
              by_cases ha : 0 < wAll q z0 co ca s l c g t
              · rw [ifp_t ha, Cl_t ha]
                obtain ⟨pk, mk⟩ := Wt_pk V (s := s) (l := l) (c := c) (g := g) (t := t) (z := z) ha
                have lt36 : hL (MC K F P L (hL K 86) (hL K 81)) 68 36 = jZ z := by rw [MC_L]; exact hL36
                rw [m_draw (d + 4) lt36 hz (by omega), bI_s, MC_sL]
                obtain ⟨k0, hk0⟩ : ∃ k0, k0 = xpk (Wt q z0 co ca s l c g t) (q 8) (nG z / 65536 % wAll q z0 co ca s l c g t) := ⟨_, rfl⟩
                obtain ⟨y0, hy0⟩ : ∃ y0, y0 = nG z / 65536 % wAll q z0 co ca s l c g t := ⟨_, rfl⟩
                rw [← hy0] at pk mk hk0 ⊢
                rw [← hk0] at pk mk ⊢
                obtain ⟨p1, p2, p3, p4⟩ := pk
                have yb : 0 ≤ y0 ∧ y0 < wAll q z0 co ca s l c g t := by rw [hy0]; exact ⟨Int.emod_nonneg _ (by omega), Int.emod_lt_of_pos _ ha⟩
                have wnn : ∀ k, 0 ≤ k → k < q 8 → 0 ≤ Wt q z0 co ca s l c g t k := fun k _ _ => (Wt_b q z0 co ca s l c g t k).1
                have vs := V.str p1 p2
                have nx := nd.nx V p1 p2 mk
                have l117 : ∀ j, 0 ≤ j ∧ j ≤ k0 → ∀ F P, ∃ h', L_M_climb_117 (d + 5) 68 (iZ y) (iZ s) (iZ l) (iZ c) (iZ g) (iZ t) (iZ (wAll q z0 co ca s l c g t)) (iZ (y0 - sZ (Wt q z0 co ca s l c g t) j)) (iZ j) (MC K F P (up L 36 (jZ (nG z))) (hL K 86) (hL K 81)) = some (some (vI (iZ (if y = 0 then (Cl q co ca m (s + q (9 + k0)) (k0 + 1) (nxC q s c k0) (nxG q g k0) (t + 1) (nG z)).1 else (Cl q co ca m (s + q (9 + k0)) (k0 + 1) (nxC q s c k0) (nxG q g k0) (t + 1) (nG z)).2))), h') ∧ Sc K h' := by
                  refine lpZ k0 (fun j hj hjb F P => ?_) (fun j hj ihj hjb F P => ?_)
                  · have ej : j = k0 := by omega
                    subst ej
                    have snn := sZ_nn (f := Wt q z0 co ca s l c g t) (n := j) (fun i i1 i2 => wnn i i1 (by omega))
                    have wb := Wt_b q z0 co ca s l c g t j
                    obtain ⟨F1, P1, e1⟩ := wt s l c g t j nd ⟨p1, p2⟩ F P (up L 36 (jZ (nG z))) (hL K 86) (hL K 81)
                    have xb : y0 - sZ (Wt q z0 co ca s l c g t) j < Wt q z0 co ca s l c g t j := by rw [sZ_s _ p1] at p4; omega
                    have kb := V.kin (s := s + q (9 + j)) (by have := mk.1; omega) (by have := mk.1; omega)
                    rw [e_M_climb_117, e1, bI_s, ifp_t ((iz_lt (by omega)).mpr xb), m_strideOf (d + 4) S' (by omega), bI_s, c74, iz_add, m_kindOf (d + 4) S' (by have := mk.1; omega), bI_s, c74, S'.r 10 74, bR_s, S'.n 74 140]
                    have e1' : ∀ {F P L D T}, hI (MC K F P L D T) 74 (ix (iZ 1)) = iZ (q 1) := fun {_ _ _ _ _} => by rw [← c74]; exact rz_iz _ 74 1
                    have l203 : ∀ cc : Int, cc = dc q (s + q (9 + j)) → ∃ h', L_M_climb_203 (d + 5) 68 (iZ y) (iZ (s + q (9 + j))) (iZ (j + 1)) (iZ g) (iZ t) (iZ (wAll q z0 co ca s l c g t)) (iZ j) (iZ cc) (iZ c) (MC K F1 P1 (up L 36 (jZ (nG z))) (hL K 86) (hL K 81)) = some (some (vI (iZ (if y = 0 then (Cl q co ca m (s + q (9 + j)) (j + 1) (nxC q s c j) (nxG q g j) (t + 1) (nG z)).1 else (Cl q co ca m (s + q (9 + j)) (j + 1) (nxC q s c j) (nxG q g j) (t + 1) (nG z)).2))), h') ∧ Sc K h' := by
                      intro cc hcc
                      have gg := m_isGreat (d + 4) (S' (F := F1) (P := P1) (L := up L 36 (jZ (nG z))) (D := hL K 86) (T := hL K 81)) (z := q (9 + j)) (by omega)
                      rw [c74] at gg
                      rw [e_M_climb_203, m_strideOf (d + 4) S' (by omega), bI_s, c74, gg, bI_s]
                      simp only [lit32, litJ, iz_add, iz_sub, iz_mul, iz_neg, nI_iz, ix_iz, inb_iz, ifp_t, ifp_f, ifp_T, ifp_F, iz_eq, iz_lt, bI_s, bL_s, bV_s, bR_s, bZ_0]
                      have go := fun (g' : Int) (hg' : g' = nxG q g j) => ih (s + q (9 + j)) (j + 1) (nxC q s c j) (nxG q g j) (t + 1) (nG z) (wAll q z0 co ca s l c g t) (by omega) nx (nG_b z) (by omega) F1 P1 (up L 36 (jZ (nG z))) (up_e _ _ _)
                      rw [show c + cc = nxC q s c j by rw [nxC_d, hcc]]
                      by_cases hg : Grt q (q (9 + j))
                      · rw [ifp_f (fun z => z hg), ← nxG_t (g := g) hg]
                        exact go _ rfl
                      · rw [ifp_t (show ¬ (0 ≤ q 5 ∧ q 5 ≤ q (9 + j)) from hg), Int.add_zero]
                        have := go _ rfl
                        rw [nxG_f hg] at this ⊢
                        exact this
                    rw [show (2 : Int32) = iZ 2 from rfl, show (1 : Int32) = iZ 1 from rfl, show (0 : Int32) = iZ 0 from rfl, ifp_n (iz_eq (by omega)), iz_add]
                    by_cases k2 : q (26 + (s + q (9 + j))) = 2
                    · rw [ifp_t k2, ifp_t (by decide), e1', ifp_n (iz_lt (by omega))]
                      by_cases k3 : q 1 < 0
                      · rw [ifp_t k3]
                        exact l203 0 (by unfold dc; rw [pif_f (by omega)])
                      · rw [ifp_f k3]
                        exact l203 1 (by unfold dc; rw [pif_t ⟨k2, by omega⟩])
                    · rw [ifp_f k2]
                      exact l203 0 (by unfold dc; rw [pif_f (fun z => k2 z.1)])
                  · have snn := sZ_nn (f := Wt q z0 co ca s l c g t) (n := j) (fun i i1 i2 => wnn i i1 (by omega))
                    have wb := Wt_b q z0 co ca s l c g t j
                    have mono := sZ_m (f := Wt q z0 co ca s l c g t) (n := q 8) wnn (show 0 ≤ j + 1 by omega) (show j + 1 ≤ k0 by omega) (by omega)
                    rw [sZ_s _ hjb.1] at mono
                    obtain ⟨F1, P1, e1⟩ := wt s l c g t j nd ⟨hjb.1, by omega⟩ F P (up L 36 (jZ (nG z))) (hL K 86) (hL K 81)
                    obtain ⟨F2, P2, e2⟩ := wt s l c g t j nd ⟨hjb.1, by omega⟩ F1 P1 (up L 36 (jZ (nG z))) (hL K 86) (hL K 81)
                    have ihj' := ihj (by omega) F2 P2
                    rw [sZ_s _ hjb.1, ← Int.sub_sub] at ihj'
                    rw [e_M_climb_117, e1, bI_s, ifp_f (fun y => by have := (iz_lt (by omega)).mp y; omega), e2, bI_s, iz_sub, show (1 : Int32) = iZ 1 from rfl, iz_add]
                    exact ihj'
                have := l117 0 (by omega) F P
                rw [sZ_0 _ (Int.le_refl 0), Int.sub_zero] at this
                exact this
              · rw [ifp_f ha, Cl_f ha, fin s t _ (by omega) F P L _ _ (by omega) (by omega) l c g]
                exact ⟨_, rfl, MC_sc⟩
            · have wb := Wt_b q z0 co ca s l c g t k
              obtain ⟨F1, P1, e1⟩ := wt s l c g t k nd ⟨hb.1, hk⟩ F P L (hL K 86) (hL K 81)
              rw [e_M_climb_66, m_strides (d + 4) S', bI_s, c74]
              simp (disch := omega) only [lit32, litJ, iz_add, iz_sub, iz_mul, iz_neg, nI_iz, ix_iz, inb_iz, ifp_t, ifp_f, ifp_T, ifp_F, iz_eq, iz_lt, bI_s, bL_s, bV_s, bR_s]
              rw [e1, bI_s, iz_add, ← sZ_s _ hb.1]
              exact ihk (by omega) F1 P1
          rw [e_M_climb_55]
          simp (disch := omega) only [lit32, litJ, iz_add, iz_sub, iz_mul, iz_neg, nI_iz, ix_iz, inb_iz, ifp_t, ifp_f, ifp_T, ifp_F, iz_eq, iz_lt, bI_s, bL_s, bV_s, bR_s]
          have := l66 0 (by omega) F P
          rw [sZ_0 _ (Int.le_refl 0)] at this
          exact this
      have e0 : sL K 68 36 (jZ x) = MC K (hI K 77) (hI K 78) (up (hL K 68) 36 (jZ x)) (hL K 86) (hL K 81) := by
        rw [← MC_sL, MC_self]
      rw [e0]
      obtain ⟨h', r1, r2⟩ := loop 41 0 0 0 0 0 x 1 (by omega) (m_zero V) (by omega) (by omega) (hI K 77) (hI K 78) (up (hL K 68) 36 (jZ x)) (up_e _ _ _)
      exact ⟨h', r1, (ac.tr r2).ms⟩
    · rw [ifp_t h2, if_neg (fun z => h2 z.2)]
      exact ⟨_, rfl, ac.ms⟩
  · rw [ifp_t h1, if_neg (fun z => h1 z.1)]
    exact ⟨_, rfl, ac.ms⟩
