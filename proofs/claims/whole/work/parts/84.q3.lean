/-! nth and fair, of the class -/
def GhN (h : Hp) (q : Int → Int) (s l cr g b : Int) : Prop := hI h 6 = cFw s b (stv q l) cr g ∧ Nr q s l (crC q cr) g b ∧ (0 ≤ cr ∧ cr ≤ b) ∧ (0 < b → hI h 7 (b - 1).toNat = iZ (stv q l)) ∧ (b = 0 → l = 0)
theorem X_strideOf (d : Nat) {h : Hp} {o p A G P c0 s0 : Nat} {q v z co ca : Int → Int} (S : XS h o p q v z co ca) (W : XW h A G P c0 s0 q co ca) {s l cr g b : Int} (Gh : GhN h q s l cr g b) {x i : Int} (hx : -9223372036854775808 ≤ x ∧ x < 9223372036854775808) (hi : -2147483648 ≤ i ∧ i < 2147483648) :
    ∃ k A', evm (d + 88) 131 [vR 11 0, vL (jZ x), vI (iZ i)] h = some (some (vI (iZ (if (0 ≤ x ∧ x < Wy q v False (eAll q (-1)) s l (crC q cr) g b) ∧ 0 ≤ i then SA q v (eAll q (-1)) i.toNat s l (crC q cr) g b x else -1))), k) ∧ XFr h k ∧ XW k A' G P c0 s0 q co ca := by
  have hc : 92 < hC h := W.2.2.2.2.1.1
  have V := S.2.2.2.1.2.1
  have vc := V.cnt
  have v1 := V.top
  have a5 := S.2.2.1.1
  obtain ⟨g6, nr, hcr, hS, hl⟩ := Gh
  have n0 := nr.1.1
  obtain ⟨h', A', b1, f, M⟩ := x_beginAll (d + 82) S.1 S.2.1.1 S.2.2.2.1.1 V W.2.1.1 W.2.1.2 ⟨W.2.2.2.2.1.2.1.1, hc, W.lim⟩ W.2.2.2.2.2.1
  have i6 : hI h' 6 = cFw s b (stv q l) cr g := by rw [f.1 6 (Or.inl (by omega)) (by decide) (by decide) (by decide)]; exact g6
  have i7 : hI h' 7 = hI h 7 := f.1 7 (Or.inl (by omega)) (by decide) (by decide) (by decide)
  have e0 : CH (wL h' A' (hL h' A')) 6 s b (stv q l) cr g (hI h' 7) = h' := by rw [wL_self]; exact CH_self i6 rfl
  have fr := W.wfr f (hL h' A') s b (stv q l) cr g (hI h' 7)
  rw [e0] at fr
  have S' := S.fr hc fr
  have X' := S'.1
  have w0 := W.ways f (hL h' A') s b (stv q l) cr g (hI h' 7) (by rw [e0]; exact WC_A M)
  rw [e0] at w0
  have r' : ∀ j, hR h' 0 j = hR h 0 j := fun j => f.2.2.1 0 j (Or.inl (by omega)) (by omega)
  have WB' := M.1.f z0 (by omega) (by omega)
  rw [show d + 88 = (d + 87) + 1 from rfl, e_X_strideOf]
  simp (disch := omega) only [lit32, litJ, iz_add, iz_sub, iz_mul, iz_neg, nI_iz, ix_iz, inb_iz, ifp_t, ifp_f, ifp_T, ifp_F, iz_eq, iz_lt, bI_s, bL_s, bV_s, bR_s, S.1.r 0 3 8, a5, b1]
  by_cases c1 : i < 0
  · rw [if_neg (by omega), ifp_t c1]
    exact ⟨h', A', rfl, w0⟩
  · rw [ifp_f c1, ifp_n (cmp_lt (by omega))]
    by_cases c2 : x < 0
    · rw [if_neg (by omega), ifp_t c2]
      exact ⟨h', A', rfl, w0⟩
    · rw [ifp_f c2]
      obtain ⟨T1, S1, f1, f2, f3⟩ := x_fromG (d + 2) X' S.2.1.1 S'.2.2.2.1.1 V WB' (by decide) eAll_A f.2.2.2.2.1 f.2.2.2.2.2.1.2 M i6 nr hcr (fun y => by rw [i7]; exact hS y) hl
      have wb := Wy_b (v := z0) V (u := False) (e := eAll q (-1)) (l := l) (c := crC q cr) (g := g) (t := b) (show 0 ≤ s by omega) n0.2.2
      have gR : hR (CH (wL h' A' T1) 6 s b (stv q l) cr g S1) = hR h' := rfl
      simp (disch := omega) only [lit32, litJ, iz_add, iz_sub, iz_mul, iz_neg, nI_iz, ix_iz, inb_iz, ifp_t, ifp_f, ifp_T, ifp_F, iz_eq, iz_lt, bI_s, bL_s, bV_s, bR_s, r', S.1.r 0 3 8, a5, S.1.r 0 2 6, f1, gR]
      rw [ifp_n (cmp_lt (by omega)), Wy_v (v := v) z0]
      by_cases c3 : x < Wy q z0 False (eAll q (-1)) s l (crC q cr) g b
      · rw [if_pos (by omega), ifp_t c3]
        obtain ⟨T', s', b', la', cr', g', S2, h1, h2⟩ := x_strideAt X' S.2.1.1 S'.2.2.2.1.1 V WB' (x_from X' S.2.1.1 S'.2.2.2.1.1 V WB' (by decide) eAll_A f.2.2.2.2.1 M.2.1 (Nat.le_trans f.2.2.2.2.2.1.2 (by decide))) d (i := i) (by omega) 40 0 s l cr g b x S1 T1 (by omega) (by omega) nr hcr (fun y => by rw [f3 _ (by omega), i7]; exact hS y) hl (by have := f2.2.2; rw [CH_L, wL_L] at this; exact this) (by omega)
        have wm : WMe (CH (wL h' A' T') 6 s' b' la' cr' g' S2) q (-1) (q 3) (q 4) (Wy q z0 False (eAll q (-1))) A' := ⟨M.1.tr (CH_n (by decide)) (CH_n (by decide)), M.2.1, by rw [CH_L, wL_L]; exact h2⟩
        have w := W.ways f T' s' b' la' cr' g' S2 (WC_A wm)
        refine ⟨_, A', ?_, w.1, w.2⟩
        rw [show d + 87 = (d + 86) + 1 from rfl, e_Ways_strideAt]
        simp only [lit32]
        rw [h1, bI_s, Int.sub_zero, SA_v (v := v) z0]
      · rw [if_neg (by omega), ifp_f c3]
        have w := W.ways f T1 s b (stv q l) cr g S1 (WC_A f2)
        exact ⟨_, A', rfl, w.1, w.2⟩
