/-! the class: climb -/
theorem CH_wI {h : Hp} {c r : Nat} {s t la cr g : Int} {S f : Nat → Int32} (e : r ≠ c ∧ r ≠ c + 1) : wI (CH h c s t la cr g S) r f = CH (wI h r f) c s t la cr g S := by
  unfold CH
  rw [wI_c _ _ _ (show c + 1 ≠ r by omega), wI_c _ _ _ (show c ≠ r by omega)]
/-- a climb's rows -/
def KC (h : Hp) (o : Nat) (P M : Nat → Int32) (D : Nat → Int64) (s b la cr g : Int) (S : Nat → Int32) : Hp := CH (wL (wI (wI h (o + 9) P) 47 M) 0 D) 6 s b la cr g S
theorem x_climb (d : Nat) {h : Hp} (X : SX h) {o : Nat} (t : TO o) (ho : hR h 0 11 = some o) {q co ca : Int → Int} (R : SR h o q) (V : VS q) (Lw : LX h o q co ca) {s0 b0 la0 cr0 g0 : Int} (hg6 : hI h 6 = cFw s0 b0 la0 cr0 g0) {x y : Int} (hx : -2147483648 ≤ x ∧ x < 2147483648) (hy : -2147483648 ≤ y ∧ y < 2147483648) :
    ∃ P M D s b la cr g S, evm (d + 6) 126 [vR 11 0, vI (iZ x), vI (iZ y)] h = some (some (vI (iZ (if (0 ≤ x ∧ x ≤ 9999) ∧ 0 ≤ y ∧ y ≤ 1 then (if y = 0 then (Cl q co ca 41 0 0 0 0 0 x).1 else (Cl q co ca 41 0 0 0 0 0 x).2) else -1))), KC h o P M D s b la cr g S) := by
  have tt := t
  unfold TO at tt
  have v1 := V.top
  have vn := V.n
  have vc := V.cnt
  have XX : ∀ {P M D s b la cr g S}, SX (KC h o P M D s b la cr g S) := fun {_ _ _ _ _ _ _ _ _} => X
  have HO : ∀ {P M D s b la cr g S}, hR (KC h o P M D s b la cr g S) 0 11 = some o := fun {_ _ _ _ _ _ _ _ _} => ho
  have IK : ∀ {P M D s b la cr g S} (r : Nat), r ≠ 6 → r ≠ 7 → r ≠ 47 → r ≠ o + 9 → hI (KC h o P M D s b la cr g S) r = hI h r := fun {P M D s b la cr g S} r r1 r2 r3 r4 => by
    unfold KC
    rw [CH_n (by omega)]
    show hI (wI (wI h (o + 9) P) 47 M) r = _
    rw [wI_n _ _ r3, wI_n _ _ r4]
  have RX : ∀ {P M D s b la cr g S}, SR (KC h o P M D s b la cr g S) o q := fun {_ _ _ _ _ _ _ _ _} => R.tr (fun r r1 r2 => IK r (by omega) (by omega) (by omega) (by omega))
  have LXX : ∀ {P M D s b la cr g S}, LX (KC h o P M D s b la cr g S) o q co ca := fun {_ _ _ _ _ _ _ _ _} => Lw.tr (IK _ (by omega) (by omega) (by omega) (by omega)) (IK _ (by omega) (by omega) (by omega) (by omega))
  have I6 : ∀ {P M D s b la cr g S}, hI (KC h o P M D s b la cr g S) 6 = cFw s b la cr g := fun {_ _ _ _ _ _ _ _ _} => CH_I
  have I47 : ∀ {P M D s b la cr g S}, hI (KC h o P M D s b la cr g S) 47 = M := fun {P M D s b la cr g S} => by
    unfold KC
    rw [CH_n (by decide)]
    show hI (wI (wI h (o + 9) P) 47 M) 47 = M
    rw [wI_I]
  have L0 : ∀ {P M D s b la cr g S}, hL (KC h o P M D s b la cr g S) 0 = D := fun {P M D s b la cr g S} => wL_L _ _ _
  have u1 : ∀ {P M D s b la cr g S} (P' M' : Nat → Int32), wI (wI (KC h o P M D s b la cr g S) (o + 9) P') 47 M' = KC h o P' M' D s b la cr g S := fun {P M D s b la cr g S} P' M' => by
    unfold KC
    rw [CH_wI (by omega), CH_wI (by omega)]
    rw [wI_wL, wI_wL, wI_c _ _ _ (show 47 ≠ o + 9 by omega), wI_wI, wI_wI]
  have u2 : ∀ {P M D s b la cr g S} (M' : Nat → Int32), wI (KC h o P M D s b la cr g S) 47 M' = KC h o P M' D s b la cr g S := fun {P M D s b la cr g S} M' => by
    unfold KC
    rw [CH_wI (by omega), wI_wL, wI_wI]
  have u3 : ∀ {P M D s b la cr g S} (z : Int64), sL (KC h o P M D s b la cr g S) 0 13 z = KC h o P M (up D 13 z) s b la cr g S := fun {P M D s b la cr g S} z => by
    unfold KC
    rw [CH_sL, sL_wL]
  have wb : ∀ s l c g b, 0 ≤ wAll q z0 co ca s l c g b ∧ wAll q z0 co ca s l c g b ≤ 100 := by
    intro s l c g b
    have : ∀ n, 0 ≤ n → 0 ≤ sZ (Wt q z0 co ca s l c g b) n ∧ sZ (Wt q z0 co ca s l c g b) n ≤ 9 * n := by
      refine upZ ?_ (fun k hk ih => ?_)
      · rw [sZ_0 _ (Int.le_refl 0)]; omega
      · rw [sZ_s _ hk]; have := Wt_b q z0 co ca s l c g b k; omega
    have := this (q 8) (by omega)
    unfold wAll
    omega
  obtain ⟨vl, hvl⟩ : ∃ vl : Int × Int → Int, ∀ z, vl z = if y = 0 then z.1 else z.2 := ⟨_, fun _ => rfl⟩
  by_cases ok : (0 ≤ x ∧ x ≤ 9999) ∧ 0 ≤ y ∧ y ≤ 1
  · rw [if_pos ok, ← hvl]
    have l110 : ∀ P M D s b la cr g S, L_X_climb_110 (d + 5) 0 (iZ y) (KC h o P M D s b la cr g S) = some (some (vI (iZ (vl (s, b)))), KC h o P M D s b la cr g S) := by
      intro P M D s b la cr g S
      rw [e_X_climb_110, hvl]
      by_cases c : y = 0
      · simp (disch := omega) only [lit32, litJ, iz_add, iz_sub, iz_mul, iz_neg, nI_iz, ix_iz, inb_iz, ifp_t, ifp_f, ifp_T, ifp_F, iz_eq, iz_lt, bI_s, bL_s, bV_s, bR_s, XX.r 0 2 6, I6, cFw_1]
        rw [if_pos c]
      · simp (disch := omega) only [lit32, litJ, iz_add, iz_sub, iz_mul, iz_neg, nI_iz, ix_iz, inb_iz, ifp_t, ifp_f, ifp_T, ifp_F, iz_eq, iz_lt, bI_s, bL_s, bV_s, bR_s, XX.r 0 2 6, I6, cFw_2]
        rw [if_neg c]
    have loop : ∀ i : Int, (0 ≤ i ∧ i ≤ 40) → ∀ (s l cr g b z : Int) (P M : Nat → Int32) (D : Nat → Int64) (S : Nat → Int32), i ≤ s → Nd q s l (crC q cr) g b → (0 ≤ cr ∧ cr ≤ b) → D 13 = jZ z → (0 ≤ z ∧ z < 2147483648) → ∃ P' M' D' s' b' la' cr' g' S', L_X_climb_33 (d + 5) 0 (iZ y) (iZ i) (KC h o P M D s b (stv q l) cr g S) = some (some (vI (iZ (vl (Cl q co ca (41 - i).toNat s l (crC q cr) g b z)))), KC h o P' M' D' s' b' la' cr' g' S') := by
      refine lpZ 40 (fun i hi hib s l cr g b z P M D S his n hcr hD hz => ?_) (fun i hi ih hib s l cr g b z P M D S his n hcr hD hz => ?_)
      · have n0 := n.1
        refine ⟨P, M, D, s, b, stv q l, cr, g, S, ?_⟩
        rw [show (41 - i).toNat = 0 + 1 by omega, Cl_f (by rw [wAll_top V (by omega)]; omega), ← l110, e_X_climb_33]
        simp (disch := omega) only [lit32, litJ, iz_add, iz_sub, iz_mul, iz_neg, nI_iz, ix_iz, inb_iz, ifp_t, ifp_f, ifp_T, ifp_F, iz_eq, iz_lt, bI_s, bL_s, bV_s, bR_s]
      · have n0 := n.1
        have wbs := wb s l (crC q cr) g b
        obtain ⟨P1, M1, f1, f2⟩ := x_feel (d + 1) (XX (P := P) (M := M) (D := D) (s := s) (b := b) (la := stv q l) (cr := cr) (g := g) (S := S)) t RX V LXX (c := 6) (by decide) I6 (r := 47) (by omega) (by decide)
        rw [u1] at f1
        obtain ⟨W, k1, k2⟩ := x_keep (d + 2) (XX (P := P1) (M := M1) (D := D) (s := s) (b := b) (la := stv q l) (cr := cr) (g := g) (S := S)) t RX V (co := co) (ca := ca) (c := 6) (by decide) I6 n (by omega) (r := 47) (r' := 47) (by omega) (by decide) (fun k a1 a2 => by rw [I47]; exact f2 k a1 a2)
        rw [u2] at k1
        by_cases c : 0 < wAll q z0 co ca s l (crC q cr) g b
        · have nb := nG_b z
          obtain ⟨xx, hxx⟩ : ∃ xx, xx = nG z / 65536 % wAll q z0 co ca s l (crC q cr) g b := ⟨_, rfl⟩
          have xb : 0 ≤ xx ∧ xx < wAll q z0 co ca s l (crC q cr) g b := by rw [hxx]; exact ⟨Int.emod_nonneg _ (by omega), Int.emod_lt_of_pos _ (by omega)⟩
          have xb2 : xx < sZ (Wt q z0 co ca s l (crC q cr) g b) (q 8) := xb.2
          obtain ⟨kx, pk⟩ := xPk_x xb.1 xb2
          have wn : ∀ k, 0 ≤ k → k < q 8 → 0 ≤ Wt q z0 co ca s l (crC q cr) g b k := fun k _ _ => (Wt_b q z0 co ca s l (crC q cr) g b k).1
          have ek := xpk_e wn pk
          obtain ⟨p1, p2, p3, p4⟩ := pk
          have stx := V.str p1 p2
          have p5 := sZ_s (Wt q z0 co ca s l (crC q cr) g b) p1
          have hMay : May q z0 False s l (crC q cr) g b kx := Classical.byContradiction fun w => by
            have : Wt q z0 co ca s l (crC q cr) g b kx = 0 := pif_f w
            omega
          have m1 := hMay.1
          have m5 := hMay.2.2.2.2.1
          have nx := n.nx V p1 p2 hMay
          rw [← crC_n] at nx
          obtain ⟨P', M', D', s', b', la', cr', g', S', g1⟩ := ih (by omega) (s + q (9 + kx)) (kx + 1) (crN q cr (s + q (9 + kx))) (nxG q g kx) (b + 1) (nG z) P1 W (up D 13 (jZ (nG z))) (up S b.toNat (iZ (q (9 + kx)))) (by omega) nx (crN_b hcr) (up_e _ _ _) nb
          refine ⟨P', M', D', s', b', la', cr', g', S', ?_⟩
          rw [stv_k q p1, crC_n] at g1
          rw [show (41 - i).toNat = (41 - (i + 1)).toNat + 1 by omega, Cl_t c, ← hxx, ek, ← g1, e_X_climb_33]
          have dr := x_draw (d + 4) (h := KC h o P1 W D s b (stv q l) cr g S) (g := z) (m := wAll q z0 co ca s l (crC q cr) g b) (by rw [L0]; exact hD) hz (by omega)
          rw [u3, ← hxx] at dr
          have wg := x_weigh (d + 4) (XX (P := P1) (M := W) (D := up D 13 (jZ (nG z))) (s := s) (b := b) (la := stv q l) (cr := cr) (g := g) (S := S)) t HO RX V (w := Wt q z0 co ca s l (crC q cr) g b) (fun k a1 a2 => by
            rw [I47]
            have := Wt_b q z0 co ca s l (crC q cr) g b k
            exact ⟨k2 k a1 a2, by omega, by omega⟩) xb.1 xb2
          rw [ek] at wg
          have go := x_go (d + 3) (h := wL (wI (wI h (o + 9) P1) 47 W) 0 (up D 13 (jZ (nG z)))) X t (R.tr (fun r r1 r2 => by
            show hI (wI (wI h (o + 9) P1) 47 W) r = _
            rw [wI_n _ _ (by omega), wI_n _ _ (by omega)])) V (c := 6) (by decide) (X.r 6 0 7) (X.n 7 40) (s := s) (b := b) (la := stv q l) (cr := cr) (g := g) (k := kx) (S := S) ⟨p1, p2⟩ (by omega) (by omega)
          simp (disch := omega) only [lit32, litJ, iz_add, iz_sub, iz_mul, iz_neg, nI_iz, ix_iz, inb_iz, ifp_t, ifp_f, ifp_T, ifp_F, iz_eq, iz_lt, bI_s, bL_s, bV_s, bR_s, XX.r 0 2 6, XX.r 0 10 47, HO, f1, k1, dr, wg]
          have go' : evm (d + 5) 5 [vR 0 6, vR 5 o, vI (iZ (q (9 + kx)))] (KC h o P1 W (up D 13 (jZ (nG z))) s b (stv q l) cr g S) = _ := go
          rw [go', bV_s]
          rfl
        · refine ⟨P1, W, D, s, b, stv q l, cr, g, S, ?_⟩
          rw [show (41 - i).toNat = (41 - (i + 1)).toNat + 1 by omega, Cl_f c, ← l110, e_X_climb_33]
          simp (disch := omega) only [lit32, litJ, iz_add, iz_sub, iz_mul, iz_neg, nI_iz, ix_iz, inb_iz, ifp_t, ifp_f, ifp_T, ifp_F, iz_eq, iz_lt, bI_s, bL_s, bV_s, bR_s, XX.r 0 2 6, XX.r 0 10 47, HO, f1, k1]
    have ex : (iZ x).toInt64 = jZ x := iz_l (by omega)
    have e0 : sL h 0 13 (jZ x) = KC h o (hI h (o + 9)) (hI h 47) (up (hL h 0) 13 (jZ x)) s0 b0 la0 cr0 g0 (hI h 7) := by
      unfold KC
      rw [wI_self, wI_self, ← sL_w]
      exact (CH_self (h := sL h 0 13 (jZ x)) (S := hI h 7) hg6 rfl).symm
    obtain ⟨P', M', D', s', b', la', cr', g', S', g1⟩ := loop 0 (by omega) 0 0 0 0 0 x (hI h (o + 9)) (hI h 47) (up (hL h 0) 13 (jZ x)) (hI h 7) (by omega) ⟨by omega, by omega, by have := mxC_b V; unfold crC; split <;> omega, by have := mxG_b V; omega⟩ (by omega) (up_e _ _ _) (by omega)
    refine ⟨P', M', D', s', b', la', cr', g', S', ?_⟩
    have st := x_start (d + 3) (h := wL (wI (wI h (o + 9) (hI h (o + 9))) 47 (hI h 47)) 0 (up (hL h 0) 13 (jZ x))) (c := 6) (s := s0) (t := b0) (la := la0) (cr := cr0) (g := g0) (S := hI h 7)
    have st' : evm (d + 5) 1 [vR 0 6] (sL h 0 13 (jZ x)) = some (none, KC h o (hI h (o + 9)) (hI h 47) (up (hL h 0) 13 (jZ x)) 0 0 0 0 0 (hI h 7)) := by
      rw [e0]; exact st
    have r6 : hR (sL h 0 13 (jZ x)) 0 2 = some 6 := X.r 0 2 6
    have c0 : crC q 0 = 0 := by unfold crC; split <;> rfl
    rw [c0] at g1
    rw [e_X_climb, show d + 5 = (d + 4) + 1 from rfl, e_X_isNoSeed]
    simp (disch := omega) only [lit32, litJ, iz_add, iz_sub, iz_mul, iz_neg, nI_iz, ix_iz, inb_iz, ifp_t, ifp_f, ifp_T, ifp_F, iz_eq, iz_lt, bI_s, bL_s, bV_s, bR_s, ex, r6, st']
    exact g1
  · rw [if_neg ok]
    refine ⟨hI h (o + 9), hI h 47, hL h 0, s0, b0, la0, cr0, g0, hI h 7, ?_⟩
    have e0 : KC h o (hI h (o + 9)) (hI h 47) (hL h 0) s0 b0 la0 cr0 g0 (hI h 7) = h := by
      unfold KC
      rw [wI_self, wI_self, wL_self, CH_self hg6 rfl]
    rw [e0, e_X_climb, show d + 5 = (d + 4) + 1 from rfl, e_X_isNoSeed]
    by_cases c1 : x < 0
    · simp (disch := omega) only [lit32, litJ, iz_add, iz_sub, iz_mul, iz_neg, nI_iz, ix_iz, inb_iz, ifp_t, ifp_f, ifp_T, ifp_F, iz_eq, iz_lt, bI_s, bL_s, bV_s, bR_s]
    · by_cases c2 : 9999 < x
      · simp (disch := omega) only [lit32, litJ, iz_add, iz_sub, iz_mul, iz_neg, nI_iz, ix_iz, inb_iz, ifp_t, ifp_f, ifp_T, ifp_F, iz_eq, iz_lt, bI_s, bL_s, bV_s, bR_s]
      · by_cases c3 : y < 0
        · simp (disch := omega) only [lit32, litJ, iz_add, iz_sub, iz_mul, iz_neg, nI_iz, ix_iz, inb_iz, ifp_t, ifp_f, ifp_T, ifp_F, iz_eq, iz_lt, bI_s, bL_s, bV_s, bR_s]
        · simp (disch := omega) only [lit32, litJ, iz_add, iz_sub, iz_mul, iz_neg, nI_iz, ix_iz, inb_iz, ifp_t, ifp_f, ifp_T, ifp_F, iz_eq, iz_lt, bI_s, bL_s, bV_s, bR_s]
