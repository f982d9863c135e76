/-! the class's crowd: who go on -/
def QH (h : Hp) (G : Nat) (kn tr gr : Nat → Int64) (s t la cr g : Int) (S : Nat → Int32) : Hp := CH (wL (wL (wL h 12 kn) 13 tr) G gr) 14 s t la cr g S
def GT (G : Nat) : Prop := G = 19 ∨ 93 ≤ G
theorem QH_k {h : Hp} {G : Nat} (e : GT G) {kn tr gr : Nat → Int64} {s t la cr g : Int} {S : Nat → Int32} : hL (QH h G kn tr gr s t la cr g S) 12 = kn := by
  unfold GT at e
  unfold QH; rw [CH_L, wL_n _ _ (by omega), wL_n _ _ (by decide), wL_L]
theorem QH_t {h : Hp} {G : Nat} (e : GT G) {kn tr gr : Nat → Int64} {s t la cr g : Int} {S : Nat → Int32} : hL (QH h G kn tr gr s t la cr g S) 13 = tr := by
  unfold GT at e
  unfold QH; rw [CH_L, wL_n _ _ (by omega), wL_L]
theorem QH_g {h : Hp} {G : Nat} {kn tr gr : Nat → Int64} {s t la cr g : Int} {S : Nat → Int32} : hL (QH h G kn tr gr s t la cr g S) G = gr := by
  unfold QH; rw [CH_L, wL_L]
theorem QH_sg {h : Hp} {G : Nat} {kn tr gr : Nat → Int64} {s t la cr g : Int} {S : Nat → Int32} (k : Nat) (x : Int64) : sL (QH h G kn tr gr s t la cr g S) G k x = QH h G kn tr (up gr k x) s t la cr g S := by
  unfold QH; rw [CH_sL, sL_wL]
theorem QH_st {h : Hp} {G : Nat} (e : GT G) {kn tr gr : Nat → Int64} {s t la cr g : Int} {S : Nat → Int32} (k : Nat) (x : Int64) : sL (QH h G kn tr gr s t la cr g S) 13 k x = QH h G kn (up tr k x) gr s t la cr g S := by
  rw [sL_w, QH_t e]
  unfold GT at e
  unfold QH
  rw [CH_wL, wL_c _ _ _ (show G ≠ 13 by omega), wL_wL]
theorem QH_sk {h : Hp} {G : Nat} (e : GT G) {kn tr gr : Nat → Int64} {s t la cr g : Int} {S : Nat → Int32} (k : Nat) (x : Int64) : sL (QH h G kn tr gr s t la cr g S) 12 k x = QH h G (up kn k x) tr gr s t la cr g S := by
  rw [sL_w, QH_k e]
  unfold GT at e
  unfold QH
  rw [CH_wL, wL_c _ _ _ (show G ≠ 12 by omega), wL_c _ _ _ (show 13 ≠ 12 by decide), wL_wL]
noncomputable def ixG (q : Int → Int) (s c g : Int) : Int → Nat := fun k => (plT q (s + q (9 + k)) (k + 1) (nxC q s c k) (nxG q g k)).toNat
theorem x_send (d : Nat) {h : Hp} (X : SX h) {o : Nat} (t : TO o) {q : Int → Int} (R : SR h o q) (V : VS q) (B : TB h q) {G : Nat} (eG : GT G) (hG : hR h 12 6 = some G) (hn : szT q ≤ hN h G) (hn2 : hN h G ≤ 1000000) {kn tr gr : Nat → Int64} {s l c g b k y : Int} {S : Nat → Int32} (n : Nd q s l c g b) (ec : crC q c = c) (hk : 0 ≤ k ∧ k < q 8) (hy : 0 ≤ y ∧ y ≤ 1000000000000) (hm : 0 < y → May q z0 False s l c g b k) :
    ∃ S', evm (d + 3) 83 [vR 9 12, vR 5 o, vI (iZ (q (9 + k))), vL (jZ y)] (QH h G kn tr gr s b (stv q l) c g S) = some (none, QH h G (up kn 1 (kn 1 + jZ y)) (up tr (ixD q s k) (tr (ixD q s k) + jZ y)) (up gr (ixG q s c g k) (gr (ixG q s c g k) + jZ (pif (s + q (9 + k) < q 0) y 0))) s b (stv q l) c g S') := by
  have tt := t
  unfold TO at tt
  have eG2 := eG
  unfold GT at eG2
  have vs := V.str hk.1 hk.2
  have v1 := V.top
  have n1 := n.1
  rw [e_Throng_send]
  simp only [lit32, litJ]
  by_cases h0 : y = 0
  · rw [ifp_t ((cmp_eq (by omega)).mpr h0), h0]
    have z : pif (s + q (9 + k) < q 0) (0 : Int) 0 = 0 := by by_cases e : s + q (9 + k) < q 0; rw [pif_t e]; rw [pif_f e]
    rw [z, up_0, up_0, up_0]
    exact ⟨S, rfl⟩
  · have m := hm (by omega)
    have m1 := m.1
    have nx := n.nx V hk.1 hk.2 m
    have X' : ∀ {kn tr gr}, SX (wL (wL (wL h 12 kn) 13 tr) G gr) := fun {_ _ _} => X
    have R' : ∀ {kn tr gr}, SR (wL (wL (wL h 12 kn) 13 tr) G gr) o q := fun {_ _ _} => R
    have XQ : ∀ {kn tr gr s t la cr g S}, SX (QH h G kn tr gr s t la cr g S) := fun {_ _ _ _ _ _ _ _ _} => X
    have RQ : ∀ {kn tr gr s t la cr g S}, SR (QH h G kn tr gr s t la cr g S) o q := fun {_ _ _ _ _ _ _ _ _} => SR.ch (h := wL (wL (wL h 12 _) 13 _) G _) R t (by decide)
    have BQ : ∀ {kn tr gr s t la cr g S}, TB (QH h G kn tr gr s t la cr g S) q := fun {kn tr gr s t la cr g S} => by
      unfold TB QH; rw [CH_n (by decide)]; exact B
    have IQ : ∀ {kn tr gr s t la cr g S}, hI (QH h G kn tr gr s t la cr g S) 14 = cFw s t la cr g := fun {_ _ _ _ _ _ _ _ _} => CH_I
    have c0 : ∀ {kn tr gr}, hR (wL (wL (wL h 12 kn) 13 tr) G gr) 14 0 = some (14 + 1) := fun {_ _ _} => X.r 14 0 15
    have c1 : ∀ {kn tr gr}, hN (wL (wL (wL h 12 kn) 13 tr) G gr) (14 + 1) = 40 := fun {_ _ _} => X.n 15 40
    have go : evm (d + 2) 5 [vR 0 14, vR 5 o, vI (iZ (q (9 + k)))] (QH h G kn tr gr s b (stv q l) c g S) = some (none, QH h G kn tr gr (s + q (9 + k)) (b + 1) (q (9 + k)) (crN q c (s + q (9 + k))) (nxG q g k) (up S b.toNat (iZ (q (9 + k))))) := x_go d X' t R' V (by decide) c0 c1 hk (by omega) (by omega)
    rw [ifp_f (fun z => h0 ((cmp_eq (by omega)).mp z))]
    rw [XQ.r 12 2 14]
    simp only [bR_s, IQ, cFw_1, cFw_2, cFw_3, cFw_4, cFw_5]
    rw [go]
    simp (disch := omega) only [lit32, litJ, iz_add, iz_sub, iz_mul, iz_neg, nI_iz, ix_iz, inb_iz, ifp_t, ifp_f, ifp_T, ifp_F, iz_eq, iz_lt, bI_s, bL_s, bV_s, bR_s, XQ.r 12 2 14, XQ.r 12 0 13, XQ.n 13 41, IQ, cFw_1, QH_t eG, QH_st eG]
    rw [e_Throng_send_92, QH_k eG, QH_sk eG, XQ.r 12 2 14, bR_s]
    have hq : crC q (crN q c (s + q (9 + k))) = nxC q s c k := by rw [crC_n, ec]
    have hc14 : ∀ {kn tr gr S}, hI (QH h G kn tr gr (s + q (9 + k)) (b + 1) (q (9 + k)) (crN q c (s + q (9 + k))) (nxG q g k) S) 14 = cFw (s + q (9 + k)) (b + 1) (stv q (k + 1)) (crN q c (s + q (9 + k))) (nxG q g k) := fun {_ _ _ _} => by rw [stv_k q hk.1]; exact CH_I
    rw [x_placeT (d + 1) XQ t RQ V BQ (l := k + 1) hc14 nx.2.1 (by rw [hq]; exact nx.2.2.1) nx.2.2.2, bI_s, XQ.r 12 2 14, bR_s, IQ, cFw_1, RQ.top, hq]
    have put : ∀ {kn tr gr S}, L_Throng_send_153 (d + 2) 12 (iZ s) (iZ b) (iZ (stv q l)) (iZ c) (iZ g) (QH h G kn tr gr (s + q (9 + k)) (b + 1) (q (9 + k)) (crN q c (s + q (9 + k))) (nxG q g k) S) = some (none, QH h G kn tr gr s b (stv q l) c g S) := fun {kn tr gr S} => by
      rw [e_Throng_send_153, XQ.r 12 2 14, bR_s]
      have : evm (d + 2) 2 [vR 0 14, vI (iZ s), vI (iZ b), vI (iZ (stv q l)), vI (iZ c), vI (iZ g)] (QH h G kn tr gr (s + q (9 + k)) (b + 1) (q (9 + k)) (crN q c (s + q (9 + k))) (nxG q g k) S) = some (none, QH h G kn tr gr s b (stv q l) c g S) := x_put (d + 1)
      rw [this, bV_s]
    refine ⟨up S b.toNat (iZ (q (9 + k))), ?_⟩
    by_cases ht : s + q (9 + k) < q 0
    · have pb := plT_b (q := q) (s := s + q (9 + k)) (l := k + 1) (c := nxC q s c k) (g := nxG q g k) (by omega) nx.2.1 nx.2.2.1 nx.2.2.2
      have szb := szT_b V
      have hGQ : ∀ {kn tr gr s t la cr g S}, hR (QH h G kn tr gr s t la cr g S) 12 6 = some G := fun {_ _ _ _ _ _ _ _ _} => hG
      have hNQ : ∀ {kn tr gr s t la cr g S}, hN (QH h G kn tr gr s t la cr g S) G = hN h G := fun {_ _ _ _ _ _ _ _ _} => rfl
      rw [pif_t ht]
      simp (disch := omega) only [lit32, litJ, iz_add, iz_sub, iz_mul, iz_neg, nI_iz, ix_iz, inb_iz, ifp_t, ifp_f, ifp_T, ifp_F, iz_eq, iz_lt, bI_s, bL_s, bV_s, bR_s, hGQ, hNQ, QH_g, QH_sg, put]
      rfl
    · rw [pif_f ht, up_0]
      simp (disch := omega) only [lit32, litJ, iz_add, iz_sub, iz_mul, iz_neg, nI_iz, ix_iz, inb_iz, ifp_t, ifp_f, ifp_T, ifp_F, iz_eq, iz_lt, bI_s, bL_s, bV_s, bR_s, put]
      rfl
theorem x_partT (d : Nat) {h : Hp} (X : SX h) {o : Nat} (t : TO o) {q co ca : Int → Int} (R : SR h o q) (V : VS q) (B : TB h q) {G : Nat} (eG : GT G) (hG : hR h 12 6 = some G) (hn : szT q ≤ hN h G) (hn2 : hN h G ≤ 1000000) {kn tr gr : Nat → Int64} {s l c g b x : Int} {S : Nat → Int32} (n : Nd q s l c g b) (ec : crC q c = c) (hx : 0 ≤ x ∧ x ≤ 1000000000000) (hM : ∀ k, 0 ≤ k → k < q 8 → hI h 16 k.toNat = iZ (wgt q co ca (q (9 + k)) (stv q l) s b)) :
    ∃ we pa S', evm (d + 4) 82 [vR 9 12, vR 5 o, vL (jZ x)] (QH h G kn tr gr s b (stv q l) c g S) = some (none, QH (wL (wI h 17 we) 18 pa) G (up kn 1 (kn 1 + jZ (sZ (fun k => shr q z0 co ca s l c g b k x) (q 8)))) (aP tr (ixD q s) (fun k => shr q z0 co ca s l c g b k x) (q 8)) (aP gr (ixG q s c g) (fun k => pif (s + q (9 + k) < q 0) (shr q z0 co ca s l c g b k x) 0) (q 8)) s b (stv q l) c g S') := by
  have tt := t
  unfold TO at tt
  have eG2 := eG
  unfold GT at eG2
  have vn := V.n
  have v1 := V.top
  have vc := mxC_b V
  have vg := mxG_b V
  obtain ⟨n1, n2, n3, n4⟩ := id n
  have XQ : SX (QH h G kn tr gr s b (stv q l) c g S) := X
  have RQ : SR (QH h G kn tr gr s b (stv q l) c g S) o q := SR.ch (h := wL (wL (wL h 12 kn) 13 tr) G gr) R t (by decide)
  have hM' : ∀ k, 0 ≤ k → k < q 8 → hI (QH h G kn tr gr s b (stv q l) c g S) 16 k.toNat = iZ (wgt q co ca (q (9 + k)) (stv q l) s b) := fun k k1 k2 => by unfold QH; rw [CH_n (by decide)]; exact hM k k1 k2
  have ab := wAll_b (v := z0) (co := co) (ca := ca) V (s := s) (l := l) (c := c) (g := g) (t := b)
  obtain ⟨W, w1, w2⟩ := x_keep (d) XQ t RQ V (co := co) (ca := ca) (c := 14) (by decide) (l := l) (cr := c) CH_I (by rw [ec]; exact n) (by omega) (r := 16) (r' := 17) (Or.inl ⟨rfl, rfl⟩) (by decide) hM'
  rw [ec] at w1 w2
  have eW : ∀ {kn tr gr S}, wI (QH h G kn tr gr s b (stv q l) c g S) 17 W = QH (wI h 17 W) G kn tr gr s b (stv q l) c g S := fun {kn tr gr S} => by
    show wI (wI (wI (wL (wL (wL h 12 kn) 13 tr) G gr) 14 _) 15 S) 17 W = wI (wI (wL (wL (wL (wI h 17 W) 12 kn) 13 tr) G gr) 14 _) 15 S
    rw [wI_c _ _ _ (show 15 ≠ 17 by decide), wI_c _ _ _ (show 14 ≠ 17 by decide)]
    rfl
  rw [eW] at w1
  have X2 : ∀ {pa}, SX (wL (wI h 17 W) 18 pa) := fun {_} => X
  have R2 : ∀ {pa}, SR (wL (wI h 17 W) 18 pa) o q := fun {_} => R.tr (fun r r1 r2 => wI_n _ _ (by omega))
  have B2 : ∀ {pa}, TB (wL (wI h 17 W) 18 pa) q := fun {_} => by
    show TB (wI h 17 W) q
    unfold TB; rw [wI_n _ _ (by decide)]; exact B
  have XH : ∀ {pa kn tr gr S}, SX (QH (wL (wI h 17 W) 18 pa) G kn tr gr s b (stv q l) c g S) := fun {_ _ _ _ _} => X
  have RH : ∀ {pa kn tr gr S}, SR (QH (wL (wI h 17 W) 18 pa) G kn tr gr s b (stv q l) c g S) o q := fun {pa kn tr gr S} => SR.ch (h := wL (wL (wL (wL (wI h 17 W) 18 pa) 12 kn) 13 tr) G gr) (R2 (pa := pa)) t (by decide)
  have L18 : ∀ {pa kn tr gr S}, hL (QH (wL (wI h 17 W) 18 pa) G kn tr gr s b (stv q l) c g S) 18 = pa := fun {_ _ _ _ _} => by
    unfold QH; rw [CH_L, wL_n _ _ (by omega), wL_n _ _ (by decide), wL_n _ _ (by decide), wL_L]
  have s18 : ∀ {pa kn tr gr S} (k : Nat) (y : Int64), sL (QH (wL (wI h 17 W) 18 pa) G kn tr gr s b (stv q l) c g S) 18 k y = QH (wL (wI h 17 W) 18 (up pa k y)) G kn tr gr s b (stv q l) c g S := fun {pa kn tr gr S} k y => by
    rw [sL_w, L18]
    unfold QH
    rw [CH_wL, wL_c _ _ _ (show G ≠ 18 by omega), wL_c _ _ _ (show 13 ≠ 18 by decide), wL_c _ _ _ (show 12 ≠ 18 by decide), wL_wL]
  have I17 : ∀ {pa kn tr gr S}, hI (QH (wL (wI h 17 W) 18 pa) G kn tr gr s b (stv q l) c g S) 17 = W := fun {_ _ _ _ _} => by
    unfold QH; rw [CH_n (by decide)]; exact wI_I h 17 W
  rw [e_Throng_part, XQ.r 12 2 14, bR_s, XQ.r 12 3 16, bR_s, XQ.r 12 4 17, bR_s, w1, bI_s]
  simp (disch := omega) only [lit32, litJ, iz_add, iz_sub, iz_mul, iz_neg, nI_iz, ix_iz, inb_iz, ifp_t, ifp_f, ifp_T, ifp_F, iz_eq, iz_lt, bI_s, bL_s, bV_s, bR_s]
  by_cases ha : 0 < wAll q z0 co ca s l c g b
  · rw [ifp_t ha]
    have es : ∀ k, shr q z0 co ca s l c g b k x = x * Wt q z0 co ca s l c g b k / wAll q z0 co ca s l c g b + pif (k = wFst q z0 co ca s l c g b) (wLft q z0 co ca s l c g b x) 0 := fun k => by unfold shr; rw [pif_t ha]
    have lb := wLft_b (s := s) (l := l) (c := c) (g := g) (t := b) (v := z0) (co := co) (ca := ca) (q := q) hx.1 ha
    have dv : ∀ k, 0 ≤ k → k < q 8 → 0 ≤ x * Wt q z0 co ca s l c g b k / wAll q z0 co ca s l c g b ∧ x * Wt q z0 co ca s l c g b k / wAll q z0 co ca s l c g b ≤ x := by
      intro k k1 k2
      have wb := Wt_b q z0 co ca s l c g b k
      refine ⟨Int.ediv_nonneg (Int.mul_nonneg hx.1 wb.1) (by omega), ?_⟩
      have wle : Wt q z0 co ca s l c g b k ≤ wAll q z0 co ca s l c g b := sZ_1 (f := Wt q z0 co ca s l c g b) (fun j _ _ => (Wt_b q z0 co ca s l c g b j).1) ⟨k1, k2⟩
      have := Int.ediv_le_ediv ha (Int.mul_le_mul_of_nonneg_left wle hx.1)
      rw [Int.mul_ediv_cancel x (by omega)] at this
      omega
    have sx : ∀ k, 0 ≤ k → k < q 8 → 0 ≤ shr q z0 co ca s l c g b k x ∧ shr q z0 co ca s l c g b k x ≤ 1000000000000 := by
      intro k k1 k2
      have a1 := shr_b (q := q) (v := z0) (co := co) (ca := ca) (s := s) (l := l) (c := c) (g := g) (t := b) (k := k) hx.1
      have a2 := sZ_1 (f := fun k => shr q z0 co ca s l c g b k x) (n := q 8) (k := k) (fun j _ _ => shr_b hx.1) ⟨k1, k2⟩
      have a3 := shr_s (v := z0) (co := co) (ca := ca) V (s := s) (l := l) (c := c) (g := g) (t := b) hx.1
      exact ⟨a1, by have a2' : shr q z0 co ca s l c g b k x ≤ sZ (fun k => shr q z0 co ca s l c g b k x) (q 8) := a2; omega⟩
    have loop2 : ∀ k, 0 ≤ k ∧ k ≤ q 8 → ∀ (pa : Nat → Int64) (S : Nat → Int32), (∀ j, 0 ≤ j → j < q 8 → pa j.toNat = jZ (x * Wt q z0 co ca s l c g b j / wAll q z0 co ca s l c g b)) → ∃ S', L_Throng_part_114 (d + 3) 12 o (jZ (wLft q z0 co ca s l c g b x)) (iZ (wFst q z0 co ca s l c g b)) (iZ k) (QH (wL (wI h 17 W) 18 pa) G (up kn 1 (kn 1 + jZ (sZ (fun k => shr q z0 co ca s l c g b k x) k))) (aP tr (ixD q s) (fun k => shr q z0 co ca s l c g b k x) k) (aP gr (ixG q s c g) (fun k => pif (s + q (9 + k) < q 0) (shr q z0 co ca s l c g b k x) 0) k) s b (stv q l) c g S) = some (none, QH (wL (wI h 17 W) 18 pa) G (up kn 1 (kn 1 + jZ (sZ (fun k => shr q z0 co ca s l c g b k x) (q 8)))) (aP tr (ixD q s) (fun k => shr q z0 co ca s l c g b k x) (q 8)) (aP gr (ixG q s c g) (fun k => pif (s + q (9 + k) < q 0) (shr q z0 co ca s l c g b k x) 0) (q 8)) s b (stv q l) c g S') := by
      refine lpZ (q 8) (fun k hk hb pa S hpa => ?_) (fun k hk ih hb pa S hpa => ?_)
      · rw [e_Throng_part_114, RH.n]
        simp (disch := omega) only [lit32, litJ, iz_add, iz_sub, iz_mul, iz_neg, nI_iz, ix_iz, inb_iz, ifp_t, ifp_f, ifp_T, ifp_F, iz_eq, iz_lt, bI_s, bL_s, bV_s, bR_s]
        rw [show k = q 8 by omega]
        exact ⟨S, rfl⟩
      · have sxk := sx k hb.1 hk
        have hgQ : hR (wL (wI h 17 W) 18 pa) 12 6 = some G := hG
        obtain ⟨S1, s1⟩ := x_send d (h := wL (wI h 17 W) 18 pa) X2 t R2 V B2 eG hgQ hn hn2 (kn := up kn 1 (kn 1 + jZ (sZ (fun k => shr q z0 co ca s l c g b k x) k))) (tr := aP tr (ixD q s) (fun k => shr q z0 co ca s l c g b k x) k) (gr := aP gr (ixG q s c g) (fun k => pif (s + q (9 + k) < q 0) (shr q z0 co ca s l c g b k x) 0) k) (y := shr q z0 co ca s l c g b k x) (S := S) n ec ⟨hb.1, hk⟩ sxk (fun y => Classical.byContradiction fun z => by rw [shr_m V ⟨hb.1, hk⟩ z] at y; omega)
        obtain ⟨S2, s2⟩ := ih (by omega) pa S1 hpa
        rw [aP_s tr (ixD q s) (fun k => shr q z0 co ca s l c g b k x) hb.1, aP_s gr (ixG q s c g) (fun k => pif (s + q (9 + k) < q 0) (shr q z0 co ca s l c g b k x) 0) hb.1, sZ_s _ hb.1] at s2
        have eL : up (up kn 1 (kn 1 + jZ (sZ (fun k => shr q z0 co ca s l c g b k x) k))) 1 (up kn 1 (kn 1 + jZ (sZ (fun k => shr q z0 co ca s l c g b k x) k)) 1 + jZ (shr q z0 co ca s l c g b k x)) = up kn 1 (kn 1 + jZ (sZ (fun k => shr q z0 co ca s l c g b k x) k + shr q z0 co ca s l c g b k x)) := by
          rw [up_e, j64_a]
          funext j; unfold up
          by_cases hj : j = 1
          · rw [if_pos hj, if_pos hj]
          · rw [if_neg hj, if_neg hj, if_neg hj]
        rw [eL] at s1
        refine ⟨S2, ?_⟩
        have fb : -1 ≤ wFst q z0 co ca s l c g b ∧ wFst q z0 co ca s l c g b < 6 := by
          rcases frs_b (fun k => 0 < Wt q z0 co ca s l c g b k) (q 8) (by omega) with ⟨a, _⟩ | ⟨a, b', _⟩
          · have : wFst q z0 co ca s l c g b = -1 := a
            omega
          · have a' : 0 ≤ wFst q z0 co ca s l c g b := a
            have b'' : wFst q z0 co ca s l c g b < q 8 := b'
            omega
        rw [e_Throng_part_114, RH.n]
        simp (disch := omega) only [lit32, litJ, iz_add, iz_sub, iz_mul, iz_neg, nI_iz, ix_iz, inb_iz, ifp_t, ifp_f, ifp_T, ifp_F, iz_eq, iz_lt, bI_s, bL_s, bV_s, bR_s, XH.r 12 5 18, XH.n 18 6, XH.o0 t, XH.n1 t, RH.str hb.1 hk, L18, hpa k hb.1 hk, jz_add]
        by_cases hf : k = wFst q z0 co ca s l c g b
        · rw [ifp_t hf]
          have := es k
          rw [pif_t hf] at this
          rw [← this, s1, bV_s]
          exact s2
        · rw [ifp_f hf]
          have := es k
          rw [pif_f hf, Int.add_zero] at this
          rw [← this, s1, bV_s]
          exact s2
    have loop1 : ∀ k, 0 ≤ k ∧ k ≤ q 8 → ∀ (pa : Nat → Int64), (∀ j, 0 ≤ j → j < k → pa j.toNat = jZ (x * Wt q z0 co ca s l c g b j / wAll q z0 co ca s l c g b)) → ∃ pa' S', L_Throng_part_33 (d + 3) 12 o (jZ x) (iZ (wAll q z0 co ca s l c g b)) (jZ (x - sZ (fun k => x * Wt q z0 co ca s l c g b k / wAll q z0 co ca s l c g b) k)) (iZ (frs (fun k => 0 < Wt q z0 co ca s l c g b k) k)) (iZ k) (QH (wL (wI h 17 W) 18 pa) G kn tr gr s b (stv q l) c g S) = some (none, QH (wL (wI h 17 W) 18 pa') G (up kn 1 (kn 1 + jZ (sZ (fun k => shr q z0 co ca s l c g b k x) (q 8)))) (aP tr (ixD q s) (fun k => shr q z0 co ca s l c g b k x) (q 8)) (aP gr (ixG q s c g) (fun k => pif (s + q (9 + k) < q 0) (shr q z0 co ca s l c g b k x) 0) (q 8)) s b (stv q l) c g S') := by
      refine lpZ (q 8) (fun k hk hb pa hpa => ?_) (fun k hk ih hb pa hpa => ?_)
      · rw [e_Throng_part_33, RH.n]
        simp (disch := omega) only [lit32, litJ, iz_add, iz_sub, iz_mul, iz_neg, nI_iz, ix_iz, inb_iz, ifp_t, ifp_f, ifp_T, ifp_F, iz_eq, iz_lt, bI_s, bL_s, bV_s, bR_s]
        rw [show k = q 8 by omega]
        obtain ⟨S1, s1⟩ := loop2 0 (by omega) pa S (fun j j1 j2 => hpa j j1 (by omega))
        rw [aP_0, aP_0, sZ_0 _ (Int.le_refl 0), up_0] at s1
        exact ⟨pa, S1, s1⟩
      · have wb := Wt_b q z0 co ca s l c g b k
        have xw : 0 ≤ x * Wt q z0 co ca s l c g b k ∧ x * Wt q z0 co ca s l c g b k ≤ 1000000000000 * 9 := ⟨Int.mul_nonneg hx.1 wb.1, Int.mul_le_mul hx.2 wb.2 wb.1 (by omega)⟩
        have ea : (iZ (wAll q z0 co ca s l c g b)).toInt64 = jZ (wAll q z0 co ca s l c g b) := iz_l (by omega)
        have ew : (iZ (Wt q z0 co ca s l c g b k)).toInt64 = jZ (Wt q z0 co ca s l c g b k) := iz_l (by omega)
        have rb : -1 ≤ frs (fun k => 0 < Wt q z0 co ca s l c g b k) k ∧ frs (fun k => 0 < Wt q z0 co ca s l c g b k) k < 6 := by
          rcases frs_b (fun k => 0 < Wt q z0 co ca s l c g b k) k hb.1 with ⟨a, _⟩ | ⟨a, b, _⟩ <;> omega
        have fs := frs_s (fun k => 0 < Wt q z0 co ca s l c g b k) hb.1
        rw [e_Throng_part_33, RH.n]
        simp (disch := omega) only [lit32, litJ, iz_add, iz_sub, iz_mul, iz_neg, nI_iz, ix_iz, inb_iz, ifp_t, ifp_f, ifp_T, ifp_F, iz_eq, iz_lt, bI_s, bL_s, bV_s, bR_s]
        rw [e_Throng_part_42]
        simp (disch := omega) only [lit32, litJ, iz_add, iz_sub, iz_mul, iz_neg, nI_iz, ix_iz, inb_iz, ifp_t, ifp_f, ifp_T, ifp_F, iz_eq, iz_lt, bI_s, bL_s, bV_s, bR_s, XH.r 12 5 18, XH.n 18 6, XH.r 12 4 17, XH.n 17 6, I17, w2 k hb.1 hk, ea, ew, jz_mul, jz_div, s18, L18, up_e, jz_sub, jz_eq]
        obtain ⟨pa2, hpa2⟩ : ∃ pa2, pa2 = up pa k.toNat (jZ (x * Wt q z0 co ca s l c g b k / wAll q z0 co ca s l c g b)) := ⟨_, rfl⟩
        rw [← hpa2]
        have h3 := ih (by omega) pa2 (fun j j1 j2 => by
          rw [hpa2]
          by_cases e : j = k
          · rw [e, up_e]
          · rw [up_n _ _ (by omega)]; exact hpa j j1 (by omega))
        rw [sZ_s _ hb.1, fs, ← Int.sub_sub] at h3
        by_cases h1 : frs (fun k => 0 < Wt q z0 co ca s l c g b k) k = -1
        · rw [ifp_t h1]
          rw [pif_f (by omega)] at h3
          by_cases h2 : 0 < Wt q z0 co ca s l c g b k
          · rw [ifp_t h2]
            rw [pif_t h2] at h3
            exact h3
          · rw [ifp_f h2]
            rw [pif_f h2] at h3
            rw [h1]
            exact h3
        · rw [ifp_f h1]
          rw [pif_t (by omega)] at h3
          exact h3
    have e0 : QH (wI h 17 W) G kn tr gr s b (stv q l) c g S = QH (wL (wI h 17 W) 18 (hL h 18)) G kn tr gr s b (stv q l) c g S := by
      have : wL (wI h 17 W) 18 (hL h 18) = wI h 17 W := wL_self (wI h 17 W) 18
      rw [this]
    obtain ⟨pa, S1, s1⟩ := loop1 0 (by omega) (hL h 18) (fun j j1 j2 => by omega)
    rw [sZ_0 _ (Int.le_refl 0), frs_0 _ (Int.le_refl 0), Int.sub_zero, ← e0] at s1
    exact ⟨W, pa, S1, s1⟩
  · rw [ifp_f ha]
    have ez : ∀ k, shr q z0 co ca s l c g b k x = 0 := fun k => by unfold shr; rw [pif_f ha]
    have ez2 : ∀ k, pif (s + q (9 + k) < q 0) (shr q z0 co ca s l c g b k x) 0 = 0 := fun k => by rw [ez]; by_cases e : s + q (9 + k) < q 0; rw [pif_t e]; rw [pif_f e]
    refine ⟨W, hL h 18, S, ?_⟩
    rw [aP_z tr _ (fun k _ _ => ez k), aP_z gr _ (fun k _ _ => ez2 k), sZ_z (fun k _ _ => ez k), up_0]
    have : wL (wI h 17 W) 18 (hL h 18) = wI h 17 W := wL_self (wI h 17 W) 18
    rw [this]
