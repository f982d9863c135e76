/-! the class: the stride of a number -/
theorem x_strideAt {h : Hp} (X : SX h) {o : Nat} (t : TO o) {q v : Int → Int} (R : SR h o q) (V : VS q) {pu le : Int} (W : WB h q v False pu le (q 4)) {e : Int → Prop} {A : Nat} {pm fm : Prop} (F : ∀ m : Nat, FrP h o q v False e pm fm A m) (d : Nat) {i : Int} (hi : 0 ≤ i ∧ i < 2147483648) : ∀ (m : Nat) (j s l cr g b x : Int) (S : Nat → Int32) (T : Nat → Int64), q 0 - s ≤ m → (0 ≤ j ∧ j ≤ i ∧ j ≤ s) → Nr q s l (crC q cr) g b → (0 ≤ cr ∧ cr ≤ b) → (0 < b → S (b - 1).toNat = iZ (stv q l)) → (b = 0 → l = 0) → Mem q pm fm (Wy q v False e) T → (0 ≤ x ∧ x < Wy q v False e s l (crC q cr) g b) →
    ∃ T' s' b' la' cr' g' S', L_Ways_strideAt_6 (d + 86) 8 o 6 (iZ i) (jZ x) (iZ j) (CH (wL h A T) 6 s b (stv q l) cr g S) = some (some (vI (iZ (SA q v e (i - j).toNat s l (crC q cr) g b x))), CH (wL h A T') 6 s' b' la' cr' g' S') ∧ Mem q pm fm (Wy q v False e) T' := by
  have vn := V.n
  have v1 := V.top
  have vc := V.cnt
  have top : ∀ (j s l cr g b x : Int) (S : Nat → Int32) (T : Nat → Int64), s = q 0 → (0 ≤ j ∧ j ≤ i ∧ j ≤ s) → L_Ways_strideAt_6 (d + 86) 8 o 6 (iZ i) (jZ x) (iZ j) (CH (wL h A T) 6 s b (stv q l) cr g S) = some (some (vI (iZ (SA q v e (i - j).toNat s l (crC q cr) g b x))), CH (wL h A T) 6 s b (stv q l) cr g S) := by
    intro j s l cr g b x S T es hj
    have RX : SR (CH (wL h A T) 6 s b (stv q l) cr g S) o q := SR.ch (h := wL h A T) R t (by decide)
    have sa : SA q v e (i - j).toNat s l (crC q cr) g b x = -1 := by
      cases (i - j).toNat with
      | zero => rw [SA, pif_t es]
      | succ n => rw [SA, pif_t es]
    rw [sa, e_Ways_strideAt_6, RX.top, CH_I, cFw_1]
    by_cases c : j < 40
    · simp (disch := omega) only [lit32, litJ, iz_add, iz_sub, iz_mul, iz_neg, nI_iz, ix_iz, inb_iz, ifp_t, ifp_f, ifp_T, ifp_F, iz_eq, iz_lt, bI_s, bL_s, bV_s, bR_s]
    · simp (disch := omega) only [lit32, litJ, iz_add, iz_sub, iz_mul, iz_neg, nI_iz, ix_iz, inb_iz, ifp_t, ifp_f, ifp_T, ifp_F, iz_eq, iz_lt, bI_s, bL_s, bV_s, bR_s]
  intro m
  induction m with
  | zero =>
    intro j s l cr g b x S T hm hj n hcr hS hl M hx
    have n0 := n.1.1
    exact ⟨T, s, b, stv q l, cr, g, S, top j s l cr g b x S T (by omega) hj, M⟩
  | succ m ih =>
    intro j s l cr g b x S T hm hj n hcr hS hl M hx
    have n0 := n.1.1
    by_cases es : s = q 0
    · exact ⟨T, s, b, stv q l, cr, g, S, top j s l cr g b x S T es hj, M⟩
    · have hsq : s < q 0 := by omega
      rw [Wy_k V (by omega) hsq] at hx
      obtain ⟨kx, pk⟩ := xPk_x hx.1 hx.2
      have wb : ∀ k, 0 ≤ k → k < q 8 → 0 ≤ Wk q v False e s l (crC q cr) g b k ∧ Wk q v False e s l (crC q cr) g b k ≤ 1099511627776 := fun k k1 k2 => Wk_b V (by omega) k1 k2
      have ek := xpk_e (fun k k1 k2 => (wb k k1 k2).1) pk
      obtain ⟨p1, p2, p3, p4⟩ := pk
      have stx := V.str p1 p2
      have p5 := sZ_s (Wk q v False e s l (crC q cr) g b) p1
      have hMay : May q v False s l (crC q cr) g b kx := Classical.byContradiction fun y => by
        have : Wk q v False e s l (crC q cr) g b kx = 0 := pif_f y
        omega
      have hWk : Wk q v False e s l (crC q cr) g b kx = Wy q v False e (s + q (9 + kx)) (kx + 1) (nxC q s (crC q cr) kx) (nxG q g kx) (b + 1) := pif_t hMay
      have m1 := hMay.1
      have m5 := hMay.2.2.2.2.1
      have xb : x < 9000000000000 := by
        have := sZ_le (f := Wk q v False e s l (crC q cr) g b) (g := fun _ => 1099511627776) (n := q 8) (fun k k1 k2 => (wb k k1 k2).2)
        have h2 : ∀ n, 0 ≤ n → sZ (fun _ => 1099511627776) n = n * 1099511627776 := by
          refine upZ ?_ (fun k hk ih => ?_)
          · rw [sZ_0 _ (Int.le_refl 0)]; omega
          · rw [sZ_s _ hk, ih]; omega
        rw [h2 _ (by omega)] at this
        omega
      have RX : ∀ {T S}, SR (CH (wL h A T) 6 s b (stv q l) cr g S) o q := fun {T S} => SR.ch (h := wL h A T) R t (by decide)
      have XX : ∀ {T S}, SX (CH (wL h A T) 6 s b (stv q l) cr g S) := fun {_ _} => X
      have wk : ∀ k, pif (May q v False s l (crC q cr) g b k ∧ b < q 4) (Wy q v False e (s + q (9 + k)) (k + 1) (nxC q s (crC q cr) k) (nxG q g k) (b + 1)) 0 = Wk q v False e s l (crC q cr) g b k := fun k => by
        unfold Wk
        exact pif_i ⟨fun y => y.1, fun y => ⟨y, by have := y.2.2.2.2.1; omega⟩⟩
      have bh : ∀ (k : Int) (T : Nat → Int64) (S : Nat → Int32), (0 ≤ k ∧ k < q 8) → (0 < b → S (b - 1).toNat = iZ (stv q l)) → Mem q pm fm (Wy q v False e) T → ∃ T' S', evm (d + 86) 91 [vR 10 8, vR 5 o, vR 0 6, vI (iZ (q (9 + k))), vI (iZ 0)] (CH (wL h A T) 6 s b (stv q l) cr g S) = some (some (vL (jZ (Wk q v False e s l (crC q cr) g b k))), CH (wL h A T') 6 s b (stv q l) cr g S') ∧ Mem q pm fm (Wy q v False e) T' ∧ ∀ j, j < b.toNat → S' j = S j := by
        intro k T S hk hS M
        obtain ⟨T1, S1, g1, g2, g3⟩ := x_behind X t R V W (F 40) d (dp := 0) (k := k) (by omega) n hcr (by omega) hS hl M hk
        rw [wk k, show 2 * 40 + d + 6 = d + 86 by omega] at g1
        exact ⟨T1, S1, g1, g2, g3⟩
      -- the stride is found
      have l101 : ∀ (T : Nat → Int64) (S : Nat → Int32), Mem q pm fm (Wy q v False e) T → ∃ T' s' b' la' cr' g' S', L_Ways_strideAt_101 (d + 86) 8 o 6 (iZ i) (jZ (x - sZ (Wk q v False e s l (crC q cr) g b) kx)) (iZ j) (iZ (q (9 + kx))) (CH (wL h A T) 6 s b (stv q l) cr g S) = some (some (vI (iZ (SA q v e (i - j).toNat s l (crC q cr) g b x))), CH (wL h A T') 6 s' b' la' cr' g' S') ∧ Mem q pm fm (Wy q v False e) T' := by
        intro T S M
        by_cases ej : j = i
        · refine ⟨T, s, b, stv q l, cr, g, S, ?_, M⟩
          rw [e_Ways_strideAt_101, ifp_t (by rw [ej]), show (i - j).toNat = 0 by omega, SA, pif_f es, ek]
        · have nx := n.nx V p1 p2 hMay
          rw [← crC_n] at nx
          have c0 : hR (wL h A T) 6 0 = some (6 + 1) := X.r 6 0 7
          have c1 : hN (wL h A T) (6 + 1) = 40 := X.n 7 40
          obtain ⟨T', s', b', la', cr', g', S', g1, g2⟩ := ih (j + 1) (s + q (9 + kx)) (kx + 1) (crN q cr (s + q (9 + kx))) (nxG q g kx) (b + 1) (x - sZ (Wk q v False e s l (crC q cr) g b) kx) (up S b.toNat (iZ (q (9 + kx)))) T (by omega) (by omega) nx (crN_b hcr) (fun _ => by rw [show b + 1 - 1 = b by omega, up_e, stv_k q p1]) (fun y => by omega) M (by rw [crC_n]; omega)
          refine ⟨T', s', b', la', cr', g', S', ?_, g2⟩
          rw [crC_n, stv_k q p1] at g1
          rw [e_Ways_strideAt_101]
          simp (disch := omega) only [lit32, litJ, iz_add, iz_sub, iz_mul, iz_neg, nI_iz, ix_iz, inb_iz, ifp_t, ifp_f, ifp_T, ifp_F, iz_eq, iz_lt, bI_s, bL_s, bV_s, bR_s]
          have go := x_go (d + 84) (h := wL h A T) X t R V (c := 6) (by decide) c0 c1 (s := s) (b := b) (la := stv q l) (cr := cr) (g := g) (k := kx) (S := S) ⟨p1, p2⟩ (by omega) (by omega)
          rw [go, bV_s, show (i - j).toNat = (i - (j + 1)).toNat + 1 by omega, SA, pif_f es, ek]
          exact g1
      have l37 : ∀ k : Int, (0 ≤ k ∧ k ≤ kx) → ∀ (T : Nat → Int64) (S : Nat → Int32), (0 < b → S (b - 1).toNat = iZ (stv q l)) → Mem q pm fm (Wy q v False e) T → ∃ T' s' b' la' cr' g' S', L_Ways_strideAt_37 (d + 86) 8 o 6 (iZ i) (jZ (x - sZ (Wk q v False e s l (crC q cr) g b) k)) (iZ j) (iZ (-1)) (iZ k) (CH (wL h A T) 6 s b (stv q l) cr g S) = some (some (vI (iZ (SA q v e (i - j).toNat s l (crC q cr) g b x))), CH (wL h A T') 6 s' b' la' cr' g' S') ∧ Mem q pm fm (Wy q v False e) T' := by
        have found : ∀ (T : Nat → Int64) (S : Nat → Int32), Mem q pm fm (Wy q v False e) T → ∃ T' s' b' la' cr' g' S', L_Ways_strideAt_37 (d + 86) 8 o 6 (iZ i) (jZ (x - sZ (Wk q v False e s l (crC q cr) g b) kx)) (iZ j) (iZ (q (9 + kx))) (iZ (kx + 1)) (CH (wL h A T) 6 s b (stv q l) cr g S) = some (some (vI (iZ (SA q v e (i - j).toNat s l (crC q cr) g b x))), CH (wL h A T') 6 s' b' la' cr' g' S') ∧ Mem q pm fm (Wy q v False e) T' := by
          intro T S M
          obtain ⟨T', s', b', la', cr', g', S', g1, g2⟩ := l101 T S M
          refine ⟨T', s', b', la', cr', g', S', ?_, g2⟩
          rw [← g1, e_Ways_strideAt_37, RX.n, show (-1 : Int32) = iZ (-1) from rfl]
          by_cases c : kx + 1 < q 8
          · simp (disch := omega) only [lit32, litJ, iz_add, iz_sub, iz_mul, iz_neg, nI_iz, ix_iz, inb_iz, ifp_t, ifp_f, ifp_T, ifp_F, iz_eq, iz_lt, bI_s, bL_s, bV_s, bR_s]
          · simp (disch := omega) only [lit32, litJ, iz_add, iz_sub, iz_mul, iz_neg, nI_iz, ix_iz, inb_iz, ifp_t, ifp_f, ifp_T, ifp_F, iz_eq, iz_lt, bI_s, bL_s, bV_s, bR_s]
        refine lpZ kx (fun k hk hkb T S hS M => ?_) (fun k hk ihk hkb T S hS M => ?_)
        · have ekk : k = kx := by omega
          obtain ⟨T1, S1, g1, g2, g3⟩ := bh kx T S ⟨p1, p2⟩ hS M
          obtain ⟨T', s', b', la', cr', g', S', f1, f2⟩ := found T1 S1 g2
          refine ⟨T', s', b', la', cr', g', S', ?_, f2⟩
          rw [← f1, ekk, e_Ways_strideAt_37, RX.n, show (-1 : Int32) = iZ (-1) from rfl]
          have wbk := wb kx p1 p2
          simp (disch := omega) only [lit32, litJ, iz_add, iz_sub, iz_mul, iz_neg, nI_iz, ix_iz, inb_iz, ifp_t, ifp_f, ifp_T, ifp_F, iz_eq, iz_lt, bI_s, bL_s, bV_s, bR_s, XX.o0 t, XX.n1 t, RX.str p1 p2, g1]
          rw [ifp_t ((cmp_lt (by omega)).mpr (by omega))]
        · have hk8 : k < q 8 := by omega
          have wbk := wb k hkb.1 hk8
          have sk := sZ_s (Wk q v False e s l (crC q cr) g b) hkb.1
          have mono := sZ_m (fun k k1 k2 => (wb k k1 k2).1) (show 0 ≤ k + 1 by omega) (show k + 1 ≤ kx by omega) (by omega)
          have nn := sZ_nn (f := Wk q v False e s l (crC q cr) g b) (n := k) (fun k k1 k2 => (wb k k1 (by omega)).1)
          obtain ⟨T1, S1, g1, g2, g3⟩ := bh k T S ⟨hkb.1, hk8⟩ hS M
          obtain ⟨T', s', b', la', cr', g', S', f1, f2⟩ := ihk (by omega) T1 S1 (fun y => by rw [g3 _ (by omega)]; exact hS y) g2
          refine ⟨T', s', b', la', cr', g', S', ?_, f2⟩
          rw [← f1, e_Ways_strideAt_37, RX.n, show (-1 : Int32) = iZ (-1) from rfl]
          simp (disch := omega) only [lit32, litJ, iz_add, iz_sub, iz_mul, iz_neg, nI_iz, ix_iz, inb_iz, ifp_t, ifp_f, ifp_T, ifp_F, iz_eq, iz_lt, bI_s, bL_s, bV_s, bR_s, XX.o0 t, XX.n1 t, RX.str hkb.1 hk8, g1, jz_sub]
          rw [ifp_f (fun y => by have := (cmp_lt (by omega)).mp y; omega)]
          congr 2
          omega
      obtain ⟨T', s', b', la', cr', g', S', g1, g2⟩ := l37 0 (by omega) T S hS M
      refine ⟨T', s', b', la', cr', g', S', ?_, g2⟩
      rw [sZ_0 _ (Int.le_refl 0), Int.sub_zero] at g1
      rw [← g1, e_Ways_strideAt_6, RX.top, CH_I, cFw_1, show (-1 : Int32) = iZ (-1) from rfl]
      simp (disch := omega) only [lit32, litJ, iz_add, iz_sub, iz_mul, iz_neg, nI_iz, ix_iz, inb_iz, ifp_t, ifp_f, ifp_T, ifp_F, iz_eq, iz_lt, bI_s, bL_s, bV_s, bR_s]
