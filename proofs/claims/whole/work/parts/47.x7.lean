/-! who wins -/
theorem frs_k {P : Int → Prop} {k n : Int} (h0 : 0 ≤ k) (h1 : k ≤ n) (h : 0 ≤ frs P k) : frs P n = frs P k := by
  have : ∀ j, 0 ≤ j → frs P (k + j) = frs P k := by
    refine upZ (by rw [Int.add_zero]) (fun j hj ih => ?_)
    rw [← Int.add_assoc, frs_s P (by omega), ih, pif_t h]
  have := this (n - k) (by omega)
  rwa [show k + (n - k) = n by omega] at this
theorem frZ_0 {q : Int → Int} (V : VS q) {P : Int → Prop} {k : Int} (h0 : 0 ≤ k) (h1 : k ≤ q 8) : frZ q (frs P k) = 0 ↔ frs P k < 0 := by
  unfold frZ
  by_cases h : frs P k < 0
  · rw [if_pos h]; exact ⟨fun _ => h, fun _ => rfl⟩
  · rw [if_neg h]
    rcases frs_b P k h0 with ⟨a, b⟩ | ⟨a, b, c, e⟩
    · omega
    · have := V.str a (by omega : frs P k < q 8)
      exact ⟨fun y => by omega, fun y => absurd y h⟩
theorem frZ_b {q : Int → Int} (V : VS q) {P : Int → Prop} {k : Int} (h0 : 0 ≤ k) (h1 : k ≤ q 8) : 0 ≤ frZ q (frs P k) ∧ frZ q (frs P k) ≤ 12 := by
  unfold frZ
  by_cases h : frs P k < 0
  · rw [if_pos h]; omega
  · rw [if_neg h]
    rcases frs_b P k h0 with ⟨a, b⟩ | ⟨a, b, c, e⟩
    · omega
    · have := V.str a (by omega : frs P k < q 8)
      omega
theorem x_winning {h : Hp} (X : SX h) {o : Nat} (t : TO o) {q v : Int → Int} (R : SR h o q) (V : VS q) {pu : Int} (W : WB h q v False pu 0 (q 4)) (hp : pu = -3) {A : Nat} (hA : hR h 8 2 = some A) (hn : szX q (PM q 0 (q 4)) (FM q (-3)) ≤ hN h A) (hn2 : hN h A ≤ 1000000) : ∀ (m d : Nat) (s l cr g b dp : Int) (S : Nat → Int32) (T : Nat → Int64), q 0 - s ≤ m → s < q 0 → Nr q s l (crC q cr) g b → (0 ≤ cr ∧ cr ≤ b) → (0 ≤ dp ∧ dp ≤ s) → (0 < b → S (b - 1).toNat = iZ (stv q l)) → (b = 0 → l = 0) → Mem q (PM q 0 (q 4)) (FM q (-3)) (Gv q v False) T →
    ∃ T' S', evm (m + d + 4) 94 [vR 10 8, vR 5 o, vR 0 6, vI (iZ dp)] (CH (wL h A T) 6 s b (stv q l) cr g S) = some (some (vI (iZ (Gv q v False s l (crC q cr) g b))), CH (wL h A T') 6 s b (stv q l) cr g S') ∧ Mem q (PM q 0 (q 4)) (FM q (-3)) (Gv q v False) T' ∧ ∀ j, j < b.toNat → S' j = S j := by
  subst hp
  have v1 := V.top
  have vn := V.n
  have vc := V.cnt
  have mg := mxG_b V
  have sim := Smi_G (v := v) V (u := False)
  intro m
  induction m with
  | zero => intro d s l cr g b dp S T h1 h2; omega
  | succ m ih =>
    intro d s l cr g b dp S T h1 h2 n hcr hdp hS hl M
    have X' : ∀ {T}, SX (wL h A T) := fun {_} => X
    have R' : ∀ {T}, SR (wL h A T) o q := fun {_} => R
    have c0 : ∀ {T}, hR (wL h A T) 6 0 = some (6 + 1) := fun {_} => X.r 6 0 7
    have c1 : ∀ {T}, hN (wL h A T) (6 + 1) = 40 := fun {_} => X.n 7 40
    have n0 := n.1.1
    have n2 := n.1.2.1
    have n4 := n.1.2.2.2
    have lb := stv_b V n2
    have pb := plX_b (pm := PM q 0 (q 4)) (fm := FM q (-3)) V n.1 (by omega)
    have sb := szX_b (pm := PM q 0 (q 4)) (fm := FM q (-3)) V
    have gb := Gv_b (v := v) V (u := False) (s := s) (l := l) (c := crC q cr) (g := g) (t := b)
    have fin : ∀ (x : Int) (T : Nat → Int64) (S : Nat → Int32), x = Gv q v False s l (crC q cr) g b → Mem q (PM q 0 (q 4)) (FM q (-3)) (Gv q v False) T → ∃ T' S', L_Ways_winning_141 (m + d + 4) 8 (iZ (plX q (PM q 0 (q 4)) (FM q (-3)) s l (crC q cr) g b)) (iZ x) (CH (wL h A T) 6 s b (stv q l) cr g S) = some (some (vI (iZ (Gv q v False s l (crC q cr) g b))), CH (wL h A T') 6 s b (stv q l) cr g S') ∧ Mem q (PM q 0 (q 4)) (FM q (-3)) (Gv q v False) T' ∧ ∀ j, j < b.toNat → S' j = S j := by
      intro x T S hx M
      rw [e_Ways_winning_141]
      simp (disch := omega) only [lit32, litJ, iz_add, iz_sub, iz_mul, iz_neg, nI_iz, ix_iz, inb_iz, ifp_t, ifp_f, ifp_T, ifp_F, iz_eq, iz_lt, bI_s, bL_s, bV_s, bR_s, CH_R, wL_R, hA, CH_N, wL_N]
      rw [hx, iz_l (by omega), CH_sL, sL_wL]
      exact ⟨_, S, rfl, M.up V sim n h2, fun _ _ => rfl⟩
    have loop : ∀ k : Int, 0 ≤ k ∧ k ≤ q 8 → ∀ (x : Int) (T : Nat → Int64) (S : Nat → Int32), x = frZ q (frs (Gw q v False s l (crC q cr) g b) k) → Mem q (PM q 0 (q 4)) (FM q (-3)) (Gv q v False) T → (0 < b → S (b - 1).toNat = iZ (stv q l)) → ∃ T' S', L_Ways_winning_59 (m + d + 4) 8 o 6 (iZ dp) (iZ (plX q (PM q 0 (q 4)) (FM q (-3)) s l (crC q cr) g b)) (iZ x) (iZ k) (CH (wL h A T) 6 s b (stv q l) cr g S) = some (some (vI (iZ (Gv q v False s l (crC q cr) g b))), CH (wL h A T') 6 s b (stv q l) cr g S') ∧ Mem q (PM q 0 (q 4)) (FM q (-3)) (Gv q v False) T' ∧ ∀ j, j < b.toNat → S' j = S j := by
      refine lpZ (q 8) (fun k hk hb x T S hx M hS => ?_) (fun k hk ihk hb x T S hx M hS => ?_)
      · rw [e_Ways_winning_59, (SR.ch (R' (T := T)) t (by decide)).n]
        simp (disch := omega) only [lit32, litJ, iz_add, iz_sub, iz_mul, iz_neg, nI_iz, ix_iz, inb_iz, ifp_t, ifp_f, ifp_T, ifp_F, iz_eq, iz_lt, bI_s, bL_s, bV_s, bR_s]
        exact fin x T S (by rw [hx, show k = q 8 by omega]; rfl) M
      · have fb := frZ_b (P := Gw q v False s l (crC q cr) g b) V hb.1 hb.2
        rw [e_Ways_winning_59, (SR.ch (R' (T := T)) t (by decide)).n]
        simp (disch := omega) only [lit32, litJ, iz_add, iz_sub, iz_mul, iz_neg, nI_iz, ix_iz, inb_iz, ifp_t, ifp_f, ifp_T, ifp_F, iz_eq, iz_lt, bI_s, bL_s, bV_s, bR_s]
        by_cases hx0 : x = 0
        · have f0 : frs (Gw q v False s l (crC q cr) g b) k < 0 := (frZ_0 V hb.1 hb.2).mp (by rw [← hx, hx0])
          have fs := frs_s (Gw q v False s l (crC q cr) g b) hb.1
          rw [pif_f (by omega)] at fs
          have r1 := (SR.ch (R' (T := T)) t (show 6 ≤ 46 by decide) (s := s) (b := b) (la := stv q l) (cr := cr) (g := g) (S := S)).str hb.1 hk
          have vs := V.str hb.1 hk
          have ck := Can_k V v (s := s) (l := l) (cr := cr) (g := g) (b := b) (k := k) n2 ⟨hb.1, hk⟩
          rw [ifp_t hx0]
          simp (disch := omega) only [lit32, litJ, iz_add, iz_sub, iz_mul, iz_neg, nI_iz, ix_iz, inb_iz, ifp_t, ifp_f, ifp_T, ifp_F, iz_eq, iz_lt, bI_s, bL_s, bV_s, bR_s, CH_R, wL_R, X.o0 t, CH_N, wL_N, X.n1 t, r1]
          rw [x_can (m + d + 2) (h := CH (wL h A T) 6 s b (stv q l) cr g S) X t (R'.ch t (by decide)) V CH_I (by omega) (by omega) (by omega) lb (by omega) (by omega), bI_s]
          simp only [bZ_0]
          by_cases hm : May q v False s l (crC q cr) g b k
          · rw [ifp_f (fun y => y (ck.mpr hm))]
            have m1 := hm.1
            have nx := n.nx V hb.1 hk hm
            rw [← crC_n] at nx
            have undo : ∀ (T : Nat → Int64) (S' : Nat → Int32), (∀ j, j < b.toNat → S' j = S j) → evm (m + d + 4) 6 [vR 0 6, vR 5 o] (CH (wL h A T) 6 (s + q (9 + k)) (b + 1) (q (9 + k)) (crN q cr (s + q (9 + k))) (nxG q g k) S') = some (none, CH (wL h A T) 6 s b (stv q l) cr g S') := fun T S' hS' => x_undo (m + d + 2) X' t R' V (by decide) c0 c1 ⟨hb.1, hk⟩ (by omega) (by omega) (fun y => by rw [hS' _ (by omega), hS y]) (fun y => by rw [hl y]; rfl)
            have won : ∀ (T : Nat → Int64) (S' : Nat → Int32), (∀ j, j < b.toNat → S' j = S j) → Mem q (PM q 0 (q 4)) (FM q (-3)) (Gv q v False) T → Gw q v False s l (crC q cr) g b k → ∃ T' S'', L_Ways_winning_122 (m + d + 4) 8 o 6 (iZ dp) (iZ (plX q (PM q 0 (q 4)) (FM q (-3)) s l (crC q cr) g b)) (iZ k) (iZ (q (9 + k))) (CH (wL h A T) 6 (s + q (9 + k)) (b + 1) (q (9 + k)) (crN q cr (s + q (9 + k))) (nxG q g k) S') = some (some (vI (iZ (Gv q v False s l (crC q cr) g b))), CH (wL h A T') 6 s b (stv q l) cr g S'') ∧ Mem q (PM q 0 (q 4)) (FM q (-3)) (Gv q v False) T' ∧ ∀ j, j < b.toNat → S'' j = S j := by
              intro T S' hS' M hw
              rw [e_Ways_winning_122, undo T S' hS', bV_s]
              simp only [lit32, litJ, iz_add, iz_sub, iz_mul, iz_neg, nI_iz, ix_iz, inb_iz, ifp_t, ifp_f, ifp_T, ifp_F, iz_eq, iz_lt, bI_s, bL_s, bV_s, bR_s]
              obtain ⟨T2, S2, g1, g2, g3⟩ := ihk (by omega) (q (9 + k)) T S' (by rw [fs, pif_t hw]; unfold frZ; rw [if_neg (by omega)]) M (fun y => by rw [hS' _ (by omega), hS y])
              exact ⟨T2, S2, g1, g2, fun j hj => by rw [g3 j hj, hS' j hj]⟩
            rw [x_go (m + d + 2) X' t R' V (by decide) c0 c1 ⟨hb.1, hk⟩ (by omega) (by omega), bV_s, CH_I, cFw_1, (SR.ch (R' (T := T)) t (by decide)).top]
            simp (disch := omega) only [lit32, litJ, iz_add, iz_sub, iz_mul, iz_neg, nI_iz, ix_iz, inb_iz, ifp_t, ifp_f, ifp_T, ifp_F, iz_eq, iz_lt, bI_s, bL_s, bV_s, bR_s]
            have hS1 : ∀ j, j < b.toNat → (up S b.toNat (iZ (q (9 + k)))) j = S j := fun j hj => up_n _ _ (by omega)
            by_cases ht : s + q (9 + k) < q 0
            · rw [ifp_t ht]
              obtain ⟨T1, S1, e1, e2, e3⟩ := ih d (s + q (9 + k)) (k + 1) (crN q cr (s + q (9 + k))) (nxG q g k) (b + 1) (dp + 1) (up S b.toNat (iZ (q (9 + k)))) T (by omega) ht nx (crN_b hcr) (by omega) (fun _ => by rw [show b + 1 - 1 = b by omega, up_e, stv_k q hb.1]) (fun y => by omega) M
              rw [stv_k q hb.1, crC_n] at e1
              have hS2 : ∀ j, j < b.toNat → S1 j = S j := fun j hj => by rw [e3 j (by omega), hS1 j hj]
              have gb1 := Gv_b (v := v) V (u := False) (s := s + q (9 + k)) (l := k + 1) (c := nxC q s (crC q cr) k) (g := nxG q g k) (t := b + 1)
              have gm := Gm_v (v := v) V (u := False) (s := s + q (9 + k)) (l := k + 1) (c := nxC q s (crC q cr) k) (g := nxG q g k) (t := b + 1) (by omega) (by omega)
              rw [e1, bI_s]
              simp (disch := omega) only [lit32, litJ, iz_add, iz_sub, iz_mul, iz_neg, nI_iz, ix_iz, inb_iz, ifp_t, ifp_f, ifp_T, ifp_F, iz_eq, iz_lt, bI_s, bL_s, bV_s, bR_s]
              by_cases hg : Gv q v False (s + q (9 + k)) (k + 1) (nxC q s (crC q cr) k) (nxG q g k) (b + 1) = 0
              · rw [ifp_t hg]
                exact won T1 S1 hS2 e2 ⟨hm, Or.inr (fun y => (gm.mp y) hg)⟩
              · rw [ifp_f hg, undo T1 S1 hS2, bV_s]
                obtain ⟨T2, S2, g1, g2, g3⟩ := ihk (by omega) 0 T1 S1 (by rw [fs, pif_f (fun y => by rcases y.2 with z | z; omega; exact z (gm.mpr hg))]; rfl) e2 (fun y => by rw [hS2 _ (by omega), hS y])
                exact ⟨T2, S2, g1, g2, fun j hj => by rw [g3 j hj, hS2 j hj]⟩
            · rw [ifp_f ht]
              exact won T _ hS1 M ⟨hm, Or.inl (by omega)⟩
          · rw [ifp_t (fun y => hm (ck.mp y))]
            exact ihk (by omega) x T S (by rw [fs, pif_f (fun y => hm y.1), hx0]; rfl) M hS
        · rw [ifp_f hx0]
          have f0 : 0 ≤ frs (Gw q v False s l (crC q cr) g b) k := Int.not_lt.mp fun y => hx0 (by rw [hx]; exact (frZ_0 V hb.1 hb.2).mpr y)
          exact fin x T S (by rw [hx]; unfold Gv; rw [frs_k hb.1 hb.2 f0]) M
    have X2 : SX (CH (wL h A T) 6 s b (stv q l) cr g S) := X
    have W' : WB (CH (wL h A T) 6 s b (stv q l) cr g S) q v False (-3) 0 (q 4) := W.ch
    rw [show m + 1 + d + 4 = m + d + 5 by omega, e_Ways_winning, x_placeOf (m + d + 3) X2 V W' CH_I n.1 h2]
    simp (disch := omega) only [lit32, litJ, iz_add, iz_sub, iz_mul, iz_neg, nI_iz, ix_iz, inb_iz, ifp_t, ifp_f, ifp_T, ifp_F, iz_eq, iz_lt, bI_s, bL_s, bV_s, bR_s, CH_R, wL_R, hA, CH_N, wL_N, CH_L, wL_L]
    rcases M _ _ _ _ _ n h2 with hT | hT
    · rw [hT, ifp_t ((cmp_lt (by omega)).mpr (by omega))]
      exact loop 0 (by omega) 0 T S (by rw [frs_0 _ (by omega)]; rfl) M hS
    · rw [hT, ifp_f (fun y => by have := (cmp_lt (by omega)).mp y; omega), jz_n (by omega)]
      exact ⟨T, S, rfl, M, fun _ _ => rfl⟩
