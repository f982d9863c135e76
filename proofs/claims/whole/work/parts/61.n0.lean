/-! the model: the stride of a number -/
theorem m_strideAtL (d : Nat) {h : Hp} (S : SM h) (V : VS (rz h 74)) (Du : hI h 68 24 = 0) {e : Int → Prop} (hT : Tab (rz h 74) (Wy (rz h 74) (rz h 79) False e) (fun _ _ _ _ _ => True) (hL h 81)) : ∀ (m : Nat) (s l c g t x n i : Int), rz h 74 0 - s ≤ m → Nd (rz h 74) s l c g t → (0 ≤ n ∧ n ≤ i ∧ n ≤ s ∧ i < 2147483648) → (0 ≤ x ∧ x < Wy (rz h 74) (rz h 79) False e s l c g t) →
    L_M_strideAt_40 (d + 4) 68 (iZ i) (jZ x) (iZ s) (iZ l) (iZ c) (iZ g) (iZ t) (iZ n) h = some (some (vI (iZ (SA (rz h 74) (rz h 79) e (i - n).toNat s l c g t x))), h) := by
  obtain ⟨q, hq⟩ : ∃ q, q = rz h 74 := ⟨_, rfl⟩
  obtain ⟨v, hv⟩ : ∃ v, v = rz h 79 := ⟨_, rfl⟩
  rw [← hq, ← hv] at hT ⊢
  have V' := V
  rw [← hq] at V
  have v1 := V.top
  have vn := V.n
  have vcr := V.cre
  have vc := mxC_b V
  have vg := mxG_b V
  intro m
  induction m with
  | zero =>
    intro s l c g t x n i h1 nd h2 h3
    have n1 := nd.1
    have hs : s = q 0 := by omega
    rw [e_M_strideAt_40, m_steps (d + 3) S, bI_s, ← hq]
    simp (disch := omega) only [lit32, litJ, iz_add, iz_sub, iz_mul, iz_neg, nI_iz, ix_iz, inb_iz, ifp_t, ifp_f, ifp_T, ifp_F, iz_eq, iz_lt, bI_s, bL_s, bV_s, bR_s]
    cases (i - n).toNat <;> rw [SA, pif_t hs]
  | succ m ih =>
    intro s l c g t x n i h1 nd h2 h3
    obtain ⟨n1, n2, n3, n4⟩ := id nd
    by_cases hs : s = q 0
    · rw [e_M_strideAt_40, m_steps (d + 3) S, bI_s, ← hq]
      simp (disch := omega) only [lit32, litJ, iz_add, iz_sub, iz_mul, iz_neg, nI_iz, ix_iz, inb_iz, ifp_t, ifp_f, ifp_T, ifp_F, iz_eq, iz_lt, bI_s, bL_s, bV_s, bR_s]
      cases (i - n).toNat <;> rw [SA, pif_t hs]
    · have eW := Wy_k (v := v) V (u := False) (e := e) (s := s) (l := l) (c := c) (g := g) (t := t) (by omega) (by omega)
      have wnn : ∀ k, 0 ≤ k → k < q 8 → 0 ≤ Wk q v False e s l c g t k := fun k k1 k2 => (Wk_b V (by omega) k1 k2).1
      have wb := Wy_b (v := v) V (u := False) (e := e) (s := s) (l := l) (c := c) (g := g) (t := t) (by omega) (by omega)
      obtain ⟨k0, pk0⟩ := xPk_x (A := Wk q v False e s l c g t) (n := q 8) (x := x) h3.1 (by rw [← eW]; exact h3.2)
      have epk := xpk_e wnn pk0
      obtain ⟨p1, p2, p3, p4⟩ := id pk0
      have tab : ∀ k, 0 ≤ k ∧ k < q 8 → May q v False s l c g t k → hL h 81 (plc (s + q (9 + k)) (k + 1) (nxC q s c k) (nxG q g k) (t + 1)).toNat = jZ (Wk q v False e s l c g t k) := by
        intro k hk hm
        rw [hT _ _ _ _ _ (nd.nx V hk.1 hk.2 hm) trivial]
        unfold Wk
        rw [pif_t hm]
      have may : ∀ k, 0 ≤ k ∧ k < q 8 → evm (d + 4) 189 [vR 12 68, vI (iZ s), vI (iZ l), vI (iZ c), vI (iZ g), vI (iZ t), vI (iZ k)] h = some (some (vI (bZ (May q v False s l c g t k))), h) := by
        intro k hk
        have := m_mayNext d S V' (s := s) (l := l) (c := c) (g := g) (t := t) (k := k) (by omega) (by rw [← hq]; exact n2) (by omega) (by omega) (by omega) (by rw [← hq]; exact hk)
        rw [← hq, ← hv, Dst_f Du] at this
        exact this
      have nxt : ∀ k, 0 ≤ k ∧ k < q 8 → s + q (9 + k) ≤ q 0 → evm (d + 4) 190 [vR 12 68, vI (iZ s), vI (iZ l), vI (iZ c), vI (iZ g), vI (iZ t), vI (iZ k)] h = some (some (vI (iZ (plc (s + q (9 + k)) (k + 1) (nxC q s c k) (nxG q g k) (t + 1)))), h) := by
        intro k hk hle
        have := m_nextAt (d + 2) S V' (s := s) (l := l) (c := c) (g := g) (t := t) (k := k) (by rw [← hq]; omega) (by rw [← hq]; exact hk)
        rw [← hq] at this
        exact this
      have fin : ∀ y : Int, y = x - sZ (Wk q v False e s l c g t) k0 → May q v False s l c g t k0 → ∀ cc : Int, cc = dc q (s + q (9 + k0)) → L_M_strideAt_208 (d + 4) 68 (iZ i) (jZ y) (iZ (s + q (9 + k0))) (iZ (k0 + 1)) (iZ g) (iZ t) (iZ n) (iZ (q (9 + k0))) (iZ cc) (iZ c) h = some (some (vI (iZ (SA q v e (i - n).toNat s l c g t x))), h) := by
        intro y hy hm cc hcc
        have vs := V.str p1 p2
        have nx := nd.nx V p1 p2 hm
        have next : ∀ g' : Int, g' = nxG q g k0 → L_M_strideAt_40 (d + 4) 68 (iZ i) (jZ y) (iZ (s + q (9 + k0))) (iZ (k0 + 1)) (iZ (c + cc)) (iZ g') (iZ (t + 1)) (iZ (n + 1)) h = some (some (vI (iZ (SA q v e (i - n).toNat s l c g t x))), h) := by
          intro g' hg'
          rw [hg', show c + cc = nxC q s c k0 by rw [nxC_d, hcc]]
          by_cases hi : n = i
          · rw [e_M_strideAt_40]
            simp (disch := omega) only [lit32, litJ, iz_add, iz_sub, iz_mul, iz_neg, nI_iz, ix_iz, inb_iz, ifp_t, ifp_f, ifp_T, ifp_F, iz_eq, iz_lt, bI_s, bL_s, bV_s, bR_s]
            rw [show k0 + 1 - 1 = k0 by omega, m_strideOf (d + 3) S (by omega), bI_s, ← hq, show (i - n).toNat = 0 by omega, SA, pif_f hs, epk]
          · have Wpos : Wk q v False e s l c g t k0 = Wy q v False e (s + q (9 + k0)) (k0 + 1) (nxC q s c k0) (nxG q g k0) (t + 1) := by unfold Wk; rw [pif_t hm]
            have p4' := p4
            rw [sZ_s _ p1, Wpos] at p4'
            rw [ih _ _ _ _ _ y (n + 1) i (by omega) nx (by omega) (by omega), show (i - n).toNat = (i - (n + 1)).toNat + 1 by omega, SA, pif_f hs, epk, hy]
        have gg : evm (d + 4) 182 [vR 12 68, vI (iZ (q (9 + k0)))] h = some (some (vI (bZ (Grt q (q (9 + k0))))), h) := by
          have := m_isGreat (d + 3) S (z := q (9 + k0)) (by omega)
          rw [← hq] at this
          exact this
        rw [e_M_strideAt_208, gg, bI_s]
        simp only [lit32, litJ, iz_add, iz_sub, iz_mul, iz_neg, nI_iz, ix_iz, inb_iz, ifp_t, ifp_f, ifp_T, ifp_F, iz_eq, iz_lt, bI_s, bL_s, bV_s, bR_s, bZ_0]
        by_cases hg : Grt q (q (9 + k0))
        · rw [ifp_f (fun z => z hg)]
          exact next _ (nxG_t hg).symm
        · rw [ifp_t hg]
          exact next _ (by rw [nxG_f hg]; omega)
      have loop : ∀ k, 0 ≤ k ∧ k ≤ k0 → L_M_strideAt_60 (d + 4) 68 (iZ i) (jZ (x - sZ (Wk q v False e s l c g t) k)) (iZ s) (iZ l) (iZ c) (iZ g) (iZ t) (iZ n) (iZ k) h = some (some (vI (iZ (SA q v e (i - n).toNat s l c g t x))), h) := by
        have skip : ∀ k, 0 ≤ k ∧ k < k0 → L_M_strideAt_60 (d + 4) 68 (iZ i) (jZ (x - sZ (Wk q v False e s l c g t) (k + 1))) (iZ s) (iZ l) (iZ c) (iZ g) (iZ t) (iZ n) (iZ (k + 1)) h = some (some (vI (iZ (SA q v e (i - n).toNat s l c g t x))), h) → L_M_strideAt_106 (d + 4) 68 (iZ i) (jZ (x - sZ (Wk q v False e s l c g t) k)) (iZ s) (iZ l) (iZ c) (iZ g) (iZ t) (iZ n) (iZ k) h = some (some (vI (iZ (SA q v e (i - n).toNat s l c g t x))), h) := by
          intro k hk hih
          rw [sZ_s _ hk.1] at hih
          rw [e_M_strideAt_106, may k (by omega), bI_s]
          simp only [lit32, litJ, iz_add, iz_sub, iz_mul, iz_neg, nI_iz, ix_iz, inb_iz, ifp_t, ifp_f, ifp_T, ifp_F, iz_eq, iz_lt, bI_s, bL_s, bV_s, bR_s, bZ_0, jz_sub]
          by_cases hm : May q v False s l c g t k
          · have pb := plc_b V (nd.nx V hk.1 (by omega) hm)
            rw [ifp_f (fun z => z hm), S.r 23 81, bR_s, nxt k (by omega) hm.1, bI_s, S.n 81 294175, ifp_t ((inb_iz (by omega)).mpr (by omega)), ix_iz (by omega), tab k (by omega) hm, jz_sub, Int.sub_sub]
            exact hih
          · rw [ifp_t hm]
            have w0 : Wk q v False e s l c g t k = 0 := pif_f hm
            rw [w0, Int.add_zero] at hih
            rw [Int.sub_zero]
            exact hih
        refine lpZ k0 (fun k hk hb => ?_) (fun k hk ihk hb => ?_)
        · have ek : k = k0 := by omega
          subst ek
          have w1 : 0 < Wk q v False e s l c g t k := by rw [sZ_s _ p1] at p4; omega
          have hm : May q v False s l c g t k := Classical.byContradiction fun z => by
            have w0 : Wk q v False e s l c g t k = 0 := pif_f z
            omega
          have vs := V.str p1 p2
          have wkb := Wk_b (v := v) V (u := False) (e := e) (s := s) (l := l) (c := c) (g := g) (t := t) (by omega) p1 p2
          have pb := plc_b V (nd.nx V p1 p2 hm)
          have snn := sZ_nn (f := Wk q v False e s l c g t) (n := k) (fun j j1 j2 => wnn j j1 (by omega))
          have xb : x - sZ (Wk q v False e s l c g t) k < Wk q v False e s l c g t k := by rw [sZ_s _ p1] at p4; omega
          have kb := V.kin (s := s + q (9 + k)) (by have := hm.1; omega) (by have := hm.1; omega)
          rw [e_M_strideAt_60, may k (by omega), bI_s]
          simp only [lit32, bZ_0]
          rw [ifp_f (fun z => z hm), S.r 23 81, bR_s, nxt k (by omega) hm.1, bI_s, S.n 81 294175, ifp_t ((inb_iz (by omega)).mpr (by omega)), ix_iz (by omega), tab k (by omega) hm, ifp_t ((cmp_gt (by omega)).mpr xb), m_strideOf (d + 3) S (by omega), bI_s, ← hq, iz_add, m_kindOf (d + 3) S (by have := hm.1; omega), bI_s, ← hq, S.r 10 74, bR_s, S.n 74 140]
          have e1 : hI h 74 (ix (iZ 1)) = iZ (q 1) := by rw [hq]; exact rz_iz h 74 1
          have i1 : inb (iZ 1) 140 = true := by decide
          rw [ifp_t i1, e1]
          simp (disch := omega) only [lit32, litJ, iz_add, iz_sub, iz_mul, iz_neg, nI_iz, ix_iz, inb_iz, ifp_t, ifp_f, ifp_T, ifp_F, iz_eq, iz_lt, bI_s, bL_s, bV_s, bR_s]
          have F := fin _ rfl hm
          by_cases k2 : q (26 + (s + q (9 + k))) = 2
          · rw [ifp_t k2]
            by_cases k3 : q 1 < 0
            · rw [ifp_t k3]
              exact F 0 (by unfold dc; rw [pif_f (by omega)])
            · rw [ifp_f k3]
              exact F 1 (by unfold dc; rw [pif_t ⟨k2, by omega⟩])
          · rw [ifp_f k2]
            exact F 0 (by unfold dc; rw [pif_f (fun z => k2 z.1)])
        · have ihk' := ihk (by omega)
          have sk := skip k ⟨hb.1, hk⟩ ihk'
          rw [e_M_strideAt_60, may k (by omega), bI_s]
          simp only [lit32, bZ_0]
          by_cases hm : May q v False s l c g t k
          · have pb := plc_b V (nd.nx V hb.1 (by omega) hm)
            have wkb := Wk_b (v := v) V (u := False) (e := e) (s := s) (l := l) (c := c) (g := g) (t := t) (k := k) (by omega) hb.1 (by omega)
            have snn := sZ_nn (f := Wk q v False e s l c g t) (n := k) (fun j j1 j2 => wnn j j1 (by omega))
            have mono := sZ_m (f := Wk q v False e s l c g t) (n := q 8) wnn (show 0 ≤ k + 1 by omega) (show k + 1 ≤ k0 by omega) (by omega)
            rw [sZ_s _ hb.1] at mono
            rw [ifp_f (fun z => z hm), S.r 23 81, bR_s, nxt k (by omega) hm.1, bI_s, S.n 81 294175, ifp_t ((inb_iz (by omega)).mpr (by omega)), ix_iz (by omega), tab k (by omega) hm, ifp_f (fun z => by have := (cmp_gt (by omega)).mp z; omega)]
            exact sk
          · rw [ifp_t hm]
            exact sk
      rw [e_M_strideAt_40, m_steps (d + 3) S, bI_s, ← hq]
      simp (disch := omega) only [lit32, litJ, iz_add, iz_sub, iz_mul, iz_neg, nI_iz, ix_iz, inb_iz, ifp_t, ifp_f, ifp_T, ifp_F, iz_eq, iz_lt, bI_s, bL_s, bV_s, bR_s]
      have := loop 0 (by omega)
      rw [sZ_0 _ (Int.le_refl 0), Int.sub_zero] at this
      exact this
theorem m_strideAt (d : Nat) {h : Hp} (M : MV h) (N : Nw h (rz h 74) (rz h 79) (rz h 79 0)) (Du : hI h 68 24 = 0) {e : Int → Prop} (hT : Tab (rz h 74) (Wy (rz h 74) (rz h 79) False e) (fun _ _ _ _ _ => True) (hL h 81)) {x i : Int} (hi : 0 ≤ i ∧ i < 2147483648) (hx : 0 ≤ x ∧ x < WyH (rz h 74) (rz h 79) e) : evm (d + 5) 209 [vR 12 68, vL (jZ x), vI (iZ i)] h = some (some (vI (iZ (SA (rz h 74) (rz h 79) e i.toNat (pS (rz h 79) (rz h 79 0)) (pL (rz h 74) (rz h 79) (rz h 79 0)) (pC (rz h 74) (rz h 79) (rz h 79 0)) (pG (rz h 74) (rz h 79) (rz h 79 0)) (rz h 79 0) x))), h) := by
  have n := M.nd
  rw [e_M_strideAt, N.1, N.2.1, N.2.2.1, m_creakOf (d + 3) M.1 M.2.1, bI_s, N.2.2.2, m_takenMany (d + 3) M.1, bI_s]
  have := m_strideAtL d M.1 M.2.1 Du hT 41 _ _ _ _ _ x 0 i (by have := M.2.1.top; have := n.1; omega) n (by have := n.1; omega) hx
  rw [Int.sub_zero] at this
  exact this
