/-! the model's crowd -/
def MC (h : Hp) (F P : Nat → Int32) (L D T : Nat → Int64) : Hp := wL (wL (wL (wI (wI h 77 F) 78 P) 68 L) 86 D) 81 T
theorem MC_I {h : Hp} {F P : Nat → Int32} {L D T : Nat → Int64} {r : Nat} (e : r ≠ 77 ∧ r ≠ 78) : hI (MC h F P L D T) r = hI h r := by
  show hI (wI (wI h 77 F) 78 P) r = _
  rw [wI_n _ _ e.2, wI_n _ _ e.1]
theorem MC_z {h : Hp} {F P : Nat → Int32} {L D T : Nat → Int64} {r : Nat} (e : r ≠ 77 ∧ r ≠ 78) : rz (MC h F P L D T) r = rz h r := by
  funext z; unfold rz; rw [MC_I e]
theorem MC_T {h : Hp} {F P : Nat → Int32} {L D T : Nat → Int64} : hL (MC h F P L D T) 81 = T := wL_L _ _ _
theorem MC_D {h : Hp} {F P : Nat → Int32} {L D T : Nat → Int64} : hL (MC h F P L D T) 86 = D := by
  unfold MC; rw [wL_n _ _ (by decide), wL_L]
theorem MC_L {h : Hp} {F P : Nat → Int32} {L D T : Nat → Int64} : hL (MC h F P L D T) 68 = L := by
  unfold MC; rw [wL_n _ _ (by decide), wL_n _ _ (by decide), wL_L]
theorem MC_sT {h : Hp} {F P : Nat → Int32} {L D T : Nat → Int64} (k : Nat) (x : Int64) : sL (MC h F P L D T) 81 k x = MC h F P L D (up T k x) := by
  unfold MC; rw [sL_wL]
theorem MC_sD {h : Hp} {F P : Nat → Int32} {L D T : Nat → Int64} (k : Nat) (x : Int64) : sL (MC h F P L D T) 86 k x = MC h F P L (up D k x) T := by
  rw [sL_w, MC_D]
  unfold MC
  rw [wL_c _ _ _ (show 81 ≠ 86 by decide), wL_wL]
theorem MC_sL {h : Hp} {F P : Nat → Int32} {L D T : Nat → Int64} (k : Nat) (x : Int64) : sL (MC h F P L D T) 68 k x = MC h F P (up L k x) D T := by
  rw [sL_w, MC_L]
  unfold MC
  rw [wL_c _ _ _ (show 81 ≠ 68 by decide), wL_c _ _ _ (show 86 ≠ 68 by decide), wL_wL]
theorem MC_w {h : Hp} {F P F' P' : Nat → Int32} {L D T : Nat → Int64} : wI (wI (MC h F P L D T) 77 F') 78 P' = MC h F' P' L D T := by
  show wL (wL (wL (wI (wI (wI (wI h 77 F) 78 P) 77 F') 78 P') 68 L) 86 D) 81 T = _
  rw [wI_c _ _ _ (show 78 ≠ 77 by decide), wI_wI, wI_wI]
  rfl
theorem MC_self (h : Hp) : MC h (hI h 77) (hI h 78) (hL h 68) (hL h 86) (hL h 81) = h := by
  have e1 : wI (wI h 77 (hI h 77)) 78 (hI h 78) = h := by rw [wI_self, wI_self]
  unfold MC
  rw [e1, wL_self, wL_self, wL_self]
theorem MC_sc {h : Hp} {F P : Nat → Int32} {L D T : Nat → Int64} : Sc h (MC h F P L D T) := ((((Sc.i h F (by decide)).tr (Sc.i _ P (by decide))).tr (Sc.l _ L (by decide))).tr (Sc.l _ D (by decide))).tr (Sc.l _ T (by decide))
def ixC (q : Int → Int) (s c g t : Int) : Int → Nat := fun k => (plc (s + q (9 + k)) (k + 1) (c + 0) g t).toNat
noncomputable def ixT (q : Int → Int) (s c g t : Int) : Int → Nat := fun k => (plc (s + q (9 + k)) (k + 1) (nxC q s c k) (nxG q g k) (t + 1)).toNat
def ixD (q : Int → Int) (s : Int) : Int → Nat := fun k => (s + q (9 + k)).toNat
theorem m_moves (d : Nat) {h : Hp} (S : SM h) (V : VS (rz h 74)) {F P : Nat → Int32} {L D T : Nat → Int64} {s l c g t k x : Int} (hk : 0 ≤ k ∧ k < rz h 74 8) (n : Nd (rz h 74) s l c g t) (hx : 0 ≤ x ∧ x ≤ 1000000000000) (hm : 0 < x → May (rz h 74) z0 False s l c g t k) :
    evm (d + 3) 217 [vR 12 68, vI (iZ s), vI (iZ l), vI (iZ c), vI (iZ g), vI (iZ t), vI (iZ k), vL (jZ x)] (MC h F P L D T) = some (none, MC h F P (up L 30 (L 30 + jZ x)) (up D (ixD (rz h 74) s k) (D (ixD (rz h 74) s k) + jZ x)) (up T (ixT (rz h 74) s c g t k) (T (ixT (rz h 74) s c g t k) + jZ x))) := by
  have S' : ∀ {L D T}, SM (MC h F P L D T) := fun {_ _ _} => S
  have e74 : ∀ {L D T}, rz (MC h F P L D T) 74 = rz h 74 := fun {_ _ _} => MC_z (by decide)
  have V' : ∀ {L D T}, VS (rz (MC h F P L D T) 74) := fun {_ _ _} => by rw [e74]; exact V
  have vs := V.str hk.1 hk.2
  have vn := V.n
  have v1 := V.top
  have n1 := n.1
  rw [e_M_moves]
  simp only [lit32, litJ]
  by_cases h0 : 0 < x
  · have m := hm h0
    have m1 := m.1
    have nx := plc_b V (n.nx V hk.1 hk.2 m)
    rw [ifp_t ((cmp_gt (by omega)).mpr h0), S'.r 23 81, bR_s, m_nextAt (d) S' V' (by rw [e74]; omega) (by rw [e74]; exact hk), bI_s, e74, S'.n 81 294175]
    have ei : inb (iZ (plc (s + rz h 74 (9 + k)) (k + 1) (nxC (rz h 74) s c k) (nxG (rz h 74) g k) (t + 1))) 294175 = true := (inb_iz (by omega)).mpr (by omega)
    rw [ifp_t ei, ifp_t ei, ix_iz (by omega), MC_T, MC_sT, S'.r 29 86, bR_s, m_strideOf (d + 1) S' (by omega), bI_s, e74, iz_add, S'.n 86 41]
    have ei2 : inb (iZ (s + rz h 74 (9 + k))) 41 = true := (inb_iz (by omega)).mpr (by omega)
    rw [ifp_t ei2, ifp_t ei2, ix_iz (by omega), MC_D, MC_sD, MC_L, MC_sL]
    rfl
  · rw [ifp_f (fun y => h0 ((cmp_gt (by omega)).mp y)), show x = 0 by omega, up_0, up_0, up_0]
theorem m_parts (d : Nat) {h : Hp} (S : SM h) (V : VS (rz h 74)) (LW0 : LW (rz h 74) (rz h 75) (rz h 76)) (Du : hI h 68 24 = 0) {F P : Nat → Int32} {L D T : Nat → Int64} {s l c g t x : Int} (n : Nd (rz h 74) s l c g t) (hx : 0 ≤ x ∧ x ≤ 1000000000000) (hT : T (plc s l c g t).toNat = jZ x) :
    ∃ F' P', evm (d + 6) 216 [vR 12 68, vI (iZ s), vI (iZ l), vI (iZ c), vI (iZ g), vI (iZ t)] (MC h F P L D T) = some (none, MC h F' P' (up L 30 (L 30 + jZ (sZ (fun k => shr (rz h 74) z0 (rz h 75) (rz h 76) s l c g t k x) (rz h 74 8)))) (aP D (ixD (rz h 74) s) (fun k => shr (rz h 74) z0 (rz h 75) (rz h 76) s l c g t k x) (rz h 74 8)) (aP T (ixT (rz h 74) s c g t) (fun k => shr (rz h 74) z0 (rz h 75) (rz h 76) s l c g t k x) (rz h 74 8))) := by
  obtain ⟨q, hq⟩ : ∃ q, q = rz h 74 := ⟨_, rfl⟩
  obtain ⟨co, hco⟩ : ∃ co, co = rz h 75 := ⟨_, rfl⟩
  obtain ⟨ca, hca⟩ : ∃ ca, ca = rz h 76 := ⟨_, rfl⟩
  rw [← hq] at n V LW0 ⊢
  rw [← hco, ← hca] at LW0 ⊢
  have S' : ∀ {F P L D T}, SM (MC h F P L D T) := fun {_ _ _ _ _} => S
  have e74 : ∀ {F P L D T}, rz (MC h F P L D T) 74 = q := fun {_ _ _ _ _} => by rw [hq]; exact MC_z (by decide)
  have e75 : ∀ {F P L D T}, rz (MC h F P L D T) 75 = co := fun {_ _ _ _ _} => by rw [hco]; exact MC_z (by decide)
  have e76 : ∀ {F P L D T}, rz (MC h F P L D T) 76 = ca := fun {_ _ _ _ _} => by rw [hca]; exact MC_z (by decide)
  have vn := V.n
  have v1 := V.top
  have vc := mxC_b V
  have vg := mxG_b V
  obtain ⟨n1, n2, n3, n4⟩ := id n
  have wt : ∀ k, 0 ≤ k ∧ k < q 8 → ∀ F P L D T, ∃ F' P', evm (d + 5) 214 [vR 12 68, vI (iZ s), vI (iZ l), vI (iZ c), vI (iZ g), vI (iZ t), vI (iZ k)] (MC h F P L D T) = some (some (vI (iZ (Wt q z0 co ca s l c g t k))), MC h F' P' L D T) := by
    intro k hk F P L D T
    have Du' : hI (MC h F P L D T) 68 24 = 0 := by rw [MC_I (by decide)]; exact Du
    obtain ⟨f, p, e⟩ := m_weightAt d (h := MC h F P L D T) S' (by rw [e74]; exact V) (by rw [e74, e75, e76]; exact LW0) Du' (s := s) (l := l) (c := c) (g := g) (t := t) (k := k) (by omega) (by rw [e74]; exact n2) (by omega) (by omega) (by omega) (by rw [e74]; exact hk)
    rw [e74, e75, e76, MC_w, Wt_v] at e
    exact ⟨f, p, e⟩
  have ab := wAll_b (v := z0) (co := co) (ca := ca) V (s := s) (l := l) (c := c) (g := g) (t := t)
  have loop2 : 0 < wAll q z0 co ca s l c g t → ∀ k, 0 ≤ k ∧ k ≤ q 8 → ∀ F P, ∃ F' P', L_M_parts_89 (d + 5) 68 (iZ s) (iZ l) (iZ c) (iZ g) (iZ t) (jZ x) (iZ (wAll q z0 co ca s l c g t)) (iZ (wFst q z0 co ca s l c g t)) (jZ (x - sZ (fun k => x * Wt q z0 co ca s l c g t k / wAll q z0 co ca s l c g t) k)) (iZ k) (MC h F P (up L 30 (L 30 + jZ (sZ (fun k => x * Wt q z0 co ca s l c g t k / wAll q z0 co ca s l c g t) k))) (aP D (ixD q s) (fun k => x * Wt q z0 co ca s l c g t k / wAll q z0 co ca s l c g t) k) (aP T (ixT q s c g t) (fun k => x * Wt q z0 co ca s l c g t k / wAll q z0 co ca s l c g t) k)) = some (none, MC h F' P' (up L 30 (L 30 + jZ (sZ (fun k => shr q z0 co ca s l c g t k x) (q 8)))) (aP D (ixD q s) (fun k => shr q z0 co ca s l c g t k x) (q 8)) (aP T (ixT q s c g t) (fun k => shr q z0 co ca s l c g t k x) (q 8))) := by
    intro ha
    have es : ∀ k, shr q z0 co ca s l c g t k x = x * Wt q z0 co ca s l c g t k / wAll q z0 co ca s l c g t + pif (k = wFst q z0 co ca s l c g t) (wLft q z0 co ca s l c g t x) 0 := fun k => by unfold shr; rw [pif_t ha]
    have lb := wLft_b (s := s) (l := l) (c := c) (g := g) (t := t) (v := z0) (co := co) (ca := ca) (q := q) hx.1 ha
    have fb : 0 ≤ wFst q z0 co ca s l c g t ∧ wFst q z0 co ca s l c g t < q 8 ∧ 0 < Wt q z0 co ca s l c g t (wFst q z0 co ca s l c g t) := by
      rcases frs_b (fun k => 0 < Wt q z0 co ca s l c g t k) (q 8) (by omega) with ⟨_, b⟩ | ⟨a, b, e, _⟩
      · have : wAll q z0 co ca s l c g t = 0 := sZ_z fun k k1 k2 => by have := (Wt_b q z0 co ca s l c g t k).1; have := b k k1 k2; omega
        omega
      · exact ⟨a, b, e⟩
    have mf : May q z0 False s l c g t (wFst q z0 co ca s l c g t) := Classical.byContradiction fun y => by
      have : Wt q z0 co ca s l c g t (wFst q z0 co ca s l c g t) = 0 := pif_f y
      omega
    refine lpZ (q 8) (fun k hk hb F P => ?_) (fun k hk ih hb F P => ?_)
    · rw [e_M_parts_89, m_strides (d + 4) S', bI_s, e74]
      simp (disch := omega) only [lit32, litJ, iz_add, iz_sub, iz_mul, iz_neg, nI_iz, ix_iz, inb_iz, ifp_t, ifp_f, ifp_T, ifp_F, iz_eq, iz_lt, bI_s, bL_s, bV_s, bR_s]
      rw [e_M_parts_154]
      simp (disch := omega) only [lit32, litJ, iz_add, iz_sub, iz_mul, iz_neg, nI_iz, ix_iz, inb_iz, ifp_t, ifp_f, ifp_T, ifp_F, iz_eq, iz_lt, bI_s, bL_s, bV_s, bR_s]
      rw [show k = q 8 by omega]
      have mv := m_moves (d + 2) S (by rw [← hq]; exact V) (F := F) (P := P) (L := up L 30 (L 30 + jZ (sZ (fun k => x * Wt q z0 co ca s l c g t k / wAll q z0 co ca s l c g t) (q 8)))) (D := aP D (ixD q s) (fun k => x * Wt q z0 co ca s l c g t k / wAll q z0 co ca s l c g t) (q 8)) (T := aP T (ixT q s c g t) (fun k => x * Wt q z0 co ca s l c g t k / wAll q z0 co ca s l c g t) (q 8)) (x := wLft q z0 co ca s l c g t x) (k := wFst q z0 co ca s l c g t) (by rw [← hq]; omega) (by rw [← hq]; exact n) (by omega) (fun _ => by rw [← hq]; exact mf)
      rw [← hq] at mv
      have ew : x - sZ (fun k => x * Wt q z0 co ca s l c g t k / wAll q z0 co ca s l c g t) (q 8) = wLft q z0 co ca s l c g t x := rfl
      rw [ew, mv, bV_s]
      refine ⟨F, P, ?_⟩
      rw [aP_l D (ixD q s) (f := fun k => x * Wt q z0 co ca s l c g t k / wAll q z0 co ca s l c g t) (f' := fun k => shr q z0 co ca s l c g t k x) (m := wFst q z0 co ca s l c g t) (y := wLft q z0 co ca s l c g t x) (n := q 8) (by omega) (fun k _ _ => es k), aP_l T (ixT q s c g t) (f := fun k => x * Wt q z0 co ca s l c g t k / wAll q z0 co ca s l c g t) (f' := fun k => shr q z0 co ca s l c g t k x) (m := wFst q z0 co ca s l c g t) (y := wLft q z0 co ca s l c g t x) (n := q 8) (by omega) (fun k _ _ => es k)]
      have eL : up (up L 30 (L 30 + jZ (sZ (fun k => x * Wt q z0 co ca s l c g t k / wAll q z0 co ca s l c g t) (q 8)))) 30 (up L 30 (L 30 + jZ (sZ (fun k => x * Wt q z0 co ca s l c g t k / wAll q z0 co ca s l c g t) (q 8))) 30 + jZ (wLft q z0 co ca s l c g t x)) = up L 30 (L 30 + jZ (sZ (fun k => shr q z0 co ca s l c g t k x) (q 8))) := by
        rw [up_e, j64_a]
        have e2 : sZ (fun k => shr q z0 co ca s l c g t k x) (q 8) = sZ (fun k => x * Wt q z0 co ca s l c g t k / wAll q z0 co ca s l c g t) (q 8) + wLft q z0 co ca s l c g t x := by
          refine sZ_up (i := wFst q z0 co ca s l c g t) (by omega) ?_ ?_
          · rw [es, pif_t rfl]
          · intro k _ _ hk; rw [es, pif_f hk, Int.add_zero]
        rw [e2]
        funext j; unfold up
        by_cases hj : j = 30
        · rw [if_pos hj, if_pos hj]
        · rw [if_neg hj, if_neg hj, if_neg hj]
      rw [eL]
    · have wb := Wt_b q z0 co ca s l c g t k
      have xw : 0 ≤ x * Wt q z0 co ca s l c g t k ∧ x * Wt q z0 co ca s l c g t k ≤ 1000000000000 * 9 := ⟨Int.mul_nonneg hx.1 wb.1, Int.mul_le_mul hx.2 wb.2 wb.1 (by omega)⟩
      obtain ⟨F1, P1, e1⟩ := wt k ⟨hb.1, hk⟩ F P (up L 30 (L 30 + jZ (sZ (fun k => x * Wt q z0 co ca s l c g t k / wAll q z0 co ca s l c g t) k))) (aP D (ixD q s) (fun k => x * Wt q z0 co ca s l c g t k / wAll q z0 co ca s l c g t) k) (aP T (ixT q s c g t) (fun k => x * Wt q z0 co ca s l c g t k / wAll q z0 co ca s l c g t) k)
      have dv : 0 ≤ x * Wt q z0 co ca s l c g t k / wAll q z0 co ca s l c g t ∧ x * Wt q z0 co ca s l c g t k / wAll q z0 co ca s l c g t ≤ 1000000000000 := by
        refine ⟨Int.ediv_nonneg xw.1 (by omega), ?_⟩
        have wle : Wt q z0 co ca s l c g t k ≤ wAll q z0 co ca s l c g t := sZ_1 (f := Wt q z0 co ca s l c g t) (fun j _ _ => (Wt_b q z0 co ca s l c g t j).1) ⟨hb.1, hk⟩
        have : x * Wt q z0 co ca s l c g t k ≤ x * wAll q z0 co ca s l c g t := Int.mul_le_mul_of_nonneg_left wle hx.1
        have h2 := Int.ediv_le_ediv ha this
        rw [Int.mul_ediv_cancel x (by omega)] at h2
        omega
      rw [e_M_parts_89, m_strides (d + 4) S', bI_s, e74]
      simp (disch := omega) only [lit32, litJ, iz_add, iz_sub, iz_mul, iz_neg, nI_iz, ix_iz, inb_iz, ifp_t, ifp_f, ifp_T, ifp_F, iz_eq, iz_lt, bI_s, bL_s, bV_s, bR_s]
      rw [e1, bI_s]
      have ea : (iZ (wAll q z0 co ca s l c g t)).toInt64 = jZ (wAll q z0 co ca s l c g t) := iz_l (by omega)
      have ew : (iZ (Wt q z0 co ca s l c g t k)).toInt64 = jZ (Wt q z0 co ca s l c g t k) := iz_l (by omega)
      rw [ea, ew, jz_mul, jz_div (by omega)]
      rw [ifp_f (show ¬ (jZ (wAll q z0 co ca s l c g t) = jZ 0) from fun y => by have := (jz_eq (by omega)).mp y; omega)]
      have mv := m_moves (d + 2) S (by rw [← hq]; exact V) (F := F1) (P := P1) (L := up L 30 (L 30 + jZ (sZ (fun k => x * Wt q z0 co ca s l c g t k / wAll q z0 co ca s l c g t) k))) (D := aP D (ixD q s) (fun k => x * Wt q z0 co ca s l c g t k / wAll q z0 co ca s l c g t) k) (T := aP T (ixT q s c g t) (fun k => x * Wt q z0 co ca s l c g t k / wAll q z0 co ca s l c g t) k) (s := s) (l := l) (c := c) (g := g) (t := t) (x := x * Wt q z0 co ca s l c g t k / wAll q z0 co ca s l c g t) (k := k) (by rw [← hq]; omega) (by rw [← hq]; exact n) dv (fun y => by
        rw [← hq]
        refine Classical.byContradiction fun z => ?_
        have w0 : Wt q z0 co ca s l c g t k = 0 := pif_f z
        rw [w0, Int.mul_zero, Int.zero_ediv] at y
        omega)
      rw [← hq] at mv
      rw [mv, bV_s, jz_sub]
      have h3 := ih (by omega) F1 P1
      rw [aP_s D (ixD q s) (fun k => x * Wt q z0 co ca s l c g t k / wAll q z0 co ca s l c g t) hb.1, aP_s T (ixT q s c g t) (fun k => x * Wt q z0 co ca s l c g t k / wAll q z0 co ca s l c g t) hb.1, sZ_s _ hb.1] at h3
      have eL : up (up L 30 (L 30 + jZ (sZ (fun k => x * Wt q z0 co ca s l c g t k / wAll q z0 co ca s l c g t) k))) 30 (up L 30 (L 30 + jZ (sZ (fun k => x * Wt q z0 co ca s l c g t k / wAll q z0 co ca s l c g t) k)) 30 + jZ (x * Wt q z0 co ca s l c g t k / wAll q z0 co ca s l c g t)) = up L 30 (L 30 + jZ (sZ (fun k => x * Wt q z0 co ca s l c g t k / wAll q z0 co ca s l c g t) k + x * Wt q z0 co ca s l c g t k / wAll q z0 co ca s l c g t)) := by
        rw [up_e, j64_a]
        funext j; unfold up
        by_cases hj : j = 30
        · rw [if_pos hj, if_pos hj]
        · rw [if_neg hj, if_neg hj, if_neg hj]
      rw [eL, Int.sub_sub]
      exact h3
  have loop1 : ∀ k, 0 ≤ k ∧ k ≤ q 8 → ∀ F P, ∃ F' P', L_M_parts_26 (d + 5) 68 (iZ s) (iZ l) (iZ c) (iZ g) (iZ t) (jZ x) (iZ (sZ (Wt q z0 co ca s l c g t) k)) (iZ (frs (fun k => 0 < Wt q z0 co ca s l c g t k) k)) (iZ k) (MC h F P L D T) = some (none, MC h F' P' (up L 30 (L 30 + jZ (sZ (fun k => shr q z0 co ca s l c g t k x) (q 8)))) (aP D (ixD q s) (fun k => shr q z0 co ca s l c g t k x) (q 8)) (aP T (ixT q s c g t) (fun k => shr q z0 co ca s l c g t k x) (q 8))) := by
    refine lpZ (q 8) (fun k hk hb F P => ?_) (fun k hk ih hb F P => ?_)
    · rw [e_M_parts_26, m_strides (d + 4) S', bI_s, e74]
      simp (disch := omega) only [lit32, litJ, iz_add, iz_sub, iz_mul, iz_neg, nI_iz, ix_iz, inb_iz, ifp_t, ifp_f, ifp_T, ifp_F, iz_eq, iz_lt, bI_s, bL_s, bV_s, bR_s]
      rw [show k = q 8 by omega]
      by_cases ha : 0 < wAll q z0 co ca s l c g t
      · have := loop2 ha 0 (by omega) F P
        rw [aP_0, aP_0, sZ_0 _ (Int.le_refl 0), up_0, Int.sub_zero] at this
        exact this
      · have e0 : wAll q z0 co ca s l c g t = 0 := by omega
        have ez : ∀ k, shr q z0 co ca s l c g t k x = 0 := fun k => by unfold shr; rw [pif_f ha]
        have e0' : sZ (Wt q z0 co ca s l c g t) (q 8) = 0 := e0
        rw [e_M_parts_89, m_strides (d + 4) S', bI_s, e74, e0']
        simp (disch := omega) only [lit32, litJ, iz_add, iz_sub, iz_mul, iz_neg, nI_iz, ix_iz, inb_iz, ifp_t, ifp_f, ifp_T, ifp_F, iz_eq, iz_lt, bI_s, bL_s, bV_s, bR_s]
        rw [e_M_parts_154]
        simp (disch := omega) only [lit32, litJ, iz_add, iz_sub, iz_mul, iz_neg, nI_iz, ix_iz, inb_iz, ifp_t, ifp_f, ifp_T, ifp_F, iz_eq, iz_lt, bI_s, bL_s, bV_s, bR_s]
        refine ⟨F, P, ?_⟩
        rw [aP_z D _ (fun k _ _ => ez k), aP_z T _ (fun k _ _ => ez k), sZ_z (fun k _ _ => ez k), up_0]
    · have wb := Wt_b q z0 co ca s l c g t k
      obtain ⟨F1, P1, e1⟩ := wt k ⟨hb.1, hk⟩ F P L D T
      rw [e_M_parts_26, m_strides (d + 4) S', bI_s, e74]
      simp (disch := omega) only [lit32, litJ, iz_add, iz_sub, iz_mul, iz_neg, nI_iz, ix_iz, inb_iz, ifp_t, ifp_f, ifp_T, ifp_F, iz_eq, iz_lt, bI_s, bL_s, bV_s, bR_s]
      rw [e1, bI_s]
      have fs := frs_s (fun k => 0 < Wt q z0 co ca s l c g t k) hb.1
      have h3 := ih (by omega) F1 P1
      rw [sZ_s _ hb.1, fs] at h3
      have rb : -1 ≤ frs (fun k => 0 < Wt q z0 co ca s l c g t k) k ∧ frs (fun k => 0 < Wt q z0 co ca s l c g t k) k < 6 := by
        rcases frs_b (fun k => 0 < Wt q z0 co ca s l c g t k) k hb.1 with ⟨a, _⟩ | ⟨a, b, _⟩ <;> omega
      simp (disch := omega) only [lit32, litJ, iz_add, iz_sub, iz_mul, iz_neg, nI_iz, ix_iz, inb_iz, ifp_t, ifp_f, ifp_T, ifp_F, iz_eq, iz_lt, bI_s, bL_s, bV_s, bR_s]
      by_cases h1 : frs (fun k => 0 < Wt q z0 co ca s l c g t k) k < 0
      · rw [ifp_t h1]
        rw [pif_f (by omega)] at h3
        by_cases h2 : 0 < Wt q z0 co ca s l c g t k
        · rw [ifp_t h2]
          rw [pif_t h2] at h3
          exact h3
        · rw [ifp_f h2]
          rw [pif_f h2] at h3
          rw [show frs (fun k => 0 < Wt q z0 co ca s l c g t k) k = -1 by omega]
          exact h3
      · rw [ifp_f h1]
        rw [pif_t (by omega)] at h3
        exact h3
  have pb := plc_b V n
  rw [e_M_parts, S'.r 23 81, bR_s, m_placeOf, bI_s, S'.n 81 294175, ifp_t ((inb_iz (by omega)).mpr (by omega)), ix_iz (by omega), MC_T, hT]
  have := loop1 0 (by omega) F P
  rw [sZ_0 _ (Int.le_refl 0), frs_0 _ (Int.le_refl 0)] at this
  exact this
