/-! what needs the table -/
noncomputable def eAll (q : Int → Int) (a : Int) : Int → Prop := fun t => LwT q t ∧ (a < 0 ∨ a = t)
noncomputable def WyH (q v : Int → Int) (e : Int → Prop) : Int := Wy q v False e (pS v (v 0)) (pL q v (v 0)) (pC q v (v 0)) (pG q v (v 0)) (v 0)
/-- the table, laid where one has found where one is -/
theorem m_laid (d : Nat) {h : Hp} (M : MV h) {f : Nat → Int32} (f3 : f 24 = 0) (f5 : f 2 = hI h 68 2) {a : Int} (ha : -1 ≤ a ∧ a ≤ 1000) (gm : Prop) :
    ∃ T, evm (d + 6) 194 [vR 12 68, vI (iZ a), vI (bZ gm)] (wI h 68 f) = some (none, wL (wI h 68 f) 81 T) ∧ Tab (rz h 74) (LyF (rz h 74) (rz h 79) False a gm) (fun _ _ _ _ _ => True) T ∧ Sc h (wL (wI h 68 f) 81 T) ∧ MV (wL (wI h 68 f) 81 T) := by
  have ac : Sc h (wI h 68 f) := Sc.f f5
  have M' := M.sc ac
  obtain ⟨T, t1, t2⟩ := m_lays d M'.1 M'.2.1 ha gm
  have eD : Dst (wI h 68 f) = False := Dst_f (by rw [wI_I]; exact f3)
  rw [ac.z (r := 79) (by decide), ac.z (r := 74) (by decide), eD] at t2
  have a2 : Sc h (wL (wI h 68 f) 81 T) := ac.tr (Sc.l _ _ (by decide))
  exact ⟨T, t1, t2, a2, M.sc a2⟩
theorem M_many (d : Nat) {h : Hp} (M : MV h) : ∃ h', evm (d + 7) 206 [vR 12 68] h = some (some (vL (jZ (WyH (rz h 74) (rz h 79) (eAll (rz h 74) (-1))))), h') ∧ Ms h h' (rz h 79) (rz h 80) := by
  rw [e_M_many, sI_w h, sI_wI]
  obtain ⟨f, f1, f2, f3, f4, f5⟩ := m_now (d + 3) M (f0 := up (up (hI h 68) 0 0) 24 0) rfl
  obtain ⟨T, t1, t2, t3, t4⟩ := m_laid d M (f := f) f3 f5 (a := -1) (by omega) False
  rw [bZ_f (fun z => z)] at t1
  have e79 := t3.z (r := 79) (by decide)
  have e74 := t3.z (r := 74) (by decide)
  have b := plc_b M.2.1 M.nd
  rw [f1, bV_s]
  refine ⟨_, ?_, t3.ms⟩
  rw [show (-1 : Int32) = iZ (-1) from rfl, show (0 : Int32) = iZ 0 from rfl, t1, bV_s, t4.1.r 23 81, bR_s, m_nowAt (d + 4) t4 (by rw [e74, e79]; exact f2), bI_s, e74, e79]
  simp (disch := (unfold hPl; omega)) only [t4.1.n 81 294175, lit32, litJ, iz_add, iz_sub, iz_mul, iz_neg, nI_iz, ix_iz, inb_iz, ifp_t, ifp_f, iz_eq, iz_lt, bI_s, bL_s, bV_s, bR_s, rz_iz, wL_L]
  have := t2 _ _ _ _ _ M.nd trivial
  unfold LyF at this
  rw [pif_f (fun z => z)] at this
  unfold hPl
  rw [this]
  rfl
theorem M_manyOf (d : Nat) {h : Hp} (M : MV h) {z : Int} (hz : -2147483648 ≤ z ∧ z < 2147483648) : ∃ h', evm (d + 7) 207 [vR 12 68, vI (iZ z)] h = some (some (vL (jZ (if 0 ≤ z ∧ z ≤ 40 then WyH (rz h 74) (rz h 79) (eAll (rz h 74) z) else -1))), h') ∧ Ms h h' (rz h 79) (rz h 80) := by
  rw [e_M_manyOf, show (0 : Int32) = iZ 0 from rfl, show (40 : Int32) = iZ 40 from rfl, m_within (d + 5) hz (by omega) (by omega), bI_s]
  simp only [bZ_0]
  by_cases h1 : 0 ≤ z ∧ z ≤ 40
  · rw [ifp_f (fun y => y h1), if_pos h1, sI_w h, sI_wI]
    obtain ⟨f, f1, f2, f3, f4, f5⟩ := m_now (d + 3) M (f0 := up (up (hI h 68) 0 (iZ 0)) 24 (iZ 0)) rfl
    obtain ⟨T, t1, t2, t3, t4⟩ := m_laid d M (f := f) f3 f5 (a := z) (by omega) False
    rw [bZ_f (fun z => z)] at t1
    have e79 := t3.z (r := 79) (by decide)
    have e74 := t3.z (r := 74) (by decide)
    have b := plc_b M.2.1 M.nd
    rw [f1, bV_s]
    refine ⟨_, ?_, t3.ms⟩
    rw [t1, bV_s, t4.1.r 23 81, bR_s, m_nowAt (d + 4) t4 (by rw [e74, e79]; exact f2), bI_s, e74, e79]
    simp (disch := (unfold hPl; omega)) only [t4.1.n 81 294175, lit32, litJ, iz_add, iz_sub, iz_mul, iz_neg, nI_iz, ix_iz, inb_iz, ifp_t, ifp_f, iz_eq, iz_lt, bI_s, bL_s, bV_s, bR_s, rz_iz, wL_L]
    have := t2 _ _ _ _ _ M.nd trivial
    unfold LyF at this
    rw [pif_f (fun z => z)] at this
    unfold hPl
    rw [this]
    rfl
  · rw [ifp_t h1, if_neg h1]
    exact ⟨_, rfl, (Sc.s h _ (by decide)).ms⟩
theorem m_zero {q : Int → Int} (V : VS q) : Nd q 0 0 0 0 0 := by
  have := V.top
  have := V.n
  have := mxC_b V
  have := mxG_b V
  exact ⟨by omega, by omega, by omega, by omega⟩
theorem M_fit (d : Nat) {h : Hp} (M : MV h) : ∃ h', evm (d + 7) 228 [vR 12 68] h = some (some (vL (jZ (Wy (rz h 74) (rz h 79) True (eAll (rz h 74) (-1)) 0 0 0 0 0))), h') ∧ Ms h h' (rz h 79) (rz h 80) := by
  rw [e_M_fit, sI_w h, sI_wI]
  have ac : Sc h (wI h 68 (up (up (hI h 68) 0 0) 24 1)) := Sc.f rfl
  have M' := M.sc ac
  obtain ⟨T, t1, t2⟩ := m_lays d M'.1 M'.2.1 (a := -1) (by omega) False
  rw [bZ_f (fun z => z)] at t1
  have eD : Dst (wI h 68 (up (up (hI h 68) 0 0) 24 1)) = True := Dst_t (by rw [wI_I]; rfl)
  rw [ac.z (r := 79) (by decide), ac.z (r := 74) (by decide), eD] at t2
  have b := plc_b M.2.1 (m_zero M.2.1)
  rw [show (-1 : Int32) = iZ (-1) from rfl]
  simp only [show (0 : Int32) = iZ 0 from rfl] at t1 ⊢
  rw [t1, bV_s]
  obtain ⟨h2, e2, a2⟩ : ∃ h2, sI (wL (wI h 68 (up (up (hI h 68) 0 (iZ 0)) 24 1)) 81 T) 68 24 (iZ 0) = h2 ∧ Sc h h2 := ⟨_, rfl, (ac.tr (Sc.l _ _ (by decide))).tr (Sc.s _ _ (by decide))⟩
  have M2 := M.sc a2
  have eT : hL h2 81 = T := by rw [← e2]; exact wL_L _ _ _
  rw [e2, M2.1.r 23 81, bR_s, m_placeOf, bI_s, M2.1.n 81 294175]
  refine ⟨_, ?_, a2.ms⟩
  simp (disch := omega) only [lit32, litJ, iz_add, iz_sub, iz_mul, iz_neg, nI_iz, ix_iz, inb_iz, ifp_t, ifp_f, iz_eq, iz_lt, bI_s, bL_s, bV_s, bR_s, rz_iz, eT]
  have := t2 _ _ _ _ _ (m_zero M.2.1) trivial
  unfold LyF at this
  rw [pif_f (fun z => z)] at this
  rw [this]
  rfl
