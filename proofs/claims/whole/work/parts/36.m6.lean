/-! the model's scratch -/
def scr (r k : Nat) : Prop := (r = 68 ∧ k ≠ 2) ∨ r = 70 ∨ r = 71 ∨ r = 77 ∨ r = 78 ∨ r = 88 ∨ r = 89 ∨ r = 90 ∨ r = 91
/-- only scratch of the model has changed -/
def Sc (h h' : Hp) : Prop := h'.2.2 = h.2.2 ∧ (∀ r k, ¬ scr r k → hI h' r k = hI h r k) ∧ ∀ r, (r < 68 ∨ 91 < r ∨ r = 73) → hL h' r = hL h r
theorem Sc.rf (h : Hp) : Sc h h := ⟨rfl, fun _ _ _ => rfl, fun _ _ => rfl⟩
theorem Sc.tr {h h1 h2 : Hp} (a : Sc h h1) (b : Sc h1 h2) : Sc h h2 := ⟨b.1.trans a.1, fun r k q => (b.2.1 r k q).trans (a.2.1 r k q), fun r q => (b.2.2 r q).trans (a.2.2 r q)⟩
theorem Sc.f {h : Hp} {f : Nat → Int32} (e : f 2 = hI h 68 2) : Sc h (wI h 68 f) := by
  refine ⟨rfl, fun r k q => ?_, fun _ _ => rfl⟩
  by_cases er : r = 68
  · subst er
    rw [wI_I]
    have : k = 2 := Classical.byContradiction fun z => q (Or.inl ⟨rfl, z⟩)
    rw [this, e]
  · rw [wI_n h f er]
theorem Sc.i (h : Hp) {r : Nat} (f : Nat → Int32) (e : r = 70 ∨ r = 71 ∨ r = 77 ∨ r = 78 ∨ r = 88 ∨ r = 89 ∨ r = 90 ∨ r = 91) : Sc h (wI h r f) := by
  refine ⟨rfl, fun r' k q => ?_, fun _ _ => rfl⟩
  by_cases er : r' = r
  · subst er; exact absurd (Or.inr e) q
  · rw [wI_n h f er]
theorem Sc.l (h : Hp) {r : Nat} (f : Nat → Int64) (e : 68 ≤ r ∧ r ≤ 91 ∧ r ≠ 73) : Sc h (wL h r f) := by
  refine ⟨rfl, fun _ _ _ => rfl, fun r' q => ?_⟩
  rw [wL_n h f (by omega)]
theorem Sc.s (h : Hp) {k : Nat} (v : Int32) (e : k ≠ 2) : Sc h (sI h 68 k v) := by
  rw [sI_w]; exact Sc.f (up_n _ _ (by omega))
theorem Sc.sl (h : Hp) {k : Nat} (v : Int64) : Sc h (sL h 68 k v) := by
  rw [sL_w]; exact Sc.l _ _ (by omega)
theorem Sc.z {h h' : Hp} (a : Sc h h') {r : Nat} (e : r ≠ 68 ∧ r ≠ 70 ∧ r ≠ 71 ∧ r ≠ 77 ∧ r ≠ 78 ∧ r ≠ 88 ∧ r ≠ 89 ∧ r ≠ 90 ∧ r ≠ 91) : rz h' r = rz h r := by
  funext z
  unfold rz
  rw [a.2.1 r z.toNat (by unfold scr; omega)]
theorem Sc.m {h h' : Hp} (a : Sc h h') (S : SM h) : SM h' := by
  have e1 : hR h' = hR h := congrArg (fun x => x.1) a.1
  have e2 : hN h' = hN h := congrArg (fun x => x.2.2.1) a.1
  unfold SM
  rw [e1, e2]
  exact S
/-! the model's state -/
def VT (q w : Int → Int) : Prop := (0 ≤ w 0 ∧ w 0 ≤ 40) ∧ VH q w (w 0) ∧ ∀ s, 0 ≤ s → s ≤ 40 → 0 ≤ w (41 + s) ∧ w (41 + s) ≤ 2
/-- a stair and a state -/
def MV (h : Hp) : Prop := SM h ∧ VS (rz h 74) ∧ VT (rz h 74) (rz h 79)
theorem MV.sc {h h' : Hp} (M : MV h) (a : Sc h h') : MV h' := by
  refine ⟨a.m M.1, ?_⟩
  rw [a.z (by decide), a.z (by decide)]
  exact M.2
theorem m_now (d : Nat) {h : Hp} (M : MV h) {f0 : Nat → Int32} (e2 : f0 2 = hI h 68 2) : ∃ f, evm (d + 3) 183 [vR 12 68] (wI h 68 f0) = some (none, wI h 68 f) ∧ Nw (wI h 68 f) (rz h 74) (rz h 79) (rz h 79 0) ∧ f 24 = f0 24 ∧ f 0 = f0 0 ∧ f 2 = hI h 68 2 := by
  have M' := M.sc (Sc.f e2)
  have e79 : rz (wI h 68 f0) 79 = rz h 79 := wI_rz h f0 (by decide)
  have e74 : rz (wI h 68 f0) 74 = rz h 74 := wI_rz h f0 (by decide)
  obtain ⟨f, f1, f2, f3⟩ := m_findNow d M'.1 M'.2.1 M'.2.2.1 M'.2.2.2.1
  rw [wI_wI] at f1 f2
  rw [e74, e79] at f2
  have e := wI_I h 68 f0
  refine ⟨f, f1, f2, ?_, ?_, ?_⟩
  · rw [f3 24 (by omega), e]
  · rw [f3 0 (by omega), e]
  · rw [f3 2 (by omega), e, e2]
theorem m_within (d : Nat) {h : Hp} {x a b : Int} (hx : -2147483648 ≤ x ∧ x < 2147483648) (ha : -2147483648 ≤ a ∧ a < 2147483648) (hb : -2147483648 ≤ b ∧ b < 2147483648) : evm (d + 1) 154 [vI (iZ x), vI (iZ a), vI (iZ b)] h = some (some (vI (bZ (a ≤ x ∧ x ≤ b))), h) := by
  rw [e_M_within]
  simp (disch := omega) only [lit32, litJ, iz_add, iz_sub, iz_mul, iz_neg, nI_iz, ix_iz, inb_iz, ifp_t, ifp_f, iz_eq, iz_lt, bI_s, bL_s, bV_s, bR_s, rz_iz]
  by_cases h1 : x < a
  · rw [ifp_t h1, bZ_f (by omega)]
  · rw [ifp_f h1]
    by_cases h2 : b < x
    · rw [ifp_t h2, bZ_f (by omega)]
    · rw [ifp_f h2, bZ_t (by omega)]
/-- the hand's node -/
noncomputable def hPl (q v : Int → Int) : Int := plc (pS v (v 0)) (pL q v (v 0)) (pC q v (v 0)) (pG q v (v 0)) (v 0)
def MayH (q v : Int → Int) (u : Prop) (k : Int) : Prop := May q v u (pS v (v 0)) (pL q v (v 0)) (pC q v (v 0)) (pG q v (v 0)) (v 0) k
theorem MV.nd {h : Hp} (M : MV h) : Nd (rz h 74) (pS (rz h 79) (rz h 79 0)) (pL (rz h 74) (rz h 79) (rz h 79 0)) (pC (rz h 74) (rz h 79) (rz h 79 0)) (pG (rz h 74) (rz h 79) (rz h 79 0)) (rz h 79 0) := M.2.2.2.1.nd M.2.1 _ M.2.2.1.1 (Int.le_refl _)
theorem m_nowAt (d : Nat) {h : Hp} (M : MV h) (N : Nw h (rz h 74) (rz h 79) (rz h 79 0)) : evm (d + 2) 197 [vR 12 68] h = some (some (vI (iZ (hPl (rz h 74) (rz h 79)))), h) := by
  rw [e_M_nowAt, N.1, N.2.1, N.2.2.1, m_creakOf d M.1 M.2.1, bI_s, N.2.2.2, m_takenMany d M.1, bI_s, m_placeOf, bI_s]
  rfl
theorem m_mayNow (d : Nat) {h : Hp} (M : MV h) (N : Nw h (rz h 74) (rz h 79) (rz h 79 0)) {k : Int} (hk : 0 ≤ k ∧ k < rz h 74 8) : evm (d + 5) 198 [vR 12 68, vI (iZ k)] h = some (some (vI (bZ (MayH (rz h 74) (rz h 79) (Dst h) k))), h) := by
  have n := M.nd
  have v1 := M.2.1.top
  have v3 := mxC_b M.2.1
  have v4 := mxG_b M.2.1
  obtain ⟨n1, n2, n3, n4⟩ := n
  rw [e_M_mayNow, N.1, N.2.1, N.2.2.1, m_creakOf (d + 3) M.1 M.2.1, bI_s, N.2.2.2, m_takenMany (d + 3) M.1, bI_s]
  have e : (if rz h 74 1 < 0 then 0 else pR (rz h 74) (rz h 79) (rz h 79 0)) = pC (rz h 74) (rz h 79) (rz h 79 0) := rfl
  rw [e, m_mayNext d M.1 M.2.1 (by omega) n2 (by omega) (by omega) (by omega) hk, bI_s, bZ_B]
  rfl
/-- a stride may be next by hand -/
def MayZ (q v : Int → Int) (z : Int) : Prop := ∃ k, 0 ≤ k ∧ k < q 8 ∧ q (9 + k) = z ∧ MayH q v False k
theorem MayZ_k {q v : Int → Int} (V : VS q) {k : Int} (h1 : 0 ≤ k) (h2 : k < q 8) : MayZ q v (q (9 + k)) ↔ MayH q v False k := by
  constructor
  · rintro ⟨j, j1, j2, j3, j4⟩
    have e : j = k := by
      have a := ixo_k V j1 j2
      rw [j3, ixo_k V h1 h2] at a
      exact a.symm
    subst e; exact j4
  · exact fun z => ⟨k, h1, h2, rfl, z⟩
theorem Dst_f {h : Hp} (e : hI h 68 24 = 0) : Dst h = False := by
  refine eq_false fun z => z ?_
  show (hI h 68 24).toInt = 0
  rw [e]; rfl
theorem Dst_t {h : Hp} (e : hI h 68 24 = 1) : Dst h = True := by
  refine eq_true ?_
  show ¬ (hI h 68 24).toInt = 0
  rw [e]; decide
/-- a call by which nothing but scratch changes, with what is known then -/
def Now (h h' : Hp) (f : Nat → Int32) : Prop := h' = wI h 68 f ∧ Nw h' (rz h 74) (rz h 79) (rz h 79 0) ∧ f 2 = hI h 68 2
theorem M_mayF (d : Nat) {h : Hp} (M : MV h) {z : Int} (hz : -2147483648 ≤ z ∧ z < 2147483648) : ∃ f, evm (d + 6) 200 [vR 12 68, vI (iZ z)] h = some (some (vI (bZ (MayZ (rz h 74) (rz h 79) z))), wI h 68 f) ∧ Nw (wI h 68 f) (rz h 74) (rz h 79) (rz h 79 0) ∧ f 24 = 0 ∧ f 0 = 0 ∧ f 2 = hI h 68 2 := by
  rw [e_M_may, sI_w h, sI_wI]
  obtain ⟨f, f1, f2, f3, f4, f5⟩ := m_now (d + 2) M (f0 := up (up (hI h 68) 0 0) 24 0) rfl
  have M' := M.sc (Sc.f f5)
  have e79 : rz (wI h 68 f) 79 = rz h 79 := wI_rz h f (by decide)
  have e74 : rz (wI h 68 f) 74 = rz h 74 := wI_rz h f (by decide)
  refine ⟨f, ?_, f2, f3, f4, f5⟩
  rw [f1, bV_s, m_indexOf (d + 3) M'.1 M'.2.1 hz, bI_s, e74]
  have b := ixo_b (rz h 74) z
  have vn := M.2.1.n
  simp (disch := omega) only [lit32, litJ, iz_add, iz_sub, iz_mul, iz_neg, nI_iz, ix_iz, inb_iz, ifp_t, ifp_f, iz_eq, iz_lt, bI_s, bL_s, bV_s, bR_s, rz_iz]
  by_cases hk : ∃ k, 0 ≤ k ∧ k < rz h 74 8 ∧ rz h 74 (9 + k) = z
  · obtain ⟨k1, k2, k3⟩ := ixo_y hk
    have eD : Dst (wI h 68 f) = False := Dst_f (by rw [wI_I]; exact f3)
    rw [ifp_f (by omega), m_mayNow d M' (by rw [e74, e79]; exact f2) (by rw [e74]; omega), bI_s, e74, e79, eD]
    simp only [bZ_0]
    by_cases hm : MayH (rz h 74) (rz h 79) False (ixo (rz h 74) z)
    · rw [ifp_f (fun y => y hm), bZ_t ⟨_, k1, k2, k3, hm⟩]
    · rw [ifp_t hm, bZ_f]
      rintro ⟨j, j1, j2, j3, j4⟩
      rw [← j3, ixo_k M.2.1 j1 j2] at hm
      exact hm j4
  · rw [ifp_t (by rw [ixo_n hk]; omega), bZ_f]
    rintro ⟨j, j1, j2, j3, j4⟩
    exact hk ⟨j, j1, j2, j3⟩
theorem M_may (d : Nat) {h : Hp} (M : MV h) {z : Int} (hz : -2147483648 ≤ z ∧ z < 2147483648) : ∃ h', evm (d + 6) 200 [vR 12 68, vI (iZ z)] h = some (some (vI (bZ (MayZ (rz h 74) (rz h 79) z))), h') ∧ Sc h h' := by
  obtain ⟨f, f1, f2, f3, f4, f5⟩ := M_mayF d M hz
  exact ⟨_, f1, Sc.f f5⟩
