/-! rows changed at one place -/
def zup (v : Int → Int) (k x : Int) : Int → Int := fun j => if j.toNat = k.toNat then x else v j
theorem zup_e (v : Int → Int) (k x : Int) : zup v k x k = x := if_pos rfl
theorem zup_n (v : Int → Int) {k j : Int} (x : Int) (h : 0 ≤ k) (h' : 0 ≤ j) (e : j ≠ k) : zup v k x j = v j := if_neg (by omega)
theorem rz_s (h : Hp) (r : Nat) {k x : Int} (hx : -2147483648 ≤ x ∧ x < 2147483648) : rz (sI h r k.toNat (iZ x)) r = zup (rz h r) k x := by
  funext j
  show (if r = r ∧ j.toNat = k.toNat then iZ x else hI h r j.toNat).toInt = if j.toNat = k.toNat then x else rz h r j
  by_cases e : j.toNat = k.toNat
  · rw [if_pos ⟨rfl, e⟩, if_pos e, iz_i hx.1 hx.2]
  · rw [if_neg (fun z => e z.2), if_neg e]; rfl
theorem rz_n (h : Hp) {r a : Nat} (k : Nat) (x : Int32) (e : a ≠ r) : rz (sI h r k x) a = rz h a := by
  rw [sI_w, wI_rz h _ e]
/-- only the model's scratch, state and marks have changed -/
def Sd (h h' : Hp) : Prop := h'.2.2 = h.2.2 ∧ (∀ r k, ¬ scr r k → r ≠ 79 → r ≠ 80 → hI h' r k = hI h r k) ∧ ∀ r, (r < 68 ∨ 91 < r ∨ r = 73) → hL h' r = hL h r
theorem Sc.d {h h' : Hp} (a : Sc h h') : Sd h h' := ⟨a.1, fun r k q _ _ => a.2.1 r k q, a.2.2⟩
theorem Sd.tr {h h1 h2 : Hp} (a : Sd h h1) (b : Sd h1 h2) : Sd h h2 := ⟨b.1.trans a.1, fun r k q q1 q2 => (b.2.1 r k q q1 q2).trans (a.2.1 r k q q1 q2), fun r q => (b.2.2 r q).trans (a.2.2 r q)⟩
theorem Sd.s (h : Hp) {r : Nat} (k : Nat) (v : Int32) (e : r = 79 ∨ r = 80) : Sd h (sI h r k v) := by
  refine ⟨rfl, fun r' k' q q1 q2 => ?_, fun _ _ => rfl⟩
  rw [sI_w, wI_n h _ (by omega)]
theorem Sd.z {h h' : Hp} (a : Sd h h') {r : Nat} (e : r ≠ 68 ∧ r ≠ 70 ∧ r ≠ 71 ∧ r ≠ 77 ∧ r ≠ 78 ∧ r ≠ 79 ∧ r ≠ 80 ∧ r ≠ 88 ∧ r ≠ 89 ∧ r ≠ 90 ∧ r ≠ 91) : rz h' r = rz h r := by
  funext z
  unfold rz
  rw [a.2.1 r z.toNat (by unfold scr; omega) (by omega) (by omega)]
/-- the call's state: scratch, and these -/
def Ms (h h' : Hp) (v m : Int → Int) : Prop := Sd h h' ∧ rz h' 79 = v ∧ rz h' 80 = m
theorem Sc.ms {h h' : Hp} (a : Sc h h') : Ms h h' (rz h 79) (rz h 80) := ⟨a.d, a.z (by decide), a.z (by decide)⟩
theorem M_stride (d : Nat) {h : Hp} (M : MV h) {z : Int} (hz : -2147483648 ≤ z ∧ z < 2147483648) : ∃ h', evm (d + 7) 201 [vR 12 68, vI (iZ z)] h = some (some (vI (bZ (MayZ (rz h 74) (rz h 79) z))), h') ∧
    (MayZ (rz h 74) (rz h 79) z → Ms h h' (zup (zup (rz h 79) (1 + rz h 79 0) z) 0 (rz h 79 0 + 1)) (rz h 80)) ∧ (¬ MayZ (rz h 74) (rz h 79) z → Ms h h' (rz h 79) (rz h 80)) := by
  obtain ⟨f, f1, f2, f3, f4, f5⟩ := M_mayF d M hz
  have a : Sc h (wI h 68 f) := Sc.f f5
  have M' := M.sc a
  have e79 := a.z (r := 79) (by decide)
  have e80 := a.z (r := 80) (by decide)
  have n := M.2.2.1
  rw [e_M_stride, f1, bI_s]
  simp only [lit32, bZ_0]
  by_cases hm : MayZ (rz h 74) (rz h 79) z
  · rw [ifp_f (fun y => y hm)]
    have S2 : SM (sI (wI h 68 f) 79 (1 + rz h 79 0).toNat (iZ z)) := M'.1
    have r0 : rz (sI (wI h 68 f) 79 (1 + rz h 79 0).toNat (iZ z)) 79 0 = rz h 79 0 := by
      rw [rz_s _ _ hz, zup_n _ _ (by omega) (by omega) (by omega), e79]
    simp (disch := omega) only [M'.1.r 17 79, M'.1.n 79 420, lit32, litJ, iz_add, iz_sub, iz_mul, iz_neg, nI_iz, ix_iz, inb_iz, ifp_t, ifp_f, iz_eq, iz_lt, bI_s, bL_s, bV_s, bR_s, rz_iz, m_takenMany (d + 5) M'.1, e79, S2.r 17 79, S2.n 79 420]
    refine ⟨_, by rw [bZ_t hm], fun _ => ⟨?_, ?_, ?_⟩, fun y => absurd hm y⟩
    · exact (a.d.tr (Sd.s _ _ _ (Or.inl rfl))).tr (Sd.s _ _ _ (Or.inl rfl))
    · rw [r0]
      have := rz_s (sI (wI h 68 f) 79 (1 + rz h 79 0).toNat (iZ z)) 79 (k := 0) (x := rz h 79 0 + 1) (by omega)
      rw [rz_s (wI h 68 f) 79 hz, e79] at this
      exact this
    · rw [rz_n _ _ _ (by decide), rz_n _ _ _ (by decide), e80]
  · rw [ifp_t hm]
    exact ⟨_, by rw [bZ_f hm], fun y => absurd y hm, fun _ => a.ms⟩
theorem M_back (d : Nat) {h : Hp} (M : MV h) (z : Prop) : ∃ h', evm (d + 2) 202 [vR 12 68, vI (bZ z)] h = some (some (vI (bZ (rz h 79 0 ≠ 0))), h') ∧
    Ms h h' (pif (rz h 79 0 ≠ 0) 1 0 |> fun y => if y = 0 then rz h 79 else zup (rz h 79) 0 (pif z 0 (rz h 79 0 - 1))) (rz h 80) := by
  obtain ⟨h1, e1, a⟩ : ∃ h1, sI h 68 0 0 = h1 ∧ Sc h h1 := ⟨_, rfl, Sc.s h 0 (by decide)⟩
  have M' := M.sc a
  have e79 := a.z (r := 79) (by decide)
  have e80 := a.z (r := 80) (by decide)
  have n := M.2.2.1
  rw [e_M_back, e1, m_takenMany d M'.1, bI_s, e79]
  simp (disch := omega) only [M'.1.r 17 79, M'.1.n 79 420, lit32, litJ, iz_add, iz_sub, iz_mul, iz_neg, nI_iz, ix_iz, inb_iz, ifp_t, ifp_f, iz_eq, iz_lt, bI_s, bL_s, bV_s, bR_s, rz_iz, m_takenMany d M'.1, e79, bZ_0]
  by_cases h0 : rz h 79 0 = 0
  · rw [ifp_t h0, bZ_f (fun y => y h0)]
    refine ⟨_, rfl, ?_⟩
    rw [pif_f (fun y => y h0)]
    exact a.ms
  · rw [ifp_f h0, bZ_t h0]
    have fin : ∀ x : Int, x = pif z 0 (rz h 79 0 - 1) → Ms h (sI h1 79 (0 : Int).toNat (iZ x)) (zup (rz h 79) 0 (pif z 0 (rz h 79 0 - 1))) (rz h 80) := by
      intro x hx
      have hb : 0 ≤ x ∧ x ≤ 40 := by
        by_cases hz : z
        · rw [hx, pif_t hz]; omega
        · rw [hx, pif_f hz]; omega
      refine ⟨a.d.tr (Sd.s _ _ _ (Or.inl rfl)), ?_, ?_⟩
      · rw [rz_s _ 79 (by omega), e79, hx]
      · rw [rz_n _ _ _ (by decide), e80]
    rw [pif_t h0]
    by_cases hz : z
    · rw [ifp_f (fun y => y hz)]
      exact ⟨_, rfl, fin 0 (pif_t hz).symm⟩
    · rw [ifp_t hz]
      exact ⟨_, rfl, fin _ (pif_f hz).symm⟩
theorem M_taken (d : Nat) {h : Hp} (M : MV h) {z : Int} (hz : -2147483648 ≤ z ∧ z < 2147483648) : ∃ h', evm (d + 2) 203 [vR 12 68, vI (iZ z)] h = some (some (vI (iZ (if 0 ≤ z ∧ z < rz h 79 0 then rz h 79 (1 + z) else -1))), h') ∧ Ms h h' (rz h 79) (rz h 80) := by
  obtain ⟨h1, e1, a⟩ : ∃ h1, sI h 68 0 0 = h1 ∧ Sc h h1 := ⟨_, rfl, Sc.s h 0 (by decide)⟩
  have M' := M.sc a
  have e79 := a.z (r := 79) (by decide)
  have n := M.2.2.1
  refine ⟨_, ?_, a.ms⟩
  rw [e_M_taken, e1, m_takenMany d M'.1, bI_s, e79]
  simp (disch := omega) only [M'.1.r 17 79, lit32, litJ, iz_add, iz_sub, iz_mul, iz_neg, nI_iz, ix_iz, inb_iz, ifp_t, ifp_f, iz_eq, iz_lt, bI_s, bL_s, bV_s, bR_s, rz_iz]
  by_cases h0 : z < 0
  · rw [ifp_t h0, if_neg (by omega)]
  · rw [ifp_f h0]
    by_cases h1 : z < rz h 79 0
    · rw [ifp_t h1, if_pos (by omega)]
      simp (disch := omega) only [M'.1.n 79 420, lit32, litJ, iz_add, iz_sub, iz_mul, iz_neg, nI_iz, ix_iz, inb_iz, ifp_t, ifp_f, iz_eq, iz_lt, bI_s, bL_s, bV_s, bR_s, rz_iz, e79]
    · rw [ifp_f h1, if_neg (by omega)]
/-- what lawful says -/
noncomputable def lwN (q v : Int → Int) : Int := if pS v (v 0) < q 0 then -1 else if 0 ≤ q 2 ∧ q 2 ≠ (v 0 + 1) % 2 then 1 else if v 0 < q 3 then 2 else 0
theorem m_lawfulNow (d : Nat) {h : Hp} (M : MV h) {f0 : Nat → Int32} (e2 : f0 2 = hI h 68 2) : ∃ f, evm (d + 4) 204 [vR 12 68] (wI h 68 f0) = some (some (vI (iZ (lwN (rz h 74) (rz h 79)))), wI h 68 f) ∧ Nw (wI h 68 f) (rz h 74) (rz h 79) (rz h 79 0) ∧ f 24 = f0 24 ∧ f 0 = f0 0 ∧ f 2 = hI h 68 2 := by
  obtain ⟨f, f1, f2, f3, f4, f5⟩ := m_now d M e2
  refine ⟨f, ?_, f2, f3, f4, f5⟩
  have a : Sc h (wI h 68 f) := Sc.f f5
  have M' := M.sc a
  have e79 := a.z (r := 79) (by decide)
  have e74 := a.z (r := 74) (by decide)
  have n := M.2.2.1
  have nd := M.nd.1
  have v1 := M.2.1.top
  have v2 := M.2.1.foot
  have v3 := M.2.1.cnt
  have l49 : L_M_lawfulNow_49 (d + 3) 68 (iZ (rz h 79 0)) (wI h 68 f) = some (some (vI (iZ (if rz h 79 0 < rz h 74 3 then 2 else 0))), wI h 68 f) := by
    rw [e_M_lawfulNow_49]
    simp (disch := omega) only [M'.1.r 10 74, M'.1.n 74 140, lit32, litJ, iz_add, iz_sub, iz_mul, iz_neg, nI_iz, ix_iz, inb_iz, ifp_t, ifp_f, iz_eq, iz_lt, bI_s, bL_s, bV_s, bR_s, rz_iz, e74]
    by_cases h1 : rz h 79 0 < rz h 74 3
    · rw [ifp_t h1, if_pos h1]
    · rw [ifp_f h1, if_neg h1]
  rw [e_M_lawfulNow, f1, bV_s, m_steps (d + 2) M'.1, bI_s, m_takenMany (d + 2) M'.1, bI_s, f2.1]
  simp (disch := omega) only [M'.1.r 10 74, M'.1.n 74 140, lit32, litJ, iz_add, iz_sub, iz_mul, iz_neg, nI_iz, ix_iz, inb_iz, ifp_t, ifp_f, iz_eq, iz_lt, bI_s, bL_s, bV_s, bR_s, rz_iz, e74, e79, irem_iz]
  rw [l49]
  unfold lwN
  by_cases h1 : pS (rz h 79) (rz h 79 0) < rz h 74 0
  · rw [ifp_t h1, if_pos h1]
  · rw [ifp_f h1, if_neg h1]
    by_cases h2 : rz h 74 2 < 0
    · rw [ifp_t h2, if_neg (show ¬ (0 ≤ rz h 74 2 ∧ rz h 74 2 ≠ (rz h 79 0 + 1) % 2) by omega)]
    · rw [ifp_f h2]
      by_cases h3 : rz h 74 2 = (rz h 79 0 + 1) % 2
      · rw [ifp_t h3, if_neg (show ¬ (0 ≤ rz h 74 2 ∧ rz h 74 2 ≠ (rz h 79 0 + 1) % 2) by omega)]
      · rw [ifp_f h3, if_pos (show (0 ≤ rz h 74 2 ∧ rz h 74 2 ≠ (rz h 79 0 + 1) % 2) by omega)]
theorem M_lawful (d : Nat) {h : Hp} (M : MV h) : ∃ h', evm (d + 5) 205 [vR 12 68] h = some (some (vI (iZ (lwN (rz h 74) (rz h 79)))), h') ∧ Ms h h' (rz h 79) (rz h 80) := by
  rw [e_M_lawful, sI_w]
  obtain ⟨f, f1, f2, f3, f4, f5⟩ := m_lawfulNow d M (f0 := up (hI h 68) 0 0) rfl
  refine ⟨_, ?_, (Sc.f f5).ms⟩
  rw [f1, bI_s]
