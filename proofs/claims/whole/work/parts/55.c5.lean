/-! the model's crowd, whole -/
theorem m_goes (d : Nat) {h : Hp} (S : SM h) (V : VS (rz h 74)) (LW0 : LW (rz h 74) (rz h 75) (rz h 76)) (Du : hI h 68 24 = 0) {x : Int} (hx : 1 ≤ x ∧ x ≤ 1000000000000) : ∃ h', evm (d + 7) 215 [vR 12 68, vL (jZ x)] h = some (none, h') ∧ Sc h h' ∧ (∀ s : Int, 0 ≤ s → s ≤ 40 → hL h' 86 s.toNat = jZ (Trd (rz h 74) (rz h 75) (rz h 76) x s)) ∧ hL h' 68 30 = jZ (Prc (rz h 74) (rz h 75) (rz h 76) x) := by
  have S' : ∀ {F P L D T}, SM (MC h F P L D T) := fun {_ _ _ _ _} => S
  have v1 := V.top
  have fin : ∀ F P L D T, CI (rz h 74) (rz h 75) (rz h 76) x (lx 0 0 0 0 0) L D T → ∃ h', L_M_goesCrowd_73 (d + 6) 68 (iZ 0) (MC h F P L D T) = some (none, h') ∧ Sc h h' ∧ (∀ s : Int, 0 ≤ s → s ≤ 40 → hL h' 86 s.toNat = jZ (Trd (rz h 74) (rz h 75) (rz h 76) x s)) ∧ hL h' 68 30 = jZ (Prc (rz h 74) (rz h 75) (rz h 76) x) := by
    intro F P L D T I
    obtain ⟨F1, P1, L1, D1, T1, e1, I1⟩ := m_goesL d S V LW0 Du (x := x) (by omega) 0 (by omega) F P L D T I
    obtain ⟨a, b⟩ := CI_e V I1
    exact ⟨_, e1, MC_sc, fun s s1 s2 => by rw [MC_D]; exact a s s1 s2, by rw [MC_L]; exact b⟩
  have l26 : ∀ i : Int, 0 ≤ i ∧ i ≤ 41 → ∀ F P L D T, (∀ j : Nat, j < 294175 → T j = jZ 0) → (∀ j : Nat, (j : Int) < i → D j = jZ 0) → ∃ h', L_M_goesCrowd_26 (d + 6) 68 (jZ x) (iZ i) (MC h F P L D T) = some (none, h') ∧ Sc h h' ∧ (∀ s : Int, 0 ≤ s → s ≤ 40 → hL h' 86 s.toNat = jZ (Trd (rz h 74) (rz h 75) (rz h 76) x s)) ∧ hL h' 68 30 = jZ (Prc (rz h 74) (rz h 75) (rz h 76) x) := by
    refine lpZ 41 (fun i hi hb F P L D T hT hD => ?_) (fun i hi ih hb F P L D T hT hD => ?_)
    · have z5 : plc 0 0 0 0 0 = 0 := by decide
      rw [e_M_goesCrowd_26]
      simp (disch := omega) only [lit32, litJ, iz_add, iz_sub, iz_mul, iz_neg, nI_iz, ix_iz, inb_iz, ifp_t, ifp_f, ifp_T, ifp_F, iz_eq, iz_lt, bI_s, bL_s, bV_s, bR_s, MC_sL, S'.r 29 86, S'.n 86 41, MC_sD, S'.r 23 81, m_placeOf, S'.n 81 294175, MC_sT, z5]
      refine fin _ _ _ _ _ ⟨?_, ?_, ?_, ?_⟩
      · intro s l c g t hs hl hc hg ht
        have pb : 0 ≤ plc s l c g t ∧ plc s l c g t < 294175 := by unfold plc; omega
        by_cases h0 : s = 0 ∧ l = 0 ∧ c = 0 ∧ g = 0 ∧ t = 0
        · obtain ⟨rfl, rfl, rfl, rfl, rfl⟩ := h0
          rw [z5, up_e]
          show jZ x = jZ (NP _ _ _ _ _ 0 0 0 0 0)
          rw [NP, pif_t ⟨rfl, rfl, rfl, rfl⟩]
        · have e0 : NP (rz h 74) (rz h 75) (rz h 76) x (lx 0 0 0 0 0) t.toNat s l c g = 0 := by
            by_cases ht0 : t = 0
            · rw [ht0]
              show NP _ _ _ _ _ 0 s l c g = 0
              rw [NP, pif_f (by omega)]
            · refine Classical.byContradiction fun y => ?_
              have tt : 0 < t.toNat := by omega
              have n := NP_nz V y
              have : NP (rz h 74) (rz h 75) (rz h 76) x (fun _ _ _ _ _ => False) t.toNat s l c g = 0 := NP_0 (fun _ _ _ _ _ z => z) _ _ _ _ _ tt
              rw [← NP_c V (Pr := lx 0 0 0 0 0) (fun s' l' c' g' t' n => ⟨fun z => by obtain ⟨⟨_, _, _, _⟩, _⟩ := n; unfold lx at z; omega, fun z => absurd z id⟩)] at this
              exact y this
          rw [e0, up_n _ _ (by unfold plc at *; omega)]
          exact hT _ (by omega)
      · rw [show Int.toNat 0 = 0 from rfl, up_e]
      · intro s s1 s2
        rw [up_n _ _ (by omega), hD _ (by omega)]
        refine congrArg jZ ?_
        refine (S4_z fun l c g t => ?_).symm
        by_cases ht0 : t.toNat = 0
        · rw [ht0, NP, pif_f (by omega)]
        · have : NP (rz h 74) (rz h 75) (rz h 76) x (fun _ _ _ _ _ => False) t.toNat s l c g = 0 := NP_0 (fun _ _ _ _ _ z => z) _ _ _ _ _ (by omega)
          rw [← NP_c V (Pr := lx 0 0 0 0 0) (fun s' l' c' g' t' n => ⟨fun z => by obtain ⟨⟨_, _, _, _⟩, _⟩ := n; unfold lx at z; omega, fun z => absurd z id⟩)] at this
          exact this
      · rw [up_e]
        refine congrArg jZ ?_
        refine (sZ_z fun s s1 _ => S4_z fun l c g t => ?_).symm
        by_cases ht0 : t.toNat = 0
        · rw [ht0, NP, pif_f (by omega)]
        · have : NP (rz h 74) (rz h 75) (rz h 76) x (fun _ _ _ _ _ => False) t.toNat (s + 1) l c g = 0 := NP_0 (fun _ _ _ _ _ z => z) _ _ _ _ _ (by omega)
          rw [← NP_c V (Pr := lx 0 0 0 0 0) (fun s' l' c' g' t' n => ⟨fun z => by obtain ⟨⟨_, _, _, _⟩, _⟩ := n; unfold lx at z; omega, fun z => absurd z id⟩)] at this
          exact this
    · rw [e_M_goesCrowd_26]
      simp (disch := omega) only [lit32, litJ, iz_add, iz_sub, iz_mul, iz_neg, nI_iz, ix_iz, inb_iz, ifp_t, ifp_f, ifp_T, ifp_F, iz_eq, iz_lt, bI_s, bL_s, bV_s, bR_s, S'.r 29 86, S'.n 86 41, MC_sD]
      refine ih (by omega) _ _ _ _ _ hT (fun j hj => ?_)
      by_cases e : j = i.toNat
      · rw [e, up_e]
      · rw [up_n _ _ e]; exact hD j (by omega)
  have l2 : ∀ i : Int, 0 ≤ i ∧ i ≤ 294175 → ∀ F P L D T, (∀ j : Nat, (j : Int) < i → T j = jZ 0) → ∃ h', L_M_goesCrowd_2 (d + 6) 68 (jZ x) (iZ i) (MC h F P L D T) = some (none, h') ∧ Sc h h' ∧ (∀ s : Int, 0 ≤ s → s ≤ 40 → hL h' 86 s.toNat = jZ (Trd (rz h 74) (rz h 75) (rz h 76) x s)) ∧ hL h' 68 30 = jZ (Prc (rz h 74) (rz h 75) (rz h 76) x) := by
    refine lpZ 294175 (fun i hi hb F P L D T hT => ?_) (fun i hi ih hb F P L D T hT => ?_)
    · rw [e_M_goesCrowd_2]
      simp (disch := omega) only [lit32, litJ, iz_add, iz_sub, iz_mul, iz_neg, nI_iz, ix_iz, inb_iz, ifp_t, ifp_f, ifp_T, ifp_F, iz_eq, iz_lt, bI_s, bL_s, bV_s, bR_s, S'.r 23 81, S'.n 81 294175]
      exact l26 0 (by omega) _ _ _ _ _ (fun j hj => hT j (by omega)) (fun j hj => by omega)
    · rw [e_M_goesCrowd_2]
      simp (disch := omega) only [lit32, litJ, iz_add, iz_sub, iz_mul, iz_neg, nI_iz, ix_iz, inb_iz, ifp_t, ifp_f, ifp_T, ifp_F, iz_eq, iz_lt, bI_s, bL_s, bV_s, bR_s, S'.r 23 81, S'.n 81 294175, MC_sT]
      refine ih (by omega) _ _ _ _ _ (fun j hj => ?_)
      by_cases e : j = i.toNat
      · rw [e, up_e]
      · rw [up_n _ _ e]; exact hT j (by omega)
  rw [e_M_goesCrowd]
  have := l2 0 (by omega) (hI h 77) (hI h 78) (hL h 68) (hL h 86) (hL h 81) (fun j hj => by omega)
  rw [MC_self] at this
  exact this
theorem m_isCrowd (d : Nat) {h : Hp} {x : Int} (hx : -9223372036854775808 ≤ x ∧ x < 9223372036854775808) : evm (d + 1) 218 [vL (jZ x)] h = some (some (vI (bZ (1 ≤ x ∧ x ≤ 1000000000000))), h) := by
  rw [e_M_isCrowd]
  simp only [lit32, litJ]
  rw [ifp_n (cmp_lt (by omega)), ifp_n (cmp_gt (by omega))]
  exact ifp_r (fun y => rb_f (by omega)) (fun y => ifp_r (fun z => rb_f (by omega)) (fun z => rb_t (by omega)))
theorem M_crowd (d : Nat) {h : Hp} (M : MV h) (W : LW (rz h 74) (rz h 75) (rz h 76)) {x z : Int} (hx : -9223372036854775808 ≤ x ∧ x < 9223372036854775808) (hz : -2147483648 ≤ z ∧ z < 2147483648) : ∃ h', evm (d + 8) 219 [vR 12 68, vL (jZ x), vI (iZ z)] h = some (some (vL (jZ (if (1 ≤ x ∧ x ≤ 1000000000000) ∧ 0 ≤ z ∧ z ≤ rz h 74 0 then Trd (rz h 74) (rz h 75) (rz h 76) x z else -1))), h') ∧ Ms h h' (rz h 79) (rz h 80) := by
  have v1 := M.2.1.top
  have a0 : Sc h (sI h 68 0 (iZ 0)) := Sc.s h _ (by decide)
  have M0 := M.sc a0
  rw [e_M_crowd]
  simp only [lit32, litJ]
  rw [m_isCrowd (d + 6) hx, bI_s, m_steps (d + 6) M0.1, bI_s, a0.z (r := 74) (by decide), m_within (d + 6) hz (by omega) (by omega), bI_s]
  simp only [bZ_0]
  by_cases h1 : 1 ≤ x ∧ x ≤ 1000000000000
  · rw [ifp_f (fun y => y h1)]
    by_cases h2 : 0 ≤ z ∧ z ≤ rz h 74 0
    · rw [ifp_f (fun y => y h2), if_pos ⟨h1, h2⟩]
      have a1 : Sc h (sI (sI h 68 0 (iZ 0)) 68 24 (iZ 0)) := a0.tr (Sc.s _ _ (by decide))
      have M1 := M.sc a1
      obtain ⟨h', e1, e2, e3, e4⟩ := m_goes d M1.1 M1.2.1 (by rw [a1.z (r := 74) (by decide), a1.z (r := 75) (by decide), a1.z (r := 76) (by decide)]; exact W) rfl (x := x) h1
      rw [a1.z (r := 74) (by decide), a1.z (r := 75) (by decide), a1.z (r := 76) (by decide)] at e3
      have a2 := a1.tr e2
      have M2 := M.sc a2
      refine ⟨h', ?_, a2.ms⟩
      rw [e1, bV_s, M2.1.r 29 86, bR_s, M2.1.n 86 41, ifp_t ((inb_iz (by omega)).mpr (by omega)), ix_iz (by omega), e3 z (by omega) (by omega)]
    · rw [ifp_t h2, if_neg (fun y => h2 y.2)]
      exact ⟨_, rfl, a0.ms⟩
  · rw [ifp_t h1, if_neg (fun y => h1 y.1)]
    exact ⟨_, rfl, a0.ms⟩
theorem M_weary (d : Nat) {h : Hp} (M : MV h) (W : LW (rz h 74) (rz h 75) (rz h 76)) {x : Int} (hx : -9223372036854775808 ≤ x ∧ x < 9223372036854775808) : ∃ h', evm (d + 8) 220 [vR 12 68, vL (jZ x)] h = some (some (vL (jZ (if 1 ≤ x ∧ x ≤ 1000000000000 then Prc (rz h 74) (rz h 75) (rz h 76) x else -1))), h') ∧ Ms h h' (rz h 79) (rz h 80) := by
  have a0 : Sc h (sI h 68 0 (iZ 0)) := Sc.s h _ (by decide)
  rw [e_M_weary]
  simp only [lit32, litJ]
  rw [m_isCrowd (d + 6) hx, bI_s]
  simp only [bZ_0]
  by_cases h1 : 1 ≤ x ∧ x ≤ 1000000000000
  · rw [ifp_f (fun y => y h1), if_pos h1]
    have a1 : Sc h (sI (sI h 68 0 (iZ 0)) 68 24 (iZ 0)) := a0.tr (Sc.s _ _ (by decide))
    have M1 := M.sc a1
    obtain ⟨h', e1, e2, e3, e4⟩ := m_goes d M1.1 M1.2.1 (by rw [a1.z (r := 74) (by decide), a1.z (r := 75) (by decide), a1.z (r := 76) (by decide)]; exact W) rfl (x := x) h1
    rw [a1.z (r := 74) (by decide), a1.z (r := 75) (by decide), a1.z (r := 76) (by decide)] at e4
    refine ⟨h', ?_, (a1.tr e2).ms⟩
    rw [e1, bV_s, e4]
  · rw [ifp_t h1, if_neg h1]
    exact ⟨_, rfl, a0.ms⟩
