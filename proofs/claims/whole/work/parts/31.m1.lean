/-! the model's readers -/
theorem m_kindOf (d : Nat) {h : Hp} (S : SM h) {z : Int} (hz : 0 ≤ z ∧ z ≤ 113) : evm (d + 1) 179 [vR 12 68, vI (iZ z)] h = some (some (vI (iZ (rz h 74 (26 + z)))), h) := by
  rw [e_M_kindOf]
  simp (disch := omega) only [S.r 10 74, S.n 74 140, lit32, litJ, iz_add, iz_sub, iz_mul, iz_neg, nI_iz, ix_iz, inb_iz, ifp_t, ifp_f, iz_eq, iz_lt, bI_s, bL_s, bV_s, bR_s, rz_iz]
theorem m_strideOf (d : Nat) {h : Hp} (S : SM h) {z : Int} (hz : 0 ≤ z ∧ z ≤ 100) : evm (d + 1) 178 [vR 12 68, vI (iZ z)] h = some (some (vI (iZ (rz h 74 (9 + z)))), h) := by
  rw [e_M_strideOf]
  simp (disch := omega) only [S.r 10 74, S.n 74 140, lit32, litJ, iz_add, iz_sub, iz_mul, iz_neg, nI_iz, ix_iz, inb_iz, ifp_t, ifp_f, iz_eq, iz_lt, bI_s, bL_s, bV_s, bR_s, rz_iz]
theorem m_steps (d : Nat) {h : Hp} (S : SM h) : evm (d + 1) 176 [vR 12 68] h = some (some (vI (iZ (rz h 74 0))), h) := by
  rw [e_M_steps]
  simp (disch := omega) only [S.r 10 74, S.n 74 140, lit32, litJ, iz_add, iz_sub, iz_mul, iz_neg, nI_iz, ix_iz, inb_iz, ifp_t, ifp_f, iz_eq, iz_lt, bI_s, bL_s, bV_s, bR_s, rz_iz]
theorem m_strides (d : Nat) {h : Hp} (S : SM h) : evm (d + 1) 177 [vR 12 68] h = some (some (vI (iZ (rz h 74 8))), h) := by
  rw [e_M_strides]
  simp (disch := omega) only [S.r 10 74, S.n 74 140, lit32, litJ, iz_add, iz_sub, iz_mul, iz_neg, nI_iz, ix_iz, inb_iz, ifp_t, ifp_f, iz_eq, iz_lt, bI_s, bL_s, bV_s, bR_s, rz_iz]
theorem m_takenMany (d : Nat) {h : Hp} (S : SM h) : evm (d + 1) 180 [vR 12 68] h = some (some (vI (iZ (rz h 79 0))), h) := by
  rw [e_M_takenMany]
  simp (disch := omega) only [S.r 17 79, S.n 79 420, lit32, litJ, iz_add, iz_sub, iz_mul, iz_neg, nI_iz, ix_iz, inb_iz, ifp_t, ifp_f, iz_eq, iz_lt, bI_s, bL_s, bV_s, bR_s, rz_iz]
/-- a yes or no as the machine has it -/
noncomputable def bZ (c : Prop) : Int32 := @ite _ c (Classical.propDecidable c) (iZ 1) (iZ 0)
theorem bZ_t {c : Prop} (h : c) : bZ c = iZ 1 := if_pos h
theorem bZ_f {c : Prop} (h : ¬ c) : bZ c = iZ 0 := if_neg h
theorem bZ_0 {c : Prop} : bZ c = iZ 0 ↔ ¬ c := by
  by_cases h : c
  · rw [bZ_t h]; exact ⟨fun q => absurd q (by decide), fun q => absurd h q⟩
  · rw [bZ_f h]; exact ⟨fun _ => h, fun _ => rfl⟩
theorem bZ_c {c c' : Prop} (h : c ↔ c') : bZ c = bZ c' := by rw [propext h]
theorem bZ_B (c : Prop) : isB (bZ c) = true := by
  by_cases h : c
  · rw [bZ_t h]; decide
  · rw [bZ_f h]; decide
theorem m_isGreat (d : Nat) {h : Hp} (S : SM h) {z : Int} (hz : 0 ≤ z ∧ z ≤ 1000) : evm (d + 1) 182 [vR 12 68, vI (iZ z)] h = some (some (vI (bZ (0 ≤ rz h 74 5 ∧ rz h 74 5 ≤ z))), h) := by
  rw [e_M_isGreat]
  have r := rz_rg h 74 5
  simp (disch := omega) only [S.r 10 74, S.n 74 140, lit32, litJ, iz_add, iz_sub, iz_mul, iz_neg, nI_iz, ix_iz, inb_iz, ifp_t, ifp_f, iz_eq, iz_lt, bI_s, bL_s, bV_s, bR_s, rz_iz]
  by_cases h1 : rz h 74 5 < 0
  · rw [ifp_t h1, bZ_f (by omega)]
  · rw [ifp_f h1]
    by_cases h2 : z < rz h 74 5
    · rw [ifp_t h2, bZ_f (by omega)]
    · rw [ifp_f h2, bZ_t (by omega)]
def Grt (q : Int → Int) (x : Int) : Prop := 0 ≤ q 5 ∧ q 5 ≤ x
def Brd (q : Int → Int) (b0 a b : Int) : Prop := ∃ k : Int, 0 ≤ k ∧ k < q (b0 + 15) ∧ q (b0 + 16 + k) = 16 * a + b
theorem m_isBarredL (d : Nat) {h : Hp} (S : SM h) {b0 a b : Int} (hb0 : 0 ≤ b0 ∧ b0 ≤ 70) (ha : 0 ≤ a ∧ a ≤ 1000) (hb : 0 ≤ b ∧ b ≤ 1000) (hq : rz h 74 (b0 + 15) ≤ 8) : ∀ (k : Int) (c : Prop), 0 ≤ k ∧ k ≤ 100 →
    L_M_isBarred_6 d 68 (iZ b0) (iZ a) (iZ b) (bZ c) (iZ k) h = some (some (vI (bZ (c ∨ ∃ j : Int, k ≤ j ∧ j < rz h 74 (b0 + 15) ∧ rz h 74 (b0 + 16 + j) = 16 * a + b))), h) := by
  have r := rz_rg h 74 (b0 + 15)
  refine lpZ (rz h 74 (b0 + 15)) (fun k hkN c hk => ?_) (fun k hkN ih c hk => ?_)
  · rw [e_M_isBarred_6]
    simp (disch := omega) only [S.r 10 74, S.n 74 140, lit32, litJ, iz_add, iz_sub, iz_mul, iz_neg, nI_iz, ix_iz, inb_iz, ifp_t, ifp_f, iz_eq, iz_lt, bI_s, bL_s, bV_s, bR_s, rz_iz, bZ_B, Bool.cond_true]
    congr 4
    refine bZ_c ⟨Or.inl, ?_⟩
    rintro (q | ⟨j, h1, h2, h3⟩)
    · exact q
    · omega
  · rw [e_M_isBarred_6]
    have r2 := rz_rg h 74 (b0 + 16 + k)
    simp (disch := omega) only [S.r 10 74, S.n 74 140, lit32, litJ, iz_add, iz_sub, iz_mul, iz_neg, nI_iz, ix_iz, inb_iz, ifp_t, ifp_f, iz_eq, iz_lt, bI_s, bL_s, bV_s, bR_s, rz_iz, bZ_0]
    by_cases hc : c
    · simp only [hc, not_true_eq_false, ifp_f, not_false_eq_true]
      have := ih True (by omega)
      rw [bZ_t trivial] at this
      rw [this]
      simp only [true_or]
    · simp only [hc, not_false_eq_true, ifp_t]
      have i1 := ih True (by omega)
      rw [bZ_t trivial] at i1
      have i0 := ih False (by omega)
      rw [bZ_f (fun q => q)] at i0
      rw [i1, i0]
      by_cases he : rz h 74 (b0 + 16 + k) = 16 * a + b
      · rw [ifp_t he, bZ_t (Or.inl trivial), bZ_t (Or.inr ⟨k, by omega, hkN, he⟩)]
      · rw [ifp_f he]
        congr 4
        refine bZ_c ⟨?_, ?_⟩
        · rintro (q | ⟨j, h1, h2, h3⟩)
          · exact absurd q (fun z => z)
          · exact Or.inr ⟨j, by omega, h2, h3⟩
        · rintro (q | ⟨j, h1, h2, h3⟩)
          · exact absurd q (fun z => z)
          · refine Or.inr ⟨j, ?_, h2, h3⟩
            by_cases e : j = k
            · subst e; exact absurd h3 he
            · omega
theorem m_isBarred (d : Nat) {h : Hp} (S : SM h) {b0 a b : Int} (hb0 : 0 ≤ b0 ∧ b0 ≤ 70) (ha : 0 ≤ a ∧ a ≤ 1000) (hb : 0 ≤ b ∧ b ≤ 1000) (hq : rz h 74 (b0 + 15) ≤ 8) : evm (d + 1) 164 [vR 12 68, vI (iZ b0), vI (iZ a), vI (iZ b)] h = some (some (vI (bZ (Brd (rz h 74) b0 a b))), h) := by
  rw [e_M_isBarred]
  have i0 := m_isBarredL d S hb0 ha hb hq 0 False (by omega)
  rw [bZ_f (fun q => q)] at i0
  simp only [lit32]
  rw [i0]
  congr 4
  refine bZ_c ⟨?_, ?_⟩
  · rintro (q | q)
    · exact absurd q (fun z => z)
    · exact q
  · exact Or.inr
/-! dust -/
def Dst (h : Hp) : Prop := rz h 68 24 ≠ 0
def Shut (q v : Int → Int) (u : Prop) (s : Int) : Prop := q (26 + s) = 1 ∨ (u ∧ v (41 + s) = 2)
def Must (q v : Int → Int) (u : Prop) (s : Int) : Prop := q (26 + s) = 3 ∨ (u ∧ v (41 + s) = 1)
theorem m_isShut (d : Nat) {h : Hp} (S : SM h) {z : Int} (hz : 0 ≤ z ∧ z ≤ 41) : evm (d + 2) 186 [vR 12 68, vI (iZ z)] h = some (some (vI (bZ (Shut (rz h 74) (rz h 79) (Dst h) z))), h) := by
  rw [e_M_isShut, m_kindOf d S (by omega)]
  have r := rz_rg h 74 (26 + z)
  have r1 := rz_rg h 68 24
  have r2 := rz_rg h 79 (41 + z)
  have e1 : hI h 68 24 = iZ (rz h 68 24) := rz_iz' h 68 24
  simp (disch := omega) only [S.r 17 79, S.n 79 420, e1, lit32, litJ, iz_add, iz_sub, iz_mul, iz_neg, nI_iz, ix_iz, inb_iz, ifp_t, ifp_f, iz_eq, iz_lt, bI_s, bL_s, bV_s, bR_s, rz_iz]
  unfold Shut Dst
  by_cases h1 : rz h 74 (26 + z) = 1
  · rw [ifp_t h1, bZ_t (Or.inl h1)]
  · rw [ifp_f h1]
    by_cases h2 : rz h 68 24 = 0
    · rw [ifp_t h2, bZ_f (by omega)]
    · rw [ifp_f h2]
      by_cases h3 : rz h 79 (41 + z) = 2
      · rw [ifp_t h3, bZ_t (Or.inr ⟨h2, h3⟩)]
      · rw [ifp_f h3, bZ_f (by omega)]
theorem m_isMust (d : Nat) {h : Hp} (S : SM h) {z : Int} (hz : 0 ≤ z ∧ z ≤ 41) : evm (d + 2) 187 [vR 12 68, vI (iZ z)] h = some (some (vI (bZ (Must (rz h 74) (rz h 79) (Dst h) z))), h) := by
  rw [e_M_isMust, m_kindOf d S (by omega)]
  have r := rz_rg h 74 (26 + z)
  have r1 := rz_rg h 68 24
  have r2 := rz_rg h 79 (41 + z)
  have e1 : hI h 68 24 = iZ (rz h 68 24) := rz_iz' h 68 24
  simp (disch := omega) only [S.r 17 79, S.n 79 420, e1, lit32, litJ, iz_add, iz_sub, iz_mul, iz_neg, nI_iz, ix_iz, inb_iz, ifp_t, ifp_f, iz_eq, iz_lt, bI_s, bL_s, bV_s, bR_s, rz_iz]
  unfold Must Dst
  by_cases h1 : rz h 74 (26 + z) = 3
  · rw [ifp_t h1, bZ_t (Or.inl h1)]
  · rw [ifp_f h1]
    by_cases h2 : rz h 68 24 = 0
    · rw [ifp_t h2, bZ_f (by omega)]
    · rw [ifp_f h2]
      by_cases h3 : rz h 79 (41 + z) = 1
      · rw [ifp_t h3, bZ_t (Or.inr ⟨h2, h3⟩)]
      · rw [ifp_f h3, bZ_f (by omega)]
