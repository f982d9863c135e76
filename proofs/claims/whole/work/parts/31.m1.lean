/-! the model's readers -/
theorem m_kindOf (d : Nat) {h : Hp} (S : SM h) {z : Int} (hz : 0 ≤ z ∧ z ≤ 113) : evm (d + 1) 179 [vR 12 68, vI (iZ z)] h = some (some (vI (iZ (rz h 74 (26 + z)))), h) := by
  rw [e_M_kindOf]
  simp (disch := omega) only [S.r 10 74, S.n 74 140, lit32, litJ, iz_add, iz_sub, iz_mul, iz_neg, nI_iz, ix_iz, inb_iz, ifp_t, ifp_f, iz_eq, iz_lt, bI_s, bL_s, bV_s, bR_s, rz_iz]
theorem m_strideOf (d : Nat) {h : Hp} (S : SM h) {z : Int} (hz : 0 ≤ z ∧ z ≤ 100) : evm (d + 1) 178 [vR 12 68, vI (iZ z)] h = some (some (vI (iZ (rz h 74 (9 + z)))), h) := by
  rw [e_M_strideOf]
  simp (disch := omega) only [S.r 10 74, S.n 74 140, lit32, litJ, iz_add, iz_sub, iz_mul, iz_neg, nI_iz, ix_iz, inb_iz, ifp_t, ifp_f, iz_eq, iz_lt, bI_s, bL_s, bV_s, bR_s, rz_iz]
theorem m_steps (d : Nat) {h : Hp} (S : SM h) : evm (d + 1) 176 [vR 12 68] h = some (some (vI (iZ (rz h 74 0))), h) := by
  rw [e_M_steps]
  simp (disch := omega) only [S.r 10 74, S.n 74 140, lit32, litJ, iz_add, iz_sub, iz_mul, iz_neg, nI_iz, ix_iz, inb_iz, ifp_t, ifp_f, iz_eq, iz_lt, bI_s, bL_s, bV_s, bR_s, rz_iz]
theorem m_strides (d : Nat) {h : Hp} (S : SM h) : evm (d + 1) 177 [vR 12 68] h = some (some (vI (iZ (rz h 74 8))), h) := by
  rw [e_M_strides]
  simp (disch := omega) only [S.r 10 74, S.n 74 140, lit32, litJ, iz_add, iz_sub, iz_mul, iz_neg, nI_iz, ix_iz, inb_iz, ifp_t, ifp_f, iz_eq, iz_lt, bI_s, bL_s, bV_s, bR_s, rz_iz]
theorem m_takenMany (d : Nat) {h : Hp} (S : SM h) : evm (d + 1) 180 [vR 12 68] h = some (some (vI (iZ (rz h 79 0))), h) := by
  rw [e_M_takenMany]
  simp (disch := omega) only [S.r 17 79, S.n 79 420, lit32, litJ, iz_add, iz_sub, iz_mul, iz_neg, nI_iz, ix_iz, inb_iz, ifp_t, ifp_f, iz_eq, iz_lt, bI_s, bL_s, bV_s, bR_s, rz_iz]
/-- a yes or no as the machine has it -/
noncomputable def bZ (c : Prop) : Int32 := @ite _ c (Classical.propDecidable c) (iZ 1) (iZ 0)
theorem bZ_t {c : Prop} (h : c) : bZ c = iZ 1 := if_pos h
theorem bZ_f {c : Prop} (h : ¬ c) : bZ c = iZ 0 := if_neg h
theorem bZ_0 {c : Prop} : bZ c = iZ 0 ↔ ¬ c := by
  by_cases h : c
  · rw [bZ_t h]; exact ⟨fun q => absurd q (by decide), fun q => absurd h q⟩
  · rw [bZ_f h]; exact ⟨fun _ => h, fun _ => rfl⟩
theorem bZ_c {c c' : Prop} (h : c ↔ c') : bZ c = bZ c' := by rw [propext h]
theorem bZ_B (c : Prop) : isB (bZ c) = true := by
  by_cases h : c
  · rw [bZ_t h]; decide
  · rw [bZ_f h]; decide
theorem m_isGreat (d : Nat) {h : Hp} (S : SM h) {z : Int} (hz : 0 ≤ z ∧ z ≤ 1000) : evm (d + 1) 182 [vR 12 68, vI (iZ z)] h = some (some (vI (bZ (0 ≤ rz h 74 5 ∧ rz h 74 5 ≤ z))), h) := by
  rw [e_M_isGreat]
  have r := rz_rg h 74 5
  simp (disch := omega) only [S.r 10 74, S.n 74 140, lit32, litJ, iz_add, iz_sub, iz_mul, iz_neg, nI_iz, ix_iz, inb_iz, ifp_t, ifp_f, iz_eq, iz_lt, bI_s, bL_s, bV_s, bR_s, rz_iz]
  by_cases h1 : rz h 74 5 < 0
  · rw [ifp_t h1, bZ_f (by omega)]
  · rw [ifp_f h1]
    by_cases h2 : z < rz h 74 5
    · rw [ifp_t h2, bZ_f (by omega)]
    · rw [ifp_f h2, bZ_t (by omega)]
def Grt (q : Int → Int) (x : Int) : Prop := 0 ≤ q 5 ∧ q 5 ≤ x
def Brd (q : Int → Int) (b0 a b : Int) : Prop := ∃ k : Int, 0 ≤ k ∧ k < q (b0 + 15) ∧ q (b0 + 16 + k) = 16 * a + b
theorem m_isBarredL (d : Nat) {h : Hp} (S : SM h) {b0 a b : Int} (hb0 : 0 ≤ b0 ∧ b0 ≤ 70) (ha : 0 ≤ a ∧ a ≤ 1000) (hb : 0 ≤ b ∧ b ≤ 1000) (hq : rz h 74 (b0 + 15) ≤ 8) : ∀ (k : Int) (c : Prop), 0 ≤ k ∧ k ≤ 100 →
    L_M_isBarred_6 d 68 (iZ b0) (iZ a) (iZ b) (bZ c) (iZ k) h = some (some (vI (bZ (c ∨ ∃ j : Int, k ≤ j ∧ j < rz h 74 (b0 + 15) ∧ rz h 74 (b0 + 16 + j) = 16 * a + b))), h) := by
  have r := rz_rg h 74 (b0 + 15)
  refine lpZ (rz h 74 (b0 + 15)) (fun k hkN c hk => ?_) (fun k hkN ih c hk => ?_)
  · rw [e_M_isBarred_6]
    simp (disch := omega) only [S.r 10 74, S.n 74 140, lit32, litJ, iz_add, iz_sub, iz_mul, iz_neg, nI_iz, ix_iz, inb_iz, ifp_t, ifp_f, iz_eq, iz_lt, bI_s, bL_s, bV_s, bR_s, rz_iz, bZ_B, Bool.cond_true]
    congr 4
    refine bZ_c ⟨Or.inl, ?_⟩
    rintro (q | ⟨j, h1, h2, h3⟩)
    · exact q
    · omega
  · rw [e_M_isBarred_6]
    have r2 := rz_rg h 74 (b0 + 16 + k)
    simp (disch := omega) only [S.r 10 74, S.n 74 140, lit32, litJ, iz_add, iz_sub, iz_mul, iz_neg, nI_iz, ix_iz, inb_iz, ifp_t, ifp_f, iz_eq, iz_lt, bI_s, bL_s, bV_s, bR_s, rz_iz, bZ_0]
    by_cases hc : c
    · simp only [hc, not_true_eq_false, ifp_f, not_false_eq_true]
      have := ih True (by omega)
      rw [bZ_t trivial] at this
      rw [this]
      simp only [true_or]
    · simp only [hc, not_false_eq_true, ifp_t]
      have i1 := ih True (by omega)
      rw [bZ_t trivial] at i1
      have i0 := ih False (by omega)
      rw [bZ_f (fun q => q)] at i0
      rw [i1, i0]
      by_cases he : rz h 74 (b0 + 16 + k) = 16 * a + b
      · rw [ifp_t he, bZ_t (Or.inl trivial), bZ_t (Or.inr ⟨k, by omega, hkN, he⟩)]
      · rw [ifp_f he]
        congr 4
        refine bZ_c ⟨?_, ?_⟩
        · rintro (q | ⟨j, h1, h2, h3⟩)
          · exact absurd q (fun z => z)
          · exact Or.inr ⟨j, by omega, h2, h3⟩
        · rintro (q | ⟨j, h1, h2, h3⟩)
          · exact absurd q (fun z => z)
          · refine Or.inr ⟨j, ?_, h2, h3⟩
            by_cases e : j = k
            · subst e; exact absurd h3 he
            · omega
theorem m_isBarred (d : Nat) {h : Hp} (S : SM h) {b0 a b : Int} (hb0 : 0 ≤ b0 ∧ b0 ≤ 70) (ha : 0 ≤ a ∧ a ≤ 1000) (hb : 0 ≤ b ∧ b ≤ 1000) (hq : rz h 74 (b0 + 15) ≤ 8) : evm (d + 1) 164 [vR 12 68, vI (iZ b0), vI (iZ a), vI (iZ b)] h = some (some (vI (bZ (Brd (rz h 74) b0 a b))), h) := by
  rw [e_M_isBarred]
  have i0 := m_isBarredL d S hb0 ha hb hq 0 False (by omega)
  rw [bZ_f (fun q => q)] at i0
  simp only [lit32]
  rw [i0]
  congr 4
  refine bZ_c ⟨?_, ?_⟩
  · rintro (q | q)
    · exact absurd q (fun z => z)
    · exact q
  · exact Or.inr
/-! dust -/
def Dst (h : Hp) : Prop := rz h 68 24 ≠ 0
def Shut (q v : Int → Int) (u : Prop) (s : Int) : Prop := q (26 + s) = 1 ∨ (u ∧ v (41 + s) = 2)
def Must (q v : Int → Int) (u : Prop) (s : Int) : Prop := q (26 + s) = 3 ∨ (u ∧ v (41 + s) = 1)
theorem m_isShut (d : Nat) {h : Hp} (S : SM h) {z : Int} (hz : 0 ≤ z ∧ z ≤ 41) : evm (d + 2) 186 [vR 12 68, vI (iZ z)] h = some (some (vI (bZ (Shut (rz h 74) (rz h 79) (Dst h) z))), h) := by
  rw [e_M_isShut, m_kindOf d S (by omega)]
  have r := rz_rg h 74 (26 + z)
  have r1 := rz_rg h 68 24
  have r2 := rz_rg h 79 (41 + z)
  have e1 : hI h 68 24 = iZ (rz h 68 24) := rz_iz' h 68 24
  simp (disch := omega) only [S.r 17 79, S.n 79 420, e1, lit32, litJ, iz_add, iz_sub, iz_mul, iz_neg, nI_iz, ix_iz, inb_iz, ifp_t, ifp_f, iz_eq, iz_lt, bI_s, bL_s, bV_s, bR_s, rz_iz]
  unfold Shut Dst
  by_cases h1 : rz h 74 (26 + z) = 1
  · rw [ifp_t h1, bZ_t (Or.inl h1)]
  · rw [ifp_f h1]
    by_cases h2 : rz h 68 24 = 0
    · rw [ifp_t h2, bZ_f (by omega)]
    · rw [ifp_f h2]
      by_cases h3 : rz h 79 (41 + z) = 2
      · rw [ifp_t h3, bZ_t (Or.inr ⟨h2, h3⟩)]
      · rw [ifp_f h3, bZ_f (by omega)]
theorem m_isMust (d : Nat) {h : Hp} (S : SM h) {z : Int} (hz : 0 ≤ z ∧ z ≤ 41) : evm (d + 2) 187 [vR 12 68, vI (iZ z)] h = some (some (vI (bZ (Must (rz h 74) (rz h 79) (Dst h) z))), h) := by
  rw [e_M_isMust, m_kindOf d S (by omega)]
  have r := rz_rg h 74 (26 + z)
  have r1 := rz_rg h 68 24
  have r2 := rz_rg h 79 (41 + z)
  have e1 : hI h 68 24 = iZ (rz h 68 24) := rz_iz' h 68 24
  simp (disch := omega) only [S.r 17 79, S.n 79 420, e1, lit32, litJ, iz_add, iz_sub, iz_mul, iz_neg, nI_iz, ix_iz, inb_iz, ifp_t, ifp_f, iz_eq, iz_lt, bI_s, bL_s, bV_s, bR_s, rz_iz]
  unfold Must Dst
  by_cases h1 : rz h 74 (26 + z) = 3
  · rw [ifp_t h1, bZ_t (Or.inl h1)]
  · rw [ifp_f h1]
    by_cases h2 : rz h 68 24 = 0
    · rw [ifp_t h2, bZ_f (by omega)]
    · rw [ifp_f h2]
      by_cases h3 : rz h 79 (41 + z) = 1
      · rw [ifp_t h3, bZ_t (Or.inr ⟨h2, h3⟩)]
      · rw [ifp_f h3, bZ_f (by omega)]
/-! what a stair's numbers are -/
def VS (q : Int → Int) : Prop := (1 ≤ q 0 ∧ q 0 ≤ 40) ∧ (-1 ≤ q 1 ∧ q 1 ≤ 4) ∧ (-1 ≤ q 2 ∧ q 2 ≤ 1) ∧ (0 ≤ q 3 ∧ q 3 ≤ q 4 ∧ q 4 ≤ 40) ∧ (-1 ≤ q 5 ∧ q 5 ≤ 12 ∧ q 5 ≠ 0) ∧ (0 ≤ q 6 ∧ q 6 ≤ 4) ∧ (1 ≤ q 8 ∧ q 8 ≤ 6) ∧ (0 ≤ q 15 ∧ q 15 ≤ 8) ∧
  (∀ k, 0 ≤ k → k < q 8 → 1 ≤ q (9 + k) ∧ q (9 + k) ≤ 12) ∧ (∀ i j, 0 ≤ i → i < j → j < q 8 → q (9 + i) < q (9 + j)) ∧ (∀ k, 0 ≤ k → k < q 15 → ∃ a b, (1 ≤ a ∧ a ≤ 12) ∧ (1 ≤ b ∧ b ≤ 12) ∧ q (16 + k) = 16 * a + b) ∧ (∀ i j, 0 ≤ i → i < j → j < q 15 → q (16 + i) ≠ q (16 + j)) ∧
  (∀ s, 0 ≤ s → s ≤ 40 → 0 ≤ q (26 + s) ∧ q (26 + s) ≤ 3) ∧ q 26 = 0 ∧ ∀ s, q 0 ≤ s → s ≤ 40 → q (26 + s) = 0
theorem VS.top {q : Int → Int} (V : VS q) : 1 ≤ q 0 ∧ q 0 ≤ 40 := V.1
theorem VS.cre {q : Int → Int} (V : VS q) : -1 ≤ q 1 ∧ q 1 ≤ 4 := V.2.1
theorem VS.foot {q : Int → Int} (V : VS q) : -1 ≤ q 2 ∧ q 2 ≤ 1 := V.2.2.1
theorem VS.cnt {q : Int → Int} (V : VS q) : 0 ≤ q 3 ∧ q 3 ≤ q 4 ∧ q 4 ≤ 40 := V.2.2.2.1
theorem VS.gre {q : Int → Int} (V : VS q) : -1 ≤ q 5 ∧ q 5 ≤ 12 ∧ q 5 ≠ 0 := V.2.2.2.2.1
theorem VS.tim {q : Int → Int} (V : VS q) : 0 ≤ q 6 ∧ q 6 ≤ 4 := V.2.2.2.2.2.1
theorem VS.n {q : Int → Int} (V : VS q) : 1 ≤ q 8 ∧ q 8 ≤ 6 := V.2.2.2.2.2.2.1
theorem VS.nb {q : Int → Int} (V : VS q) : 0 ≤ q 15 ∧ q 15 ≤ 8 := V.2.2.2.2.2.2.2.1
theorem VS.str {q : Int → Int} (V : VS q) {k : Int} (h1 : 0 ≤ k) (h2 : k < q 8) : 1 ≤ q (9 + k) ∧ q (9 + k) ≤ 12 := V.2.2.2.2.2.2.2.2.1 k h1 h2
theorem VS.inc {q : Int → Int} (V : VS q) {i j : Int} (h1 : 0 ≤ i) (h2 : i < j) (h3 : j < q 8) : q (9 + i) < q (9 + j) := V.2.2.2.2.2.2.2.2.2.1 i j h1 h2 h3
theorem VS.kin {q : Int → Int} (V : VS q) {s : Int} (h1 : 0 ≤ s) (h2 : s ≤ 40) : 0 ≤ q (26 + s) ∧ q (26 + s) ≤ 3 := V.2.2.2.2.2.2.2.2.2.2.2.2.1 s h1 h2
theorem m_passesMustL (d : Nat) {h : Hp} (S : SM h) {t : Int} (ht : 0 ≤ t ∧ t ≤ 41) : ∀ (k : Int) (c : Prop), 0 ≤ k ∧ k ≤ 100 →
    L_M_passesMust_7 (d + 2) 68 (iZ t) (bZ c) (iZ k) h = some (some (vI (bZ (c ∨ ∃ j : Int, k ≤ j ∧ j < t ∧ Must (rz h 74) (rz h 79) (Dst h) j))), h) := by
  refine lpZ t (fun k hkN c hk => ?_) (fun k hkN ih c hk => ?_)
  · rw [e_M_passesMust_7]
    simp (disch := omega) only [lit32, litJ, iz_add, iz_sub, iz_mul, iz_neg, nI_iz, ix_iz, inb_iz, ifp_t, ifp_f, iz_eq, iz_lt, bI_s, bL_s, bV_s, bR_s, rz_iz, bZ_B, Bool.cond_true]
    congr 4
    refine bZ_c ⟨Or.inl, ?_⟩
    rintro (q | ⟨j, h1, h2, h3⟩)
    · exact q
    · omega
  · rw [e_M_passesMust_7, m_isMust d S (by omega)]
    simp (disch := omega) only [lit32, litJ, iz_add, iz_sub, iz_mul, iz_neg, nI_iz, ix_iz, inb_iz, ifp_t, ifp_f, iz_eq, iz_lt, bI_s, bL_s, bV_s, bR_s, rz_iz, bZ_0]
    have i1 := ih True (by omega)
    rw [bZ_t trivial] at i1
    have i0 := ih False (by omega)
    rw [bZ_f (fun q => q)] at i0
    rw [i1, i0]
    by_cases hc : c
    · rw [ifp_f (fun q => q hc), bZ_t (Or.inl trivial), bZ_t (Or.inl hc)]
    · rw [ifp_t hc]
      by_cases he : Must (rz h 74) (rz h 79) (Dst h) k
      · rw [ifp_f (fun q => q he), bZ_t (Or.inl trivial), bZ_t (Or.inr ⟨k, by omega, hkN, he⟩)]
      · rw [ifp_t he]
        congr 4
        refine bZ_c ⟨?_, ?_⟩
        · rintro (q | ⟨j, h1, h2, h3⟩)
          · exact absurd q (fun z => z)
          · exact Or.inr ⟨j, by omega, h2, h3⟩
        · rintro (q | ⟨j, h1, h2, h3⟩)
          · exact absurd q hc
          · refine Or.inr ⟨j, ?_, h2, h3⟩
            by_cases e : j = k
            · subst e; exact absurd h3 he
            · omega
theorem m_passesMust (d : Nat) {h : Hp} (S : SM h) {f t : Int} (hf : 0 ≤ f ∧ f ≤ 40) (ht : 0 ≤ t ∧ t ≤ 41) : evm (d + 3) 188 [vR 12 68, vI (iZ f), vI (iZ t)] h = some (some (vI (bZ (∃ j : Int, f < j ∧ j < t ∧ Must (rz h 74) (rz h 79) (Dst h) j))), h) := by
  rw [e_M_passesMust]
  have i0 := m_passesMustL d S ht (f + 1) False (by omega)
  rw [bZ_f (fun q => q)] at i0
  simp only [lit32, iz_add]
  rw [i0]
  congr 4
  refine bZ_c ⟨?_, ?_⟩
  · rintro (q | ⟨j, h1, h2⟩)
    · exact absurd q (fun z => z)
    · exact ⟨j, by omega, h2⟩
  · rintro ⟨j, h1, h2⟩
    exact Or.inr ⟨j, by omega, h2⟩
/-- the k-th of the strides may be next -/
def May (q v : Int → Int) (u : Prop) (s l c g t k : Int) : Prop :=
  s + q (9 + k) ≤ q 0 ∧ ¬ Shut q v u (s + q (9 + k)) ∧ (¬ ∃ j : Int, s < j ∧ j < s + q (9 + k) ∧ Must q v u j) ∧ ¬ (0 < l ∧ Brd q 0 (q (9 + (l - 1))) (q (9 + k))) ∧ t + 1 ≤ q 4 ∧ ¬ (q (26 + (s + q (9 + k))) = 2 ∧ 0 ≤ q 1 ∧ q 1 < c + 1) ∧ ¬ (Grt q (q (9 + k)) ∧ q 6 < g + 1)
theorem m_mayNext (d : Nat) {h : Hp} (S : SM h) (V : VS (rz h 74)) {s l c g t k : Int} (hs : 0 ≤ s ∧ s ≤ 40) (hl : 0 ≤ l ∧ l ≤ rz h 74 8) (hc : 0 ≤ c ∧ c ≤ 100) (hg : 0 ≤ g ∧ g ≤ 100) (ht : 0 ≤ t ∧ t ≤ 100) (hk : 0 ≤ k ∧ k < rz h 74 8) :
    evm (d + 4) 189 [vR 12 68, vI (iZ s), vI (iZ l), vI (iZ c), vI (iZ g), vI (iZ t), vI (iZ k)] h = some (some (vI (bZ (May (rz h 74) (rz h 79) (Dst h) s l c g t k))), h) := by
  have v1 := V.top
  have v2 := V.n
  have v3 := V.str hk.1 hk.2
  have v4 := V.nb
  have v5 := V.cnt
  have v6 := V.cre
  have v7 := V.tim
  have r1 := rz_rg h 74 (26 + (s + rz h 74 (9 + k)))
  have tail : ∀ x : Prop, L_M_mayNext_116 (d + 3) 68 (iZ g) (iZ (rz h 74 (9 + k))) (bZ x) h = some (some (vI (bZ (¬ x ∧ ¬ (Grt (rz h 74) (rz h 74 (9 + k)) ∧ rz h 74 6 < g + 1)))), h) := by
    intro x
    rw [e_M_mayNext_116, m_isGreat (d + 2) S (by omega)]
    simp (disch := omega) only [S.r 10 74, S.n 74 140, lit32, litJ, iz_add, iz_sub, iz_mul, iz_neg, nI_iz, ix_iz, inb_iz, ifp_t, ifp_f, iz_eq, iz_lt, bI_s, bL_s, bV_s, bR_s, rz_iz, bZ_0]
    by_cases hx : x
    · rw [ifp_f (fun q => q hx), bZ_f (fun q => q.1 hx)]
    · rw [ifp_t hx]
      by_cases h1 : 0 ≤ rz h 74 5 ∧ rz h 74 5 ≤ rz h 74 (9 + k)
      · rw [ifp_f (fun q => q h1)]
        by_cases h2 : rz h 74 6 < g + 1
        · rw [ifp_t h2, bZ_f (fun q => q.2 ⟨h1, h2⟩)]
        · rw [ifp_f h2, bZ_t ⟨hx, fun q => h2 q.2⟩]
      · rw [ifp_t h1, bZ_t ⟨hx, fun q => h1 q.1⟩]
  have mid : s + rz h 74 (9 + k) ≤ rz h 74 0 → L_M_mayNext_63 (d + 3) 68 (iZ s) (iZ c) (iZ g) (iZ t) (iZ (rz h 74 (9 + k))) h = some (some (vI (bZ (t + 1 ≤ rz h 74 4 ∧ ¬ (rz h 74 (26 + (s + rz h 74 (9 + k))) = 2 ∧ 0 ≤ rz h 74 1 ∧ rz h 74 1 < c + 1) ∧ ¬ (Grt (rz h 74) (rz h 74 (9 + k)) ∧ rz h 74 6 < g + 1)))), h) := by
    intro hle
    have tt := tail True
    have tf := tail False
    rw [bZ_t trivial] at tt
    rw [bZ_f (fun q => q)] at tf
    rw [e_M_mayNext_63, iz_add, m_kindOf (d + 2) S (by omega)]
    simp (disch := omega) only [S.r 10 74, S.n 74 140, lit32, litJ, iz_add, iz_sub, iz_mul, iz_neg, nI_iz, ix_iz, inb_iz, ifp_t, ifp_f, iz_eq, iz_lt, bI_s, bL_s, bV_s, bR_s, rz_iz]
    rw [tt, tf]
    by_cases h1 : rz h 74 4 < t + 1
    · rw [ifp_t h1, bZ_f (fun q => by omega)]
    · rw [ifp_f h1]
      by_cases h2 : rz h 74 (26 + (s + rz h 74 (9 + k))) = 2
      · rw [ifp_t h2]
        by_cases h3 : rz h 74 1 < 0
        · rw [ifp_t h3]
          congr 4
          exact bZ_c ⟨fun q => ⟨by omega, fun z => by omega, q.2⟩, fun q => ⟨fun z => z, q.2.2⟩⟩
        · rw [ifp_f h3]
          by_cases h4 : rz h 74 1 < c + 1
          · rw [ifp_t h4]
            congr 4
            exact bZ_c ⟨fun q => absurd trivial q.1, fun q => absurd ⟨h2, by omega, h4⟩ q.2.1⟩
          · rw [ifp_f h4]
            congr 4
            exact bZ_c ⟨fun q => ⟨by omega, fun z => by omega, q.2⟩, fun q => ⟨fun z => z, q.2.2⟩⟩
      · rw [ifp_f h2]
        congr 4
        exact bZ_c ⟨fun q => ⟨by omega, fun z => h2 z.1, q.2⟩, fun q => ⟨fun z => z, q.2.2⟩⟩
  rw [e_M_mayNext, m_strideOf (d + 2) S (by omega), bI_s, m_steps (d + 2) S, bI_s, iz_add]
  by_cases h1 : rz h 74 0 < s + rz h 74 (9 + k)
  · simp (disch := omega) only [lit32, litJ, iz_add, iz_sub, iz_mul, iz_neg, nI_iz, ix_iz, inb_iz, ifp_t, ifp_f, iz_eq, iz_lt, bI_s, bL_s, bV_s, bR_s, rz_iz]
    rw [bZ_f (fun q => by have := q.1; omega)]
  · rw [m_isShut (d + 1) S (by omega), bI_s, m_passesMust d S hs (by omega), bI_s, mid (by omega)]
    simp (disch := omega) only [lit32, litJ, iz_add, iz_sub, iz_mul, iz_neg, nI_iz, ix_iz, inb_iz, ifp_t, ifp_f, iz_eq, iz_lt, bI_s, bL_s, bV_s, bR_s, rz_iz, bZ_0]
    unfold May
    by_cases h2 : Shut (rz h 74) (rz h 79) (Dst h) (s + rz h 74 (9 + k))
    · rw [ifp_f (fun q => q h2), bZ_f (fun q => q.2.1 h2)]
    · rw [ifp_t h2]
      by_cases h3 : ∃ j : Int, s < j ∧ j < s + rz h 74 (9 + k) ∧ Must (rz h 74) (rz h 79) (Dst h) j
      · rw [ifp_f (fun q => q h3), bZ_f (fun q => q.2.2.1 h3)]
      · rw [ifp_t h3]
        by_cases h4 : 0 < l
        · have v8 := V.str (k := l - 1) (by omega) (by omega)
          rw [ifp_t h4, m_strideOf (d + 2) S (by omega), bI_s, m_isBarred (d + 2) S (by omega) (by omega) (by omega) (by simpa using v4.2), bI_s]
          simp only [bZ_0]
          by_cases h5 : Brd (rz h 74) 0 (rz h 74 (9 + (l - 1))) (rz h 74 (9 + k))
          · rw [ifp_f (fun q => q h5), bZ_f (fun q => q.2.2.2.1 ⟨h4, h5⟩)]
          · rw [ifp_t h5, mid (by omega)]
            congr 4
            exact bZ_c ⟨fun q => ⟨by omega, h2, h3, fun z => h5 z.2, q⟩, fun q => q.2.2.2.2⟩
        · rw [ifp_f h4]
          congr 4
          exact bZ_c ⟨fun q => ⟨by omega, h2, h3, fun z => h4 z.1, q⟩, fun q => q.2.2.2.2⟩
