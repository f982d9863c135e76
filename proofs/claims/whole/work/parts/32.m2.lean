/-! where one is among all states; how many ways go on from there -/
def plc (s l c g t : Int) : Int := (((s * 7 + l) * 5 + c) * 5 + g) * 41 + t
theorem m_placeOf (d : Nat) {h : Hp} (s l c g t : Int) : evm (d + 1) 184 [vI (iZ s), vI (iZ l), vI (iZ c), vI (iZ g), vI (iZ t)] h = some (some (vI (iZ (plc s l c g t))), h) := by
  rw [e_M_placeOf]
  simp only [lit32, iz_add, iz_mul]
  rfl
/-- creaks and great ones behind a stride -/
noncomputable def nxC (q : Int → Int) (s c k : Int) : Int := @ite _ (q (26 + (s + q (9 + k))) = 2 ∧ 0 ≤ q 1) (Classical.propDecidable _) (c + 1) c
noncomputable def nxG (q : Int → Int) (g k : Int) : Int := @ite _ (Grt q (q (9 + k))) (Classical.propDecidable _) (g + 1) g
theorem nxC_t {q : Int → Int} {s c k : Int} (h : q (26 + (s + q (9 + k))) = 2 ∧ 0 ≤ q 1) : nxC q s c k = c + 1 := if_pos h
theorem nxC_f {q : Int → Int} {s c k : Int} (h : ¬ (q (26 + (s + q (9 + k))) = 2 ∧ 0 ≤ q 1)) : nxC q s c k = c := if_neg h
theorem nxG_t {q : Int → Int} {g k : Int} (h : Grt q (q (9 + k))) : nxG q g k = g + 1 := if_pos h
theorem nxG_f {q : Int → Int} {g k : Int} (h : ¬ Grt q (q (9 + k))) : nxG q g k = g := if_neg h
theorem m_nextAt (d : Nat) {h : Hp} (S : SM h) (V : VS (rz h 74)) {s l c g t k : Int} (hs : 0 ≤ s ∧ s + rz h 74 (9 + k) ≤ 40) (hk : 0 ≤ k ∧ k < rz h 74 8) :
    evm (d + 2) 190 [vR 12 68, vI (iZ s), vI (iZ l), vI (iZ c), vI (iZ g), vI (iZ t), vI (iZ k)] h = some (some (vI (iZ (plc (s + rz h 74 (9 + k)) (k + 1) (nxC (rz h 74) s c k) (nxG (rz h 74) g k) (t + 1)))), h) := by
  have v2 := V.n
  have v3 := V.str hk.1 hk.2
  have v6 := V.cre
  have r1 := rz_rg h 74 (26 + (s + rz h 74 (9 + k)))
  have tail : ∀ x : Int, L_M_nextAt_43 (d + 1) 68 (iZ g) (iZ t) (iZ (rz h 74 (9 + k))) (iZ x) (iZ c) (iZ (k + 1)) (iZ (s + rz h 74 (9 + k))) h = some (some (vI (iZ (plc (s + rz h 74 (9 + k)) (k + 1) (c + x) (nxG (rz h 74) g k) (t + 1)))), h) := by
    intro x
    rw [e_M_nextAt_43, m_isGreat d S (by omega), bI_s]
    simp only [lit32, iz_add, bZ_0, m_placeOf, bI_s]
    by_cases h1 : Grt (rz h 74) (rz h 74 (9 + k))
    · rw [ifp_f (fun q => q h1), nxG_t h1]
    · rw [ifp_t (show ¬ (0 ≤ rz h 74 5 ∧ rz h 74 5 ≤ rz h 74 (9 + k)) from h1), nxG_f h1, Int.add_zero]
  rw [e_M_nextAt, m_strideOf d S (by omega), bI_s, iz_add, m_kindOf d S (by omega), bI_s]
  simp (disch := omega) only [S.r 10 74, S.n 74 140, lit32, litJ, iz_add, iz_sub, iz_mul, iz_neg, nI_iz, ix_iz, inb_iz, ifp_t, ifp_f, iz_eq, iz_lt, bI_s, bL_s, bV_s, bR_s, rz_iz]
  rw [tail, tail]
  by_cases h1 : rz h 74 (26 + (s + rz h 74 (9 + k))) = 2
  · rw [ifp_t h1]
    by_cases h2 : rz h 74 1 < 0
    · rw [ifp_t h2, nxC_f (by omega), Int.add_zero]
    · rw [ifp_f h2, nxC_t ⟨h1, by omega⟩]
  · rw [ifp_f h1, nxC_f (fun q => h1 q.1), Int.add_zero]
theorem m_creakOf (d : Nat) {h : Hp} (S : SM h) (V : VS (rz h 74)) (x : Int) : evm (d + 1) 185 [vR 12 68, vI (iZ x)] h = some (some (vI (iZ (if rz h 74 1 < 0 then 0 else x))), h) := by
  have v6 := V.cre
  rw [e_M_creakOf]
  simp (disch := omega) only [S.r 10 74, S.n 74 140, lit32, litJ, iz_add, iz_sub, iz_mul, iz_neg, nI_iz, ix_iz, inb_iz, ifp_t, ifp_f, iz_eq, iz_lt, bI_s, bL_s, bV_s, bR_s, rz_iz]
  by_cases h2 : rz h 74 1 < 0
  · rw [ifp_t h2, if_pos h2]
  · rw [ifp_f h2, if_neg h2]
def mxC (q : Int → Int) : Int := if q 1 < 0 then 0 else q 1
def mxG (q : Int → Int) : Int := if q 5 < 0 then 0 else q 6
theorem m_mostCreaks (d : Nat) {h : Hp} (S : SM h) (V : VS (rz h 74)) : evm (d + 1) 191 [vR 12 68] h = some (some (vI (iZ (mxC (rz h 74)))), h) := by
  have v6 := V.cre
  rw [e_M_mostCreaks]
  simp (disch := omega) only [S.r 10 74, S.n 74 140, lit32, litJ, iz_add, iz_sub, iz_mul, iz_neg, nI_iz, ix_iz, inb_iz, ifp_t, ifp_f, iz_eq, iz_lt, bI_s, bL_s, bV_s, bR_s, rz_iz]
  unfold mxC
  by_cases h2 : rz h 74 1 < 0
  · rw [ifp_t h2, if_pos h2]
  · rw [ifp_f h2, if_neg h2]
theorem m_mostGreats (d : Nat) {h : Hp} (S : SM h) (V : VS (rz h 74)) : evm (d + 1) 192 [vR 12 68] h = some (some (vI (iZ (mxG (rz h 74)))), h) := by
  have v6 := V.gre
  rw [e_M_mostGreats]
  simp (disch := omega) only [S.r 10 74, S.n 74 140, lit32, litJ, iz_add, iz_sub, iz_mul, iz_neg, nI_iz, ix_iz, inb_iz, ifp_t, ifp_f, iz_eq, iz_lt, bI_s, bL_s, bV_s, bR_s, rz_iz]
  unfold mxG
  by_cases h2 : rz h 74 5 < 0
  · rw [ifp_t h2, if_pos h2]
  · rw [ifp_f h2, if_neg h2]
/-- by so many strides one has come up lawfully -/
def LwT (q : Int → Int) (t : Int) : Prop := (q 2 < 0 ∨ q 2 = (t + 1) % 2) ∧ q 3 ≤ t ∧ t ≤ q 4
theorem m_isLawfulAt (d : Nat) {h : Hp} (S : SM h) (V : VS (rz h 74)) {t : Int} (ht : 0 ≤ t ∧ t ≤ 1000) : evm (d + 1) 193 [vR 12 68, vI (iZ t)] h = some (some (vI (bZ (LwT (rz h 74) t))), h) := by
  have v1 := V.foot
  have v2 := V.cnt
  have tail : ∀ x : Prop, L_M_isLawfulAt_28 d 68 (iZ t) (bZ x) h = some (some (vI (bZ (x ∧ rz h 74 3 ≤ t ∧ t ≤ rz h 74 4))), h) := by
    intro x
    rw [e_M_isLawfulAt_28]
    simp (disch := omega) only [S.r 10 74, S.n 74 140, lit32, litJ, iz_add, iz_sub, iz_mul, iz_neg, nI_iz, ix_iz, inb_iz, ifp_t, ifp_f, iz_eq, iz_lt, bI_s, bL_s, bV_s, bR_s, rz_iz, bZ_0]
    by_cases h1 : x
    · rw [ifp_f (fun q => q h1)]
      by_cases h2 : t < rz h 74 3
      · rw [ifp_t h2, bZ_f (by omega)]
      · rw [ifp_f h2]
        by_cases h3 : rz h 74 4 < t
        · rw [ifp_t h3, bZ_f (by omega)]
        · rw [ifp_f h3, bZ_t ⟨h1, by omega⟩]
    · rw [ifp_t h1, bZ_f (fun q => h1 q.1)]
  have tt := tail True
  have tf := tail False
  rw [bZ_t trivial] at tt
  rw [bZ_f (fun q => q)] at tf
  rw [e_M_isLawfulAt]
  simp (disch := omega) only [S.r 10 74, S.n 74 140, lit32, litJ, iz_add, iz_sub, iz_mul, iz_neg, nI_iz, ix_iz, inb_iz, ifp_t, ifp_f, iz_eq, iz_lt, bI_s, bL_s, bV_s, bR_s, rz_iz, irem_iz]
  rw [tt, tf]
  unfold LwT
  have e : (-2147483648 ≤ (t + 1) % 2 ∧ (t + 1) % 2 < 2147483648) := by omega
  by_cases h1 : rz h 74 2 < 0
  · rw [ifp_t h1]
    congr 4
    exact bZ_c ⟨fun q => ⟨Or.inl h1, q.2⟩, fun q => ⟨trivial, q.2⟩⟩
  · rw [ifp_f h1]
    by_cases h2 : rz h 74 2 = (t + 1) % 2
    · rw [ifp_t h2]
      congr 4
      exact bZ_c ⟨fun q => ⟨Or.inr h2, q.2⟩, fun q => ⟨trivial, q.2⟩⟩
    · rw [ifp_f h2]
      congr 4
      exact bZ_c ⟨fun q => absurd q.1 (fun z => z), fun q => by rcases q.1 with z | z; exact absurd z h1; exact absurd z h2⟩
