/-! the table is laid -/
theorem m_waysL (d : Nat) {h : Hp} (S : SM h) (V : VS (rz h 74)) {F : Int → Int → Int → Int → Int → Int} {T : Nat → Int64} {s l c g t : Int} (n : Nd (rz h 74) s l c g t) (hT : Tab (rz h 74) F (fun s' _ _ _ _ => s < s') T) : ∀ k, 0 ≤ k ∧ k ≤ rz h 74 8 →
    L_M_ways_41 (d + 4) 68 (iZ s) (iZ l) (iZ c) (iZ g) (iZ t) (jZ (sZ (fun k => pif (May (rz h 74) (rz h 79) (Dst h) s l c g t k) (F (s + rz h 74 (9 + k)) (k + 1) (nxC (rz h 74) s c k) (nxG (rz h 74) g k) (t + 1)) 0) k)) (iZ k) (wL h 81 T) =
      some (some (vL (jZ (sZ (fun k => pif (May (rz h 74) (rz h 79) (Dst h) s l c g t k) (F (s + rz h 74 (9 + k)) (k + 1) (nxC (rz h 74) s c k) (nxG (rz h 74) g k) (t + 1)) 0) (rz h 74 8)))), wL h 81 T) := by
  have v1 := V.top
  have v2 := V.n
  have v3 := mxC_b V
  have v4 := mxG_b V
  have nn := n
  obtain ⟨n1, n2, n3, n4⟩ := nn
  have S' : SM (wL h 81 T) := S
  refine lpZ (rz h 74 8) (fun k hkN hk => ?_) (fun k hkN ih hk => ?_)
  · rw [e_M_ways_41, m_strides (d + 3) S', bI_s]
    simp (disch := omega) only [wL_rz, lit32, litJ, iz_add, iz_sub, iz_mul, iz_neg, nI_iz, ix_iz, inb_iz, ifp_t, ifp_f, iz_eq, iz_lt, bI_s, bL_s, bV_s, bR_s, rz_iz]
    rw [show k = rz h 74 8 by omega]
  · have ih' := ih (by omega)
    rw [sZ_s _ hk.1] at ih'
    rw [e_M_ways_41, m_strides (d + 3) S', bI_s, m_mayNext d S' V (by omega) n2 (by omega) (by omega) (by omega) ⟨hk.1, hkN⟩, bI_s]
    simp (disch := omega) only [wL_rz, wL_Dst, lit32, litJ, iz_add, iz_sub, iz_mul, iz_neg, nI_iz, ix_iz, inb_iz, ifp_t, ifp_f, iz_eq, iz_lt, bI_s, bL_s, bV_s, bR_s, rz_iz, bZ_0]
    by_cases hm : May (rz h 74) (rz h 79) (Dst h) s l c g t k
    · have nx := n.nx V hk.1 hkN hm
      have b := plc_b V nx
      have vs := V.str hk.1 hkN
      rw [pif_t hm] at ih'
      rw [ifp_f (fun z => z hm), S'.r 23 81, bR_s, m_nextAt (d + 2) S' V (by rw [wL_rz]; have := hm.1; omega) ⟨hk.1, hkN⟩, bI_s]
      simp (disch := omega) only [wL_rz, S'.n 81 294175, lit32, litJ, iz_add, iz_sub, iz_mul, iz_neg, nI_iz, ix_iz, inb_iz, ifp_t, ifp_f, iz_eq, iz_lt, bI_s, bL_s, bV_s, bR_s, rz_iz, wL_L]
      rw [hT _ _ _ _ _ nx (by omega), jz_add, ih']
    · rw [pif_f hm] at ih'
      rw [ifp_t hm, jz_add]
      exact ih'
theorem m_ways (d : Nat) {h : Hp} (S : SM h) (V : VS (rz h 74)) {F : Int → Int → Int → Int → Int → Int} {T : Nat → Int64} {s l c g t a : Int} (n : Nd (rz h 74) s l c g t) (hT : Tab (rz h 74) F (fun s' _ _ _ _ => s < s') T) (ha : -1 ≤ a ∧ a ≤ 1000) :
    evm (d + 5) 195 [vR 12 68, vI (iZ s), vI (iZ l), vI (iZ c), vI (iZ g), vI (iZ t), vI (iZ a)] (wL h 81 T) =
      some (some (vL (jZ (pif (s = rz h 74 0) (pif (LwT (rz h 74) t ∧ (a < 0 ∨ a = t)) 1 0) (sZ (fun k => pif (May (rz h 74) (rz h 79) (Dst h) s l c g t k) (F (s + rz h 74 (9 + k)) (k + 1) (nxC (rz h 74) s c k) (nxG (rz h 74) g k) (t + 1)) 0) (rz h 74 8))))), wL h 81 T) := by
  have v1 := V.top
  have v2 := V.n
  have nn := n
  obtain ⟨n1, n2, n3, n4⟩ := nn
  have S' : SM (wL h 81 T) := S
  have l0 := m_waysL d S V n hT 0 (by omega)
  rw [sZ_0 _ (by omega)] at l0
  rw [e_M_ways, m_steps (d + 3) S', bI_s, m_isLawfulAt (d + 3) S' V (by omega), bI_s]
  simp (disch := omega) only [wL_rz, lit32, litJ, iz_add, iz_sub, iz_mul, iz_neg, nI_iz, ix_iz, inb_iz, ifp_t, ifp_f, iz_eq, iz_lt, bI_s, bL_s, bV_s, bR_s, rz_iz, bZ_0]
  rw [l0]
  by_cases h1 : s = rz h 74 0
  · rw [ifp_t h1, pif_t h1]
    by_cases h2 : LwT (rz h 74) t
    · rw [ifp_f (fun z => z h2)]
      by_cases h3 : a < 0
      · rw [ifp_t h3, pif_t ⟨h2, Or.inl h3⟩]
      · rw [ifp_f h3]
        by_cases h4 : a = t
        · rw [ifp_t h4, pif_t ⟨h2, Or.inr h4⟩]
        · rw [ifp_f h4, pif_f (fun z => by rcases z.2 with z | z; exact h3 z; exact h4 z)]
    · rw [ifp_t h2, pif_f (fun z => h2 z.1)]
  · rw [ifp_f h1, pif_f h1]
theorem m_winsL (d : Nat) {h : Hp} (S : SM h) (V : VS (rz h 74)) {G : Int → Int → Int → Int → Int → Prop} {T : Nat → Int64} {s l c g t : Int} (n : Nd (rz h 74) s l c g t) (hT : Tab (rz h 74) (fun s l c g t => pif (G s l c g t) 1 0) (fun s' _ _ _ _ => s < s') T) : ∀ (k : Int) (x : Prop), 0 ≤ k ∧ k ≤ rz h 74 8 →
    L_M_wins_6 (d + 4) 68 (iZ s) (iZ l) (iZ c) (iZ g) (iZ t) (bZ x) (iZ k) (wL h 81 T) =
      some (some (vL (jZ (pif (x ∨ (s < rz h 74 0 ∧ ∃ j, k ≤ j ∧ j < rz h 74 8 ∧ May (rz h 74) (rz h 79) (Dst h) s l c g t j ∧ (s + rz h 74 (9 + j) = rz h 74 0 ∨ ¬ G (s + rz h 74 (9 + j)) (j + 1) (nxC (rz h 74) s c j) (nxG (rz h 74) g j) (t + 1)))) 1 0))), wL h 81 T) := by
  have v1 := V.top
  have v2 := V.n
  have v3 := mxC_b V
  have v4 := mxG_b V
  have nn := n
  obtain ⟨n1, n2, n3, n4⟩ := nn
  have S' : SM (wL h 81 T) := S
  have e0 : (0 : Int64) = jZ 0 := rfl
  have e1 : (1 : Int64) = jZ 1 := rfl
  have fin : ∀ x y : Prop, (x ↔ y) → ifp (¬ x) (some (some (vL (jZ 0)), wL h 81 T)) (some (some (vL (jZ 1)), wL h 81 T)) = some (some (vL (jZ (pif y 1 0))), wL h 81 T) := by
    intro x y hxy
    by_cases hx : x
    · rw [ifp_f (fun z => z hx), pif_t (hxy.mp hx)]
    · rw [ifp_t hx, pif_f (fun z => hx (hxy.mpr z))]
  refine lpZ (rz h 74 8) (fun k hkN x hk => ?_) (fun k hkN ih x hk => ?_)
  · rw [e_M_wins_6, m_strides (d + 3) S', bI_s]
    simp (disch := omega) only [wL_rz, lit32, litJ, iz_add, iz_sub, iz_mul, iz_neg, nI_iz, ix_iz, inb_iz, ifp_t, ifp_f, iz_eq, iz_lt, bI_s, bL_s, bV_s, bR_s, rz_iz, bZ_0]
    refine fin _ _ ⟨Or.inl, ?_⟩
    rintro (z | ⟨z, j, j1, j2, j3⟩)
    · exact z
    · omega
  · have it := ih True (by omega)
    have if' := ih False (by omega)
    rw [bZ_t trivial] at it
    rw [bZ_f (fun z => z)] at if'
    rw [e_M_wins_6, m_strides (d + 3) S', bI_s, m_steps (d + 3) S', bI_s]
    simp (disch := omega) only [wL_rz, lit32, litJ, iz_add, iz_sub, iz_mul, iz_neg, nI_iz, ix_iz, inb_iz, ifp_t, ifp_f, iz_eq, iz_lt, bI_s, bL_s, bV_s, bR_s, rz_iz, bZ_0]
    by_cases hs : s < rz h 74 0
    · rw [ifp_t hs]
      by_cases hx : x
      · rw [ifp_f (fun z => z hx), it, pif_t (Or.inl trivial), pif_t (Or.inl hx)]
      · rw [ifp_t hx, e_M_wins_28, m_mayNext d S' V (by omega) n2 (by omega) (by omega) (by omega) ⟨hk.1, hkN⟩, bI_s, m_strideOf (d + 3) S' (by omega), bI_s, m_steps (d + 3) S', bI_s]
        have vs := V.str hk.1 hkN
        simp (disch := omega) only [wL_rz, wL_Dst, lit32, litJ, iz_add, iz_sub, iz_mul, iz_neg, nI_iz, ix_iz, inb_iz, ifp_t, ifp_f, iz_eq, iz_lt, bI_s, bL_s, bV_s, bR_s, rz_iz, bZ_0]
        have no : ∀ z : Prop, (z ↔ (May (rz h 74) (rz h 79) (Dst h) s l c g t k ∧ (s + rz h 74 (9 + k) = rz h 74 0 ∨ ¬ G (s + rz h 74 (9 + k)) (k + 1) (nxC (rz h 74) s c k) (nxG (rz h 74) g k) (t + 1)))) → (z ∨ (s < rz h 74 0 ∧ ∃ j, k + 1 ≤ j ∧ j < rz h 74 8 ∧ May (rz h 74) (rz h 79) (Dst h) s l c g t j ∧ (s + rz h 74 (9 + j) = rz h 74 0 ∨ ¬ G (s + rz h 74 (9 + j)) (j + 1) (nxC (rz h 74) s c j) (nxG (rz h 74) g j) (t + 1))) ↔ x ∨ (s < rz h 74 0 ∧ ∃ j, k ≤ j ∧ j < rz h 74 8 ∧ May (rz h 74) (rz h 79) (Dst h) s l c g t j ∧ (s + rz h 74 (9 + j) = rz h 74 0 ∨ ¬ G (s + rz h 74 (9 + j)) (j + 1) (nxC (rz h 74) s c j) (nxG (rz h 74) g j) (t + 1)))) := by
          intro z hz
          constructor
          · rintro (y | ⟨y, j, j1, j2⟩)
            · exact Or.inr ⟨hs, k, by omega, hkN, hz.mp y⟩
            · exact Or.inr ⟨hs, j, by omega, j2⟩
          · rintro (y | ⟨y, j, j1, j2, j3⟩)
            · exact absurd y hx
            · by_cases ej : j = k
              · subst ej; exact Or.inl (hz.mpr j3)
              · exact Or.inr ⟨hs, j, by omega, j2, j3⟩
        by_cases hm : May (rz h 74) (rz h 79) (Dst h) s l c g t k
        · have nx := n.nx V hk.1 hkN hm
          have b := plc_b V nx
          rw [ifp_f (fun z => z hm)]
          by_cases he : s + rz h 74 (9 + k) = rz h 74 0
          · rw [ifp_t he, it, pif_c (no True ⟨fun _ => ⟨hm, Or.inl he⟩, fun _ => trivial⟩) (fun _ => rfl) (fun _ => rfl)]
          · rw [ifp_f he, S'.r 23 81, bR_s, m_nextAt (d + 2) S' V (by rw [wL_rz]; have := hm.1; omega) ⟨hk.1, hkN⟩, bI_s]
            simp (disch := omega) only [wL_rz, S'.n 81 294175, lit32, litJ, iz_add, iz_sub, iz_mul, iz_neg, nI_iz, ix_iz, inb_iz, ifp_t, ifp_f, iz_eq, iz_lt, bI_s, bL_s, bV_s, bR_s, rz_iz, wL_L]
            have hh : T _ = jZ (pif _ 1 0) := hT _ _ _ _ _ nx (by omega)
            rw [hh]
            by_cases hg : G (s + rz h 74 (9 + k)) (k + 1) (nxC (rz h 74) s c k) (nxG (rz h 74) g k) (t + 1)
            · rw [pif_t hg, cmp_jz (by omega), ifp_f (by decide), if', pif_c (no False ⟨fun z => absurd z (fun z => z), fun z => by rcases z.2 with z | z; exact he z; exact z hg⟩) (fun _ => rfl) (fun _ => rfl)]
            · rw [pif_f hg, cmp_jz (by omega), ifp_t (by decide), it, pif_c (no True ⟨fun _ => ⟨hm, Or.inr hg⟩, fun _ => trivial⟩) (fun _ => rfl) (fun _ => rfl)]
        · rw [ifp_t hm, if', pif_c (no False ⟨fun z => absurd z (fun z => z), fun z => hm z.1⟩) (fun _ => rfl) (fun _ => rfl)]
    · rw [ifp_f hs]
      refine fin _ _ ⟨Or.inl, ?_⟩
      rintro (z | ⟨z, j, j1, j2, j3⟩)
      · exact z
      · omega
theorem m_wins (d : Nat) {h : Hp} (S : SM h) (V : VS (rz h 74)) {G : Int → Int → Int → Int → Int → Prop} {T : Nat → Int64} {s l c g t : Int} (n : Nd (rz h 74) s l c g t) (hT : Tab (rz h 74) (fun s l c g t => pif (G s l c g t) 1 0) (fun s' _ _ _ _ => s < s') T) :
    evm (d + 5) 196 [vR 12 68, vI (iZ s), vI (iZ l), vI (iZ c), vI (iZ g), vI (iZ t)] (wL h 81 T) =
      some (some (vL (jZ (pif (∃ j, 0 ≤ j ∧ j < rz h 74 8 ∧ May (rz h 74) (rz h 79) (Dst h) s l c g t j ∧ (s + rz h 74 (9 + j) = rz h 74 0 ∨ ¬ G (s + rz h 74 (9 + j)) (j + 1) (nxC (rz h 74) s c j) (nxG (rz h 74) g j) (t + 1))) 1 0))), wL h 81 T) := by
  have l0 := m_winsL d S V n hT 0 False (by have := V.n; omega)
  rw [bZ_f (fun z => z)] at l0
  rw [e_M_wins]
  simp only [lit32]
  rw [l0]
  congr 5
  refine pif_c ⟨?_, ?_⟩ (fun _ => rfl) (fun _ => rfl)
  · rintro (z | z)
    · exact absurd z (fun z => z)
    · exact z.2
  · rintro ⟨j, j1, j2, j3, j4⟩
    have := V.str j1 j2
    have := j3.1
    exact Or.inr ⟨by omega, j, j1, j2, j3, j4⟩
/-- what the table is to tell, asked for so many (or -1), or for the game -/
noncomputable def LyF (q v : Int → Int) (u : Prop) (a : Int) (gm : Prop) (s l c g t : Int) : Int := pif gm (pif (Gm q v u s l c g t) 1 0) (Wy q v u (fun t => LwT q t ∧ (a < 0 ∨ a = t)) s l c g t)
theorem m_laysL (d : Nat) {h : Hp} (S : SM h) (V : VS (rz h 74)) {a : Int} (ha : -1 ≤ a ∧ a ≤ 1000) (gm : Prop) : ∀ (s : Int), -1 ≤ s ∧ s ≤ rz h 74 0 → ∀ T, Tab (rz h 74) (LyF (rz h 74) (rz h 79) (Dst h) a gm) (fun s' _ _ _ _ => s < s') T →
    ∃ T', L_M_lays_5 (d + 5) 68 (iZ a) (bZ gm) (iZ s) (wL h 81 T) = some (none, wL h 81 T') ∧ Tab (rz h 74) (LyF (rz h 74) (rz h 79) (Dst h) a gm) (fun _ _ _ _ _ => True) T' := by
  have v1 := V.top
  have v2 := V.n
  have v3 := mxC_b V
  have v4 := mxG_b V
  have m1 : (-1 : Int32) = iZ (-1) := rfl
  have hw : ∀ T s l c g t, Nd (rz h 74) s l c g t → Tab (rz h 74) (LyF (rz h 74) (rz h 79) (Dst h) a gm) (fun s' _ _ _ _ => s < s') T → ¬ gm → evm (d + 5) 195 [vR 12 68, vI (iZ s), vI (iZ l), vI (iZ c), vI (iZ g), vI (iZ t), vI (iZ a)] (wL h 81 T) = some (some (vL (jZ (LyF (rz h 74) (rz h 79) (Dst h) a gm s l c g t))), wL h 81 T) := by
    intro T s l c g t n hT hg
    rw [m_ways d S V n hT ha]
    unfold LyF
    rw [pif_f hg, Wy_e V (by have := n.1; omega) n.1.2.2]
    congr 5
    refine pif_c Iff.rfl (fun _ => rfl) (fun _ => sZ_c fun k k1 k2 => pif_c Iff.rfl (fun _ => ?_) (fun _ => rfl))
    rw [pif_f hg]
  have hv : ∀ T s l c g t, Nd (rz h 74) s l c g t → Tab (rz h 74) (LyF (rz h 74) (rz h 79) (Dst h) a gm) (fun s' _ _ _ _ => s < s') T → gm → evm (d + 5) 196 [vR 12 68, vI (iZ s), vI (iZ l), vI (iZ c), vI (iZ g), vI (iZ t)] (wL h 81 T) = some (some (vL (jZ (LyF (rz h 74) (rz h 79) (Dst h) a gm s l c g t))), wL h 81 T) := by
    intro T s l c g t n hT hg
    have hT' : Tab (rz h 74) (fun s l c g t => pif (Gm (rz h 74) (rz h 79) (Dst h) s l c g t) 1 0) (fun s' _ _ _ _ => s < s') T := by
      intro s' l' c' g' t' n' p'
      have := hT s' l' c' g' t' n' p'
      unfold LyF at this
      rwa [pif_t hg] at this
    rw [m_wins d S V n hT']
    unfold LyF
    rw [pif_t hg]
    congr 5
    exact pif_c (Gm_e V (by have := n.1; omega) n.1.2.2).symm (fun _ => rfl) (fun _ => rfl)
  have put : ∀ T s l c g t, Nd (rz h 74) s l c g t → Tab (rz h 74) (LyF (rz h 74) (rz h 79) (Dst h) a gm) (fun s' l' c' g' t' => s < s' ∨ (s = s' ∧ (l' < l ∨ (l' = l ∧ (c' < c ∨ (c' = c ∧ (g' < g ∨ (g' = g ∧ t' < t)))))))) T → Tab (rz h 74) (LyF (rz h 74) (rz h 79) (Dst h) a gm) (fun s' l' c' g' t' => s < s' ∨ (s = s' ∧ (l' < l ∨ (l' = l ∧ (c' < c ∨ (c' = c ∧ (g' < g ∨ (g' = g ∧ t' < t + 1)))))))) (up T (plc s l c g t).toNat (jZ (LyF (rz h 74) (rz h 79) (Dst h) a gm s l c g t))) := by
    intro T s l c g t n hT s' l' c' g' t' n' p'
    by_cases e : (plc s' l' c' g' t').toNat = (plc s l c g t).toNat
    · obtain ⟨e1, e2, e3, e4, e5⟩ := plc_i V n' n e
      subst e1 e2 e3 e4 e5
      rw [up_e]
    · rw [up_n _ _ e]
      refine hT _ _ _ _ _ n' ?_
      by_cases e1 : s' = s ∧ l' = l ∧ c' = c ∧ g' = g ∧ t' = t
      · obtain ⟨e1, e2, e3, e4, e5⟩ := e1
        subst e1 e2 e3 e4 e5
        exact absurd rfl e
      · omega
  refine lpD (fun s hs hb T hT => ?_) (fun s hs ih hsN T hT => ?_)
  · rw [e_M_lays_5]
    simp (disch := omega) only [lit32, litJ, iz_add, iz_sub, iz_mul, iz_neg, nI_iz, ix_iz, inb_iz, ifp_t, ifp_f, iz_eq, iz_lt, bI_s, bL_s, bV_s, bR_s, rz_iz]
    refine ⟨T, rfl, fun s' l' c' g' t' n' _ => hT _ _ _ _ _ n' (by have := n'.1; omega)⟩
  · have l12 : ∀ l, 0 ≤ l ∧ l ≤ rz h 74 8 + 1 → ∀ T, Tab (rz h 74) (LyF (rz h 74) (rz h 79) (Dst h) a gm) (fun s' l' c' g' t' => s < s' ∨ (s = s' ∧ (l' < l ∨ (l' = l ∧ (c' < 0 ∨ (c' = 0 ∧ (g' < 0 ∨ (g' = 0 ∧ t' < 0)))))))) T → ∃ T', L_M_lays_12 (d + 5) 68 (iZ a) (bZ gm) (iZ s) (iZ l) (wL h 81 T) = some (none, wL h 81 T') ∧ Tab (rz h 74) (LyF (rz h 74) (rz h 79) (Dst h) a gm) (fun _ _ _ _ _ => True) T' := by
      refine lpZ (rz h 74 8 + 1) (fun l hl hb T hT => ?_) (fun l hl ihl hb T hT => ?_)
      · have S' : SM (wL h 81 T) := S
        rw [e_M_lays_12, m_strides (d + 4) S', bI_s, m1]
        simp (disch := omega) only [wL_rz, lit32, litJ, iz_add, iz_sub, iz_mul, iz_neg, nI_iz, ix_iz, inb_iz, ifp_t, ifp_f, iz_eq, iz_lt, bI_s, bL_s, bV_s, bR_s, rz_iz]
        exact ih (by omega) T (fun s' l' c' g' t' n' p' => hT _ _ _ _ _ n' (by obtain ⟨_, _, _, _⟩ := n'; omega))
      · have l24 : ∀ c, 0 ≤ c ∧ c ≤ mxC (rz h 74) + 1 → ∀ T, Tab (rz h 74) (LyF (rz h 74) (rz h 79) (Dst h) a gm) (fun s' l' c' g' t' => s < s' ∨ (s = s' ∧ (l' < l ∨ (l' = l ∧ (c' < c ∨ (c' = c ∧ (g' < 0 ∨ (g' = 0 ∧ t' < 0)))))))) T → ∃ T', L_M_lays_24 (d + 5) 68 (iZ a) (bZ gm) (iZ s) (iZ l) (iZ c) (wL h 81 T) = some (none, wL h 81 T') ∧ Tab (rz h 74) (LyF (rz h 74) (rz h 79) (Dst h) a gm) (fun _ _ _ _ _ => True) T' := by
          refine lpZ (mxC (rz h 74) + 1) (fun c hc hcb T hT => ?_) (fun c hc ihc hcb T hT => ?_)
          · have S' : SM (wL h 81 T) := S
            rw [e_M_lays_24, m_mostCreaks (d + 4) S' V, bI_s]
            simp (disch := omega) only [wL_rz, lit32, litJ, iz_add, iz_sub, iz_mul, iz_neg, nI_iz, ix_iz, inb_iz, ifp_t, ifp_f, iz_eq, iz_lt, bI_s, bL_s, bV_s, bR_s, rz_iz]
            exact ihl (by omega) T (fun s' l' c' g' t' n' p' => hT _ _ _ _ _ n' (by obtain ⟨_, _, _, _⟩ := n'; omega))
          · have l36 : ∀ g, 0 ≤ g ∧ g ≤ mxG (rz h 74) + 1 → ∀ T, Tab (rz h 74) (LyF (rz h 74) (rz h 79) (Dst h) a gm) (fun s' l' c' g' t' => s < s' ∨ (s = s' ∧ (l' < l ∨ (l' = l ∧ (c' < c ∨ (c' = c ∧ (g' < g ∨ (g' = g ∧ t' < 0)))))))) T → ∃ T', L_M_lays_36 (d + 5) 68 (iZ a) (bZ gm) (iZ s) (iZ l) (iZ c) (iZ g) (wL h 81 T) = some (none, wL h 81 T') ∧ Tab (rz h 74) (LyF (rz h 74) (rz h 79) (Dst h) a gm) (fun _ _ _ _ _ => True) T' := by
              refine lpZ (mxG (rz h 74) + 1) (fun g hg hgb T hT => ?_) (fun g hg ihg hgb T hT => ?_)
              · have S' : SM (wL h 81 T) := S
                rw [e_M_lays_36, m_mostGreats (d + 4) S' V, bI_s]
                simp (disch := omega) only [wL_rz, lit32, litJ, iz_add, iz_sub, iz_mul, iz_neg, nI_iz, ix_iz, inb_iz, ifp_t, ifp_f, iz_eq, iz_lt, bI_s, bL_s, bV_s, bR_s, rz_iz]
                exact ihc (by omega) T (fun s' l' c' g' t' n' p' => hT _ _ _ _ _ n' (by obtain ⟨_, _, _, _⟩ := n'; omega))
              · have l48 : ∀ t, 0 ≤ t ∧ t ≤ s + 1 → ∀ T, Tab (rz h 74) (LyF (rz h 74) (rz h 79) (Dst h) a gm) (fun s' l' c' g' t' => s < s' ∨ (s = s' ∧ (l' < l ∨ (l' = l ∧ (c' < c ∨ (c' = c ∧ (g' < g ∨ (g' = g ∧ t' < t)))))))) T → ∃ T', L_M_lays_48 (d + 5) 68 (iZ a) (bZ gm) (iZ s) (iZ l) (iZ c) (iZ g) (iZ t) (wL h 81 T) = some (none, wL h 81 T') ∧ Tab (rz h 74) (LyF (rz h 74) (rz h 79) (Dst h) a gm) (fun _ _ _ _ _ => True) T' := by
                  refine lpZ (s + 1) (fun t ht htb T hT => ?_) (fun t ht iht htb T hT => ?_)
                  · rw [e_M_lays_48]
                    simp (disch := omega) only [wL_rz, lit32, litJ, iz_add, iz_sub, iz_mul, iz_neg, nI_iz, ix_iz, inb_iz, ifp_t, ifp_f, iz_eq, iz_lt, bI_s, bL_s, bV_s, bR_s, rz_iz]
                    exact ihg (by omega) T (fun s' l' c' g' t' n' p' => hT _ _ _ _ _ n' (by have := n'.1; omega))
                  · have S' : SM (wL h 81 T) := S
                    have n : Nd (rz h 74) s l c g t := ⟨by omega, by omega, by omega, by omega⟩
                    have b := plc_b V n
                    have hT' : Tab (rz h 74) (LyF (rz h 74) (rz h 79) (Dst h) a gm) (fun s' _ _ _ _ => s < s') T := fun s' l' c' g' t' n' p' => hT _ _ _ _ _ n' (Or.inl p')
                    rw [e_M_lays_48, S'.r 23 81, bR_s, m_placeOf, bI_s]
                    simp (disch := omega) only [wL_rz, lit32, litJ, iz_add, iz_sub, iz_mul, iz_neg, nI_iz, ix_iz, inb_iz, ifp_t, ifp_f, iz_eq, iz_lt, bI_s, bL_s, bV_s, bR_s, rz_iz, bZ_0]
                    by_cases hgm : gm
                    · rw [ifp_f (fun z => z hgm), hv T s l c g t n hT' hgm, bL_s]
                      simp (disch := omega) only [lit32, litJ, iz_add, iz_sub, iz_mul, iz_neg, nI_iz, ix_iz, inb_iz, ifp_t, ifp_f, iz_eq, iz_lt, bI_s, bL_s, bV_s, bR_s, rz_iz, S'.n 81 294175, sL_wL]
                      exact iht (by omega) _ (put T s l c g t n hT)
                    · rw [ifp_t hgm, hw T s l c g t n hT' hgm, bL_s]
                      simp (disch := omega) only [lit32, litJ, iz_add, iz_sub, iz_mul, iz_neg, nI_iz, ix_iz, inb_iz, ifp_t, ifp_f, iz_eq, iz_lt, bI_s, bL_s, bV_s, bR_s, rz_iz, S'.n 81 294175, sL_wL]
                      exact iht (by omega) _ (put T s l c g t n hT)
                have S' : SM (wL h 81 T) := S
                rw [e_M_lays_36, m_mostGreats (d + 4) S' V, bI_s]
                simp (disch := omega) only [wL_rz, lit32, litJ, iz_add, iz_sub, iz_mul, iz_neg, nI_iz, ix_iz, inb_iz, ifp_t, ifp_f, iz_eq, iz_lt, bI_s, bL_s, bV_s, bR_s, rz_iz]
                exact l48 0 (by omega) T hT
            have S' : SM (wL h 81 T) := S
            rw [e_M_lays_24, m_mostCreaks (d + 4) S' V, bI_s]
            simp (disch := omega) only [wL_rz, lit32, litJ, iz_add, iz_sub, iz_mul, iz_neg, nI_iz, ix_iz, inb_iz, ifp_t, ifp_f, iz_eq, iz_lt, bI_s, bL_s, bV_s, bR_s, rz_iz]
            exact l36 0 (by omega) T hT
        have S' : SM (wL h 81 T) := S
        rw [e_M_lays_12, m_strides (d + 4) S', bI_s]
        simp (disch := omega) only [wL_rz, lit32, litJ, iz_add, iz_sub, iz_mul, iz_neg, nI_iz, ix_iz, inb_iz, ifp_t, ifp_f, iz_eq, iz_lt, bI_s, bL_s, bV_s, bR_s, rz_iz]
        exact l24 0 (by omega) T hT
    rw [e_M_lays_5]
    simp (disch := omega) only [lit32, litJ, iz_add, iz_sub, iz_mul, iz_neg, nI_iz, ix_iz, inb_iz, ifp_t, ifp_f, iz_eq, iz_lt, bI_s, bL_s, bV_s, bR_s, rz_iz]
    exact l12 0 (by omega) T (fun s' l' c' g' t' n' p' => hT _ _ _ _ _ n' (by obtain ⟨_, _, _, _⟩ := n'; omega))
theorem m_lays (d : Nat) {h : Hp} (S : SM h) (V : VS (rz h 74)) {a : Int} (ha : -1 ≤ a ∧ a ≤ 1000) (gm : Prop) :
    ∃ T, evm (d + 6) 194 [vR 12 68, vI (iZ a), vI (bZ gm)] h = some (none, wL h 81 T) ∧ Tab (rz h 74) (LyF (rz h 74) (rz h 79) (Dst h) a gm) (fun _ _ _ _ _ => True) T := by
  rw [e_M_lays, m_steps (d + 4) S, bI_s]
  have := m_laysL d S V ha gm (rz h 74 0) (by have := V.top; omega) (hL h 81) (fun s' l' c' g' t' n' p' => by have := n'.1; omega)
  rwa [wL_self] at this
