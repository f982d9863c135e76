/-! where one is by hand -/
noncomputable def ixo (q : Int → Int) (z : Int) : Int := @dite _ (∃ k, 0 ≤ k ∧ k < q 8 ∧ q (9 + k) = z) (Classical.propDecidable _) (fun h => Classical.choose h) (fun _ => -1)
theorem ixo_y {q : Int → Int} {z : Int} (h : ∃ k, 0 ≤ k ∧ k < q 8 ∧ q (9 + k) = z) : 0 ≤ ixo q z ∧ ixo q z < q 8 ∧ q (9 + ixo q z) = z := by
  have e : ixo q z = Classical.choose h := dif_pos h
  rw [e]; exact Classical.choose_spec h
theorem ixo_n {q : Int → Int} {z : Int} (h : ¬ ∃ k, 0 ≤ k ∧ k < q 8 ∧ q (9 + k) = z) : ixo q z = -1 := dif_neg h
theorem ixo_k {q : Int → Int} (V : VS q) {k : Int} (h1 : 0 ≤ k) (h2 : k < q 8) : ixo q (q (9 + k)) = k := by
  obtain ⟨a1, a2, a3⟩ := ixo_y (q := q) (z := q (9 + k)) ⟨k, h1, h2, rfl⟩
  rcases Int.lt_trichotomy (ixo q (q (9 + k))) k with z | z | z
  · have := V.inc a1 z h2; omega
  · exact z
  · have := V.inc h1 z a2; omega
theorem ixo_b (q : Int → Int) (z : Int) : -1 ≤ ixo q z ∧ (ixo q z < q 8 ∨ ixo q z = -1) := by
  by_cases h : ∃ k, 0 ≤ k ∧ k < q 8 ∧ q (9 + k) = z
  · have := ixo_y h; omega
  · have := ixo_n h; omega
theorem m_indexOf (d : Nat) {h : Hp} (S : SM h) (V : VS (rz h 74)) {z : Int} (hz : -2147483648 ≤ z ∧ z < 2147483648) : evm (d + 2) 181 [vR 12 68, vI (iZ z)] h = some (some (vI (iZ (ixo (rz h 74) z))), h) := by
  have v2 := V.n
  have key : ∀ (k : Int) (a : Int), 0 ≤ k ∧ k ≤ rz h 74 8 → (a = -1 ∧ ∀ j, 0 ≤ j → j < k → rz h 74 (9 + j) ≠ z) ∨ (0 ≤ a ∧ a < k ∧ rz h 74 (9 + a) = z) → L_M_indexOf_4 (d + 1) 68 (iZ z) (iZ a) (iZ k) h = some (some (vI (iZ (ixo (rz h 74) z))), h) := by
    refine lpZ (rz h 74 8) (fun k hkN a hk ha => ?_) (fun k hkN ih a hk ha => ?_)
    · rw [e_M_indexOf_4, m_strides d S, bI_s]
      simp (disch := omega) only [lit32, litJ, iz_add, iz_sub, iz_mul, iz_neg, nI_iz, ix_iz, inb_iz, ifp_t, ifp_f, iz_eq, iz_lt, bI_s, bL_s, bV_s, bR_s, rz_iz]
      rcases ha with ⟨a1, a2⟩ | ⟨a1, a2, a3⟩
      · rw [a1, ixo_n]
        rintro ⟨j, j1, j2, j3⟩
        exact a2 j j1 (by omega) j3
      · rw [← a3, ixo_k V a1 (by omega)]
    · have vs := V.str hk.1 hkN
      rw [e_M_indexOf_4, m_strides d S, bI_s, m_strideOf d S (by omega), bI_s]
      simp (disch := omega) only [lit32, litJ, iz_add, iz_sub, iz_mul, iz_neg, nI_iz, ix_iz, inb_iz, ifp_t, ifp_f, iz_eq, iz_lt, bI_s, bL_s, bV_s, bR_s, rz_iz]
      by_cases e : rz h 74 (9 + k) = z
      · rw [ifp_t e]
        exact ih k (by omega) (Or.inr ⟨hk.1, by omega, e⟩)
      · rw [ifp_f e]
        refine ih a (by omega) ?_
        rcases ha with ⟨a1, a2⟩ | ⟨a1, a2, a3⟩
        · refine Or.inl ⟨a1, fun j j1 j2 => ?_⟩
          by_cases ej : j = k
          · subst ej; exact e
          · exact a2 j j1 (by omega)
        · exact Or.inr ⟨a1, by omega, a3⟩
  rw [e_M_indexOf]
  exact key 0 (-1) (by omega) (Or.inl ⟨rfl, fun j j1 j2 => by omega⟩)
noncomputable def pS (v : Int → Int) (i : Int) : Int := sZ (fun j => v (1 + j)) i
noncomputable def pL (q v : Int → Int) (i : Int) : Int := if i ≤ 0 then 0 else 1 + ixo q (v i)
noncomputable def pR (q v : Int → Int) (i : Int) : Int := sZ (fun j => pif (q (26 + pS v (j + 1)) = 2) 1 0) i
noncomputable def pC (q v : Int → Int) (i : Int) : Int := if q 1 < 0 then 0 else pR q v i
noncomputable def pG (q v : Int → Int) (i : Int) : Int := sZ (fun j => pif (Grt q (v (1 + j))) 1 0) i
/-- the first n strides could be taken -/
def VH (q v : Int → Int) (n : Int) : Prop := ∀ i, 0 ≤ i → i < n → ∃ k, 0 ≤ k ∧ k < q 8 ∧ v (1 + i) = q (9 + k) ∧ May q v False (pS v i) (pL q v i) (pC q v i) (pG q v i) i k
theorem May_v {q v v' : Int → Int} {s l c g t k : Int} (h : May q v False s l c g t k) : May q v' False s l c g t k := by
  have e : ∀ s, Shut q v False s = Shut q v' False s := by intro s; unfold Shut; simp
  have e' : ∀ s, Must q v False s = Must q v' False s := by intro s; unfold Must; simp
  unfold May at *
  simp only [e, e'] at h
  exact h
theorem May_vi {q v : Int → Int} (v' : Int → Int) {s l c g t k : Int} : May q v False s l c g t k ↔ May q v' False s l c g t k := ⟨May_v, May_v⟩
theorem pL_s {q v : Int → Int} (V : VS q) {i k : Int} (h0 : 0 ≤ i) (h1 : 0 ≤ k) (h2 : k < q 8) (e : v (1 + i) = q (9 + k)) : pL q v (i + 1) = k + 1 := by
  unfold pL
  rw [if_neg (by omega), show i + 1 = 1 + i by omega, e, ixo_k V h1 h2]; omega
theorem pS_s (v : Int → Int) {i : Int} (h : 0 ≤ i) : pS v (i + 1) = pS v i + v (1 + i) := sZ_s _ h
theorem pR_s (q v : Int → Int) {i : Int} (h : 0 ≤ i) : pR q v (i + 1) = pR q v i + pif (q (26 + pS v (i + 1)) = 2) 1 0 := sZ_s _ h
theorem pG_s (q v : Int → Int) {i : Int} (h : 0 ≤ i) : pG q v (i + 1) = pG q v i + pif (Grt q (v (1 + i))) 1 0 := sZ_s _ h
theorem pC_n {q v : Int → Int} {i k : Int} (h0 : 0 ≤ i) (e : v (1 + i) = q (9 + k)) : pC q v (i + 1) = nxC q (pS v i) (pC q v i) k := by
  unfold pC
  rw [pR_s q v h0, pS_s v h0, e]
  by_cases h1 : q 1 < 0
  · rw [if_pos h1, if_pos h1, nxC_f (by omega)]
  · rw [if_neg h1, if_neg h1]
    by_cases h2 : q (26 + (pS v i + q (9 + k))) = 2
    · rw [pif_t h2, nxC_t ⟨h2, by omega⟩]
    · rw [pif_f h2, nxC_f (fun z => h2 z.1), Int.add_zero]
theorem pG_n {q v : Int → Int} {i k : Int} (h0 : 0 ≤ i) (e : v (1 + i) = q (9 + k)) : pG q v (i + 1) = nxG q (pG q v i) k := by
  rw [pG_s q v h0, e]
  by_cases h2 : Grt q (q (9 + k))
  · rw [pif_t h2, nxG_t h2]
  · rw [pif_f h2, nxG_f h2, Int.add_zero]
theorem VH.nd {q v : Int → Int} (V : VS q) {n : Int} (H : VH q v n) : ∀ i, 0 ≤ i → i ≤ n → Nd q (pS v i) (pL q v i) (pC q v i) (pG q v i) i := by
  refine upZ (fun _ => ?_) (fun i hi ih hn => ?_)
  · have := V.top
    have := V.n
    have := mxC_b V
    have := mxG_b V
    have e1 : pS v 0 = 0 := sZ_0 _ (by omega)
    have e2 : pL q v 0 = 0 := if_pos (by omega)
    have e3 : pC q v 0 = 0 := by unfold pC pR; rw [sZ_0 _ (by omega)]; split <;> rfl
    have e4 : pG q v 0 = 0 := sZ_0 _ (by omega)
    rw [e1, e2, e3, e4]
    refine ⟨by omega, by omega, by omega, by omega⟩
  · obtain ⟨k, k1, k2, k3, k4⟩ := H i hi (by omega)
    have := (ih (by omega)).nx V k1 k2 k4
    rw [pS_s v hi, pL_s V hi k1 k2 k3, pC_n hi k3, pG_n hi k3, k3]
    exact this
theorem pR_b {q v : Int → Int} {i : Int} (h : 0 ≤ i) : 0 ≤ pR q v i ∧ pR q v i ≤ i := by
  refine upZ (P := fun i => 0 ≤ pR q v i ∧ pR q v i ≤ i) ?_ (fun i hi ih => ?_) i h
  · unfold pR; rw [sZ_0 _ (by omega)]; omega
  · rw [pR_s q v hi]
    by_cases h2 : q (26 + pS v (i + 1)) = 2
    · rw [pif_t h2]; omega
    · rw [pif_f h2]; omega
/-- the model's own row tells where one is -/
def Nw (h : Hp) (q v : Int → Int) (n : Int) : Prop := hI h 68 19 = iZ (pS v n) ∧ hI h 68 20 = iZ (pL q v n) ∧ hI h 68 21 = iZ (pR q v n) ∧ hI h 68 22 = iZ (pG q v n)
theorem m_findNow (d : Nat) {h : Hp} (S : SM h) (V : VS (rz h 74)) (hn : 0 ≤ rz h 79 0 ∧ rz h 79 0 ≤ 40) (H : VH (rz h 74) (rz h 79) (rz h 79 0)) :
    ∃ f, evm (d + 3) 183 [vR 12 68] h = some (none, wI h 68 f) ∧ Nw (wI h 68 f) (rz h 74) (rz h 79) (rz h 79 0) ∧ ∀ j, (j < 19 ∨ 22 < j) → f j = hI h 68 j := by
  have key : ∀ i, 0 ≤ i ∧ i ≤ rz h 79 0 → ∀ f, Nw (wI h 68 f) (rz h 74) (rz h 79) i ∧ (∀ j, (j < 19 ∨ 22 < j) → f j = hI h 68 j) →
      ∃ f', L_M_findNow_22 (d + 2) 68 (iZ i) (wI h 68 f) = some (none, wI h 68 f') ∧ Nw (wI h 68 f') (rz h 74) (rz h 79) (rz h 79 0) ∧ ∀ j, (j < 19 ∨ 22 < j) → f' j = hI h 68 j := by
    refine lpZ (rz h 79 0) (fun i hiN hi f hf => ?_) (fun i hiN ih hi f hf => ?_)
    · have S' : SM (wI h 68 f) := S
      have e79 : rz (wI h 68 f) 79 = rz h 79 := wI_rz h f (by decide)
      rw [e_M_findNow_22, m_takenMany (d + 1) S', bI_s, e79]
      simp (disch := omega) only [lit32, litJ, iz_add, iz_sub, iz_mul, iz_neg, nI_iz, ix_iz, inb_iz, ifp_t, ifp_f, iz_eq, iz_lt, bI_s, bL_s, bV_s, bR_s, rz_iz]
      have ei : i = rz h 79 0 := by omega
      rw [ei] at hf
      exact ⟨f, rfl, hf⟩
    · obtain ⟨⟨f1, f2, f3, f4⟩, f5⟩ := hf
      rw [wI_I] at f1 f2 f3 f4
      obtain ⟨k, k1, k2, k3, k4⟩ := H i hi.1 hiN
      have nd := H.nd V (i + 1) (by omega) (by omega)
      have nd0 := H.nd V i (by omega) (by omega)
      have vs := V.str k1 k2
      have vt := V.top
      have vn := V.n
      have rb := pR_b (q := rz h 74) (v := rz h 79) (i := i) hi.1
      have pss := pS_s (rz h 79) hi.1
      have pn := V.n
      have e79 : ∀ f, rz (wI h 68 f) 79 = rz h 79 := fun f => wI_rz h f (by decide)
      have e74 : ∀ f, rz (wI h 68 f) 74 = rz h 74 := fun f => wI_rz h f (by decide)
      have S' : ∀ f, SM (wI h 68 f) := fun _ => S
      have V' : ∀ f, VS (rz (wI h 68 f) 74) := fun f => by rw [e74]; exact V
      have ib := nd.1
      have ib0 := nd0.1
      rw [e_M_findNow_22, m_takenMany (d + 1) (S' f), bI_s, (S' f).r 17 79, bR_s, (S' f).n 79 420, lit32, iz_add]
      rw [wI_n h f (show 79 ≠ 68 by decide)]
      simp (disch := omega) only [lit32, litJ, iz_add, iz_sub, iz_mul, iz_neg, nI_iz, ix_iz, inb_iz, ifp_t, ifp_f, iz_eq, iz_lt, bI_s, bL_s, bV_s, bR_s, rz_iz, e79]
      rw [sI_wI, m_indexOf d (S' _) (V' _) (rz_rg _ _ _), bI_s, sI_wI, wI_I, up_n _ _ (show 19 ≠ 20 by decide), up_e, wI_I, f1, iz_add, ← pss, m_kindOf (d + 1) (S' _) (by omega), bI_s]
      simp only [e74, wI_I]
      have kb := V.kin (s := pS (rz h 79) (i + 1)) (by omega) (by omega)
      rw [up_n _ _ (show 21 ≠ 20 by decide), up_n _ _ (show 21 ≠ 19 by decide), f3]
      have tail : ∀ x : Int, x = pif (rz h 74 (26 + pS (rz h 79) (i + 1)) = 2) 1 0 → ∃ f', L_M_findNow_82 (d + 2) 68 (iZ i) (iZ (rz h 79 (1 + i))) (iZ x) (iZ (pR (rz h 74) (rz h 79) i)) 68 (wI h 68 (up (up f 19 (iZ (pS (rz h 79) (i + 1)))) 20 (iZ (1 + ixo (rz h 74) (rz h 79 (1 + i)))))) = some (none, wI h 68 f') ∧ Nw (wI h 68 f') (rz h 74) (rz h 79) (rz h 79 0) ∧ ∀ j, (j < 19 ∨ 22 < j) → f' j = hI h 68 j := by
        intro x hx
        rw [e_M_findNow_82, sI_wI, m_isGreat (d + 1) (S' _) (by omega), bI_s, wI_I, sI_wI, sI_wI]
        simp only [lit32, iz_add, bZ_0, e74]
        simp only [up, Nat.reduceEqDiff, if_false, if_true, f4, iz_add]
        have go : ∀ y : Int, y = pif (Grt (rz h 74) (rz h 79 (1 + i))) 1 0 → ∃ f', L_M_findNow_22 (d + 2) 68 (iZ (i + 1)) (wI h 68 fun b => if b = 22 then iZ (pG (rz h 74) (rz h 79) i + y) else if b = 21 then iZ (pR (rz h 74) (rz h 79) i + x) else if b = 20 then iZ (1 + ixo (rz h 74) (rz h 79 (1 + i))) else if b = 19 then iZ (pS (rz h 79) (i + 1)) else f b) = some (none, wI h 68 f') ∧ Nw (wI h 68 f') (rz h 74) (rz h 79) (rz h 79 0) ∧ ∀ j, (j < 19 ∨ 22 < j) → f' j = hI h 68 j := by
          intro y hy
          refine ih (by omega) _ ⟨⟨?_, ?_, ?_, ?_⟩, ?_⟩
          · rw [wI_I]; rfl
          · rw [wI_I]
            show iZ (1 + ixo (rz h 74) (rz h 79 (1 + i))) = _
            unfold pL
            rw [if_neg (by omega), Int.add_comm i 1]
          · rw [wI_I]
            show iZ (pR (rz h 74) (rz h 79) i + x) = _
            rw [pR_s _ _ hi.1, hx]
          · rw [wI_I]
            show iZ (pG (rz h 74) (rz h 79) i + y) = _
            rw [pG_s _ _ hi.1, hy]
          · intro j hj
            show (if j = 22 then _ else if j = 21 then _ else if j = 20 then _ else if j = 19 then _ else f j) = _
            rw [if_neg (by omega), if_neg (by omega), if_neg (by omega), if_neg (by omega)]
            exact f5 j hj
        by_cases hg : Grt (rz h 74) (rz h 79 (1 + i))
        · rw [ifp_f (fun z => z hg)]
          exact go 1 (pif_t hg).symm
        · rw [ifp_t (show ¬ (0 ≤ rz h 74 5 ∧ rz h 74 5 ≤ rz h 79 (1 + i)) from hg)]
          exact go 0 (pif_f hg).symm
      simp (disch := omega) only [lit32, iz_add, iz_eq]
      by_cases h2 : rz h 74 (26 + pS (rz h 79) (i + 1)) = 2
      · rw [ifp_t h2]
        exact tail 1 (pif_t h2).symm
      · rw [ifp_f h2]
        exact tail 0 (pif_f h2).symm
  have k0 := key 0 (by omega) (up (up (up (up (hI h 68) 19 0) 20 0) 21 0) 22 0) ⟨⟨?_, ?_, ?_, ?_⟩, ?_⟩
  · obtain ⟨f', e1, e2⟩ := k0
    refine ⟨f', ?_, e2⟩
    rw [e_M_findNow, sI_w h, sI_wI, sI_wI, sI_wI]
    exact e1
  · rw [wI_I]; show (0 : Int32) = _; unfold pS; rw [sZ_0 _ (by omega)]; rfl
  · rw [wI_I]; rfl
  · rw [wI_I]; show (0 : Int32) = _; unfold pR; rw [sZ_0 _ (by omega)]; rfl
  · rw [wI_I]; show (0 : Int32) = _; unfold pG; rw [sZ_0 _ (by omega)]; rfl
  · intro j hj
    rw [up_n _ _ (by omega), up_n _ _ (by omega), up_n _ _ (by omega), up_n _ _ (by omega)]
