/-! moods: products, sums, tests, either -/
def OpS (p : Nat) (c : Int → Int) (n : Int) (N B : Nat) (opX opM : Hp → Option Rs) : Prop := ∀ hx hm m H i cl, MSt p c n N m H i cl hx hm → H ≤ B → ∃ hx' hm' r, opX hx = some (some (vI (iZ r)), hx') ∧ opM hm = some (none, hm') ∧ MOut p c n N m (H + 1) i hx hm hx' hm' r
theorem kX_iz {h : Hp} {c : Int → Int} {n : Int} {i : Nat} (J : JX h c n i) {r : Int} (hr : 0 ≤ r ∧ r < 1000) : hI h 2 2 = iZ r ↔ kiX c n (Tok c n i) = r := by
  have kb := kX_b J.2.1 (Tok_b (c := c) J.2.1.1.1 i).1
  rw [J.2.2.1.2.1]
  exact iz_eq (by omega)
theorem kX42 {h : Hp} {c : Int → Int} {n : Int} {i : Nat} (J : JX h c n i) : hI h 2 2 = (42 : Int32) ↔ kiX c n (Tok c n i) = 42 := kX_iz (r := 42) J (by omega)
theorem kX43 {h : Hp} {c : Int → Int} {n : Int} {i : Nat} (J : JX h c n i) : hI h 2 2 = (43 : Int32) ↔ kiX c n (Tok c n i) = 43 := kX_iz (r := 43) J (by omega)
theorem kX45 {h : Hp} {c : Int → Int} {n : Int} {i : Nat} (J : JX h c n i) : hI h 2 2 = (45 : Int32) ↔ kiX c n (Tok c n i) = 45 := kX_iz (r := 45) J (by omega)
theorem kX60 {h : Hp} {c : Int → Int} {n : Int} {i : Nat} (J : JX h c n i) : hI h 2 2 = (60 : Int32) ↔ kiX c n (Tok c n i) = 60 := kX_iz (r := 60) J (by omega)
theorem kX61 {h : Hp} {c : Int → Int} {n : Int} {i : Nat} (J : JX h c n i) : hI h 2 2 = (61 : Int32) ↔ kiX c n (Tok c n i) = 61 := kX_iz (r := 61) J (by omega)
theorem kX40 {h : Hp} {c : Int → Int} {n : Int} {i : Nat} (J : JX h c n i) : hI h 2 2 = (40 : Int32) ↔ kiX c n (Tok c n i) = 40 := kX_iz (r := 40) J (by omega)
theorem kX3 {h : Hp} {c : Int → Int} {n : Int} {i : Nat} (J : JX h c n i) : hI h 2 2 = (3 : Int32) ↔ kiX c n (Tok c n i) = 3 := kX_iz (r := 3) J (by omega)
theorem wX {d : Nat} (hd : 5 ≤ d) {h : Hp} {c : Int → Int} {n : Int} {i : Nat} (J : JX h c n i) {r : Nat} (hr : r < 23) : evm d 70 [vR 8 2, vR 40 r] h = some (some (vI (bZ (WdS c n (Tok c n i) r))), h) := by
  obtain ⟨d, rfl⟩ : ∃ e, d = e + 5 := ⟨d - 5, by omega⟩
  exact x_isWord d J.1 J.2.1 (Tok_b (c := c) J.2.1.1.1 i) J.2.2.1 hr
theorem j_prod {d dm : Nat} (hd : 6 ≤ d) (hm0 : 6 ≤ dm) {p : Nat} {c : Int → Int} {n : Int} {N w : Nat} (hw : w ≤ 5) (O : OpS p c n N (4 * w + 4) (fun h => evm d 53 [vR 6 1, vR 2 (p + 7), vI (iZ w)] h) (fun h => evm dm 173 [vR 12 68, vI (iZ w)] h)) : OpS p c n N (4 * w + 3) (fun h => evm (d + 1) 52 [vR 6 1, vR 2 (p + 7), vI (iZ w)] h) (fun h => evm (dm + 1) 172 [vR 12 68, vI (iZ w)] h) := by
  intro hx hm m H i cl S hH
  refine mlw hd hm0 (fun h => evm (d + 1) 52 [vR 6 1, vR 2 (p + 7), vI (iZ w)] h) (fun h => evm (dm + 1) 172 [vR 12 68, vI (iZ w)] h) (fun x h => L_StairReader_readProduct_13 d 1 (p + 7) (iZ w) (iZ x) h) (fun h => L_M_products_5 dm 68 (iZ w) h) (fun h => evm d 53 [vR 6 1, vR 2 (p + 7), vI (iZ w)] h) (fun h => evm dm 173 [vR 12 68, vI (iZ w)] h) (fun i => pif (kiX c n (Tok c n i) = 42) 6 0) (B := 4 * w + 4) (by omega) (fun h => ?_) (fun h => ?_) (fun i => ?_) (fun h i x J e => ?_) (fun h i x J e x0 x1 => ?_) (fun h i J e => ?_) (fun h F J => ?_) (fun h i J e => ?_) O hx hm m H i cl S (by omega)
  · exact e_StairReader_readProduct _ _ _ _ _
  · exact e_M_products _ _ _ _
  · by_cases k : kiX c n (Tok c n i) = 42
    · rw [pif_t k]; omega
    · rw [pif_f k]; exact Or.inl rfl
  · have k : kiX c n (Tok c n i) ≠ 42 := fun k => by rw [pif_t k] at e; omega
    rw [e_StairReader_readProduct_13]
    simp only [J.1.r 1 0 2, bR_s]
    refine ifp_r (fun _ => ?_) (fun _ => rfl)
    rw [ifp_f (fun y => k ((kX42 J).mp y))]
    rfl
  · have k : kiX c n (Tok c n i) = 42 := Classical.byContradiction fun k => e (pif_f k)
    rw [e_StairReader_readProduct_13, pif_t k]
    simp only [J.1.r 1 0 2, bR_s]
    rw [ifp_t (by rw [lit32]; exact (iz_lt (by omega)).mpr x1), ifp_t ((kX42 J).mpr k)]
    simp only [show (1 : Int32) = iZ 1 from rfl, iz_add]
    rfl
  · have k : kiX c n (Tok c n i) ≠ 42 := fun k => by rw [pif_t k] at e; omega
    rw [e_M_products_5, show (42 : Int32) = iZ 42 from rfl, (u_hs (by omega) J (by unfold sgn; omega)).2 k]
    simp only [bI_s]
    rw [ifp_t (by rfl)]
  · rw [e_M_products_5, u_hsF (by omega) J]
    simp only [bI_s]
    rw [ifp_t (by rfl)]
  · have k : kiX c n (Tok c n i) = 42 := Classical.byContradiction fun k => e (pif_f k)
    rw [e_M_products_5, show (42 : Int32) = iZ 42 from rfl, (u_hs (by omega) J (by unfold sgn; omega)).1 k, pif_t k]
    simp only [bI_s]
    rw [ifp_f (by decide)]
    rfl
theorem j_sum {d dm : Nat} (hd : 6 ≤ d) (hm0 : 6 ≤ dm) {p : Nat} {c : Int → Int} {n : Int} {N w : Nat} (hw : w ≤ 5) (O : OpS p c n N (4 * w + 3) (fun h => evm d 52 [vR 6 1, vR 2 (p + 7), vI (iZ w)] h) (fun h => evm dm 172 [vR 12 68, vI (iZ w)] h)) : OpS p c n N (4 * w + 2) (fun h => evm (d + 1) 51 [vR 6 1, vR 2 (p + 7), vI (iZ w)] h) (fun h => evm (dm + 1) 171 [vR 12 68, vI (iZ w)] h) := by
  intro hx hm m H i cl S hH
  have cs : ∀ i, pif (kiX c n (Tok c n i) = 43) 4 (pif (kiX c n (Tok c n i) = 45) 5 0) ≠ 0 → (kiX c n (Tok c n i) = 43 ∧ pif (kiX c n (Tok c n i) = 43) 4 (pif (kiX c n (Tok c n i) = 45) 5 0) = 4) ∨ (kiX c n (Tok c n i) = 45 ∧ pif (kiX c n (Tok c n i) = 43) 4 (pif (kiX c n (Tok c n i) = 45) 5 0) = 5) := by
    intro i e
    by_cases k : kiX c n (Tok c n i) = 43
    · exact Or.inl ⟨k, pif_t k⟩
    · rw [pif_f k] at e ⊢
      by_cases k' : kiX c n (Tok c n i) = 45
      · exact Or.inr ⟨k', pif_t k'⟩
      · exact absurd (pif_f k') e
  have cn : ∀ i, pif (kiX c n (Tok c n i) = 43) 4 (pif (kiX c n (Tok c n i) = 45) 5 0) = 0 → kiX c n (Tok c n i) ≠ 43 ∧ kiX c n (Tok c n i) ≠ 45 := by
    intro i e
    refine ⟨fun k => ?_, fun k => ?_⟩
    · rw [pif_t k] at e; omega
    · rw [pif_f (by omega), pif_t k] at e; omega
  refine mlw hd hm0 (fun h => evm (d + 1) 51 [vR 6 1, vR 2 (p + 7), vI (iZ w)] h) (fun h => evm (dm + 1) 171 [vR 12 68, vI (iZ w)] h) (fun x h => L_StairReader_readSum_13 d 1 (p + 7) (iZ w) (iZ x) h) (fun h => L_M_sums_5 dm 68 (iZ w) h) (fun h => evm d 52 [vR 6 1, vR 2 (p + 7), vI (iZ w)] h) (fun h => evm dm 172 [vR 12 68, vI (iZ w)] h) (fun i => pif (kiX c n (Tok c n i) = 43) 4 (pif (kiX c n (Tok c n i) = 45) 5 0)) (B := 4 * w + 3) (by omega) (fun h => ?_) (fun h => ?_) (fun i => ?_) (fun h i x J e => ?_) (fun h i x J e x0 x1 => ?_) (fun h i J e => ?_) (fun h F J => ?_) (fun h i J e => ?_) O hx hm m H i cl S (by omega)
  · exact e_StairReader_readSum _ _ _ _ _
  · exact e_M_sums _ _ _ _
  · by_cases e : pif (kiX c n (Tok c n i) = 43) 4 (pif (kiX c n (Tok c n i) = 45) 5 0) = 0
    · exact Or.inl e
    · have := cs i e
      omega
  · have k := cn i e
    rw [e_StairReader_readSum_13]
    simp only [J.1.r 1 0 2, bR_s]
    refine ifp_r (fun _ => ?_) (fun _ => rfl)
    rw [ifp_f (fun y => k.1 ((kX43 J).mp y)), ifp_f (fun y => k.2 ((kX45 J).mp y))]
    rfl
  · rw [e_StairReader_readSum_13]
    simp only [J.1.r 1 0 2, bR_s]
    rw [ifp_t (by rw [lit32]; exact (iz_lt (by omega)).mpr x1)]
    rcases cs i e with ⟨k, ek⟩ | ⟨k, ek⟩
    · rw [ek, ifp_t ((kX43 J).mpr k), e_StairReader_readSum_44]
      simp only [J.1.r 1 0 2, bR_s]
      rw [ifp_t ((kX43 J).mpr k), e_StairReader_readSum_63]
      simp only [J.1.r 1 0 2, bR_s, show (1 : Int32) = iZ 1 from rfl, iz_add]
      rfl
    · rw [ek, ifp_f (fun y => by have := (kX43 J).mp y; omega), ifp_t ((kX45 J).mpr k), e_StairReader_readSum_44]
      simp only [J.1.r 1 0 2, bR_s]
      rw [ifp_f (fun y => by have := (kX43 J).mp y; omega), e_StairReader_readSum_63]
      simp only [J.1.r 1 0 2, bR_s, show (1 : Int32) = iZ 1 from rfl, iz_add]
      rfl
  · have k := cn i e
    rw [e_M_sums_5, show (43 : Int32) = iZ 43 from rfl, u_is (by omega) J (by unfold sgn; omega), bZ_f k.1]
    simp only [bI_s]
    rw [ifp_t (by rfl), show (45 : Int32) = iZ 45 from rfl, u_is (by omega) J (by unfold sgn; omega), bZ_f k.2]
    simp only [bI_s]
    rw [ifp_t (by rfl)]
  · rw [e_M_sums_5, u_isF (by omega) J]
    simp only [bI_s]
    rw [ifp_t (by rfl), u_isF (by omega) J]
    simp only [bI_s]
    rw [ifp_t (by rfl)]
  · rw [e_M_sums_5, show (43 : Int32) = iZ 43 from rfl, u_is (by omega) J (by unfold sgn; omega)]
    simp only [bI_s]
    rcases cs i e with ⟨k, ek⟩ | ⟨k, ek⟩
    · rw [bZ_t k, ifp_f (by decide), e_M_sums_23, show (43 : Int32) = iZ 43 from rfl, u_is (by omega) J (by unfold sgn; omega), bZ_t k, ek]
      simp only [bI_s]
      rw [J.2.1.1, show (1 : Int32) = iZ 1 from rfl, iz_add]
      refine congrArg (bV _) (funext fun h3 => ?_)
      rw [ifp_f (by decide)]
      rfl
    · rw [bZ_f (by omega), ifp_t (by rfl), show (45 : Int32) = iZ 45 from rfl, u_is (by omega) J (by unfold sgn; omega), bZ_t k]
      simp only [bI_s]
      rw [ifp_f (by decide), e_M_sums_23, show (43 : Int32) = iZ 43 from rfl, u_is (by omega) J (by unfold sgn; omega), bZ_f (by omega), ek]
      simp only [bI_s]
      rw [J.2.1.1, show (1 : Int32) = iZ 1 from rfl, iz_add]
      refine congrArg (bV _) (funext fun h3 => ?_)
      rw [ifp_t (by rfl)]
      rfl
theorem wsX : ∀ r : Nat, r < 23 → ∀ r' : Nat, r' < 23 → slen r = slen r' → (∀ j : Nat, j < slen r → sby r j = sby r' j) → r = r' := by decide +kernel
theorem WdS.u {c : Int → Int} {n s : Int} {r r' : Nat} (a : WdS c n s r) (b : WdS c n s r') (hr : r < 23) (hr' : r' < 23) : r = r' := by
  have e : slen r = slen r' := by have := a.2.1; have := b.2.1; omega
  exact wsX r hr r' hr' e (fun j hj => (a.2.2 j hj).symm.trans (b.2.2 j (by omega)))
theorem j_either {d dm : Nat} (hd : 6 ≤ d) (hm0 : 6 ≤ dm) {p : Nat} {c : Int → Int} {n : Int} {N w : Nat} (hw : w ≤ 5) (O : OpS p c n N (4 * w + 1) (fun h => evm d 50 [vR 6 1, vR 2 (p + 7), vI (iZ w)] h) (fun h => evm dm 170 [vR 12 68, vI (iZ w)] h)) : OpS p c n N (4 * w) (fun h => evm (d + 1) 49 [vR 6 1, vR 2 (p + 7), vI (iZ w)] h) (fun h => evm (dm + 1) 169 [vR 12 68, vI (iZ w)] h) := by
  intro hx hm m H i cl S hH
  have cs : ∀ i, pif (WdS c n (Tok c n i) 21) 9 (pif (WdS c n (Tok c n i) 22) 10 0) ≠ 0 → (WdS c n (Tok c n i) 21 ∧ pif (WdS c n (Tok c n i) 21) 9 (pif (WdS c n (Tok c n i) 22) 10 0) = 9) ∨ (WdS c n (Tok c n i) 22 ∧ pif (WdS c n (Tok c n i) 21) 9 (pif (WdS c n (Tok c n i) 22) 10 0) = 10) := by
    intro i e
    by_cases k : WdS c n (Tok c n i) 21
    · exact Or.inl ⟨k, pif_t k⟩
    · rw [pif_f k] at e ⊢
      by_cases k' : WdS c n (Tok c n i) 22
      · exact Or.inr ⟨k', pif_t k'⟩
      · exact absurd (pif_f k') e
  have ex : ∀ i, WdS c n (Tok c n i) 22 → ¬ WdS c n (Tok c n i) 21 := fun i a b => absurd (a.u b (by decide) (by decide)) (by decide)
  have cn : ∀ i, pif (WdS c n (Tok c n i) 21) 9 (pif (WdS c n (Tok c n i) 22) 10 0) = 0 → ¬ WdS c n (Tok c n i) 21 ∧ ¬ WdS c n (Tok c n i) 22 := by
    intro i e
    refine ⟨fun k => ?_, fun k => ?_⟩
    · rw [pif_t k] at e; omega
    · rw [pif_f (ex i k), pif_t k] at e; omega
  have w16 : ∀ {h : Hp} {i : Nat}, JM h c n N i → evm dm 149 [vR 12 68, vI (16 : Int32)] h = some (some (vI (bZ (WdS c n (Tok c n i) 21))), h) := fun J => u_iw (w := 16) (by omega) J (by decide)
  have w17 : ∀ {h : Hp} {i : Nat}, JM h c n N i → evm dm 149 [vR 12 68, vI (17 : Int32)] h = some (some (vI (bZ (WdS c n (Tok c n i) 22))), h) := fun J => u_iw (w := 17) (by omega) J (by decide)
  refine mlw hd hm0 (fun h => evm (d + 1) 49 [vR 6 1, vR 2 (p + 7), vI (iZ w)] h) (fun h => evm (dm + 1) 169 [vR 12 68, vI (iZ w)] h) (fun x h => L_StairReader_readEither_13 d 1 (p + 7) (iZ w) (iZ x) h) (fun h => L_M_all_5 dm 68 (iZ w) h) (fun h => evm d 50 [vR 6 1, vR 2 (p + 7), vI (iZ w)] h) (fun h => evm dm 170 [vR 12 68, vI (iZ w)] h) (fun i => pif (WdS c n (Tok c n i) 21) 9 (pif (WdS c n (Tok c n i) 22) 10 0)) (B := 4 * w + 1) (by omega) (fun h => ?_) (fun h => ?_) (fun i => ?_) (fun h i x J e => ?_) (fun h i x J e x0 x1 => ?_) (fun h i J e => ?_) (fun h F J => ?_) (fun h i J e => ?_) O hx hm m H i cl S (by omega)
  · exact e_StairReader_readEither _ _ _ _ _
  · exact e_M_all _ _ _ _
  · by_cases e : pif (WdS c n (Tok c n i) 21) 9 (pif (WdS c n (Tok c n i) 22) 10 0) = 0
    · exact Or.inl e
    · rcases cs i e with ⟨k, ek⟩ | ⟨k, ek⟩
      · have := k.1; omega
      · have := k.1; omega
  · have k := cn i e
    rw [e_StairReader_readEither_13]
    simp only [J.1.r 1 0 2, bR_s]
    refine ifp_r (fun _ => ?_) (fun _ => rfl)
    rw [wX (by omega) J (by decide), bZ_f k.1]
    simp only [bI_s]
    rw [ifp_t (by rfl)]
    simp only [J.1.r 1 0 2, bR_s]
    rw [wX (by omega) J (by decide), bZ_f k.2]
    simp only [bI_s]
    rw [ifp_t (by rfl)]
    rfl
  · rw [e_StairReader_readEither_13]
    simp only [J.1.r 1 0 2, bR_s]
    rw [ifp_t (by rw [lit32]; exact (iz_lt (by omega)).mpr x1), wX (by omega) J (by decide)]
    simp only [bI_s, J.1.r 1 0 2, bR_s]
    rcases cs i e with ⟨k, ek⟩ | ⟨k, ek⟩
    · rw [ek, bZ_t k, ifp_f (by decide), e_StairReader_readEither_44]
      simp only [J.1.r 1 0 2, bR_s]
      rw [wX (by omega) J (by decide), bZ_t k]
      simp only [bI_s]
      rw [ifp_f (by decide), e_StairReader_readEither_63]
      simp only [J.1.r 1 0 2, bR_s, show (1 : Int32) = iZ 1 from rfl, iz_add]
      rfl
    · rw [ek, bZ_f (ex i k), ifp_t (by rfl), wX (by omega) J (by decide), bZ_t k]
      simp only [bI_s]
      rw [ifp_f (by decide), e_StairReader_readEither_44]
      simp only [J.1.r 1 0 2, bR_s]
      rw [wX (by omega) J (by decide), bZ_f (ex i k)]
      simp only [bI_s]
      rw [ifp_t (by rfl), e_StairReader_readEither_63]
      simp only [J.1.r 1 0 2, bR_s, show (1 : Int32) = iZ 1 from rfl, iz_add]
      rfl
  · have k := cn i e
    rw [e_M_all_5, w16 J, bZ_f k.1]
    simp only [bI_s]
    rw [ifp_t (by rfl), w17 J, bZ_f k.2]
    simp only [bI_s]
    rw [ifp_t (by rfl)]
  · rw [e_M_all_5, u_iwF (by omega) J]
    simp only [bI_s]
    rw [ifp_t (by rfl), u_iwF (by omega) J]
    simp only [bI_s]
    rw [ifp_t (by rfl)]
  · rw [e_M_all_5, w16 J]
    simp only [bI_s]
    rcases cs i e with ⟨k, ek⟩ | ⟨k, ek⟩
    · rw [bZ_t k, ifp_f (by decide), e_M_all_23, w16 J, bZ_t k, ek]
      simp only [bI_s]
      rw [J.2.1.1, show (1 : Int32) = iZ 1 from rfl, iz_add]
      refine congrArg (bV _) (funext fun h3 => ?_)
      rw [ifp_f (by decide)]
      rfl
    · rw [bZ_f (ex i k), ifp_t (by rfl), w17 J, bZ_t k]
      simp only [bI_s]
      rw [ifp_f (by decide), e_M_all_23, w16 J, bZ_f (ex i k), ek]
      simp only [bI_s]
      rw [J.2.1.1, show (1 : Int32) = iZ 1 from rfl, iz_add]
      refine congrArg (bV _) (funext fun h3 => ?_)
      rw [ifp_t (by rfl)]
      rfl
theorem j_test {d dm : Nat} (hd : 6 ≤ d) (hm0 : 6 ≤ dm) {p : Nat} {c : Int → Int} {n : Int} {N w : Nat} (hw : w ≤ 5) (O : OpS p c n N (4 * w + 2) (fun h => evm d 51 [vR 6 1, vR 2 (p + 7), vI (iZ w)] h) (fun h => evm dm 171 [vR 12 68, vI (iZ w)] h)) : OpS p c n N (4 * w + 1) (fun h => evm (d + 1) 50 [vR 6 1, vR 2 (p + 7), vI (iZ w)] h) (fun h => evm (dm + 1) 170 [vR 12 68, vI (iZ w)] h) := by
  intro hx hm m H i cl S hH
  dsimp only
  rw [e_StairReader_readTest, e_M_test]
  obtain ⟨x1, m1, r, a1, a2, a3, a4, a5⟩ := O hx hm m H i cl S (by omega)
  dsimp only at a1 a2
  rw [a1, a2]
  simp only [bI_s, bV_s]
  rcases a5 with ⟨r1, i1, ii, cl1, S1⟩ | ⟨r0, F⟩
  · subst r1
    have J := S1.2.1
    have M := S1.2.2.1
    rw [ifp_f (by decide)]
    simp only [J.1.r 1 0 2, bR_s]
    rw [show (60 : Int32) = iZ 60 from rfl, show (61 : Int32) = iZ 61 from rfl, u_is (by omega) M (by unfold sgn; omega)]
    simp only [bI_s]
    -- the second part, once the sign is known
    have go : ∀ (ch k : Int), (ch = 60 ∧ k = 7 ∨ ch = 61 ∧ k = 8) → kiX c n (Tok c n i1) = ch → ∃ hx' hm' r, L_StairReader_readTest_37 d 1 (p + 7) (iZ w) x1 = some (some (vI (iZ r)), hx') ∧ L_M_test_30 dm 68 (iZ w) (bZ (kiX c n (Tok c n i1) = 60)) (sI m1 68 7 (iZ ((i1 : Int) + 1))) = some (none, hm') ∧ MOut p c n N m (H + 1) i hx hm hx' hm' r := by
      intro ch k hk kk
      obtain ⟨x2, b1, b2, b3, S2⟩ := S1.av hd (by omega : kiX c n (Tok c n i1) ≠ 0)
      obtain ⟨x3, m3, r, c1, c2, c3, c4, c5⟩ := O _ _ _ _ _ _ S2 (by omega)
      dsimp only at c1 c2
      have ex : L_StairReader_readTest_37 d 1 (p + 7) (iZ w) x1 = L_StairReader_readTest_56 d 1 (p + 7) (iZ w) (iZ (deed k 0)) x1 := by
        rw [e_StairReader_readTest_37]
        simp only [J.1.r 1 0 2, bR_s]
        rcases hk with ⟨h1, h2⟩ | ⟨h1, h2⟩
        · rw [ifp_t ((kX60 J).mpr (by omega)), h2]; rfl
        · rw [ifp_f (fun y => by have := (kX60 J).mp y; omega), h2]; rfl
      have em : L_M_test_30 dm 68 (iZ w) (bZ (kiX c n (Tok c n i1) = 60)) (sI m1 68 7 (iZ ((i1 : Int) + 1))) = bV (evm dm 168 [vR 12 68, vI (iZ k), vI (iZ 0)] m3) fun h => some (none, h) := by
        rw [e_M_test_30, c2]
        simp only [bV_s]
        rcases hk with ⟨h1, h2⟩ | ⟨h1, h2⟩
        · rw [bZ_t (by omega), ifp_f (by decide), h2]; rfl
        · rw [bZ_f (by omega), ifp_t (by rfl), h2]; rfl
      rw [ex, em, e_StairReader_readTest_56]
      simp only [J.1.r 1 0 2, bR_s, b1, bV_s, c1, bI_s]
      rcases c5 with ⟨r1, i2, ii2, cl2, S3⟩ | ⟨r0, F⟩
      · subst r1
        have cm := S3.2.2.2.2
        have iN' := S3.2.2.1.2.1.2
        have N1 := S3.2.2.1.1.2.2.1.1
        obtain ⟨co, ca, C, hh⟩ := S3.2.2.2.1
        rw [ifp_f (by decide), x_ad (by omega) S3.2.1.1 S3.1 C.1.1 (by omega), u_em (by omega) S3.2.2.1.1.1 C.1.2 (by omega)]
        simp only [bV_s]
        have S4 := S3.wk.em (k := k) (a := 0) (by omega) (by omega) (by omega) (by omega) (by omega) (by omega) (by omega)
        rw [if_neg (by omega), if_neg (by omega), show H + 1 + 1 - 1 = H + 1 by omega] at S4
        exact ⟨_, _, 1, rfl, rfl, ((a3.tr b2).tr c3).tr (adH_q S3.1 _ _), ((a4.tr b3).tr c4).tr (emH_q _ _ _), Or.inl ⟨rfl, i2, by omega, _, S4⟩⟩
      · subst r0
        obtain ⟨hm', e1, e2, e3⟩ := F.em k 0
        rw [ifp_t (by rfl), e1 dm (by omega)]
        simp only [bV_s]
        exact ⟨x3, hm', 0, rfl, rfl, (a3.tr b2).tr c3, ((a4.tr b3).tr c4).tr e2, Or.inr ⟨rfl, e3⟩⟩
    by_cases k60 : kiX c n (Tok c n i1) = 60
    · rw [ifp_t ((kX_iz J (by omega)).mpr k60), (u_hs (by omega) M (by unfold sgn; omega)).1 k60]
      simp only [bI_s]
      rw [ifp_f (by decide)]
      exact go 60 7 (by omega) k60
    · rw [ifp_f (fun y => k60 ((kX_iz J (by omega)).mp y)), (u_hs (by omega) M (by unfold sgn; omega)).2 k60]
      simp only [bI_s]
      rw [ifp_t (show iZ 0 = (0 : Int32) from rfl)]
      by_cases k61 : kiX c n (Tok c n i1) = 61
      · rw [ifp_t ((kX_iz J (by omega)).mpr k61), (u_hs (by omega) M (by unfold sgn; omega)).1 k61]
        simp only [bI_s]
        rw [ifp_f (by decide)]
        exact go 61 8 (by omega) k61
      · rw [ifp_f (fun y => k61 ((kX_iz J (by omega)).mp y)), (u_hs (by omega) M (by unfold sgn; omega)).2 k61]
        simp only [bI_s]
        rw [ifp_t (by rfl)]
        exact ⟨x1, m1, 1, rfl, rfl, a3, a4, Or.inl ⟨rfl, i1, ii, cl1, S1⟩⟩
  · subst r0
    obtain ⟨F', f1, f2, f3⟩ := F
    rw [ifp_t (by rfl), u_isF (by omega) f2]
    simp only [bI_s]
    rw [u_hsF (by omega) f2]
    simp only [bI_s]
    rw [ifp_t (by rfl), u_hsF (by omega) f2]
    simp only [bI_s]
    rw [ifp_t (by rfl)]
    exact ⟨x1, m1, 0, rfl, rfl, a3, a4, Or.inr ⟨rfl, F', f1, f2, f3⟩⟩
