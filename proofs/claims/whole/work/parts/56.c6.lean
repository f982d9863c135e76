/-! the class's crowd -/
theorem x_feel (d : Nat) {h : Hp} (X : SX h) {o : Nat} (t : TO o) {q co ca : Int → Int} (R : SR h o q) (V : VS q) (Lw : LX h o q co ca) {c : Nat} (hc : c ≤ 46) {s b la cr g : Int} (hC : hI h c = cFw s b la cr g) {r : Nat} (hr : r = 16 ∨ r = 47) (hcr : c ≠ 16) : ∃ P M, evm (d + 4) 8 [vR 0 c, vR 5 o, vR 20 r] h = some (none, wI (wI h (o + 9) P) r M) ∧ ∀ k, 0 ≤ k → k < q 8 → M k.toNat = iZ (wgt q co ca (q (9 + k)) la s b) := by
  have tt := t
  unfold TO at tt
  have vn := V.n
  have nr : hN h r = 6 := by rcases hr with rfl | rfl; exact X.n 16 6; exact X.n 47 6
  have loop : ∀ k, 0 ≤ k ∧ k ≤ q 8 → ∀ (P M : Nat → Int32), (∀ j, 0 ≤ j → j < k → M j.toNat = iZ (wgt q co ca (q (9 + j)) la s b)) → ∃ P' M', L_Climber_feelMoods_2 (d + 3) c o r (iZ k) (wI (wI h (o + 9) P) r M) = some (none, wI (wI h (o + 9) P') r M') ∧ ∀ k, 0 ≤ k → k < q 8 → M' k.toNat = iZ (wgt q co ca (q (9 + k)) la s b) := by
    refine lpZ (q 8) (fun k hk hb P M hM => ?_) (fun k hk ih hb P M hM => ?_)
    · have R' : SR (wI (wI h (o + 9) P) r M) o q := R.tr (fun r' r1 r2 => by rw [wI_n _ _ (by omega), wI_n _ _ (by omega)])
      rw [e_Climber_feelMoods_2, R'.n]
      simp (disch := omega) only [lit32, litJ, iz_add, iz_sub, iz_mul, iz_neg, nI_iz, ix_iz, inb_iz, ifp_t, ifp_f, ifp_T, ifp_F, iz_eq, iz_lt, bI_s, bL_s, bV_s, bR_s]
      exact ⟨P, M, rfl, fun j j1 j2 => hM j j1 (by omega)⟩
    · have R' : SR (wI (wI h (o + 9) P) r M) o q := R.tr (fun r' r1 r2 => by rw [wI_n _ _ (by omega), wI_n _ _ (by omega)])
      have X' : SX (wI (wI h (o + 9) P) r M) := X
      have L' : LX (wI (wI h (o + 9) P) r M) o q co ca := Lw.tr (by rw [wI_n _ _ (by omega), wI_n _ _ (by omega)]) (by rw [wI_n _ _ (by omega), wI_n _ _ (by omega)])
      have C' : hI (wI (wI h (o + 9) P) r M) c = cFw s b la cr g := by rw [wI_n _ _ (by omega), wI_n _ _ (by omega)]; exact hC
      have n' : hN (wI (wI h (o + 9) P) r M) r = 6 := nr
      obtain ⟨P1, e1⟩ := x_moodOf d X' t L' C' (z := q (9 + k))
      have n2 : hN (wI (wI (wI h (o + 9) P) r M) (o + 9) P1) r = 6 := nr
      rw [e_Climber_feelMoods_2, R'.n]
      simp (disch := omega) only [lit32, litJ, iz_add, iz_sub, iz_mul, iz_neg, nI_iz, ix_iz, inb_iz, ifp_t, ifp_f, ifp_T, ifp_F, iz_eq, iz_lt, bI_s, bL_s, bV_s, bR_s, n', X'.o0 t, X'.n1 t, R'.str hb.1 hk, e1, n2]
      rw [wI_c _ _ _ (show r ≠ o + 9 by omega), wI_wI, sI_wI]
      refine ih (by omega) _ _ (fun j j1 j2 => ?_)
      by_cases e : j = k
      · rw [e, up_e]
      · rw [up_n _ _ (by omega)]; exact hM j j1 (by omega)
  rw [e_Climber_feelMoods]
  have := loop 0 (by omega) (hI h (o + 9)) (hI h r) (fun j j1 j2 => by omega)
  rw [wI_self, wI_self] at this
  exact this
theorem x_keep (d : Nat) {h : Hp} (X : SX h) {o : Nat} (t : TO o) {q co ca : Int → Int} (R : SR h o q) (V : VS q) {c : Nat} (hc : c ≤ 46) {s l b cr g : Int} (hC : hI h c = cFw s b (stv q l) cr g) (n : Nd q s l (crC q cr) g b) (hcr : 0 ≤ cr ∧ cr ≤ 100) {r r' : Nat} (hr : r = 16 ∧ r' = 17 ∨ r = 47 ∧ r' = 47) (hc2 : c ≠ 16 ∧ c ≠ 17) (hM : ∀ k, 0 ≤ k → k < q 8 → hI h r k.toNat = iZ (wgt q co ca (q (9 + k)) (stv q l) s b)) : ∃ W, evm (d + 3) 9 [vR 0 c, vR 5 o, vR 20 r, vR 20 r'] h = some (some (vI (iZ (wAll q z0 co ca s l (crC q cr) g b))), wI h r' W) ∧ ∀ k, 0 ≤ k → k < q 8 → W k.toNat = iZ (Wt q z0 co ca s l (crC q cr) g b k) := by
  have tt := t
  unfold TO at tt
  have vn := V.n
  have v1 := V.top
  have mg := mxG_b V
  obtain ⟨n1, n2, n3, n4⟩ := n
  have lb := stv_b V n2
  have nr : hN h r = 6 := by rcases hr with ⟨rfl, _⟩ | ⟨rfl, _⟩; exact X.n 16 6; exact X.n 47 6
  have nr' : hN h r' = 6 := by rcases hr with ⟨_, rfl⟩ | ⟨_, rfl⟩; exact X.n 17 6; exact X.n 47 6
  have loop : ∀ k, 0 ≤ k ∧ k ≤ q 8 → ∀ (W : Nat → Int32), (∀ j, 0 ≤ j → j < k → W j.toNat = iZ (Wt q z0 co ca s l (crC q cr) g b j)) → (r = r' → ∀ j, k ≤ j → j < q 8 → W j.toNat = iZ (wgt q co ca (q (9 + j)) (stv q l) s b)) → ∃ W', L_Climber_keepPossible_6 (d + 2) c o r r' (iZ (sZ (Wt q z0 co ca s l (crC q cr) g b) k)) (iZ k) (wI h r' W) = some (some (vI (iZ (wAll q z0 co ca s l (crC q cr) g b))), wI h r' W') ∧ ∀ k, 0 ≤ k → k < q 8 → W' k.toNat = iZ (Wt q z0 co ca s l (crC q cr) g b k) := by
    refine lpZ (q 8) (fun k hk hb W hW hW2 => ?_) (fun k hk ih hb W hW hW2 => ?_)
    · have R' : SR (wI h r' W) o q := R.tr (fun r' r1 r2 => wI_n _ _ (by omega))
      rw [e_Climber_keepPossible_6, R'.n]
      simp (disch := omega) only [lit32, litJ, iz_add, iz_sub, iz_mul, iz_neg, nI_iz, ix_iz, inb_iz, ifp_t, ifp_f, ifp_T, ifp_F, iz_eq, iz_lt, bI_s, bL_s, bV_s, bR_s]
      rw [show k = q 8 by omega]
      exact ⟨W, rfl, fun j j1 j2 => hW j j1 (by omega)⟩
    · have R' : SR (wI h r' W) o q := R.tr (fun r' r1 r2 => wI_n _ _ (by omega))
      have X' : SX (wI h r' W) := X
      have C' : hI (wI h r' W) c = cFw s b (stv q l) cr g := by rw [wI_n _ _ (by omega)]; exact hC
      have m' : hN (wI h r' W) r = 6 := nr
      have m2 : ∀ W, hN (wI h r' W) r' = 6 := fun _ => nr'
      have vs := V.str hb.1 hk
      have ck := Can_k V z0 (s := s) (l := l) (cr := cr) (g := g) (b := b) (k := k) n2 ⟨hb.1, hk⟩
      have mk : hI (wI h r' W) r k.toNat = iZ (wgt q co ca (q (9 + k)) (stv q l) s b) := by
        by_cases e : r = r'
        · rw [e, wI_I]; exact hW2 e k (Int.le_refl _) hk
        · rw [wI_n _ _ e]; exact hM k hb.1 hk
      have wb := Wt_b q z0 co ca s l (crC q cr) g b k
      have fin : ∀ x : Int, x = Wt q z0 co ca s l (crC q cr) g b k → ∃ W', L_Climber_keepPossible_55 (d + 2) c o r r' (iZ (sZ (Wt q z0 co ca s l (crC q cr) g b) k)) (iZ k) (iZ x) (iZ k) r' (wI h r' W) = some (some (vI (iZ (wAll q z0 co ca s l (crC q cr) g b))), wI h r' W') ∧ ∀ k, 0 ≤ k → k < q 8 → W' k.toNat = iZ (Wt q z0 co ca s l (crC q cr) g b k) := by
        intro x hx
        rw [e_Climber_keepPossible_55]
        simp (disch := omega) only [lit32, litJ, iz_add, iz_sub, iz_mul, iz_neg, nI_iz, ix_iz, inb_iz, ifp_t, ifp_f, ifp_T, ifp_F, iz_eq, iz_lt, bI_s, bL_s, bV_s, bR_s, m2, sI_wI, wI_I, up_e]
        rw [hx, ← sZ_s _ hb.1]
        refine ih (by omega) _ (fun j j1 j2 => ?_) (fun e j j1 j2 => ?_)
        · by_cases e : j = k
          · rw [e, up_e]
          · rw [up_n _ _ (by omega)]; exact hW j j1 (by omega)
        · rw [up_n _ _ (by omega)]; exact hW2 e j (by omega) j2
      rw [e_Climber_keepPossible_6, R'.n]
      simp (disch := omega) only [lit32, litJ, iz_add, iz_sub, iz_mul, iz_neg, nI_iz, ix_iz, inb_iz, ifp_t, ifp_f, ifp_T, ifp_F, iz_eq, iz_lt, bI_s, bL_s, bV_s, bR_s, m', m2, X'.o0 t, X'.n1 t, R'.str hb.1 hk]
      rw [x_can d X' t R' V C' (by omega) (by omega) (by omega) lb (by omega) (by omega), bI_s]
      simp (disch := omega) only [lit32, litJ, iz_add, iz_sub, iz_mul, iz_neg, nI_iz, ix_iz, inb_iz, ifp_t, ifp_f, ifp_T, ifp_F, iz_eq, iz_lt, bI_s, bL_s, bV_s, bR_s, bZ_0, m', mk]
      by_cases hm : May q z0 False s l (crC q cr) g b k
      · rw [ifp_f (fun y => y (ck.mpr hm))]
        exact fin _ (by unfold Wt; rw [pif_t hm])
      · rw [ifp_t (fun y => hm (ck.mp y))]
        exact fin _ (by unfold Wt; rw [pif_f hm])
  rw [e_Climber_keepPossible]
  have := loop 0 (by omega) (hI h r') (fun j j1 j2 => by omega) (fun e j j1 j2 => by rw [← e]; exact hM j j1 j2)
  rw [wI_self, sZ_0 _ (Int.le_refl 0)] at this
  exact this
noncomputable def plT (q : Int → Int) (s l c g : Int) : Int := ((s * (q 8 + 1) + l) * (mxC q + 1) + c) * (mxG q + 1) + g
noncomputable def szT (q : Int → Int) : Int := q 0 * (q 8 + 1) * (mxC q + 1) * (mxG q + 1)
theorem plT_b {q : Int → Int} {s l c g : Int} (hs : 0 ≤ s ∧ s < q 0) (hl : 0 ≤ l ∧ l ≤ q 8) (hc : 0 ≤ c ∧ c ≤ mxC q) (hg : 0 ≤ g ∧ g ≤ mxG q) : 0 ≤ plT q s l c g ∧ plT q s l c g < szT q := by
  have e1 := mr hs.1 hs.2 hl.1 (show l < q 8 + 1 by omega)
  have e2 := mr (x := c) (n := mxC q + 1) e1.1 e1.2 hc.1 (by omega)
  exact mr (x := g) (n := mxG q + 1) e2.1 e2.2 hg.1 (by omega)
theorem szT_b {q : Int → Int} (V : VS q) : 1 ≤ szT q ∧ szT q ≤ 7000 := by
  have v := V.top
  have b := V.n
  have c := mxC_b V
  have e := mxG_b V
  unfold szT
  have h1 : 1 ≤ q 0 * (q 8 + 1) ∧ q 0 * (q 8 + 1) ≤ 40 * 7 := ⟨by have := Int.mul_le_mul v.1 (show 1 ≤ q 8 + 1 by omega) (by omega) (by omega); omega, Int.mul_le_mul v.2 (by omega) (by omega) (by omega)⟩
  have h2 : 1 ≤ q 0 * (q 8 + 1) * (mxC q + 1) ∧ q 0 * (q 8 + 1) * (mxC q + 1) ≤ 40 * 7 * 5 := ⟨by have := Int.mul_le_mul h1.1 (show 1 ≤ mxC q + 1 by omega) (by omega) (by omega); omega, Int.mul_le_mul h1.2 (by omega) (by omega) (by omega)⟩
  exact ⟨by have := Int.mul_le_mul h2.1 (show 1 ≤ mxG q + 1 by omega) (by omega) (by omega); omega, Int.mul_le_mul h2.2 (show mxG q + 1 ≤ 5 by omega) (by omega) (by omega)⟩
theorem plT_i {q : Int → Int} {s l c g s' l' c' g' : Int} (hl : 0 ≤ l ∧ l ≤ q 8) (hc : 0 ≤ c ∧ c ≤ mxC q) (hg : 0 ≤ g ∧ g ≤ mxG q) (hl' : 0 ≤ l' ∧ l' ≤ q 8) (hc' : 0 ≤ c' ∧ c' ≤ mxC q) (hg' : 0 ≤ g' ∧ g' ≤ mxG q) (e : plT q s l c g = plT q s' l' c' g') : s = s' ∧ l = l' ∧ c = c' ∧ g = g' := by
  unfold plT at e
  obtain ⟨e1, e2⟩ := mri (by omega) (by omega) e
  obtain ⟨e3, e4⟩ := mri (by omega) (by omega) e1
  obtain ⟨e5, e6⟩ := mri (by omega) (by omega) e3
  exact ⟨e5, e6, e4, e2⟩
/-- the class's kinds for a crowd -/
def TB (h : Hp) (q : Int → Int) : Prop := hI h 12 8 = iZ (q 8 + 1) ∧ hI h 12 9 = iZ (mxC q + 1) ∧ hI h 12 10 = iZ (mxG q + 1)
theorem pl_stv {h : Hp} {o : Nat} {q : Int → Int} (R : SR h o q) {l : Int} (hl : 0 ≤ l ∧ l ≤ q 8) : hI h (o + 2) (stv q l).toNat = iZ l := by
  unfold stv
  by_cases h0 : l ≤ 0
  · rw [if_pos h0, show l = 0 by omega]; exact R.pl0
  · rw [if_neg h0]
    have := R.pl (k := l - 1) (by omega) (by omega)
    rw [this]; congr 1; omega
theorem x_placeT (d : Nat) {h : Hp} (X : SX h) {o : Nat} (t : TO o) {q : Int → Int} (R : SR h o q) (V : VS q) (B : TB h q) {c : Nat} {s l cr g b : Int} (hc : hI h c = cFw s b (stv q l) cr g) (hl : 0 ≤ l ∧ l ≤ q 8) (h3 : 0 ≤ crC q cr ∧ crC q cr ≤ mxC q) (h4 : 0 ≤ g ∧ g ≤ mxG q) : evm (d + 1) 81 [vR 9 12, vR 5 o, vR 0 c] h = some (some (vI (iZ (plT q s l (crC q cr) g))), h) := by
  have c1 : hI h c 1 = iZ s := by rw [hc]; rfl
  have c3 : hI h c 3 = iZ (stv q l) := by rw [hc]; rfl
  have c4 : hI h c 4 = iZ cr := by rw [hc]; rfl
  have c5 : hI h c 5 = iZ g := by rw [hc]; rfl
  obtain ⟨b1, b2, b3⟩ := B
  have lb := stv_b V hl
  have mc := mxC_b V
  have mg := mxG_b V
  have pp := pl_stv R hl
  have tail2 : ∀ y c' : Int, c' = crC q cr → L_Throng_placeOf_60 d 12 c (iZ c') (iZ y) h = some (some (vI (iZ ((y + crC q cr) * (mxG q + 1) + g))), h) := by
    intro y c' hcc
    rw [e_Throng_placeOf_60, b3, c5, hcc]
    simp (disch := omega) only [lit32, litJ, iz_add, iz_sub, iz_mul, iz_neg, nI_iz, ix_iz, inb_iz, ifp_t, ifp_f, ifp_T, ifp_F, iz_eq, iz_lt, bI_s, bL_s, bV_s, bR_s]
    refine ifp_r (fun _ => rfl) (fun y => ri_e ?_)
    rw [show g = 0 by omega]
  rw [e_Throng_placeOf, c1, c3, c4, b1, b2]
  simp (disch := omega) only [lit32, litJ, iz_add, iz_sub, iz_mul, iz_neg, nI_iz, ix_iz, inb_iz, ifp_t, ifp_f, ifp_T, ifp_F, iz_eq, iz_lt, bI_s, bL_s, bV_s, bR_s, X.o1 t, X.n2 t, pp]
  refine ifp_r (fun h1 => tail2 _ _ ?_) (fun h1 => tail2 _ _ ?_)
  · unfold crC; unfold mxC at h1
    by_cases h2 : q 1 < 0
    · rw [if_pos h2] at h1; omega
    · rw [if_neg h2]
  · omega
