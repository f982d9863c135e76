/-! the class's two -/
noncomputable def umX (q : Int → Int) (u k : Int) : Int := pif (k < nu q u) (um q u k) (-1)
noncomputable def dwX (q : Int → Int) (w k : Int) : Int := pif (k < nd' q w) (dwn q w k) (-1)
theorem x_movedU (d : Nat) {h : Hp} (X : SX h) {o : Nat} (t : TO o) {q : Int → Int} (R : SR h o q) (V : VS q) {u k : Int} (hu : 0 ≤ u ∧ u ≤ q 0) (hk : 0 ≤ k ∧ k < q 8) : evm (d + 1) 19 [vR 5 o, vI (iZ u), vI (iZ k), vI (iZ (q 0))] h = some (some (vI (iZ (umX q u k))), h) := by
  have v1 := V.top
  have vn := V.n
  have vs := V.str hk.1 hk.2
  rw [e_Pair_moved]
  simp (disch := omega) only [lit32, litJ, iz_add, iz_sub, iz_mul, iz_neg, nI_iz, ix_iz, inb_iz, ifp_t, ifp_f, ifp_T, ifp_F, iz_eq, iz_lt, bI_s, bL_s, bV_s, bR_s, X.o0 t, X.n1 t, R.str hk.1 hk.2]
  unfold umX um nu
  refine ifp_r (fun c => ?_) (fun c => ?_)
  · rw [if_pos c, if_pos c]
    exact ifp_r (fun c2 => ri_e (by rw [pif_t (by omega)])) (fun c2 => ri_e (by rw [pif_f (by omega)]))
  · rw [if_neg c, if_neg c, pif_t hk.2, e_Pair_moved_38]
    simp (disch := omega) only [lit32, litJ, iz_add, iz_sub, iz_mul, iz_neg, nI_iz, ix_iz, inb_iz, ifp_t, ifp_f, ifp_T, ifp_F, iz_eq, iz_lt, bI_s, bL_s, bV_s, bR_s, R.top, X.o2 t, X.n3 t]
    refine ifp_r (fun c2 => ri_e (by rw [pif_f (by omega)])) (fun c2 => ?_)
    have kb := V.kin (s := u + q (9 + k)) (by omega) (by omega)
    simp (disch := omega) only [lit32, litJ, iz_add, iz_sub, iz_mul, iz_neg, nI_iz, ix_iz, inb_iz, ifp_t, ifp_f, ifp_T, ifp_F, iz_eq, iz_lt, bI_s, bL_s, bV_s, bR_s, R.kin (s := u + q (9 + k)) (by omega) (by omega)]
    exact ifp_r (fun c3 => ri_e (by rw [pif_f (fun z => z.2 c3)])) (fun c3 => ri_e (by rw [pif_t ⟨by omega, c3⟩]))
theorem x_movedD (d : Nat) {h : Hp} (X : SX h) {o : Nat} (t : TO o) {q : Int → Int} (R : SR h o q) (V : VS q) {u k : Int} (hu : 0 ≤ u ∧ u ≤ q 0) (hk : 0 ≤ k ∧ k < q 8) : evm (d + 1) 19 [vR 5 o, vI (iZ u), vI (iZ k), vI (iZ 0)] h = some (some (vI (iZ (dwX q u k))), h) := by
  have v1 := V.top
  have vn := V.n
  have vs := V.str hk.1 hk.2
  rw [e_Pair_moved]
  simp (disch := omega) only [lit32, litJ, iz_add, iz_sub, iz_mul, iz_neg, nI_iz, ix_iz, inb_iz, ifp_t, ifp_f, ifp_T, ifp_F, iz_eq, iz_lt, bI_s, bL_s, bV_s, bR_s, X.o0 t, X.n1 t, R.str hk.1 hk.2]
  unfold dwX dwn nd'
  refine ifp_r (fun c => ?_) (fun c => ?_)
  · rw [if_pos c, if_pos c]
    exact ifp_r (fun c2 => ri_e (by rw [pif_t (by omega)]; exact c)) (fun c2 => ri_e (by rw [pif_f (by omega)]))
  · rw [if_neg c, if_neg c, pif_t hk.2, e_Pair_moved_38]
    simp (disch := omega) only [lit32, litJ, iz_add, iz_sub, iz_mul, iz_neg, nI_iz, ix_iz, inb_iz, ifp_t, ifp_f, ifp_T, ifp_F, iz_eq, iz_lt, bI_s, bL_s, bV_s, bR_s, R.top, X.o2 t, X.n3 t]
    refine ifp_r (fun c2 => ri_e (by rw [pif_f (by omega)])) (fun c2 => ?_)
    have kb := V.kin (s := u - q (9 + k)) (by omega) (by omega)
    simp (disch := omega) only [lit32, litJ, iz_add, iz_sub, iz_mul, iz_neg, nI_iz, ix_iz, inb_iz, ifp_t, ifp_f, ifp_T, ifp_F, iz_eq, iz_lt, bI_s, bL_s, bV_s, bR_s, R.kin (s := u - q (9 + k)) (by omega) (by omega)]
    exact ifp_r (fun c3 => ri_e (by rw [pif_f (fun z => z.2 c3)])) (fun c3 => ri_e (by rw [pif_t ⟨by omega, c3⟩]))
noncomputable def Sg (q : Int → Int) (Pr : Int → Int → Prop) (mt : Nat → Int) : Int := sZ (fun u => sZ (fun w => pif (Pr u w) 0 (mt (25 * u + w).toNat * Bt q u w)) (q 0 + 1)) (q 0 + 1)
def PrU (q : Int → Int) (U W : Int) (u w : Int) : Prop := (u < U ∨ (u = U ∧ W ≤ w)) ∧ ¬ (u = q 0 ∧ w = 0)
theorem Sg_up {q : Int → Int} (h24 : q 0 ≤ 24) {Pr : Int → Int → Prop} {mt : Nat → Int} {u w n : Int} (hu : 0 ≤ u ∧ u ≤ q 0) (hw : 0 ≤ w ∧ w ≤ q 0) (np : ¬ Pr u w) : Sg q Pr (fun i => if i = (25 * u + w).toNat then mt i + n else mt i) = Sg q Pr mt + n * Bt q u w := by
  unfold Sg
  refine sZ_up (i := u) (by omega) ?_ ?_
  · refine sZ_up (i := w) (by omega) ?_ ?_
    · dsimp only
      rw [pif_f np, pif_f np, if_pos rfl, Int.add_mul]
    · intro k k1 k2 hk
      dsimp only
      rw [if_neg (by omega)]
  · intro k k1 k2 hk
    refine sZ_c fun j j1 j2 => ?_
    dsimp only
    rw [if_neg (by omega)]
theorem Sg_c {q : Int → Int} {Pr Pr' : Int → Int → Prop} {mt : Nat → Int} (h : ∀ u w, 0 ≤ u → u ≤ q 0 → 0 ≤ w → w ≤ q 0 → (Pr u w ↔ Pr' u w)) : Sg q Pr mt = Sg q Pr' mt := sZ_c fun u u1 u2 => sZ_c fun w w1 w2 => pif_c (h u w u1 (by omega) w1 (by omega)) (fun _ => rfl) (fun _ => rfl)
theorem Sg_m {q : Int → Int} {U W : Int} {mt : Nat → Int} (hU : 0 ≤ U ∧ U ≤ q 0) (hW : 0 ≤ W ∧ W ≤ q 0) (hne : ¬ (U = q 0 ∧ W = 0)) : Sg q (PrU q U (W + 1)) mt = Sg q (PrU q U W) mt + mt (25 * U + W).toNat * Bt q U W := by
  unfold Sg
  refine sZ_up (i := U) (by omega) ?_ ?_
  · refine sZ_up (i := W) (by omega) ?_ ?_
    · rw [pif_f (by unfold PrU; omega), pif_t (by unfold PrU; omega), Int.zero_add]
    · intro k k1 k2 hk
      exact pif_c (by unfold PrU; omega) (fun _ => rfl) (fun _ => rfl)
  · intro k k1 k2 hk
    refine sZ_c fun j j1 j2 => pif_c (by unfold PrU; omega) (fun _ => rfl) (fun _ => rfl)
theorem lg_0 {x : Int64} : lg_cmp x (jZ 0) = iZ 0 ↔ x = jZ 0 := by
  obtain ⟨a, a1, a2, rfl⟩ := jz_of x
  rw [cmp_eq (by omega), jz_eq (by omega)]
noncomputable def BxX (q : Int → Int) (u w i k : Int) : Int := pif (0 ≤ umX q u i ∧ 0 ≤ dwX q w k ∧ umX q u i ≠ dwX q w k) (Bt q (umX q u i) (dwX q w k)) 0
theorem BxX_s {q : Int → Int} (V : VS q) {u w : Int} : sZ (fun i => sZ (fun k => BxX q u w i k) (q 8)) (q 8) = sZ (fun j => sZ (fun m => Bx q u w j m) (nd' q w)) (nu q u) := by
  have vn := V.n
  have n1 : 0 ≤ nu q u ∧ nu q u ≤ q 8 := by unfold nu; split <;> omega
  have n2 : 0 ≤ nd' q w ∧ nd' q w ≤ q 8 := by unfold nd'; split <;> omega
  have z1 : ∀ i, nu q u ≤ i → i < q 8 → sZ (fun k => BxX q u w i k) (q 8) = 0 := fun i i1 i2 => sZ_z fun k _ _ => pif_f (fun z => by
    have : umX q u i = -1 := pif_f (by omega)
    omega)
  have z2 : ∀ i k, nd' q w ≤ k → k < q 8 → BxX q u w i k = 0 := fun i k k1 k2 => pif_f (fun z => by
    have : dwX q w k = -1 := pif_f (by omega)
    omega)
  rw [sZ_x n1.1 n1.2 z1]
  refine sZ_c fun i i1 i2 => ?_
  rw [sZ_x n2.1 n2.2 (z2 i)]
  refine sZ_c fun k k1 k2 => ?_
  unfold BxX Bx
  have a : umX q u i = um q u i := pif_t i2
  have b : dwX q w k = dwn q w k := pif_t k2
  rw [a, b]
theorem x_beat (d : Nat) {h : Hp} (X : SX h) {o : Nat} (t : TO o) {q : Int → Int} (R : SR h o q) (V : VS q) (h24 : q 0 ≤ 24) {P : Nat} (hP : hR h 23 0 = some P) (hn : hN h P = 625) {U W : Int} (hU : 0 ≤ U ∧ U ≤ q 0) (hW : 0 ≤ W ∧ W ≤ q 0) {mt : Nat → Int} {tot : Int} (hS : jZ (Sg q (PrU q U (W + 1)) mt) = jZ tot) : ∃ mt', evm (d + 2) 18 [vR 3 23, vR 5 o, vI (iZ U), vI (iZ W)] (wL h P (fun i => jZ (mt i))) = some (none, wL h P (fun i => jZ (mt' i))) ∧ jZ (Sg q (PrU q U W) mt') = jZ tot := by
  have v1 := V.top
  have vn := V.n
  have X' : ∀ {T}, SX (wL h P T) := fun {_} => X
  have R' : ∀ {T}, SR (wL h P T) o q := fun {_} => R
  have P' : ∀ {T}, hR (wL h P T) 23 0 = some P := fun {_} => hP
  have N' : ∀ {T}, hN (wL h P T) P = 625 := fun {_} => hn
  have move : ¬ (U = q 0 ∧ W = 0) → ∃ mt', L_Pair_beat_36 (d + 1) 23 o (iZ U) (iZ W) (jZ (mt (25 * U + W).toNat)) (iZ 0) (wL h P (fun i => jZ (mt i))) = some (none, wL h P (fun i => jZ (mt' i))) ∧ jZ (Sg q (PrU q U W) mt') = jZ tot := by
    intro hne
    have be := Bt_e V hU hW
    rw [pif_f hne, ← BxX_s V] at be
    have sm := Sg_m (mt := mt) hU hW hne
    have goal : ∀ S : Int, S = Sg q (PrU q U W) mt + mt (25 * U + W).toNat * Bt q U W → jZ S = jZ tot := fun S hS' => by rw [hS', ← sm]; exact hS
    have l36 : ∀ i : Int, 0 ≤ i ∧ i ≤ q 8 → ∀ mt1 : Nat → Int, Sg q (PrU q U W) mt1 = Sg q (PrU q U W) mt + mt (25 * U + W).toNat * sZ (fun i => sZ (fun k => BxX q U W i k) (q 8)) i → ∃ mt', L_Pair_beat_36 (d + 1) 23 o (iZ U) (iZ W) (jZ (mt (25 * U + W).toNat)) (iZ i) (wL h P (fun i => jZ (mt1 i))) = some (none, wL h P (fun i => jZ (mt' i))) ∧ jZ (Sg q (PrU q U W) mt') = jZ tot := by
      refine lpZ (q 8) (fun i hi hib mt1 h1 => ?_) (fun i hi ih hib mt1 h1 => ?_)
      · rw [e_Pair_beat_36, R'.n]
        simp (disch := omega) only [lit32, litJ, iz_add, iz_sub, iz_mul, iz_neg, nI_iz, ix_iz, inb_iz, ifp_t, ifp_f, ifp_T, ifp_F, iz_eq, iz_lt, bI_s, bL_s, bV_s, bR_s]
        refine ⟨mt1, rfl, goal _ ?_⟩
        rw [h1, show i = q 8 by omega, ← be]
      · have ub : umX q U i = -1 ∨ (U ≤ umX q U i ∧ umX q U i ≤ q 0 ∧ (U < q 0 → U < umX q U i)) := by
          unfold umX
          by_cases c : i < nu q U
          · rw [pif_t c]; exact um_b V hU ⟨hib.1, c⟩
          · rw [pif_f c]; exact Or.inl rfl
        have l61 : ∀ k : Int, 0 ≤ k ∧ k ≤ q 8 → ∀ mt1 : Nat → Int, Sg q (PrU q U W) mt1 = Sg q (PrU q U W) mt + mt (25 * U + W).toNat * (sZ (fun i => sZ (fun k => BxX q U W i k) (q 8)) i + sZ (fun k => BxX q U W i k) k) → ∃ mt', L_Pair_beat_61 (d + 1) 23 o (iZ U) (iZ W) (jZ (mt (25 * U + W).toNat)) (iZ i) (iZ (umX q U i)) (iZ k) (wL h P (fun i => jZ (mt1 i))) = some (none, wL h P (fun i => jZ (mt' i))) ∧ jZ (Sg q (PrU q U W) mt') = jZ tot := by
          refine lpZ (q 8) (fun k hk hkb mt1 h1 => ?_) (fun k hk ihk hkb mt1 h1 => ?_)
          · rw [e_Pair_beat_61, R'.n]
            simp (disch := omega) only [lit32, litJ, iz_add, iz_sub, iz_mul, iz_neg, nI_iz, ix_iz, inb_iz, ifp_t, ifp_f, ifp_T, ifp_F, iz_eq, iz_lt, bI_s, bL_s, bV_s, bR_s]
            refine ih (by omega) mt1 ?_
            rw [h1, show k = q 8 by omega, sZ_s _ hib.1]
          · have db : dwX q W k = -1 ∨ (0 ≤ dwX q W k ∧ dwX q W k ≤ W ∧ (0 < W → dwX q W k < W)) := by
              unfold dwX
              by_cases c : k < nd' q W
              · rw [pif_t c]; exact dwn_b V hW ⟨hkb.1, c⟩
              · rw [pif_f c]; exact Or.inl rfl
            rw [e_Pair_beat_61, R'.n]
            simp (disch := omega) only [lit32, litJ, iz_add, iz_sub, iz_mul, iz_neg, nI_iz, ix_iz, inb_iz, ifp_t, ifp_f, ifp_T, ifp_F, iz_eq, iz_lt, bI_s, bL_s, bV_s, bR_s]
            by_cases c0 : umX q U i = -1
            · rw [ifp_t c0]
              refine ih (by omega) mt1 ?_
              rw [h1, sZ_s _ hib.1]
              have z1 : sZ (fun k => BxX q U W i k) k = 0 := sZ_z fun k _ _ => pif_f (fun z => by omega)
              have z2 : sZ (fun k => BxX q U W i k) (q 8) = 0 := sZ_z fun k _ _ => pif_f (fun z => by omega)
              rw [z1, z2]
            · rw [ifp_f c0, x_movedD d X' t R' V hW ⟨hkb.1, hk⟩, bI_s]
              simp (disch := omega) only [lit32, litJ, iz_add, iz_sub, iz_mul, iz_neg, nI_iz, ix_iz, inb_iz, ifp_t, ifp_f, ifp_T, ifp_F, iz_eq, iz_lt, bI_s, bL_s, bV_s, bR_s]
              have skip : BxX q U W i k = 0 → ∃ mt', L_Pair_beat_61 (d + 1) 23 o (iZ U) (iZ W) (jZ (mt (25 * U + W).toNat)) (iZ i) (iZ (umX q U i)) (iZ (k + 1)) (wL h P (fun i => jZ (mt1 i))) = some (none, wL h P (fun i => jZ (mt' i))) ∧ jZ (Sg q (PrU q U W) mt') = jZ tot := fun hb => ihk (by omega) mt1 (by rw [h1, sZ_s _ hkb.1, hb, Int.add_zero])
              by_cases c1 : dwX q W k = -1
              · rw [ifp_t c1]
                exact skip (pif_f (fun z => by omega))
              · rw [ifp_f c1]
                by_cases c2 : dwX q W k = umX q U i
                · rw [ifp_t c2]
                  exact skip (pif_f (fun z => z.2.2 c2.symm))
                · rw [ifp_f c2]
                  simp (disch := omega) only [lit32, litJ, iz_add, iz_sub, iz_mul, iz_neg, nI_iz, ix_iz, inb_iz, ifp_t, ifp_f, ifp_T, ifp_F, iz_eq, iz_lt, bI_s, bL_s, bV_s, bR_s, P', N', wL_L, sL_wL, jz_add]
                  have hb : BxX q U W i k = Bt q (umX q U i) (dwX q W k) := pif_t ⟨by omega, by omega, fun z => c2 z.symm⟩
                  have eT : up (fun i => jZ (mt1 i)) (umX q U i * 25 + dwX q W k).toNat (jZ (mt1 (umX q U i * 25 + dwX q W k).toNat + mt (25 * U + W).toNat)) = fun i_1 => jZ ((fun j => if j = (25 * umX q U i + dwX q W k).toNat then mt1 j + mt (25 * U + W).toNat else mt1 j) i_1) := by
                    funext j
                    unfold up
                    by_cases e : j = (umX q U i * 25 + dwX q W k).toNat
                    · rw [if_pos e]
                      show _ = jZ (if j = (25 * umX q U i + dwX q W k).toNat then _ else _)
                      rw [if_pos (by omega), e]
                    · rw [if_neg e]
                      show _ = jZ (if j = (25 * umX q U i + dwX q W k).toNat then _ else _)
                      rw [if_neg (by omega)]
                  rw [eT]
                  refine ihk (by omega) _ ?_
                  rw [Sg_up h24 (by omega) (by omega) (by unfold PrU; omega), h1, sZ_s _ hkb.1, hb, ← Int.add_assoc, Int.mul_add, Int.mul_add, Int.mul_add]
                  omega
        rw [e_Pair_beat_36, R'.n, R'.top]
        simp (disch := omega) only [lit32, litJ, iz_add, iz_sub, iz_mul, iz_neg, nI_iz, ix_iz, inb_iz, ifp_t, ifp_f, ifp_T, ifp_F, iz_eq, iz_lt, bI_s, bL_s, bV_s, bR_s]
        rw [x_movedU d X' t R' V hU ⟨hib.1, hi⟩, bI_s]
        refine l61 0 (by omega) mt1 ?_
        rw [h1, sZ_0 (fun k => BxX q U W i k) (Int.le_refl 0), Int.add_zero]
    refine l36 0 (by omega) mt ?_
    rw [sZ_0 _ (Int.le_refl 0), Int.mul_zero, Int.add_zero]
  rw [e_Pair_beat]
  simp (disch := omega) only [lit32, litJ, iz_add, iz_sub, iz_mul, iz_neg, nI_iz, ix_iz, inb_iz, ifp_t, ifp_f, ifp_T, ifp_F, iz_eq, iz_lt, bI_s, bL_s, bV_s, bR_s, P', N', wL_L, R'.top]
  rw [show U * 25 + W = 25 * U + W by omega, ifp_n lg_0]
  by_cases c0 : jZ (mt (25 * U + W).toNat) = jZ 0
  · rw [ifp_t c0]
    refine ⟨mt, rfl, ?_⟩
    by_cases hne : U = q 0 ∧ W = 0
    · rw [Sg_c (Pr' := PrU q U (W + 1)) (fun u w u1 u2 w1 w2 => by unfold PrU; omega)]
      exact hS
    · rw [Sg_m hU hW hne, ← jz_add, ← jz_mul, c0, jz_mul, Int.zero_mul, j64_0] at hS
      exact hS
  · rw [ifp_f c0]
    by_cases c1 : U = q 0
    · rw [ifp_t c1]
      by_cases c2 : W = 0
      · rw [ifp_t c2]
        refine ⟨mt, rfl, ?_⟩
        rw [Sg_c (Pr' := PrU q U (W + 1)) (fun u w u1 u2 w1 w2 => by unfold PrU; omega)]
        exact hS
      · rw [ifp_f c2]
        exact move (fun z => c2 z.2)
    · rw [ifp_f c1]
      exact move (fun z => c1 z.1)
/-- what two leave -/
def Pup (h h' : Hp) (P P' : Nat) : Prop := hI h' = hI h ∨ (∀ r, Dm h r → hI h' r = hI h r)
theorem x_pairs (d : Nat) {h : Hp} (X : SX h) {o : Nat} (t : TO o) {q : Int → Int} (R : SR h o q) (V : VS q) (h24 : q 0 ≤ 24) {P : Nat} (hP : hR h 23 0 = some P) (hn : hN h P = 0 ∨ hN h P = 625) (hc : P < hC h ∧ 92 < hC h ∧ hC h < 999999) : ∃ h' P', evm (d + 3) 17 [vR 3 23, vR 5 o] h = some (some (vL (jZ (Bt q 0 (q 0)))), h') ∧ (∀ r, Dm h r → hI h' r = hI h r) ∧ (∀ r, Dm h r → r ≠ P' → hL h' r = hL h r) ∧ (∀ r k, Dm h r → ¬ (r = 23 ∧ k = 0) → hR h' r k = hR h r k) ∧ (∀ r, Dm h r → hN h' r = hN h r) ∧ hR h' 23 0 = some P' ∧ hN h' P' = 625 ∧ ((P' = P ∧ hC h' = hC h ∧ hS h' = hS h) ∨ (P' = hC h ∧ hC h' = hC h + 1 ∧ hS h' = hS h + 625 ∧ hN h P = 0)) := by
  have v1 := V.top
  have vn := V.n
  have main : ∀ (g : Hp) (P : Nat), SX g → SR g o q → hR g 23 0 = some P → hN g P = 625 → ∃ T, L_Pair_pairs_32 (d + 2) 23 o (iZ 0) g = some (some (vL (jZ (Bt q 0 (q 0)))), wL g P T) := by
    intro g P Xg Rg hPg hng
    have X' : ∀ {T}, SX (wL g P T) := fun {_} => Xg
    have R' : ∀ {T}, SR (wL g P T) o q := fun {_} => Rg
    have P' : ∀ {T}, hR (wL g P T) 23 0 = some P := fun {_} => hPg
    have N' : ∀ {T}, hN (wL g P T) P = 625 := fun {_} => hng
    have l66 : ∀ U : Int, 0 ≤ U ∧ U ≤ q 0 + 1 → ∀ mt : Nat → Int, jZ (Sg q (PrU q U (q 0 + 1)) mt) = jZ (Bt q 0 (q 0)) → ∃ T, L_Pair_pairs_66 (d + 2) 23 o (iZ U) (wL g P (fun i => jZ (mt i))) = some (some (vL (jZ (Bt q 0 (q 0)))), wL g P T) := by
      refine lpZ (q 0 + 1) (fun U hU hUb mt hS => ?_) (fun U hU ih hUb mt hS => ?_)
      · rw [e_Pair_pairs_66, R'.top]
        simp (disch := omega) only [lit32, litJ, iz_add, iz_sub, iz_mul, iz_neg, nI_iz, ix_iz, inb_iz, ifp_t, ifp_f, ifp_T, ifp_F, iz_eq, iz_lt, bI_s, bL_s, bV_s, bR_s, P', N', wL_L]
        refine ⟨fun i => jZ (mt i), ?_⟩
        rw [← hS]
        have e1 : Sg q (PrU q U (q 0 + 1)) mt = mt (q 0 * 25).toNat := by
          unfold Sg
          rw [sZ_o (i := q 0) (by omega) (fun u u1 u2 hu => sZ_z fun w w1 w2 => pif_t (by unfold PrU; omega)), sZ_o (i := 0) (by omega) (fun w w1 w2 hw => pif_t (by unfold PrU; omega)), pif_f (by unfold PrU; omega), Bt_e V (by omega) (by omega), pif_t ⟨rfl, rfl⟩, Int.mul_one, show 25 * q 0 + 0 = q 0 * 25 by omega]
        rw [e1]
      · have l79 : ∀ W : Int, -1 ≤ W ∧ W ≤ q 0 → ∀ mt : Nat → Int, jZ (Sg q (PrU q U (W + 1)) mt) = jZ (Bt q 0 (q 0)) → ∃ T, L_Pair_pairs_79 (d + 2) 23 o (iZ U) (iZ W) (wL g P (fun i => jZ (mt i))) = some (some (vL (jZ (Bt q 0 (q 0)))), wL g P T) := by
          refine lpD (fun W hW hWb mt hS => ?_) (fun W hW ihW hWb mt hS => ?_)
          · rw [e_Pair_pairs_79]
            simp (disch := omega) only [lit32, litJ, iz_add, iz_sub, iz_mul, iz_neg, nI_iz, ix_iz, inb_iz, ifp_t, ifp_f, ifp_T, ifp_F, iz_eq, iz_lt, bI_s, bL_s, bV_s, bR_s]
            refine ih (by omega) mt ?_
            rw [← hS]
            exact congrArg jZ (Sg_c (fun u w u1 u2 w1 w2 => by unfold PrU; omega))
          · rw [e_Pair_pairs_79]
            simp (disch := omega) only [lit32, litJ, iz_add, iz_sub, iz_mul, iz_neg, nI_iz, ix_iz, inb_iz, ifp_t, ifp_f, ifp_T, ifp_F, iz_eq, iz_lt, bI_s, bL_s, bV_s, bR_s]
            obtain ⟨mt', b1, b2⟩ := x_beat d Xg t Rg V h24 hPg hng (U := U) (W := W) (by omega) (by omega) hS
            rw [b1, bV_s, show W + -1 = W - 1 by omega]
            exact ihW (by omega) mt' (by rw [show W - 1 + 1 = W by omega]; exact b2)
        rw [e_Pair_pairs_66, R'.top]
        simp (disch := omega) only [lit32, litJ, iz_add, iz_sub, iz_mul, iz_neg, nI_iz, ix_iz, inb_iz, ifp_t, ifp_f, ifp_T, ifp_F, iz_eq, iz_lt, bI_s, bL_s, bV_s, bR_s]
        exact l79 (q 0) (by omega) mt hS
    have l32 : ∀ i : Int, 0 ≤ i ∧ i ≤ 625 → ∀ T : Nat → Int64, (∀ j : Nat, (j : Int) < i → T j = jZ 0) → ∃ T', L_Pair_pairs_32 (d + 2) 23 o (iZ i) (wL g P T) = some (some (vL (jZ (Bt q 0 (q 0)))), wL g P T') := by
      refine lpZ 625 (fun i hi hib T hT => ?_) (fun i hi ih hib T hT => ?_)
      · rw [e_Pair_pairs_32, R'.top]
        simp (disch := omega) only [lit32, litJ, iz_add, iz_sub, iz_mul, iz_neg, nI_iz, ix_iz, inb_iz, ifp_t, ifp_f, ifp_T, ifp_F, iz_eq, iz_lt, bI_s, bL_s, bV_s, bR_s, P', N', sL_wL]
        have eT : up T (q 0).toNat (jZ 1) = fun j => jZ ((fun j => if j = (q 0).toNat then 1 else if j < 625 then 0 else (T j).toInt) j) := by
          funext j
          show _ = jZ (if j = (q 0).toNat then 1 else if j < 625 then 0 else (T j).toInt)
          unfold up
          by_cases e : j = (q 0).toNat
          · rw [if_pos e, if_pos e]
          · rw [if_neg e, if_neg e]
            by_cases e2 : j < 625
            · rw [if_pos e2, hT j (by omega)]
            · rw [if_neg e2]; exact (Int64.ofInt_toInt _).symm
        rw [eT]
        refine l66 0 (by omega) _ (congrArg jZ ?_)
        unfold Sg
        dsimp only
        have zz : ∀ u w, 0 ≤ u → u < q 0 + 1 → 0 ≤ w → w < q 0 + 1 → ¬ (u = 0 ∧ w = q 0) → pif (PrU q 0 (q 0 + 1) u w) 0 ((if (25 * u + w).toNat = (q 0).toNat then 1 else if (25 * u + w).toNat < 625 then 0 else (T (25 * u + w).toNat).toInt) * Bt q u w) = 0 := by
          intro u w u1 u2 w1 w2 hne
          by_cases c : PrU q 0 (q 0 + 1) u w
          · rw [pif_t c]
          · rw [pif_f c, if_neg (by omega), if_pos (by omega), Int.zero_mul]
        rw [sZ_o (i := 0) (by omega) (fun u u1 u2 hu => sZ_z fun w w1 w2 => zz u w u1 u2 w1 w2 (by omega)), sZ_o (i := q 0) (by omega) (fun w w1 w2 hw => zz 0 w (by omega) (by omega) w1 w2 (by omega)), pif_f (by unfold PrU; omega), if_pos (by omega), Int.one_mul]
      · rw [e_Pair_pairs_32]
        simp (disch := omega) only [lit32, litJ, iz_add, iz_sub, iz_mul, iz_neg, nI_iz, ix_iz, inb_iz, ifp_t, ifp_f, ifp_T, ifp_F, iz_eq, iz_lt, bI_s, bL_s, bV_s, bR_s, P', N', sL_wL]
        refine ih (by omega) _ (fun j hj => ?_)
        by_cases e : j = i.toNat
        · rw [e, up_e]
        · rw [up_n _ _ e]; exact hT j (by omega)
    have := l32 0 (by omega) (hL g P) (fun j hj => by omega)
    rw [wL_self] at this
    exact this
  rw [e_Pair_pairs, R.top, hP, bR_s]
  have nb : hN h P ≤ 625 := by omega
  simp (disch := omega) only [lit32, litJ, iz_add, iz_sub, iz_mul, iz_neg, nI_iz, ix_iz, inb_iz, ifp_t, ifp_f, ifp_T, ifp_F, iz_eq, iz_lt, bI_s, bL_s, bV_s, bR_s]
  by_cases c0 : (hN h P : Int) = 0
  · rw [ifp_t c0]
    unfold alc
    rw [ifp_t (show hC h < 1000000 by omega)]
    have XN : SX (sR (sN h 21 (Int.toNat 625) (Int.toNat 625)) 23 0 (hC h)) := by
      have lt : ∀ q ∈ sxR, q.1 < 93 ∧ ¬ (q.1 = 23 ∧ q.2.1 = 0) := by decide
      have lt2 : ∀ q ∈ sxN, q.1 < 93 := by decide
      refine ⟨fun q hq => ?_, fun q hq => ?_⟩
      · rw [sR_n (lt q hq).2]
        have := sN_R (h := h) (kd := 21) (len := Int.toNat 625) (n := Int.toNat 625) (r := q.1) (by have := (lt q hq).1; omega)
        rw [this]; exact X.1 q hq
      · have : hN (sR (sN h 21 (Int.toNat 625) (Int.toNat 625)) 23 0 (hC h)) q.1 = hN h q.1 := sN_N (kd := 21) (len := Int.toNat 625) (n := Int.toNat 625) (by have := lt2 q hq; omega)
        rw [this]; exact X.2 q hq
    have tt := t
    unfold TO at tt
    have RN : SR (sR (sN h 21 (Int.toNat 625) (Int.toNat 625)) 23 0 (hC h)) o q := R.tr (fun r r1 r2 => sN_I (kd := 21) (len := Int.toNat 625) (n := Int.toNat 625) (by omega))
    have hN2 : hN (sR (sN h 21 (Int.toNat 625) (Int.toNat 625)) 23 0 (hC h)) (hC h) = 625 := sN_Ne
    obtain ⟨T, t1⟩ := main _ (hC h) XN RN sR_e hN2
    refine ⟨_, hC h, t1, ?_, ?_, ?_, ?_, sR_e, hN2, Or.inr ⟨rfl, rfl, rfl, by omega⟩⟩
    · intro r hr; exact sN_I (kd := 21) (len := Int.toNat 625) (n := Int.toNat 625) (by unfold Dm at hr; omega)
    · intro r hr hr2
      rw [wL_n _ _ hr2]
      exact sN_L (kd := 21) (len := Int.toNat 625) (n := Int.toNat 625) hr2
    · intro r k hr hk
      rw [wL_R, sR_n hk]
      exact congrFun (sN_R (kd := 21) (len := Int.toNat 625) (n := Int.toNat 625) (by unfold Dm at hr; omega)) k
    · intro r hr
      exact sN_N (kd := 21) (len := Int.toNat 625) (n := Int.toNat 625) (by unfold Dm at hr; omega)
  · rw [ifp_f c0]
    obtain ⟨T, t1⟩ := main h P X R hP (by omega)
    exact ⟨_, P, t1, fun _ _ => rfl, fun r _ hr => wL_n _ _ hr, fun _ _ _ _ => rfl, fun _ _ => rfl, hP, by rw [wL_N]; omega, Or.inl ⟨rfl, rfl, rfl⟩⟩
