/-! plain, the class's side -/
theorem upv_e (w : Int → Int) (t x : Int) : upv w t x t = x := if_pos rfl
theorem upv_n (w : Int → Int) {t j : Int} (x : Int) (h : j ≠ t) : upv w t x j = w j := if_neg h
theorem x_first (d : Nat) {h : Hp} (X : SX h) {o : Nat} (t : TO o) {q : Int → Int} (R : SR h o q) (V : VS q) {N : Int} (hN' : 1 ≤ N ∧ N ≤ 9999) :
    ∃ L, evm (d + 1) 22 [vR 4 25, vR 5 o, vI (iZ N)] h = some (none, wL h 26 L) ∧ ∀ i : Int, 0 ≤ i → i < 12 → L i.toNat = jZ (Anq q i % N) := by
  have vn := V.n
  have XX : ∀ {L}, SX (wL h 26 L) := fun {_} => X
  have RX : ∀ {L}, SR (wL h 26 L) o q := fun {_} => R
  have eN : (iZ N).toInt64 = jZ N := iz_l (by omega)
  have eN0 : ¬ jZ N = jZ 0 := fun y => by have := (jz_eq (by omega)).mp y; omega
  have mb : ∀ z : Int, 0 ≤ z % N ∧ z % N < N := fun z => ⟨Int.emod_nonneg _ (by omega), Int.emod_lt_of_pos _ (by omega)⟩
  have l2 : ∀ i : Int, (0 ≤ i ∧ i ≤ 12) → ∀ L : Nat → Int64, (∀ u : Int, 0 ≤ u → u < i → L u.toNat = jZ (Anq q u % N)) → ∃ L', L_Rests_findFirst_2 d 25 o (iZ N) (iZ i) (wL h 26 L) = some (none, wL h 26 L') ∧ ∀ u : Int, 0 ≤ u → u < 12 → L' u.toNat = jZ (Anq q u % N) := by
    refine lpZ 12 (fun i hi hib L hP => ?_) (fun i hi ih hib L hP => ?_)
    · refine ⟨L, ?_, fun u u1 u2 => hP u u1 (by omega)⟩
      rw [e_Rests_findFirst_2]
      simp (disch := omega) only [lit32, litJ, iz_add, iz_sub, iz_mul, iz_neg, nI_iz, ix_iz, inb_iz, ifp_t, ifp_f, ifp_T, ifp_F, iz_eq, iz_lt, bI_s, bL_s, bV_s, bR_s, XX.r 25 0 26, XX.n 26 12]
    · have l29 : ∀ k : Int, (0 ≤ k ∧ k ≤ q 8) → ∀ L : Nat → Int64, (∀ u : Int, 0 ≤ u → u < i → L u.toNat = jZ (Anq q u % N)) → L i.toNat = jZ (pif (i = 0) 1 0 + sZ (fun k => Anq q (i - q (9 + k)) % N) k) → ∃ L', L_Rests_findFirst_29 d 25 o (iZ N) (iZ i) (iZ k) (wL h 26 L) = some (none, wL h 26 L') ∧ ∀ u : Int, 0 ≤ u → u < 12 → L' u.toNat = jZ (Anq q u % N) := by
        refine lpZ (q 8) (fun k hk hkb L hP hC => ?_) (fun k hk ihk hkb L hP hC => ?_)
        · have ek : k = q 8 := by omega
          rw [ek] at hC
          have sb := sum_b (f := fun k => Anq q (i - q (9 + k)) % N) (n := q 8) (by omega) (fun k _ _ => by have := mb (Anq q (i - q (9 + k))); omega)
          have pb := p01 (i = 0)
          have val : (pif (i = 0) 1 0 + sZ (fun k => Anq q (i - q (9 + k)) % N) (q 8)) % N = Anq q i % N := by
            by_cases e : i = 0
            · rw [pif_t e, e, Anq_0]
              rw [sZ_z (fun k k1 k2 => by
                have := V.str k1 k2
                rw [Anq_n q (by omega)]; exact Int.zero_emod _)]
              rfl
            · rw [pif_f e, Anq_s V (z := i) (by omega), Int.zero_add]
              exact Cgr.su (fun k _ _ => Cgr.md _ _)
          obtain ⟨L', g1, g2⟩ := ih (by omega) (up L i.toNat (jZ (Anq q i % N))) (fun u u1 u2 => by
            by_cases e : u = i
            · rw [e, up_e]
            · rw [up_n _ _ (by omega)]; exact hP u u1 (by omega))
          refine ⟨L', ?_, g2⟩
          rw [← g1, e_Rests_findFirst_29, RX.n, ek]
          simp (disch := omega) only [lit32, litJ, iz_add, iz_sub, iz_mul, iz_neg, nI_iz, ix_iz, inb_iz, ifp_t, ifp_f, ifp_T, ifp_F, iz_eq, iz_lt, bI_s, bL_s, bV_s, bR_s, XX.r 25 0 26, XX.n 26 12, eN, wL_L, hC, lrem_jz, val, sL_wL]
        · have st := V.str hkb.1 hk
          have rs := RX (L := L).str hkb.1 hk
          obtain ⟨L', g1, g2⟩ := ihk (by omega) (up L i.toNat (jZ (pif (i = 0) 1 0 + sZ (fun k => Anq q (i - q (9 + k)) % N) (k + 1)))) (fun u u1 u2 => by
            rw [up_n _ _ (by omega)]; exact hP u u1 u2) (up_e _ _ _)
          refine ⟨L', ?_, g2⟩
          rw [← g1, e_Rests_findFirst_29, RX.n]
          simp (disch := omega) only [lit32, litJ, iz_add, iz_sub, iz_mul, iz_neg, nI_iz, ix_iz, inb_iz, ifp_t, ifp_f, ifp_T, ifp_F, iz_eq, iz_lt, bI_s, bL_s, bV_s, bR_s, XX.o0 t, XX.n1 t, XX.r 25 0 26, XX.n 26 12, rs]
          by_cases c : i - q (9 + k) < 0
          · rw [sZ_s _ hkb.1, Anq_n q c, Int.zero_emod]
            simp (disch := omega) only [lit32, litJ, iz_add, iz_sub, iz_mul, iz_neg, nI_iz, ix_iz, inb_iz, ifp_t, ifp_f, ifp_T, ifp_F, iz_eq, iz_lt, bI_s, bL_s, bV_s, bR_s, XX.n 26 12, wL_L, hC, jz_add, sL_wL, ← Int.add_assoc]
          · rw [sZ_s _ hkb.1]
            simp (disch := omega) only [lit32, litJ, iz_add, iz_sub, iz_mul, iz_neg, nI_iz, ix_iz, inb_iz, ifp_t, ifp_f, ifp_T, ifp_F, iz_eq, iz_lt, bI_s, bL_s, bV_s, bR_s, XX.r 25 0 26, XX.n 26 12, wL_L, hC, hP (i - q (9 + k)) (by omega) (by omega), jz_add, sL_wL, ← Int.add_assoc]
      by_cases e : i = 0
      · obtain ⟨L', g1, g2⟩ := l29 0 (by omega) (up L i.toNat (jZ 1)) (fun u u1 u2 => by rw [up_n _ _ (by omega)]; exact hP u u1 u2) (by rw [up_e, pif_t e, sZ_0 _ (Int.le_refl 0)]; rfl)
        refine ⟨L', ?_, g2⟩
        rw [← g1, e_Rests_findFirst_2]
        simp (disch := omega) only [lit32, litJ, iz_add, iz_sub, iz_mul, iz_neg, nI_iz, ix_iz, inb_iz, ifp_t, ifp_f, ifp_T, ifp_F, iz_eq, iz_lt, bI_s, bL_s, bV_s, bR_s, XX.r 25 0 26, XX.n 26 12, sL_wL]
      · obtain ⟨L', g1, g2⟩ := l29 0 (by omega) (up L i.toNat (jZ 0)) (fun u u1 u2 => by rw [up_n _ _ (by omega)]; exact hP u u1 u2) (by rw [up_e, pif_f e, sZ_0 _ (Int.le_refl 0)]; rfl)
        refine ⟨L', ?_, g2⟩
        rw [← g1, e_Rests_findFirst_2]
        simp (disch := omega) only [lit32, litJ, iz_add, iz_sub, iz_mul, iz_neg, nI_iz, ix_iz, inb_iz, ifp_t, ifp_f, ifp_T, ifp_F, iz_eq, iz_lt, bI_s, bL_s, bV_s, bR_s, XX.r 25 0 26, XX.n 26 12, sL_wL]
  obtain ⟨L', g1, g2⟩ := l2 0 (by omega) (hL h 26) (fun u u1 u2 => by omega)
  rw [wL_self] at g1
  refine ⟨L', ?_, g2⟩
  rw [e_Rests_findFirst]
  simp only [lit32]
  exact g1
