/-! plain, the model's side -/
theorem pif_i {c c' : Prop} {a b : Int} (h : c ↔ c') : pif c a b = pif c' a b := by rw [propext h]
theorem pif_b {c : Prop} {a N : Int} (h : 0 < N ∧ 0 ≤ a ∧ a < N) : 0 ≤ pif c a 0 ∧ pif c a 0 < N := by
  by_cases e : c
  · rw [pif_t e]; exact h.2
  · rw [pif_f e]; omega
def MxR (L : Nat → Int64) (N : Int) (R : Int → Int → Int) : Prop := ∀ i j : Int, 0 ≤ i → i < 12 → 0 ≤ j → j < 12 → L (12 * i + j).toNat = jZ (R i j) ∧ 0 ≤ R i j ∧ R i j < N
theorem mul_b {a b : Int} (ha : 0 ≤ a ∧ a < 9999) (hb : 0 ≤ b ∧ b < 9999) : 0 ≤ a * b ∧ a * b ≤ 100000000 := by
  refine ⟨Int.mul_nonneg ha.1 hb.1, ?_⟩
  have h1 : a * b ≤ a * 9999 := Int.mul_le_mul_of_nonneg_left (by omega) ha.1
  omega
theorem sum_b {f : Int → Int} {n : Int} (hn : 0 ≤ n) (h : ∀ k, 0 ≤ k → k < n → 0 ≤ f k ∧ f k ≤ 100000000) : 0 ≤ sZ f n ∧ sZ f n ≤ n * 100000000 := by
  have : ∀ m, 0 ≤ m → m ≤ n → 0 ≤ sZ f m ∧ sZ f m ≤ m * 100000000 := by
    refine upZ ?_ (fun k hk ih h2 => ?_)
    · intro _
      rw [sZ_0 _ (Int.le_refl 0)]; omega
    · rw [sZ_s _ hk]
      have := ih (by omega)
      have := h k hk (by omega)
      omega
  exact this n hn (Int.le_refl n)
theorem m_mult (d : Nat) {h : Hp} (S : SM h) {a b : Nat} (ha : a = 82 ∨ a = 83) (hb : b = 82 ∨ b = 85) {N : Int} (hN' : 1 ≤ N ∧ N ≤ 9999) {R B : Int → Int → Int} (HR : MxR (hL h a) N R) (HB : MxR (hL h b) N B) :
    ∃ L La, evm (d + 1) 211 [vR 12 68, vR 21 a, vR 21 b, vI (iZ N)] h = some (none, wL (wL h 84 L) a La) ∧ MxR La N (fun i j => sZ (fun k => R i k * B k j) 12 % N) := by
  have na : hN h a = 144 := by rcases ha with rfl | rfl <;> exact S.n _ 144
  have nb : hN h b = 144 := by rcases hb with rfl | rfl <;> exact S.n _ 144
  have a84 : a ≠ 84 := by omega
  have b84 : b ≠ 84 := by omega
  have HS : ∀ {L}, SM (wL h 84 L) := fun {_} => S
  have la : ∀ {L}, hL (wL h 84 L) a = hL h a := fun {L} => wL_n h L a84
  have lb : ∀ {L}, hL (wL h 84 L) b = hL h b := fun {L} => wL_n h L b84
  have na' : ∀ {L}, hN (wL h 84 L) a = 144 := fun {_} => na
  have nb' : ∀ {L}, hN (wL h 84 L) b = 144 := fun {_} => nb
  have eN : (iZ N).toInt64 = jZ N := iz_l (by omega)
  have eN0 : ¬ jZ N = jZ 0 := fun y => by have := (jz_eq (by omega)).mp y; omega
  have l26 : ∀ k : Int, (0 ≤ k ∧ k ≤ 12) → ∀ (i j : Int) (L : Nat → Int64), (0 ≤ i ∧ i < 12) → (0 ≤ j ∧ j < 12) → L_M_multiplies_26 (d + 0) 68 a b (iZ N) (iZ i) (iZ j) (jZ (sZ (fun k => R i k * B k j) k)) (iZ k) (wL h 84 L) = L_M_multiplies_13 (d + 0) 68 a b (iZ N) (iZ i) (iZ (j + 1)) (wL h 84 (up L (12 * i + j).toNat (jZ (sZ (fun k => R i k * B k j) 12 % N)))) := by
    refine lpZ 12 (fun k hk hkb i j L hi hj => ?_) (fun k hk ih hkb i j L hi hj => ?_)
    · have ek : k = 12 := by omega
      have sb := sum_b (f := fun k => R i k * B k j) (n := 12) (by omega) (fun k k1 k2 => mul_b (by have := HR i k hi.1 hi.2 k1 k2; omega) (by have := HB k j k1 k2 hj.1 hj.2; omega))
      rw [e_M_multiplies_26, ek]
      simp (disch := omega) only [lit32, litJ, iz_add, iz_sub, iz_mul, iz_neg, nI_iz, ix_iz, inb_iz, ifp_t, ifp_f, ifp_T, ifp_F, iz_eq, iz_lt, bI_s, bL_s, bV_s, bR_s, HS.r 27 84, HS.n 84 144, eN, lrem_jz, sL_wL]
    · have h1 := HR i k hi.1 hi.2 (by omega) (by omega)
      have h2 := HB k j (by omega) (by omega) hj.1 hj.2
      rw [← ih (by omega) i j L hi hj, e_M_multiplies_26]
      simp (disch := omega) only [lit32, litJ, iz_add, iz_sub, iz_mul, iz_neg, nI_iz, ix_iz, inb_iz, ifp_t, ifp_f, ifp_T, ifp_F, iz_eq, iz_lt, bI_s, bL_s, bV_s, bR_s, na', nb', la, lb, h1.1, h2.1, jz_mul, jz_add]
      rw [sZ_s _ hkb.1]
  have l98 : ∀ x : Int, (0 ≤ x ∧ x ≤ 144) → ∀ (L La : Nat → Int64), (∀ t : Int, 0 ≤ t → t < x → La t.toNat = L t.toNat) → ∃ La', L_M_multiplies_98 (d + 0) 68 a (iZ x) (wL (wL h 84 L) a La) = some (none, wL (wL h 84 L) a La') ∧ ∀ t : Int, 0 ≤ t → t < 144 → La' t.toNat = L t.toNat := by
    refine lpZ 144 (fun x hx hxb L La hL' => ?_) (fun x hx ih hxb L La hL' => ?_)
    · refine ⟨La, ?_, fun t t1 t2 => hL' t t1 (by omega)⟩
      rw [e_M_multiplies_98]
      simp (disch := omega) only [lit32, litJ, iz_add, iz_sub, iz_mul, iz_neg, nI_iz, ix_iz, inb_iz, ifp_t, ifp_f, ifp_T, ifp_F, iz_eq, iz_lt, bI_s, bL_s, bV_s, bR_s]
    · obtain ⟨La', g1, g2⟩ := ih (by omega) L (up La x.toNat (L x.toNat)) (fun t t1 t2 => by
        by_cases e : t = x
        · rw [e, up_e]
        · rw [up_n _ _ (by omega)]; exact hL' t t1 (by omega))
      refine ⟨La', ?_, g2⟩
      have T : SM (wL (wL h 84 L) a La) := S
      have nT : hN (wL (wL h 84 L) a La) a = 144 := na
      have lT : hL (wL (wL h 84 L) a La) 84 = L := by rw [wL_n _ _ (fun y => a84 y.symm), wL_L]
      rw [← g1, e_M_multiplies_98]
      simp (disch := omega) only [lit32, litJ, iz_add, iz_sub, iz_mul, iz_neg, nI_iz, ix_iz, inb_iz, ifp_t, ifp_f, ifp_T, ifp_F, iz_eq, iz_lt, bI_s, bL_s, bV_s, bR_s, T.r 27 84, T.n 84 144, nT, lT, sL_wL]
  have l3 : ∀ i : Int, (0 ≤ i ∧ i ≤ 12) → ∀ L : Nat → Int64, (∀ i' j' : Int, 0 ≤ i' → i' < 12 → 0 ≤ j' → j' < 12 → i' < i → L (12 * i' + j').toNat = jZ (sZ (fun k => R i' k * B k j') 12 % N)) → ∃ L' La, L_M_multiplies_3 (d + 0) 68 a b (iZ N) (iZ i) (wL h 84 L) = some (none, wL (wL h 84 L') a La) ∧ MxR La N (fun i j => sZ (fun k => R i k * B k j) 12 % N) := by
    refine lpZ 12 (fun i hi hib L hP => ?_) (fun i hi ih hib L hP => ?_)
    · obtain ⟨La', g1, g2⟩ := l98 0 (by omega) L (hL h a) (fun t t1 t2 => by omega)
      refine ⟨L, La', ?_, fun i' j' i1 i2 j1 j2 => ⟨?_, Int.emod_nonneg _ (by omega), Int.emod_lt_of_pos _ (by omega)⟩⟩
      · have e0 : wL (wL h 84 L) a (hL h a) = wL h 84 L := by
          have := wL_self (wL h 84 L) a
          rw [la] at this
          exact this
        rw [e0] at g1
        rw [e_M_multiplies_3]
        simp (disch := omega) only [lit32, litJ, iz_add, iz_sub, iz_mul, iz_neg, nI_iz, ix_iz, inb_iz, ifp_t, ifp_f, ifp_T, ifp_F, iz_eq, iz_lt, bI_s, bL_s, bV_s, bR_s]
        exact g1
      · rw [g2 _ (by omega) (by omega)]
        exact hP i' j' i1 i2 j1 j2 (by omega)
    · have l13 : ∀ j : Int, (0 ≤ j ∧ j ≤ 12) → ∀ L : Nat → Int64, (∀ i' j' : Int, 0 ≤ i' → i' < 12 → 0 ≤ j' → j' < 12 → (i' < i ∨ (i' = i ∧ j' < j)) → L (12 * i' + j').toNat = jZ (sZ (fun k => R i' k * B k j') 12 % N)) → ∃ L' La, L_M_multiplies_13 (d + 0) 68 a b (iZ N) (iZ i) (iZ j) (wL h 84 L) = some (none, wL (wL h 84 L') a La) ∧ MxR La N (fun i j => sZ (fun k => R i k * B k j) 12 % N) := by
        refine lpZ 12 (fun j hj hjb L hP => ?_) (fun j hj ihj hjb L hP => ?_)
        · obtain ⟨L', La, g1, g2⟩ := ih (by omega) L (fun i' j' i1 i2 j1 j2 h1 => hP i' j' i1 i2 j1 j2 (by omega))
          refine ⟨L', La, ?_, g2⟩
          rw [← g1, e_M_multiplies_13]
          simp (disch := omega) only [lit32, litJ, iz_add, iz_sub, iz_mul, iz_neg, nI_iz, ix_iz, inb_iz, ifp_t, ifp_f, ifp_T, ifp_F, iz_eq, iz_lt, bI_s, bL_s, bV_s, bR_s]
        · obtain ⟨L', La, g1, g2⟩ := ihj (by omega) (up L (12 * i + j).toNat (jZ (sZ (fun k => R i k * B k j) 12 % N))) (fun i' j' i1 i2 j1 j2 h1 => by
            by_cases e : 12 * i' + j' = 12 * i + j
            · have ei : i' = i := by omega
              have ej : j' = j := by omega
              rw [ei, ej, up_e]
            · rw [up_n _ _ (by omega)]
              exact hP i' j' i1 i2 j1 j2 (by omega))
          refine ⟨L', La, ?_, g2⟩
          have g := l26 0 (by omega) i j L (by omega) (by omega)
          rw [sZ_0 _ (Int.le_refl 0)] at g
          rw [← g1, ← g, e_M_multiplies_13]
          simp (disch := omega) only [lit32, litJ, iz_add, iz_sub, iz_mul, iz_neg, nI_iz, ix_iz, inb_iz, ifp_t, ifp_f, ifp_T, ifp_F, iz_eq, iz_lt, bI_s, bL_s, bV_s, bR_s]
      obtain ⟨L', La, g1, g2⟩ := l13 0 (by omega) L (fun i' j' i1 i2 j1 j2 h1 => hP i' j' i1 i2 j1 j2 (by omega))
      refine ⟨L', La, ?_, g2⟩
      rw [← g1, e_M_multiplies_3]
      simp (disch := omega) only [lit32, litJ, iz_add, iz_sub, iz_mul, iz_neg, nI_iz, ix_iz, inb_iz, ifp_t, ifp_f, ifp_T, ifp_F, iz_eq, iz_lt, bI_s, bL_s, bV_s, bR_s]
  obtain ⟨L', La, g1, g2⟩ := l3 0 (by omega) (hL h 84) (fun i' j' i1 i2 j1 j2 h1 => by omega)
  rw [wL_self] at g1
  refine ⟨L', La, ?_, g2⟩
  rw [e_M_multiplies]
  simp only [lit32]
  exact g1
theorem m_sqs (d : Nat) {h : Hp} (S : SM h) {N : Int} (hN' : 1 ≤ N ∧ N ≤ 9999) {B : Int → Int → Int} (HB : MxR (hL h 82) N B) :
    ∃ L5 L4 La, evm (d + 2) 213 [vR 12 68, vI (iZ N)] h = some (none, wL (wL (wL h 85 L5) 84 L4) 82 La) ∧ MxR La N (fun i j => sZ (fun k => B i k * B k j) 12 % N) := by
  have l2 : ∀ x : Int, (0 ≤ x ∧ x ≤ 144) → ∀ (L : Nat → Int64), (∀ t : Int, 0 ≤ t → t < x → L t.toNat = hL h 82 t.toNat) → ∃ L5 L4 La, L_M_squares_2 (d + 1) 68 (iZ N) (iZ x) (wL h 85 L) = some (none, wL (wL (wL h 85 L5) 84 L4) 82 La) ∧ MxR La N (fun i j => sZ (fun k => B i k * B k j) 12 % N) := by
    refine lpZ 144 (fun x hx hxb L hP => ?_) (fun x hx ih hxb L hP => ?_)
    · have T : SM (wL h 85 L) := S
      have l82 : hL (wL h 85 L) 82 = hL h 82 := wL_n _ _ (by decide)
      obtain ⟨L4, La, g1, g2⟩ := m_mult d T (a := 82) (b := 85) (by omega) (by omega) hN' (R := B) (B := B) (by rw [l82]; exact HB) (fun i j i1 i2 j1 j2 => by
        rw [wL_L, hP _ (by omega) (by omega)]
        exact HB i j i1 i2 j1 j2)
      refine ⟨L, L4, La, ?_, g2⟩
      rw [e_M_squares_2]
      simp (disch := omega) only [lit32, litJ, iz_add, iz_sub, iz_mul, iz_neg, nI_iz, ix_iz, inb_iz, ifp_t, ifp_f, ifp_T, ifp_F, iz_eq, iz_lt, bI_s, bL_s, bV_s, bR_s, T.r 25 82, T.r 28 85, g1]
    · have T : SM (wL h 85 L) := S
      have l82 : hL (wL h 85 L) 82 = hL h 82 := wL_n _ _ (by decide)
      obtain ⟨L5, L4, La, g1, g2⟩ := ih (by omega) (up L x.toNat (hL h 82 x.toNat)) (fun t t1 t2 => by
        by_cases e : t = x
        · rw [e, up_e]
        · rw [up_n _ _ (by omega)]; exact hP t t1 (by omega))
      refine ⟨L5, L4, La, ?_, g2⟩
      rw [← g1, e_M_squares_2]
      simp (disch := omega) only [lit32, litJ, iz_add, iz_sub, iz_mul, iz_neg, nI_iz, ix_iz, inb_iz, ifp_t, ifp_f, ifp_T, ifp_F, iz_eq, iz_lt, bI_s, bL_s, bV_s, bR_s, T.r 25 82, T.r 28 85, T.n 82 144, T.n 85 144, l82, sL_wL]
  obtain ⟨L5, L4, La, g1, g2⟩ := l2 0 (by omega) (hL h 85) (fun t t1 t2 => by omega)
  rw [wL_self] at g1
  refine ⟨L5, L4, La, ?_, g2⟩
  rw [e_M_squares]
  simp only [lit32]
  exact g1
def PlO (x y : Int) : Prop := (0 ≤ x ∧ x ≤ 999999999) ∧ 1 ≤ y ∧ y ≤ 9999
theorem M_plain (d : Nat) {h : Hp} (M : MV h) {x y : Int} (hx : -2147483648 ≤ x ∧ x < 2147483648) (hy : -2147483648 ≤ y ∧ y < 2147483648) :
    ∃ h', evm (d + 4) 212 [vR 12 68, vI (iZ x), vI (iZ y)] h = some (some (vI (iZ (pif (PlO x y) (Anq (rz h 74) x % y) 0))), h') ∧ Sc h h' ∧ hI h' 68 0 = bZ (¬ PlO x y) := by
  have S := M.1
  have V := M.2.1
  by_cases hp : PlO x y
  · rw [pif_t hp, bZ_f (fun z => z hp)]
    have hp' := hp
    unfold PlO at hp'
    obtain ⟨q, hq⟩ : ∃ q, q = rz h 74 := ⟨_, rfl⟩
    rw [← hq] at V ⊢
    have vn := V.n
    obtain ⟨k, hk⟩ : ∃ k, k = sI h 68 0 (iZ 0) := ⟨_, rfl⟩
    have ak : Sc h k := by rw [hk]; exact Sc.s h _ (by decide)
    have k0 : hI k 68 0 = iZ 0 := by rw [hk, sI_w, wI_I, up_e]
    have Sk : SM k := ak.m S
    have q74 : rz k 74 = q := by rw [ak.z (r := 74) (by decide), hq]
    have ei : (iZ (1 % y)).toInt64 = jZ (1 % y) := iz_l (by have := Int.emod_nonneg 1 (b := y) (by omega); have := Int.emod_lt_of_pos 1 (b := y) (by omega); omega)
    have e1b : 0 ≤ 1 % y ∧ 1 % y < y := ⟨Int.emod_nonneg 1 (by omega), Int.emod_lt_of_pos 1 (by omega)⟩
    have w5 : ∀ {L5 L4 L2 L3 : Nat → Int64} (X : Nat → Int64), wL (wL (wL (wL (wL k 85 L5) 84 L4) 82 L2) 83 L3) 85 X = wL (wL (wL (wL k 85 X) 84 L4) 82 L2) 83 L3 := fun {_ _ _ _} X => by
      rw [wL_c _ _ _ (show (83 : Nat) ≠ 85 by decide), wL_c _ _ _ (show (82 : Nat) ≠ 85 by decide), wL_c _ _ _ (show (84 : Nat) ≠ 85 by decide), wL_wL]
    have w4 : ∀ {L5 L4 L2 L3 : Nat → Int64} (X : Nat → Int64), wL (wL (wL (wL (wL k 85 L5) 84 L4) 82 L2) 83 L3) 84 X = wL (wL (wL (wL k 85 L5) 84 X) 82 L2) 83 L3 := fun {_ _ _ _} X => by
      rw [wL_c _ _ _ (show (83 : Nat) ≠ 84 by decide), wL_c _ _ _ (show (82 : Nat) ≠ 84 by decide), wL_wL]
    have w2 : ∀ {L5 L4 L2 L3 : Nat → Int64} (X : Nat → Int64), wL (wL (wL (wL (wL k 85 L5) 84 L4) 82 L2) 83 L3) 82 X = wL (wL (wL (wL k 85 L5) 84 L4) 82 X) 83 L3 := fun {_ _ _ _} X => by
      rw [wL_c _ _ _ (show (83 : Nat) ≠ 82 by decide), wL_wL]
    have w3 : ∀ {L5 L4 L2 L3 : Nat → Int64} (X : Nat → Int64), wL (wL (wL (wL (wL k 85 L5) 84 L4) 82 L2) 83 L3) 83 X = wL (wL (wL (wL k 85 L5) 84 L4) 82 L2) 83 X := fun {_ _ _ _} X => wL_wL _ _ _ _
    -- the end: the powers
    have pw : ∀ n : Nat, ∀ (e a b : Int), 0 ≤ e → e ≤ n → e ≤ 999999999 → 0 ≤ a → 0 ≤ b → x = a + b * e → ∀ (L2 L3 L4 L5 : Nat → Int64) (R B : Int → Int → Int), MxR L3 y R → MxR L2 y B → RpC q y R a → RpC q y B b → ∃ L2' L3' L4' L5', L_M_plain_143 (d + 3) 68 (iZ y) (iZ e) (wL (wL (wL (wL k 85 L5) 84 L4) 82 L2) 83 L3) = some (some (vI (iZ (Anq q x % y))), wL (wL (wL (wL k 85 L5') 84 L4') 82 L2') 83 L3') := by
      intro n
      induction n with
      | zero =>
        intro e a b e0 en _ a0 b0 ex L2 L3 L4 L5 R B HR HB RR RB
        have ee : e = 0 := by omega
        have ea : x = a := by rw [ex, ee, Int.mul_zero, Int.add_zero]
        refine ⟨L2, L3, L4, L5, ?_⟩
        have T : SM (wL (wL (wL (wL k 85 L5) 84 L4) 82 L2) 83 L3) := Sk
        have h3 := HR 0 0 (by omega) (by omega) (by omega) (by omega)
        have f := RR.fin h3.2
        rw [show (12 * (0 : Int) + 0) = 0 by omega] at h3
        rw [e_M_plain_143, ee]
        simp (disch := omega) only [lit32, litJ, iz_add, iz_sub, iz_mul, iz_neg, nI_iz, ix_iz, inb_iz, ifp_t, ifp_f, ifp_T, ifp_F, iz_eq, iz_lt, bI_s, bL_s, bV_s, bR_s, T.r 26 83, T.n 83 144, wL_L, h3.1]
        rw [f, jz_n (by omega), ea]
      | succ n ih =>
        intro e a b e0 en em a0 b0 ex L2 L3 L4 L5 R B HR HB RR RB
        by_cases ez : e = 0
        · exact (by
            have ea : x = a := by rw [ex, ez, Int.mul_zero, Int.add_zero]
            refine ⟨L2, L3, L4, L5, ?_⟩
            have T : SM (wL (wL (wL (wL k 85 L5) 84 L4) 82 L2) 83 L3) := Sk
            have h3 := HR 0 0 (by omega) (by omega) (by omega) (by omega)
            have f := RR.fin h3.2
            rw [show (12 * (0 : Int) + 0) = 0 by omega] at h3
            rw [e_M_plain_143, ez]
            simp (disch := omega) only [lit32, litJ, iz_add, iz_sub, iz_mul, iz_neg, nI_iz, ix_iz, inb_iz, ifp_t, ifp_f, ifp_T, ifp_F, iz_eq, iz_lt, bI_s, bL_s, bV_s, bR_s, T.r 26 83, T.n 83 144, wL_L, h3.1]
            rw [f, jz_n (by omega), ea])
        · have e167 : ∀ (a' : Int) (L2 L3 L4 L5 : Nat → Int64) (R B : Int → Int → Int), 0 ≤ a' → x = a' + 2 * (b * (e / 2)) → MxR L3 y R → MxR L2 y B → RpC q y R a' → RpC q y B b → ∃ L2' L3' L4' L5', L_M_plain_167 (d + 3) 68 (iZ y) (iZ e) (wL (wL (wL (wL k 85 L5) 84 L4) 82 L2) 83 L3) = some (some (vI (iZ (Anq q x % y))), wL (wL (wL (wL k 85 L5') 84 L4') 82 L2') 83 L3') := by
            intro a' L2 L3 L4 L5 R B a0' ex' HR HB RR RB
            by_cases hz : 0 < e / 2
            · have T : SM (wL (wL (wL (wL k 85 L5) 84 L4) 82 L2) 83 L3) := Sk
              have l82 : hL (wL (wL (wL (wL k 85 L5) 84 L4) 82 L2) 83 L3) 82 = L2 := by rw [wL_n _ _ (by decide), wL_L]
              obtain ⟨M5, M4, M2, g1, g2⟩ := m_sqs (d + 1) T hp'.2 (B := B) (by rw [l82]; exact HB)
              obtain ⟨L2', L3', L4', L5', i1⟩ := ih (e / 2) a' (b + b) (by omega) (by omega) (by omega) a0' (by omega) (by rw [ex', Int.add_mul]; omega) M2 L3 M4 M5 R _ HR g2 RR (RB.mul RB b0 (fun i j _ _ _ _ => Cgr.md _ _))
              refine ⟨L2', L3', L4', L5', ?_⟩
              rw [e_M_plain_167]
              simp (disch := omega) only [lit32, litJ, iz_add, iz_sub, iz_mul, iz_neg, nI_iz, ix_iz, inb_iz, ifp_t, ifp_f, ifp_T, ifp_F, iz_eq, iz_lt, bI_s, bL_s, bV_s, bR_s, iz_div, g1]
              rw [w5, w4, w2]
              exact i1
            · have e2 : e / 2 = 0 := by omega
              obtain ⟨L2', L3', L4', L5', i1⟩ := ih 0 a' b (by omega) (by omega) (by omega) a0' b0 (by rw [ex', e2]; omega) L2 L3 L4 L5 R B HR HB RR RB
              refine ⟨L2', L3', L4', L5', ?_⟩
              rw [← i1, e_M_plain_167]
              simp (disch := omega) only [lit32, litJ, iz_add, iz_sub, iz_mul, iz_neg, nI_iz, ix_iz, inb_iz, ifp_t, ifp_f, ifp_T, ifp_F, iz_eq, iz_lt, bI_s, bL_s, bV_s, bR_s, iz_div, e2]
          have es : b * e = 2 * (b * (e / 2)) + b * (e % 2) := by
            have h1 : e = 2 * (e / 2) + e % 2 := by omega
            have h2 : b * e = b * (2 * (e / 2) + e % 2) := by rw [← h1]
            rw [h2, Int.mul_add, Int.mul_left_comm]
          by_cases od : e % 2 = 1
          · have T : SM (wL (wL (wL (wL k 85 L5) 84 L4) 82 L2) 83 L3) := Sk
            have l82 : hL (wL (wL (wL (wL k 85 L5) 84 L4) 82 L2) 83 L3) 82 = L2 := by rw [wL_n _ _ (by decide), wL_L]
            obtain ⟨M4, M3, g1, g2⟩ := m_mult (d + 2) T (a := 83) (b := 82) (by omega) (by omega) hp'.2 (R := R) (B := B) (by rw [wL_L]; exact HR) (by rw [l82]; exact HB)
            rw [od] at es
            obtain ⟨L2', L3', L4', L5', i1⟩ := e167 (a + b) L2 M3 M4 L5 _ B (by omega) (by omega) g2 HB (RR.mul RB b0 (fun i j _ _ _ _ => Cgr.md _ _)) RB
            refine ⟨L2', L3', L4', L5', ?_⟩
            rw [e_M_plain_143]
            simp (disch := omega) only [lit32, litJ, iz_add, iz_sub, iz_mul, iz_neg, nI_iz, ix_iz, inb_iz, ifp_t, ifp_f, ifp_T, ifp_F, iz_eq, iz_lt, bI_s, bL_s, bV_s, bR_s, irem_iz, od, T.r 26 83, T.r 25 82, g1]
            rw [w4, w3]
            exact i1
          · have ev : e % 2 = 0 := by omega
            rw [ev, Int.mul_zero] at es
            obtain ⟨L2', L3', L4', L5', i1⟩ := e167 a L2 L3 L4 L5 R B a0 (by omega) HR HB RR RB
            refine ⟨L2', L3', L4', L5', ?_⟩
            rw [← i1, e_M_plain_143]
            simp (disch := omega) only [lit32, litJ, iz_add, iz_sub, iz_mul, iz_neg, nI_iz, ix_iz, inb_iz, ifp_t, ifp_f, ifp_T, ifp_F, iz_eq, iz_lt, bI_s, bL_s, bV_s, bR_s, irem_iz, ev]
    have sc : ∀ L5 L4 L2 L3, Sc h (wL (wL (wL (wL k 85 L5) 84 L4) 82 L2) 83 L3) := fun L5 L4 L2 L3 => (((ak.tr (Sc.l _ L5 (by omega))).tr (Sc.l _ L4 (by omega))).tr (Sc.l _ L2 (by omega))).tr (Sc.l _ L3 (by omega))
    have SS : ∀ {L2 L3}, SM (wL (wL k 82 L2) 83 L3) := fun {_ _} => Sk
    have c74 : ∀ {L2 L3}, rz (wL (wL k 82 L2) 83 L3) 74 = q := fun {_ _} => q74
    have s2 : ∀ {L2 L3 : Nat → Int64} (t : Nat) (X : Int64), sL (wL (wL k 82 L2) 83 L3) 82 t X = wL (wL k 82 (up L2 t X)) 83 L3 := fun {_ _} t X => by
      rw [wL_c _ _ _ (show (82 : Nat) ≠ 83 by decide), sL_wL, wL_c _ _ _ (show (83 : Nat) ≠ 82 by decide)]
    have fin : ∀ (L2 L3 : Nat → Int64) (R B : Int → Int → Int), MxR L3 y R → MxR L2 y B → RpC q y R 0 → RpC q y B 1 → ∃ h', L_M_plain_143 (d + 3) 68 (iZ y) (iZ x) (wL (wL k 82 L2) 83 L3) = some (some (vI (iZ (Anq q x % y))), h') ∧ Sc h h' ∧ hI h' 68 0 = iZ 0 := by
      intro L2 L3 R B a1 a2 a3 a4
      obtain ⟨L2', L3', L4', L5', g⟩ := pw x.toNat x 0 1 (by omega) (by omega) (by omega) (by omega) (by omega) (by omega) L2 L3 (hL k 84) (hL k 85) R B a1 a2 a3 a4
      rw [wL_self, wL_self] at g
      exact ⟨_, g, sc _ _ _ _, k0⟩
    have dv : ∀ (c : Int), (0 ≤ c ∧ c ≤ q 8) → ∀ (L2 L3 : Nat → Int64), (∀ t : Int, 0 ≤ t → t < 144 → L3 t.toNat = jZ (pif (t % 13 = 0) (1 % y) 0)) → (∀ t : Int, 0 ≤ t → t < 144 → L2 t.toNat = jZ (pif ((t < 12 ∧ ∃ k', 0 ≤ k' ∧ k' < c ∧ q (9 + k') = t + 1) ∨ (12 ≤ t ∧ t % 12 = t / 12 - 1)) (1 % y) 0)) → ∃ h', L_M_plain_111 (d + 3) 68 (iZ x) (iZ y) (iZ c) (wL (wL k 82 L2) 83 L3) = some (some (vI (iZ (Anq q x % y))), h') ∧ Sc h h' ∧ hI h' 68 0 = iZ 0 := by
      refine lpZ (q 8) (fun c hk hkb L2 L3 H3 H2 => ?_) (fun c hk ih hkb L2 L3 H3 H2 => ?_)
      · have ek : c = q 8 := by omega
        rw [ek] at H2
        obtain ⟨h', g1, g2, g3⟩ := fin L2 L3 (fun i j => pif ((12 * i + j) % 13 = 0) (1 % y) 0) (fun i j => pif (((12 * i + j) < 12 ∧ ∃ k', 0 ≤ k' ∧ k' < q 8 ∧ q (9 + k') = (12 * i + j) + 1) ∨ (12 ≤ (12 * i + j) ∧ (12 * i + j) % 12 = (12 * i + j) / 12 - 1)) (1 % y) 0)
          (fun i j i1 i2 j1 j2 => ⟨H3 _ (by omega) (by omega), pif_b ⟨by omega, e1b⟩⟩) (fun i j i1 i2 j1 j2 => ⟨H2 _ (by omega) (by omega), pif_b ⟨by omega, e1b⟩⟩)
          (RpC.one q (fun i j i1 i2 j1 j2 => pif_i ⟨fun z => by omega, fun z => by omega⟩))
          (RpC.step V (fun j j1 j2 => pif_i ⟨fun z => by
              rcases z with ⟨_, k', z1, z2, z3⟩ | z
              · exact ⟨k', z1, z2, by omega⟩
              · omega, fun ⟨k', z1, z2, z3⟩ => Or.inl ⟨by omega, k', z1, z2, by omega⟩⟩) (fun i j i1 i2 j1 j2 => pif_i ⟨fun z => by
              rcases z with ⟨z, _⟩ | z
              · omega
              · omega, fun z => Or.inr (by omega)⟩))
        refine ⟨h', ?_, g2, g3⟩
        rw [← g1, e_M_plain_111, m_strides (d + 2) SS, bI_s, c74, ek]
        simp (disch := omega) only [lit32, litJ, iz_add, iz_sub, iz_mul, iz_neg, nI_iz, ix_iz, inb_iz, ifp_t, ifp_f, ifp_T, ifp_F, iz_eq, iz_lt, bI_s, bL_s, bV_s, bR_s]
      · have st := V.str hkb.1 hk
        obtain ⟨h', g1, g2, g3⟩ := ih (by omega) (up L2 (q (9 + c) - 1).toNat (jZ (1 % y))) L3 H3 (fun t t1 t2 => by
          by_cases e : t = q (9 + c) - 1
          · rw [e, up_e, pif_t (Or.inl ⟨by omega, c, hkb.1, by omega, by omega⟩)]
          · rw [up_n _ _ (by omega), H2 t t1 t2]
            refine congrArg jZ (pif_i ⟨fun z => ?_, fun z => ?_⟩)
            · rcases z with ⟨z, k', z1, z2, z3⟩ | z
              · exact Or.inl ⟨z, k', z1, by omega, z3⟩
              · exact Or.inr z
            · rcases z with ⟨z, k', z1, z2, z3⟩ | z
              · refine Or.inl ⟨z, k', z1, ?_, z3⟩
                by_cases ek : k' = c
                · rw [ek] at z3; omega
                · omega
              · exact Or.inr z)
        refine ⟨h', ?_, g2, g3⟩
        rw [← g1, e_M_plain_111, m_strides (d + 2) SS, bI_s, c74]
        simp (disch := omega) only [lit32, litJ, iz_add, iz_sub, iz_mul, iz_neg, nI_iz, ix_iz, inb_iz, ifp_t, ifp_f, ifp_T, ifp_F, iz_eq, iz_lt, bI_s, bL_s, bV_s, bR_s, SS.r 25 82]
        rw [m_strideOf (d + 2) SS (by omega), bI_s, c74]
        simp (disch := omega) only [lit32, litJ, iz_add, iz_sub, iz_mul, iz_neg, nI_iz, ix_iz, inb_iz, ifp_t, ifp_f, ifp_T, ifp_F, iz_eq, iz_lt, bI_s, bL_s, bV_s, bR_s, SS.n 82 144, irem_iz, ei, s2]
    have s42 : ∀ t : Int, (0 ≤ t ∧ t ≤ 144) → ∀ (L2 L3 : Nat → Int64), (∀ u : Int, 0 ≤ u → u < t → L3 u.toNat = jZ (pif (u % 13 = 0) (1 % y) 0)) → (∀ u : Int, 0 ≤ u → u < t → L2 u.toNat = jZ (pif (12 ≤ u ∧ u % 12 = u / 12 - 1) (1 % y) 0)) → ∃ h', L_M_plain_42 (d + 3) 68 (iZ x) (iZ y) (iZ t) (wL (wL k 82 L2) 83 L3) = some (some (vI (iZ (Anq q x % y))), h') ∧ Sc h h' ∧ hI h' 68 0 = iZ 0 := by
      refine lpZ 144 (fun t ht htb L2 L3 H3 H2 => ?_) (fun t ht ih htb L2 L3 H3 H2 => ?_)
      · obtain ⟨h', g1, g2, g3⟩ := dv 0 (by omega) L2 L3 (fun u u1 u2 => H3 u u1 (by omega)) (fun u u1 u2 => by
          rw [H2 u u1 (by omega)]
          refine congrArg jZ (pif_i ⟨fun z => Or.inr z, fun z => ?_⟩)
          rcases z with ⟨_, k', z1, z2, _⟩ | z
          · omega
          · exact z)
        refine ⟨h', ?_, g2, g3⟩
        rw [← g1, e_M_plain_42]
        simp (disch := omega) only [lit32, litJ, iz_add, iz_sub, iz_mul, iz_neg, nI_iz, ix_iz, inb_iz, ifp_t, ifp_f, ifp_T, ifp_F, iz_eq, iz_lt, bI_s, bL_s, bV_s, bR_s]
      · obtain ⟨h', g1, g2, g3⟩ := ih (by omega) (up L2 t.toNat (jZ (pif (12 ≤ t ∧ t % 12 = t / 12 - 1) (1 % y) 0))) (up L3 t.toNat (jZ (pif (t % 13 = 0) (1 % y) 0))) (fun u u1 u2 => by
          by_cases e : u = t
          · rw [e, up_e]
          · rw [up_n _ _ (by omega)]; exact H3 u u1 (by omega)) (fun u u1 u2 => by
          by_cases e : u = t
          · rw [e, up_e]
          · rw [up_n _ _ (by omega)]; exact H2 u u1 (by omega))
        refine ⟨h', ?_, g2, g3⟩
        rw [← g1]
        have a1 : L_M_plain_42 (d + 3) 68 (iZ x) (iZ y) (iZ t) (wL (wL k 82 L2) 83 L3) = L_M_plain_69 (d + 3) 68 (iZ x) (iZ y) (iZ t) (jZ (pif (t % 13 = 0) (1 % y) 0)) (iZ t) 83 (wL (wL k 82 L2) 83 L3) := by
          rw [e_M_plain_42]
          by_cases c : t % 13 = 0
          · rw [pif_t c]
            simp (disch := omega) only [lit32, litJ, iz_add, iz_sub, iz_mul, iz_neg, nI_iz, ix_iz, inb_iz, ifp_t, ifp_f, ifp_T, ifp_F, iz_eq, iz_lt, bI_s, bL_s, bV_s, bR_s, SS.r 26 83, irem_iz, ei]
          · rw [pif_f c]
            simp (disch := omega) only [lit32, litJ, iz_add, iz_sub, iz_mul, iz_neg, nI_iz, ix_iz, inb_iz, ifp_t, ifp_f, ifp_T, ifp_F, iz_eq, iz_lt, bI_s, bL_s, bV_s, bR_s, SS.r 26 83, irem_iz, ei]
        rw [a1, e_M_plain_69]
        by_cases c1 : t < 12
        · rw [pif_f (c := 12 ≤ t ∧ t % 12 = t / 12 - 1) (by omega)]
          simp (disch := omega) only [lit32, litJ, iz_add, iz_sub, iz_mul, iz_neg, nI_iz, ix_iz, inb_iz, ifp_t, ifp_f, ifp_T, ifp_F, iz_eq, iz_lt, bI_s, bL_s, bV_s, bR_s, SS.n 83 144, SS.n 82 144, SS.r 25 82, sL_wL, s2]
        · by_cases c2 : t % 12 = t / 12 - 1
          · rw [pif_t (c := 12 ≤ t ∧ t % 12 = t / 12 - 1) (by omega)]
            simp (disch := omega) only [lit32, litJ, iz_add, iz_sub, iz_mul, iz_neg, nI_iz, ix_iz, inb_iz, ifp_t, ifp_f, ifp_T, ifp_F, iz_eq, iz_lt, bI_s, bL_s, bV_s, bR_s, SS.n 83 144, SS.n 82 144, SS.r 25 82, sL_wL, s2, irem_iz, iz_div, ei]
          · rw [pif_f (c := 12 ≤ t ∧ t % 12 = t / 12 - 1) (by omega)]
            simp (disch := omega) only [lit32, litJ, iz_add, iz_sub, iz_mul, iz_neg, nI_iz, ix_iz, inb_iz, ifp_t, ifp_f, ifp_T, ifp_F, iz_eq, iz_lt, bI_s, bL_s, bV_s, bR_s, SS.n 83 144, SS.n 82 144, SS.r 25 82, sL_wL, s2, irem_iz, iz_div, ei]
    obtain ⟨h', g1, g2, g3⟩ := s42 0 (by omega) (hL k 82) (hL k 83) (fun u u1 u2 => by omega) (fun u u1 u2 => by omega)
    have e0 : wL (wL k 82 (hL k 82)) 83 (hL k 83) = k := by rw [wL_self, wL_self]
    rw [e0] at g1
    refine ⟨h', ?_, g2, g3⟩
    rw [e_M_plain]
    simp only [lit32]
    rw [m_within (d + 2) hx (by omega) (by omega), bI_s, ifp_n bZ_0, ifp_f (fun z => z hp'.1), m_within (d + 2) hy (by omega) (by omega), bI_s, ifp_n bZ_0, ifp_f (fun z => z hp'.2), e_M_plain_28, ← hk]
    simp (disch := omega) only [lit32, litJ, iz_add, iz_sub, iz_mul, iz_neg, nI_iz, ix_iz, inb_iz, ifp_t, ifp_f, ifp_T, ifp_F, iz_eq, iz_lt, bI_s, bL_s, bV_s, bR_s, k0]
    exact g1
  · rw [pif_f hp, bZ_t hp]
    have e1 : L_M_plain_28 (d + 3) 68 (iZ x) (iZ y) (iZ 1) 68 h = some (some (vI (iZ 0)), sI h 68 0 (iZ 1)) := by
      have k0 : hI (sI h 68 0 (iZ 1)) 68 0 = iZ 1 := by rw [sI_w, wI_I, up_e]
      rw [e_M_plain_28]
      simp (disch := omega) only [lit32, litJ, iz_add, iz_sub, iz_mul, iz_neg, nI_iz, ix_iz, inb_iz, ifp_t, ifp_f, ifp_T, ifp_F, iz_eq, iz_lt, bI_s, bL_s, bV_s, bR_s, k0]
    refine ⟨sI h 68 0 (iZ 1), ?_, Sc.s h _ (by decide), by rw [sI_w, wI_I, up_e]⟩
    rw [e_M_plain]
    simp only [lit32]
    rw [m_within (d + 2) hx (by omega) (by omega), bI_s, ifp_n bZ_0]
    refine ifp_r (fun _ => e1) (fun z => ?_)
    rw [m_within (d + 2) hy (by omega) (by omega), bI_s, ifp_n bZ_0]
    refine ifp_r (fun _ => e1) (fun w => ?_)
    exact absurd ⟨Classical.not_not.mp z, Classical.not_not.mp w⟩ hp
