/-! the class: short questions -/
theorem XW.sc {h k : Hp} {A G P c0 s0 : Nat} {q co ca : Int → Int} (W : XW h A G P c0 s0 q co ca) (e0 : k.2.2 = h.2.2) (eI : ∀ r, r = 6 ∨ r = 8 ∨ r = 9 ∨ r = 14 → hI k r = hI h r) (eL : ∀ r, (r = 11 ∨ r = 12 ∨ r = 13 ∨ 92 < r) → hL k r = hL h r) : XW k A G P c0 s0 q co ca := by
  have e1 : hR k = hR h := congrArg (fun x => x.1) e0
  have e2 : hN k = hN h := congrArg (fun x => x.2.2.1) e0
  have e3 : hC k = hC h := congrArg (fun x => x.2.2.2.1) e0
  have e4 : hS k = hS h := congrArg (fun x => x.2.2.2.2) e0
  obtain ⟨⟨w1, w1'⟩, w2, w3, w4, w5, wc, ⟨kn, t1, t2, t3⟩, w8, w9⟩ := W
  refine ⟨⟨w1.tr (eI _ (by omega)), w1'.tr (eI _ (by omega))⟩, by rw [e1, e2]; exact w2, by rw [e1, e2]; exact w3, by rw [e1, e2]; exact w4, by rw [e3]; exact w5, wc.tr (eI _ (by omega)) (eI _ (by omega)) (eL _ (by omega)) (by rw [e2]), ⟨kn, t1, ?_, ?_⟩, ?_, w9⟩
  · rw [eL 12 (by omega)]; exact t2
  · rw [eL 12 (by omega), eL 13 (by omega)]; exact t3
  · unfold Room
    rw [e2, e3, e4]
    exact w8
theorem XFr.sc {h k : Hp} (e0 : k.2.2 = h.2.2) (eI : ∀ r, ¬ xsc r → hI k r = hI h r) (eL : ∀ r, 67 < r → hL k r = hL h r) : XFr h k := by
  have e1 : hR k = hR h := congrArg (fun x => x.1) e0
  have e2 : hN k = hN h := congrArg (fun x => x.2.2.1) e0
  have e3 : hC k = hC h := congrArg (fun x => x.2.2.2.1) e0
  exact ⟨fun r _ n => eI r n, fun r y => eL r (by omega), fun r j _ _ => by rw [e1], fun r _ => by rw [e2], by rw [e3]; exact Nat.le_refl _⟩
theorem hand_can {q v : Int → Int} (V : VS q) (T : VT q v) (z : Int) : CanZ q (pS v (v 0)) (v 0) (stv q (pL q v (v 0))) (pR q v (v 0)) (pG q v (v 0)) z ↔ MayZ q v z := by
  have nr := hand_nr V T
  have n1 := nr.1.2.1
  constructor
  · intro c
    obtain ⟨k, k1, k2, k3⟩ := c.1
    rw [← k3] at c
    exact ⟨k, k1, k2, k3, (Can_k V v n1 ⟨k1, k2⟩).mp c⟩
  · rintro ⟨k, k1, k2, k3, k4⟩
    rw [← k3]
    exact (Can_k V v n1 ⟨k1, k2⟩).mpr k4
theorem hand_x (d : Nat) {h : Hp} {o p : Nat} {q v z co ca : Int → Int} (S : XS h o p q v z co ca) {x : Int} (hx : -2147483648 ≤ x ∧ x < 2147483648) : evm (d + 2) 4 [vR 0 4, vR 5 o, vI (iZ x)] h = some (some (vI (bZ (MayZ q v x))), h) := by
  obtain ⟨T0, b2, b3, b4⟩ := S.2.2.2.2.1
  have V := S.2.2.2.1.2.1
  have v1 := V.top
  have vn := V.n
  have nr := hand_nr V T0
  have n0 := nr.1.1
  have n3 := nr.1.2.2.2
  have mg := mxG_b V
  have pr := pR_b (q := q) (v := v) T0.1.1
  have t1 := T0.1
  rw [x_can d S.1 S.2.1.1 S.2.2.2.1.1 V b3.1 hx (by omega) (by omega) (stv_b V nr.1.2.1) (by omega) (by omega)]
  rw [propext (hand_can V T0 x)]
theorem X_may (d : Nat) {h : Hp} {o p : Nat} {q v z co ca : Int → Int} (S : XS h o p q v z co ca) {x : Int} (hx : -2147483648 ≤ x ∧ x < 2147483648) : evm (d + 3) 105 [vR 11 0, vI (iZ x)] h = some (some (vI (bZ (MayZ q v x))), h) := by
  rw [e_X_may, S.1.r 0 1 4, bR_s, S.2.2.1.1, bR_s, hand_x d S hx, bI_s, bZ_B, cond_true]
theorem X_taken (d : Nat) {h : Hp} {o p : Nat} {q v z co ca : Int → Int} (S : XS h o p q v z co ca) {x : Int} (hx : -2147483648 ≤ x ∧ x < 2147483648) : evm (d + 1) 108 [vR 11 0, vI (iZ x)] h = some (some (vI (iZ (if 0 ≤ x ∧ x < v 0 then v (1 + x) else -1))), h) := by
  obtain ⟨T0, b2, b3, b4⟩ := S.2.2.2.2.1
  have t1 := T0.1
  have i42 : hI h 4 2 = iZ (v 0) := by rw [b3.1]; rfl
  rw [e_X_taken, show (-1 : Int32) = iZ (-1) from rfl]
  by_cases c : x < 0
  · rw [if_neg (by omega)]
    simp (disch := omega) only [lit32, litJ, iz_add, iz_sub, iz_mul, iz_neg, nI_iz, ix_iz, inb_iz, ifp_t, ifp_f, ifp_T, ifp_F, iz_eq, iz_lt, bI_s, bL_s, bV_s, bR_s]
  · by_cases c2 : x < v 0
    · have := b3.2 x (by omega) c2
      have e5 : hI h 5 x.toNat = iZ (v (1 + x)) := this
      rw [if_pos (by omega)]
      simp (disch := omega) only [lit32, litJ, iz_add, iz_sub, iz_mul, iz_neg, nI_iz, ix_iz, inb_iz, ifp_t, ifp_f, ifp_T, ifp_F, iz_eq, iz_lt, bI_s, bL_s, bV_s, bR_s, S.1.r 0 1 4, i42, S.1.r 4 0 5, S.1.n 5 40, e5]
    · rw [if_neg (by omega)]
      simp (disch := omega) only [lit32, litJ, iz_add, iz_sub, iz_mul, iz_neg, nI_iz, ix_iz, inb_iz, ifp_t, ifp_f, ifp_T, ifp_F, iz_eq, iz_lt, bI_s, bL_s, bV_s, bR_s, S.1.r 0 1 4, i42]
theorem X_lawful (d : Nat) {h : Hp} {o p : Nat} {q v z co ca : Int → Int} (S : XS h o p q v z co ca) : evm (d + 2) 109 [vR 11 0] h = some (some (vI (iZ (lwN q v))), h) := by
  obtain ⟨T0, b2, b3, b4⟩ := S.2.2.2.2.1
  have V := S.2.2.2.1.2.1
  have v1 := V.top
  have vc := V.cnt
  have nr := hand_nr V T0
  have n0 := nr.1.1
  have t1 := T0.1
  have i41 : hI h 4 1 = iZ (pS v (v 0)) := by rw [b3.1]; rfl
  have i42 : hI h 4 2 = iZ (v 0) := by rw [b3.1]; rfl
  rw [e_X_lawful, show (-1 : Int32) = iZ (-1) from rfl]
  unfold lwN
  by_cases c : pS v (v 0) < q 0
  · rw [if_pos c]
    simp (disch := omega) only [lit32, litJ, iz_add, iz_sub, iz_mul, iz_neg, nI_iz, ix_iz, inb_iz, ifp_t, ifp_f, ifp_T, ifp_F, iz_eq, iz_lt, bI_s, bL_s, bV_s, bR_s, S.1.r 0 1 4, S.2.2.1.1, i41, S.2.2.2.1.1.top]
  · rw [if_neg c]
    simp (disch := omega) only [lit32, litJ, iz_add, iz_sub, iz_mul, iz_neg, nI_iz, ix_iz, inb_iz, ifp_t, ifp_f, ifp_T, ifp_F, iz_eq, iz_lt, bI_s, bL_s, bV_s, bR_s, S.1.r 0 1 4, S.2.2.1.1, i41, i42, S.2.2.2.1.1.top, S.2.2.2.1.1.lea, x_footFits d S.2.2.2.1.1 V (show 0 ≤ v 0 ∧ v 0 ≤ 1000 by omega), bZ_0]
    by_cases c2 : FtT q (v 0)
    · have c2' := c2
      unfold FtT at c2'
      rw [ifp_f (fun y => y c2), if_neg (by omega)]
      by_cases c3 : v 0 < q 3
      · rw [if_pos c3, ifp_t c3]
      · rw [if_neg c3, ifp_f c3]
    · have c2' := c2
      unfold FtT at c2'
      rw [ifp_t c2, if_pos (by omega)]
theorem X_step (d : Nat) {h : Hp} {o p : Nat} {q v z co ca : Int → Int} (S : XS h o p q v z co ca) {x y : Int} (hx : -2147483648 ≤ x ∧ x < 2147483648) (hy : -2147483648 ≤ y ∧ y < 2147483648) : evm (d + 1) 104 [vR 11 0, vI (iZ x), vI (iZ y)] h = some (some (vI (iZ (if (0 ≤ x ∧ x ≤ q 0) ∧ 0 ≤ y ∧ y ≤ 2 then (if y = 0 then q (26 + x) else if y = 1 then Hpv q x else v (41 + x)) else -1))), h) := by
  obtain ⟨T0, b2, b3, b4⟩ := S.2.2.2.2.1
  have V := S.2.2.2.1.2.1
  have R := S.2.2.2.1.1
  have t := S.2.1.1
  have v1 := V.top
  rw [e_X_step, show (-1 : Int32) = iZ (-1) from rfl, show ((0 : Int32) + 1 + 1) = iZ 2 from rfl, show ((0 : Int32) + 1) = iZ 1 from rfl]
  by_cases c1 : 0 ≤ x ∧ x ≤ q 0
  · simp (disch := omega) only [lit32, litJ, iz_add, iz_sub, iz_mul, iz_neg, nI_iz, ix_iz, inb_iz, ifp_t, ifp_f, ifp_T, ifp_F, iz_eq, iz_lt, bI_s, bL_s, bV_s, bR_s, S.2.2.1.1, R.top]
    by_cases y0 : y = 0
    · rw [if_pos (by omega), if_pos y0]
      simp (disch := omega) only [lit32, litJ, iz_add, iz_sub, iz_mul, iz_neg, nI_iz, ix_iz, inb_iz, ifp_t, ifp_f, ifp_T, ifp_F, iz_eq, iz_lt, bI_s, bL_s, bV_s, bR_s, S.2.2.1.1, S.1.o2 t, S.1.n3 t, R.kin c1.1 (show x ≤ 40 by omega)]
    · by_cases y1 : y = 1
      · rw [if_pos (by omega), if_neg y0, if_pos y1]
        simp (disch := omega) only [lit32, litJ, iz_add, iz_sub, iz_mul, iz_neg, nI_iz, ix_iz, inb_iz, ifp_t, ifp_f, ifp_T, ifp_F, iz_eq, iz_lt, bI_s, bL_s, bV_s, bR_s, S.2.2.1.1, S.1.o4 t, S.1.n5 t, R.hp c1.1 c1.2]
      · by_cases y2 : y = 2
        · rw [if_pos (by omega), if_neg y0, if_neg y1]
          simp (disch := omega) only [lit32, litJ, iz_add, iz_sub, iz_mul, iz_neg, nI_iz, ix_iz, inb_iz, ifp_t, ifp_f, ifp_T, ifp_F, iz_eq, iz_lt, bI_s, bL_s, bV_s, bR_s, S.1.r 0 9 46, S.1.n 46 41, (b4 x c1.1 (by omega)).1]
        · rw [if_neg (by omega)]
          simp (disch := omega) only [lit32, litJ, iz_add, iz_sub, iz_mul, iz_neg, nI_iz, ix_iz, inb_iz, ifp_t, ifp_f, ifp_T, ifp_F, iz_eq, iz_lt, bI_s, bL_s, bV_s, bR_s]
  · rw [if_neg (by omega)]
    by_cases c2 : x < 0
    · simp (disch := omega) only [lit32, litJ, iz_add, iz_sub, iz_mul, iz_neg, nI_iz, ix_iz, inb_iz, ifp_t, ifp_f, ifp_T, ifp_F, iz_eq, iz_lt, bI_s, bL_s, bV_s, bR_s]
    · simp (disch := omega) only [lit32, litJ, iz_add, iz_sub, iz_mul, iz_neg, nI_iz, ix_iz, inb_iz, ifp_t, ifp_f, ifp_T, ifp_F, iz_eq, iz_lt, bI_s, bL_s, bV_s, bR_s, S.2.2.1.1, R.top]
theorem X_plain (d : Nat) {h : Hp} {o p A G P c0 s0 : Nat} {q v z co ca : Int → Int} (S : XS h o p q v z co ca) (W : XW h A G P c0 s0 q co ca) {x y : Int} (hp : PlO x y) :
    ∃ k, evm (d + 5) 114 [vR 11 0, vI (iZ x), vI (iZ y)] h = some (some (vI (iZ (Anq q x % y))), k) ∧ XFr h k ∧ XW k A G P c0 s0 q co ca := by
  obtain ⟨a, b, c, e⟩ := x_rest d S.1 S.2.1.1 S.2.2.2.1.1 S.2.2.2.1.2.1 hp
  have hp' := hp
  unfold PlO at hp'
  have eL : ∀ r, r ≠ 26 → r ≠ 27 → r ≠ 28 → hL (wL (wL (wL h 26 a) 28 b) 27 c) r = hL h r := fun r r1 r2 r3 => by rw [wL_n _ _ r2, wL_n _ _ r3, wL_n _ _ r1]
  refine ⟨wL (wL (wL h 26 a) 28 b) 27 c, ?_, XFr.sc rfl (fun _ _ => rfl) (fun r y => eL r (by omega) (by omega) (by omega)), W.sc rfl (fun _ _ => rfl) (fun r y => eL r (by omega) (by omega) (by omega))⟩
  rw [e_X_plain]
  simp (disch := omega) only [lit32, litJ, iz_add, iz_sub, iz_mul, iz_neg, nI_iz, ix_iz, inb_iz, ifp_t, ifp_f, ifp_T, ifp_F, iz_eq, iz_lt, bI_s, bL_s, bV_s, bR_s, S.1.r 0 7 25, S.2.2.1.1, e]
