/-! the class: crowd, weary, two, weight, climb -/
theorem X_goUp (d : Nat) {h : Hp} {o p A G P c0 s0 : Nat} {q v z co ca : Int → Int} (S : XS h o p q v z co ca) (W : XW h A G P c0 s0 q co ca) {x : Int} (hx : 1 ≤ x ∧ x ≤ 1000000000000) :
    ∃ k G', evm (d + 7) 78 [vR 9 12, vR 5 o, vL (jZ x)] h = some (none, k) ∧ XFr h k ∧ XW k A G' P c0 s0 q co ca ∧ (∀ s : Int, 0 ≤ s → s ≤ 40 → hL k 13 s.toNat = jZ (Trd q co ca x s)) ∧ hL k 12 1 = jZ (Prc q co ca x) := by
  have lim := W.lim
  have tt := S.2.1.1
  unfold TO at tt
  obtain ⟨⟨w1, w2⟩, ⟨a1, a2, a3⟩, ⟨g1, g2, g3⟩, ⟨p1, p2⟩, ⟨c1, ⟨c2, c3, c4⟩, c5, c6, c7, c8, c9, cA⟩, wc, tc, ⟨r1, r2⟩, cc⟩ := W
  obtain ⟨k, G', e1, ⟨f1, f2, f3, f4, f5, f6, f7, f8⟩, t1, t2, t3⟩ := x_goUp d S.1 S.2.1.1 S.2.2.2.1.1 S.2.2.2.1.2.1 S.2.2.2.1.2.2 (G := G) (by unfold GT; omega) g1 ⟨g2, g3⟩ ⟨c3, c1, lim⟩ w2 tc hx
  have Gq : G' = G ∨ G' = hC h := by rcases f7 with y | y <;> omega
  have cle : hC h ≤ hC k := by rcases f7 with y | y <;> omega
  have nA' : hN k A = hN h A := f4 A (Or.inl c2)
  have nP' : hN k P = hN h P := f4 P (Or.inl c4)
  refine ⟨k, G', e1, ⟨fun r y n => ?_, fun r y => f2 r (by unfold Dm; omega) (by omega) (by omega) (by omega) (by omega), fun r j y n => f3 r j y (by omega), f4, cle⟩, ⟨⟨w1.tr (f1 6 (Or.inl (by omega)) (by omega) (by omega) (by omega) (by omega) (by omega) (by omega)), f8⟩, ⟨?_, by rw [nA']; exact ⟨a2, a3⟩⟩, ⟨f5, f6⟩, ⟨?_, by rw [nP']; exact p2⟩, ⟨by omega, ⟨by omega, by rcases f7 with y | y <;> omega, by omega⟩, c5, by omega, c7, by omega, c9, by omega⟩, wc.tr (f1 8 (Or.inl (by omega)) (by omega) (by omega) (by omega) (by omega) (by omega) (by omega)) (f1 9 (Or.inl (by omega)) (by omega) (by omega) (by omega) (by omega) (by omega) (by omega)) (f2 A (Or.inl c2) (by omega) (by omega) (by omega) (by omega)) nA', ⟨x, by omega, t1, Or.inr ⟨t2, t3⟩⟩, ⟨?_, ?_⟩, cc⟩, t2, t3⟩
  · have : ¬ (6 ≤ r ∧ r ≤ 28) ∧ r ≠ 57 ∧ r ≠ 67 := by unfold xsc at n; omega
    exact f1 r y (by omega) (by omega) (by omega) (by omega) (by omega) (by omega)
  · rw [f3 8 2 (Or.inl (by omega)) (by omega)]; exact a1
  · rw [f3 23 0 (Or.inl (by omega)) (by omega)]; exact p1
  · rw [nA', nP']
    rcases f7 with ⟨y1, y2, y3⟩ | ⟨y1, y2, y3, y4, y5⟩
    · rw [y1, y2, f4 G (Or.inl c3)]; exact r1
    · omega
  · rw [nA', nP']
    rcases f7 with ⟨y1, y2, y3⟩ | ⟨y1, y2, y3, y4, y5⟩
    · rw [y1, y3, f4 G (Or.inl c3)]; exact r2
    · have := raN_g y4 y5 f6.2
      omega
theorem x_noCrowd (d : Nat) {h : Hp} {x : Int} (hx : -9223372036854775808 ≤ x ∧ x < 9223372036854775808) : evm (d + 1) 134 [vL (jZ x)] h = some (some (vI (bZ (¬ (1 ≤ x ∧ x ≤ 1000000000000)))), h) := by
  rw [e_X_isNoCrowd]
  simp only [lit32, litJ]
  rw [ifp_n (cmp_lt (by omega)), ifp_n (cmp_gt (by omega))]
  refine ifp_r (fun y => ?_) (fun y => ifp_r (fun w => ?_) (fun w => ?_))
  · rw [bZ_t (by omega)]
  · rw [bZ_t (by omega)]
  · rw [bZ_f (by omega)]
theorem X_crowd (d : Nat) {h : Hp} {o p A G P c0 s0 : Nat} {q v z co ca : Int → Int} (S : XS h o p q v z co ca) (W : XW h A G P c0 s0 q co ca) {x y : Int} (hx : -9223372036854775808 ≤ x ∧ x < 9223372036854775808) (hy : -2147483648 ≤ y ∧ y < 2147483648) :
    ∃ k G', evm (d + 8) 115 [vR 11 0, vL (jZ x), vI (iZ y)] h = some (some (vL (jZ (if (1 ≤ x ∧ x ≤ 1000000000000) ∧ 0 ≤ y ∧ y ≤ q 0 then Trd q co ca x y else -1))), k) ∧ XFr h k ∧ XW k A G' P c0 s0 q co ca := by
  have V := S.2.2.2.1.2.1
  have v1 := V.top
  have m1 : (-1 : Int64) = jZ (-1) := rfl
  rw [e_X_crowd, x_noCrowd (d + 6) hx, bI_s, m1]
  simp only [lit32, bZ_0]
  by_cases c1 : 1 ≤ x ∧ x ≤ 1000000000000
  · rw [ifp_t (fun w => w c1)]
    by_cases c2 : y < 0
    · rw [if_neg (by omega)]
      refine ⟨h, G, ?_, XFr.rf h, W⟩
      simp (disch := omega) only [lit32, litJ, iz_add, iz_sub, iz_mul, iz_neg, nI_iz, ix_iz, inb_iz, ifp_t, ifp_f, ifp_T, ifp_F, iz_eq, iz_lt, bI_s, bL_s, bV_s, bR_s]
    · by_cases c3 : q 0 < y
      · rw [if_neg (by omega)]
        refine ⟨h, G, ?_, XFr.rf h, W⟩
        simp (disch := omega) only [lit32, litJ, iz_add, iz_sub, iz_mul, iz_neg, nI_iz, ix_iz, inb_iz, ifp_t, ifp_f, ifp_T, ifp_F, iz_eq, iz_lt, bI_s, bL_s, bV_s, bR_s, S.2.2.1.1, S.2.2.2.1.1.top]
      · rw [if_pos (by omega)]
        obtain ⟨k, G', e1, e2, e3, e4, e5⟩ := X_goUp d S W c1
        have S' := S.fr W.2.2.2.2.1.1 e2
        refine ⟨k, G', ?_, e2, e3⟩
        simp (disch := omega) only [lit32, litJ, iz_add, iz_sub, iz_mul, iz_neg, nI_iz, ix_iz, inb_iz, ifp_t, ifp_f, ifp_T, ifp_F, iz_eq, iz_lt, bI_s, bL_s, bV_s, bR_s, S.2.2.1.1, S.2.2.2.1.1.top, S.1.r 0 4 12, e1, S'.1.r 0 4 12, S'.1.r 12 0 13, S'.1.n 13 41, e4 y (by omega) (by omega)]
  · rw [ifp_f (fun w => w c1), if_neg (fun w => c1 w.1)]
    exact ⟨h, G, rfl, XFr.rf h, W⟩
theorem X_weary (d : Nat) {h : Hp} {o p A G P c0 s0 : Nat} {q v z co ca : Int → Int} (S : XS h o p q v z co ca) (W : XW h A G P c0 s0 q co ca) {x : Int} (hx : -9223372036854775808 ≤ x ∧ x < 9223372036854775808) :
    ∃ k G', evm (d + 8) 116 [vR 11 0, vL (jZ x)] h = some (some (vL (jZ (if 1 ≤ x ∧ x ≤ 1000000000000 then Prc q co ca x else -1))), k) ∧ XFr h k ∧ XW k A G' P c0 s0 q co ca := by
  have m1 : (-1 : Int64) = jZ (-1) := rfl
  rw [e_X_weary, x_noCrowd (d + 6) hx, bI_s, m1]
  simp only [lit32, bZ_0]
  by_cases c1 : 1 ≤ x ∧ x ≤ 1000000000000
  · rw [ifp_t (fun w => w c1), if_pos c1]
    obtain ⟨k, G', e1, e2, e3, e4, e5⟩ := X_goUp d S W c1
    have S' := S.fr W.2.2.2.2.1.1 e2
    refine ⟨k, G', ?_, e2, e3⟩
    simp (disch := omega) only [lit32, litJ, iz_add, iz_sub, iz_mul, iz_neg, nI_iz, ix_iz, inb_iz, ifp_t, ifp_f, ifp_T, ifp_F, iz_eq, iz_lt, bI_s, bL_s, bV_s, bR_s, S.2.2.1.1, S.1.r 0 4 12, e1, S'.1.r 0 4 12, e5]
  · rw [ifp_f (fun w => w c1), if_neg c1]
    exact ⟨h, G, rfl, XFr.rf h, W⟩
theorem X_weight (d : Nat) {h : Hp} {o p A G P c0 s0 : Nat} {q v z co ca : Int → Int} (S : XS h o p q v z co ca) (W : XW h A G P c0 s0 q co ca) {x : Int} (hx : -2147483648 ≤ x ∧ x < 2147483648) :
    ∃ k, evm (d + 4) 117 [vR 11 0, vI (iZ x)] h = some (some (vI (iZ (pif (MayZ q v x) (wgt q co ca x (stv q (pL q v (v 0))) (pS v (v 0)) (v 0)) (-1)))), k) ∧ XFr h k ∧ XW k A G P c0 s0 q co ca := by
  have tt := S.2.1.1
  unfold TO at tt
  rw [e_X_weight, S.1.r 0 1 4, bR_s, S.2.2.1.1, bR_s, hand_x (d + 1) S hx, bI_s]
  simp only [lit32, bZ_0]
  by_cases c : MayZ q v x
  · rw [ifp_f (fun y => y c), pif_t c]
    obtain ⟨Q, e⟩ := x_moodOf d S.1 S.2.1.1 S.2.2.2.1.2.2 S.2.2.2.2.1.2.2.1.1 (z := x)
    have eI : ∀ r, r ≠ 57 → r ≠ 67 → hI (wI h (o + 9) Q) r = hI h r := fun r r1 r2 => wI_n _ _ (by omega)
    refine ⟨wI h (o + 9) Q, ?_, XFr.sc rfl (fun r n => eI r (fun y => n (by unfold xsc; omega)) (fun y => n (by unfold xsc; omega))) (fun _ _ => rfl), W.sc rfl (fun r y => eI r (by omega) (by omega)) (fun _ _ => rfl)⟩
    rw [S.1.r 0 1 4, bR_s, S.2.2.1.1, bR_s, e, bI_s]
  · rw [ifp_t c, pif_f c]
    exact ⟨h, rfl, XFr.rf h, W⟩
theorem X_climb (d : Nat) {h : Hp} {o p A G P c0 s0 : Nat} {q v z co ca : Int → Int} (S : XS h o p q v z co ca) (W : XW h A G P c0 s0 q co ca) {x y : Int} (hx : -2147483648 ≤ x ∧ x < 2147483648) (hy : -2147483648 ≤ y ∧ y < 2147483648) :
    ∃ k, evm (d + 6) 126 [vR 11 0, vI (iZ x), vI (iZ y)] h = some (some (vI (iZ (if (0 ≤ x ∧ x ≤ 9999) ∧ 0 ≤ y ∧ y ≤ 1 then (if y = 0 then (Cl q co ca 41 0 0 0 0 0 x).1 else (Cl q co ca 41 0 0 0 0 0 x).2) else -1))), k) ∧ XFr h k ∧ XW k A G P c0 s0 q co ca := by
  have tt := S.2.1.1
  unfold TO at tt
  obtain ⟨⟨s1, b1, la1, cr1, g1, w6⟩, _⟩ := W.1
  obtain ⟨Q, M, D, s, b, la, cr, g, T, e⟩ := x_climb d S.1 S.2.1.1 S.2.2.1.1 S.2.2.2.1.1 S.2.2.2.1.2.1 S.2.2.2.1.2.2 w6 hx hy
  have eI : ∀ r, r ≠ 6 → r ≠ 7 → r ≠ 47 → r ≠ 57 → r ≠ 67 → hI (KC h o Q M D s b la cr g T) r = hI h r := fun r r1 r2 r3 r4 r5 => by
    unfold KC
    rw [CH_n (by omega)]
    show hI (wI (wI h (o + 9) Q) 47 M) r = _
    rw [wI_n _ _ r3, wI_n _ _ (by omega)]
  have eL : ∀ r, r ≠ 0 → hL (KC h o Q M D s b la cr g T) r = hL h r := fun r r1 => by
    unfold KC
    rw [CH_L, wL_n _ _ r1]
    rfl
  have w := W.gh s b la cr g T
  have i6 : hI (CH h 6 s b la cr g T) 6 = hI (KC h o Q M D s b la cr g T) 6 := by unfold KC; rw [CH_I, CH_I]
  refine ⟨_, e, XFr.sc rfl (fun r n => eI r (fun y => n (by unfold xsc; omega)) (fun y => n (by unfold xsc; omega)) (fun y => n (by unfold xsc; omega)) (fun y => n (by unfold xsc; omega)) (fun y => n (by unfold xsc; omega))) (fun r y => eL r (by omega)), w.2.sc rfl (fun r y => ?_) (fun r y => eL r (by omega))⟩
  by_cases r6 : r = 6
  · rw [r6, i6]
  · rw [eI r r6 (by omega) (by omega) (by omega) (by omega), CH_n (by omega)]
