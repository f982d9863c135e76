/-! nth, fair: whole -/
theorem WMe.tr {h k : Hp} {q : Int → Int} {pu le mo : Int} {F : Int → Int → Int → Int → Int → Int} {A : Nat} (M : WMe h q pu le mo F A) (e : hI k 8 = hI h 8) (e1 : hI k 9 = hI h 9) (e2 : hL k A = hL h A) (e3 : hN k A = hN h A) : WMe k q pu le mo F A := ⟨M.1.tr e e1, by rw [e3]; exact M.2.1, by rw [e2]; exact M.2.2⟩
theorem WC.tr {h k : Hp} {q : Int → Int} {A : Nat} (C : WC h q A) (e : hI k 8 = hI h 8) (e1 : hI k 9 = hI h 9) (e2 : hL k A = hL h A) (e3 : hN k A = hN h A) : WC k q A := by
  obtain ⟨pu, c1, c2⟩ := C
  refine ⟨pu, by rw [e]; exact c1, ?_⟩
  rcases c2 with c2 | c2 | c2 | c2 | c2
  · exact Or.inl c2
  · exact Or.inr (Or.inl c2)
  · exact Or.inr (Or.inr (Or.inl ⟨c2.1, c2.2.tr e e1 e2 e3⟩))
  · exact Or.inr (Or.inr (Or.inr (Or.inl ⟨c2.1, c2.2.tr e e1 e2 e3⟩)))
  · exact Or.inr (Or.inr (Or.inr (Or.inr ⟨c2.1, c2.2.tr e e1 e2 e3⟩)))
/-- the ghost alone has changed -/
theorem XW.gh {h : Hp} {A G P c0 s0 : Nat} {q co ca : Int → Int} (W : XW h A G P c0 s0 q co ca) (s b la cr g : Int) (S : Nat → Int32) : XFr h (CH h 6 s b la cr g S) ∧ XW (CH h 6 s b la cr g S) A G P c0 s0 q co ca := by
  have e : CH (wL h A (hL h A)) 6 s b la cr g S = CH h 6 s b la cr g S := by rw [wL_self]
  have := W.ways (Wfr.rf W.2.1.1 W.2.1.2) (hL h A) s b la cr g S (by
    rw [e]
    exact W.2.2.2.2.2.1.tr (CH_n (by decide)) (CH_n (by decide)) rfl rfl)
  rw [e] at this
  exact this
/-- what was drawn alone has changed -/
theorem XW.sl {h : Hp} {A G P c0 s0 : Nat} {q co ca : Int → Int} (W : XW h A G P c0 s0 q co ca) (x : Int64) : XFr h (sL h 0 13 x) ∧ XW (sL h 0 13 x) A G P c0 s0 q co ca := by
  have hl : ∀ r, r ≠ 0 → hL (sL h 0 13 x) r = hL h r := fun r n => by rw [sL_w, wL_n _ _ n]
  obtain ⟨w1, w2, w3, w4, w5, wc, ⟨kn, t1, t2, t3⟩, w8⟩ := W
  refine ⟨⟨fun _ _ _ => rfl, fun r y => hl r (by omega), fun _ _ _ _ => rfl, fun _ _ => rfl, Nat.le_refl _⟩, w1, w2, w3, w4, w5, wc.tr rfl rfl (hl A (by omega)) rfl, ⟨kn, t1, ?_, ?_⟩, w8⟩
  · rw [hl 12 (by decide)]; exact t2
  · rw [hl 12 (by decide), hl 13 (by decide)]; exact t3
theorem X_nth (d : Nat) {h : Hp} {o p A G P c0 s0 : Nat} {q v z co ca : Int → Int} (S : XS h o p q v z co ca) (W : XW h A G P c0 s0 q co ca) {x i : Int} (hx : -9223372036854775808 ≤ x ∧ x < 9223372036854775808) (hi : -2147483648 ≤ i ∧ i < 2147483648) :
    ∃ k A', evm (d + 89) 113 [vR 11 0, vL (jZ x), vI (iZ i)] h = some (some (vI (iZ (if (0 ≤ x ∧ x < Wy q v False (eAll q (-1)) 0 0 0 0 0) ∧ 0 ≤ i then SA q v (eAll q (-1)) i.toNat 0 0 0 0 0 x else -1))), k) ∧ XFr h k ∧ XW k A' G P c0 s0 q co ca := by
  have hc : 92 < hC h := W.2.2.2.2.1.1
  have V := S.2.2.2.1.2.1
  have mc := mxC_b V
  have mg := mxG_b V
  have v1 := V.top
  have vn := V.n
  obtain ⟨⟨s1, b1, la1, cr1, g1, w6⟩, _⟩ := W.1
  have e0 : CH h 6 s1 b1 la1 cr1 g1 (hI h 7) = h := CH_self w6 rfl
  have st := x_start (d + 86) (h := h) (c := 6) (s := s1) (t := b1) (la := la1) (cr := cr1) (g := g1) (S := hI h 7)
  rw [e0] at st
  have w := W.gh 0 0 0 0 0 (hI h 7)
  have c00 : crC q 0 = 0 := by unfold crC; split <;> rfl
  obtain ⟨k, A', f1, f2, f3⟩ := X_strideOf d (S.fr hc w.1) w.2 (s := 0) (l := 0) (cr := 0) (g := 0) (b := 0) ⟨CH_I, ⟨⟨by omega, by omega, by rw [c00]; omega, by omega⟩, fun y => by omega⟩, by omega, fun y => by omega, fun _ => rfl⟩ hx hi
  rw [c00] at f1
  refine ⟨k, A', ?_, w.1.tr f2, f3⟩
  rw [show d + 89 = (d + 88) + 1 from rfl, e_X_nth, S.1.r 0 2 6, bR_s, st, bV_s, f1, bI_s]
theorem X_fair (d : Nat) {h : Hp} {o p A G P c0 s0 : Nat} {q v z co ca : Int → Int} (S : XS h o p q v z co ca) (W : XW h A G P c0 s0 q co ca) {x i : Int} (hx : -2147483648 ≤ x ∧ x < 2147483648) (hi : -2147483648 ≤ i ∧ i < 2147483648) :
    ∃ k A', evm (d + 89) 125 [vR 11 0, vI (iZ x), vI (iZ i)] h = some (some (vI (iZ (if (0 ≤ x ∧ x ≤ 9999) ∧ 0 ≤ i ∧ WyH q v (eAll q (-1)) ≠ 0 then SA q v (eAll q (-1)) i.toNat (pS v (v 0)) (pL q v (v 0)) (pC q v (v 0)) (pG q v (v 0)) (v 0) (frN x % WyH q v (eAll q (-1))) else -1))), k) ∧ XFr h k ∧ XW k A' G P c0 s0 q co ca := by
  have hc : 92 < hC h := W.2.2.2.2.1.1
  have V := S.2.2.2.1.2.1
  have T0 := S.2.2.2.2.1.1
  have nr := hand_nr V T0
  have n0 := nr.1.1
  by_cases ok : 0 ≤ x ∧ x ≤ 9999
  · obtain ⟨k, A', m1, m2, m3, m4, m5⟩ := X_manyFrom (d + 2) S W
    have wb : 0 ≤ WyH q v (eAll q (-1)) ∧ WyH q v (eAll q (-1)) ≤ 1099511627776 := Wy_b V (by omega) n0.2.2
    have ex : (iZ x).toInt64 = jZ x := iz_l (by omega)
    rw [show d + 89 = (d + 88) + 1 from rfl, e_X_fair, show d + 88 = (d + 87) + 1 from rfl, e_X_isNoSeed]
    simp (disch := omega) only [lit32, litJ, iz_add, iz_sub, iz_mul, iz_neg, nI_iz, ix_iz, inb_iz, ifp_t, ifp_f, ifp_T, ifp_F, iz_eq, iz_lt, bI_s, bL_s, bV_s, bR_s]
    rw [e_X_fair_9, S.1.r 0 1 4, bR_s, m1, bL_s]
    simp only [lit32, litJ]
    rw [ifp_n (cmp_gt (by omega))]
    by_cases c : 0 < WyH q v (eAll q (-1))
    · rw [ifp_t c, ex]
      have n1 := nG_b x
      have n2 := nG_b (nG x)
      have n3 := nG_b (nG (nG x))
      have hk : 92 < hC k := by have := m2.2.2.2.2; omega
      have w1 := m3.sl (jZ x)
      have w2 := w1.2.sl (jZ (nG x))
      have w3 := w2.2.sl (jZ (nG (nG x)))
      have w4 := w3.2.sl (jZ (nG (nG (nG x))))
      have g13 : ∀ (h : Hp) (y : Int64), hL (sL h 0 13 y) 0 13 = y := fun h y => by rw [sL_w, wL_L, up_e]
      rw [x_draw (d + 87) (g13 _ _) (by omega) (by omega), bI_s, x_draw (d + 87) (g13 _ _) n1 (by omega), bI_s, x_draw (d + 87) (g13 _ _) n2 (by omega), bI_s]
      have b1 : 0 ≤ nG x / 65536 % 32768 ∧ nG x / 65536 % 32768 < 32768 := by omega
      have b2 : 0 ≤ nG (nG x) / 65536 % 32768 ∧ nG (nG x) / 65536 % 32768 < 32768 := by omega
      have b3 : 0 ≤ nG (nG (nG x)) / 65536 % 32768 ∧ nG (nG (nG x)) / 65536 % 32768 < 32768 := by omega
      have fb : 0 ≤ frN x ∧ frN x < 35184372088832 := by unfold frN; omega
      rw [iz_l (by omega), iz_l (by omega), iz_l (by omega), jz_mul, jz_add, jz_mul, jz_add]
      have fe : (nG x / 65536 % 32768 * 32768 + nG (nG x) / 65536 % 32768) * 32768 + nG (nG (nG x)) / 65536 % 32768 = frN x := rfl
      rw [fe, ifp_f (fun y => by have := (jz_eq (by omega)).mp y; omega), lrem_jz (by omega)]
      have rb : 0 ≤ frN x % WyH q v (eAll q (-1)) ∧ frN x % WyH q v (eAll q (-1)) < WyH q v (eAll q (-1)) := ⟨Int.emod_nonneg _ (by omega), Int.emod_lt_of_pos _ (by omega)⟩
      have fx := (((m2.tr w1.1).tr w2.1).tr w3.1).tr w4.1
      obtain ⟨k', A'', f1, f2, f3⟩ := X_strideOf d (S.fr hc fx) w4.2 (s := pS v (v 0)) (l := pL q v (v 0)) (cr := pR q v (v 0)) (g := pG q v (v 0)) (b := v 0) ⟨m5.1, nr, pR_b T0.1.1, fun y => by
        have := m5.2 (v 0 - 1) (by omega) (by omega)
        rw [show 1 + (v 0 - 1) = v 0 by omega] at this
        rw [hand_stv V T0 y]
        exact this, fun y => hand_l0 y⟩ (x := frN x % WyH q v (eAll q (-1))) (by omega) hi
      rw [show d + 87 + 1 = d + 88 from rfl, f1, bI_s]
      refine ⟨k', A'', ri_e ?_, fx.tr f2, f3⟩
      by_cases ci : 0 ≤ i
      · rw [if_pos ⟨rb, ci⟩, if_pos ⟨ok, ci, by omega⟩]
        rfl
      · rw [if_neg (fun y => ci y.2), if_neg (fun y => ci y.2.1)]
    · rw [ifp_f c, if_neg (by omega)]
      exact ⟨k, A', rfl, m2, m3⟩
  · rw [if_neg (fun y => ok y.1)]
    refine ⟨h, A, ?_, XFr.rf h, W⟩
    rw [show d + 89 = (d + 88) + 1 from rfl, e_X_fair, show d + 88 = (d + 87) + 1 from rfl, e_X_isNoSeed]
    by_cases c1 : x < 0
    · simp (disch := omega) only [lit32, litJ, iz_add, iz_sub, iz_mul, iz_neg, nI_iz, ix_iz, inb_iz, ifp_t, ifp_f, ifp_T, ifp_F, iz_eq, iz_lt, bI_s, bL_s, bV_s, bR_s]
    · simp (disch := omega) only [lit32, litJ, iz_add, iz_sub, iz_mul, iz_neg, nI_iz, ix_iz, inb_iz, ifp_t, ifp_f, ifp_T, ifp_F, iz_eq, iz_lt, bI_s, bL_s, bV_s, bR_s]
