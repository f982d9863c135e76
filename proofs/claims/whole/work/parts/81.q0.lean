/-! the class's questions: many, manyOf, game, fit -/
theorem hand_nr {q w : Int → Int} (V : VS q) (T : VT q w) : Nr q (pS w (w 0)) (pL q w (w 0)) (crC q (pR q w (w 0))) (pG q w (w 0)) (w 0) := by
  refine ⟨T.2.1.nd V (w 0) T.1.1 (Int.le_refl _), fun y => Classical.byContradiction fun z => ?_⟩
  have : w 0 = 0 := by have := T.1.1; omega
  rw [this] at y
  have e : pS w 0 = 0 := sZ_0 _ (by omega)
  omega
theorem hand_stv {q w : Int → Int} (V : VS q) (T : VT q w) (h : 0 < w 0) : stv q (pL q w (w 0)) = w (w 0) := by
  obtain ⟨k, k1, k2, k3, _⟩ := T.2.1 (w 0 - 1) (by omega) (by omega)
  have e := pL_s V (show 0 ≤ w 0 - 1 by omega) k1 k2 k3
  rw [show w 0 - 1 + 1 = w 0 by omega] at e
  rw [e, stv_k q k1, ← k3, show 1 + (w 0 - 1) = w 0 by omega]
theorem hand_l0 {q w : Int → Int} (h : w 0 = 0) : pL q w (w 0) = 0 := by rw [h]; exact if_pos (by omega)
theorem XW.lim {h : Hp} {A G P c0 s0 : Nat} {q co ca : Int → Int} (W : XW h A G P c0 s0 q co ca) : hC h < 999999 := by
  obtain ⟨_, ⟨_, _, a⟩, ⟨_, _, g⟩, ⟨_, p⟩, _, _, _, ⟨r, _⟩, c⟩ := W
  omega
/-- what a question about ways leaves -/
theorem XW.ways {h h' : Hp} {A A' G P c0 s0 : Nat} {q co ca : Int → Int} (W : XW h A G P c0 s0 q co ca) (f : Wfr h h' A A') (T : Nat → Int64) (s b la cr g : Int) (S : Nat → Int32) (C : WC (CH (wL h' A' T) 6 s b la cr g S) q A') : XFr h (CH (wL h' A' T) 6 s b la cr g S) ∧ XW (CH (wL h' A' T) 6 s b la cr g S) A' G P c0 s0 q co ca := by
  have lim := W.lim
  obtain ⟨⟨w1, w2⟩, ⟨a1, a2, a3⟩, ⟨g1, g2, g3⟩, ⟨p1, p2⟩, ⟨c1, ⟨c2, c3, c4⟩, c5, c6, c7, c8, c9, cA⟩, wc, ⟨kn, t1, t2, t3⟩, ⟨r1, r2⟩, cc⟩ := W
  obtain ⟨f1, f2, f3, f4, f5, f6, f7⟩ := f
  have Aq : A' = A ∨ A' = hC h := by rcases f7 with y | y <;> omega
  have cle : hC h ≤ hC h' := by rcases f7 with y | y <;> omega
  have nG' : hN h' G = hN h G := f4 G (Or.inl c3)
  have nP' : hN h' P = hN h P := f4 P (Or.inl c4)
  have hL' : ∀ r, Dm h r → r ≠ A' → hL (CH (wL h' A' T) 6 s b la cr g S) r = hL h r := fun r y n => by
    rw [CH_L, wL_n _ _ n]; exact f2 r y n
  have hI' : ∀ r, Dm h r → ¬ (6 ≤ r ∧ r ≤ 10) → hI (CH (wL h' A' T) 6 s b la cr g S) r = hI h r := fun r y n => by
    rw [CH_n (by omega)]
    exact f1 r y (by omega) (by omega) (by omega)
  refine ⟨⟨fun r y n => hI' r y (fun z => n (by unfold xsc; omega)), fun r y => hL' r (by unfold Dm; omega) (by omega), fun r j y n => f3 r j y (by omega), fun r y => f4 r y, cle⟩, ⟨⟨_, _, _, _, _, CH_I⟩, w2.tr (hI' 14 (Or.inl (by omega)) (by omega))⟩, ⟨f5, f6⟩, ⟨?_, ?_, ?_⟩, ⟨?_, ?_⟩, ⟨?_, ⟨?_, ?_, ?_⟩, ?_, c6, c7, ?_, ?_, cA⟩, C, ⟨kn, t1, ?_, ?_⟩, ⟨?_, ?_⟩, cc⟩
  · show hR h' 12 6 = some G
    rw [f3 12 6 (Or.inl (by omega)) (by omega)]; exact g1
  · show 64 ≤ hN h' G; rw [nG']; exact g2
  · show hN h' G ≤ 14000; rw [nG']; exact g3
  · show hR h' 23 0 = some P
    rw [f3 23 0 (Or.inl (by omega)) (by omega)]; exact p1
  · show hN h' P = 0 ∨ hN h' P = 625; rw [nP']; exact p2
  · show 92 < hC h'; omega
  · show A' < hC h'; rcases f7 with y | y <;> omega
  · show G < hC h'; omega
  · show P < hC h'; omega
  · omega
  · omega
  · omega
  · rw [hL' 12 (Or.inl (by omega)) (by omega)]; exact t2
  · rw [hL' 12 (Or.inl (by omega)) (by omega), hL' 13 (Or.inl (by omega)) (by omega)]; exact t3
  · show hC h' ≤ c0 + hN h' A' + hN h' G + hN h' P
    rw [nG', nP']
    rcases f7 with ⟨y1, y2, y3⟩ | ⟨y1, y2, y3, y4, y5⟩
    · rw [y1, y2, f4 A (Or.inl c2)]; exact r1
    · omega
  · show hS h' ≤ s0 + raN (hN h' A') 143500 + raN (hN h' G) 14000 + hN h' P
    rw [nG', nP']
    rcases f7 with ⟨y1, y2, y3⟩ | ⟨y1, y2, y3, y4, y5⟩
    · rw [y1, y3, f4 A (Or.inl c2)]; exact r2
    · have := raN_g y4 y5 f6.2
      omega
theorem XW.wfr {h h' : Hp} {A A' G P c0 s0 : Nat} {q co ca : Int → Int} (W : XW h A G P c0 s0 q co ca) (f : Wfr h h' A A') (T : Nat → Int64) (s b la cr g : Int) (S : Nat → Int32) : XFr h (CH (wL h' A' T) 6 s b la cr g S) := by
  have lim := W.lim
  obtain ⟨_, _, _, _, ⟨c1, ⟨c2, c3, c4⟩, c5, _⟩, _⟩ := W
  obtain ⟨f1, f2, f3, f4, f5, f6, f7⟩ := f
  have Aq : A' = A ∨ A' = hC h := by rcases f7 with y | y <;> omega
  have cle : hC h ≤ hC h' := by rcases f7 with y | y <;> omega
  exact ⟨fun r y n => by
    have : ¬ (6 ≤ r ∧ r ≤ 10) := fun z => n (by unfold xsc; omega)
    rw [CH_n (by omega)]
    exact f1 r y (by omega) (by omega) (by omega), fun r y => by
    rw [CH_L, wL_n _ _ (by omega)]
    exact f2 r (by unfold Dm; omega) (by omega), fun r j y n => f3 r j y (by omega), fun r y => f4 r y, cle⟩
/-- the ghost goes where the hand is, and counts -/
theorem x_handFrom (d : Nat) {h h' : Hp} {o p A A' G P c0 s0 : Nat} {q v z co ca : Int → Int} (S : XS h o p q v z co ca) (W : XW h A G P c0 s0 q co ca) (f : Wfr h h' A A') {pu le mo : Int} {e : Int → Prop} (hp : -10 ≤ pu ∧ pu ≤ 40 ∧ pu ≠ -2 ∧ pu ≠ -3) (hb : 0 ≤ le ∧ le ≤ 40 ∧ 0 ≤ mo ∧ mo ≤ q 4) (he : ∀ t, e t ↔ FtT q t ∧ le ≤ t ∧ t ≤ mo) (M : WMe h' q pu le mo (Wy q z0 False e) A') :
    ∃ g T, evm (d + 85) 3 [vR 0 6, vR 0 4] h' = some (none, g) ∧ (hR g = hR h' ∧ hN g = hN h') ∧ ∃ S', evm (d + 85) 90 [vR 10 8, vR 5 o, vR 0 6, vI (iZ 0)] g = some (some (vL (jZ (WyH q v e))), CH (wL h' A' T) 6 (pS v (v 0)) (v 0) (stv q (pL q v (v 0))) (pR q v (v 0)) (pG q v (v 0)) S') ∧ WMe (CH (wL h' A' T) 6 (pS v (v 0)) (v 0) (stv q (pL q v (v 0))) (pR q v (v 0)) (pG q v (v 0)) S') q pu le mo (Wy q z0 False e) A' ∧ ∀ j : Int, 0 ≤ j → j < v 0 → S' j.toNat = iZ (v (1 + j)) := by
  obtain ⟨⟨s1, b1, la1, cr1, g1, w6⟩, _⟩ := W.1
  have hc : 92 < hC h := W.2.2.2.2.1.1
  have fr := fun T s b la cr g S => W.wfr f T s b la cr g S
  have X' : SX h' := (fr (hL h' A') 0 0 0 0 0 (hI h' 7)).sx hc S.1
  obtain ⟨a1, ⟨a2, a3, a4⟩, ⟨a5, a6⟩, ⟨a7, V, a9⟩, ⟨T0, b2, b3, b4⟩, b5⟩ := S
  have S0 : XS h o p q v z co ca := ⟨a1, ⟨a2, a3, a4⟩, ⟨a5, a6⟩, ⟨a7, V, a9⟩, ⟨T0, b2, b3, b4⟩, b5⟩
  have i4 : hI h' 4 = hI h 4 := f.1 4 (Or.inl (by omega)) (by decide) (by decide) (by decide)
  have i5 : hI h' 5 = hI h 5 := f.1 5 (Or.inl (by omega)) (by decide) (by decide) (by decide)
  have i6 : hI h' 6 = cFw s1 b1 la1 cr1 g1 := by rw [f.1 6 (Or.inl (by omega)) (by decide) (by decide) (by decide)]; exact w6
  have e0 : CH h' 6 s1 b1 la1 cr1 g1 (hI h' 7) = h' := CH_self i6 rfl
  have fo := x_follow (d + 83) (h := h') (c := 6) (c' := 4) (by decide) (X'.r 6 0 7) (X'.n 7 40) (X'.r 4 0 5) (X'.n 5 40) (s := s1) (b := b1) (la := la1) (cr := cr1) (g := g1) (S := hI h' 7) (by rw [i4]; exact b3.1)
  rw [e0] at fo
  obtain ⟨S1, hS1⟩ : ∃ S1, S1 = cpy 40 (hI h' (4 + 1)) (hI h' 7) := ⟨_, rfl⟩
  rw [← hS1] at fo
  have S1e : ∀ j : Int, 0 ≤ j → j < v 0 → S1 j.toNat = iZ (v (1 + j)) := fun j j1 j2 => by
    have := T0.1
    rw [hS1]
    have e1 : cpy 40 (hI h' (4 + 1)) (hI h' 7) j.toNat = hI h' 5 j.toNat := if_pos (by omega)
    rw [e1, i5]
    exact b3.2 j j1 j2
  have eg := fun (x : Hp) (y : x = h') (s b la cr g : Int) (S : Nat → Int32) => (show CH x 6 s b la cr g S = CH h' 6 s b la cr g S by rw [y])
  have eg' := eg _ (wL_self h' A') (pS v (v 0)) (v 0) (stv q (pL q v (v 0))) (pR q v (v 0)) (pG q v (v 0)) S1
  have Rg : SR (CH h' 6 (pS v (v 0)) (v 0) (stv q (pL q v (v 0))) (pR q v (v 0)) (pG q v (v 0)) S1) o q := by
    rw [← eg']
    exact (S0.fr hc (fr _ _ _ _ _ _ _)).2.2.2.1.1
  have Wg : WMe (CH h' 6 (pS v (v 0)) (v 0) (stv q (pL q v (v 0))) (pR q v (v 0)) (pG q v (v 0)) S1) q pu le mo (Wy q z0 False e) A' := ⟨M.1.tr (CH_n (by decide)) (CH_n (by decide)), M.2.1, M.2.2⟩
  have hcr := pR_b (q := q) (v := v) T0.1.1
  obtain ⟨T', S', f1, f2, f3⟩ := x_fromG d (h := CH h' 6 (pS v (v 0)) (v 0) (stv q (pL q v (v 0))) (pR q v (v 0)) (pG q v (v 0)) S1) X' a2 Rg V (Wg.1.f z0 ⟨hp.1, hp.2.1, hp.2.2.1⟩ hb) hp.2.2.2 he f.2.2.2.2.1 f.2.2.2.2.2.1.2 Wg CH_I (hand_nr V T0) hcr (fun y => by
    have : hI (CH h' 6 (pS v (v 0)) (v 0) (stv q (pL q v (v 0))) (pR q v (v 0)) (pG q v (v 0)) S1) 7 = S1 := CH_S
    rw [this, S1e _ (by omega) (by omega), hand_stv V T0 y, show 1 + (v 0 - 1) = v 0 by omega]) (fun y => hand_l0 y)
  rw [CH_wL, CH_CH] at f1 f2
  refine ⟨_, T', fo, ⟨rfl, rfl⟩, S', ?_, f2, fun j j1 j2 => ?_⟩
  · rw [f1]
    refine rj_e ?_
    unfold WyH
    rw [Wy_v (v := v) z0]
    rfl
  · rw [f3 _ (by omega)]
    have : hI (CH h' 6 (pS v (v 0)) (v 0) (stv q (pL q v (v 0))) (pR q v (v 0)) (pG q v (v 0)) S1) 7 = S1 := CH_S
    rw [this]
    exact S1e j j1 j2
