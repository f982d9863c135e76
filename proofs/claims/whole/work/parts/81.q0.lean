/-! the class's questions: many, manyOf, game, fit -/
theorem hand_nr {q w : Int → Int} (V : VS q) (T : VT q w) : Nr q (pS w (w 0)) (pL q w (w 0)) (crC q (pR q w (w 0))) (pG q w (w 0)) (w 0) := by
  refine ⟨T.2.1.nd V (w 0) T.1.1 (Int.le_refl _), fun y => Classical.byContradiction fun z => ?_⟩
  have : w 0 = 0 := by have := T.1.1; omega
  rw [this] at y
  have e : pS w 0 = 0 := sZ_0 _ (by omega)
  omega
theorem hand_stv {q w : Int → Int} (V : VS q) (T : VT q w) (h : 0 < w 0) : stv q (pL q w (w 0)) = w (w 0) := by
  obtain ⟨k, k1, k2, k3, _⟩ := T.2.1 (w 0 - 1) (by omega) (by omega)
  have e := pL_s V (show 0 ≤ w 0 - 1 by omega) k1 k2 k3
  rw [show w 0 - 1 + 1 = w 0 by omega] at e
  rw [e, stv_k q k1, ← k3, show 1 + (w 0 - 1) = w 0 by omega]
theorem hand_l0 {q w : Int → Int} (h : w 0 = 0) : pL q w (w 0) = 0 := by rw [h]; exact if_pos (by omega)
theorem XW.lim {h : Hp} {A G P c0 s0 : Nat} {q co ca : Int → Int} (W : XW h A G P c0 s0 q co ca) : hC h < 999999 := by
  obtain ⟨_, ⟨_, _, a⟩, ⟨_, _, g⟩, ⟨_, p⟩, _, _, _, ⟨r, _⟩, c⟩ := W
  omega
/-- what a question about ways leaves -/
theorem XW.ways {h h' : Hp} {A A' G P c0 s0 : Nat} {q co ca : Int → Int} (W : XW h A G P c0 s0 q co ca) (f : Wfr h h' A A') (T : Nat → Int64) (s b la cr g : Int) (S : Nat → Int32) (C : WC (CH (wL h' A' T) 6 s b la cr g S) q A') : XFr h (CH (wL h' A' T) 6 s b la cr g S) ∧ XW (CH (wL h' A' T) 6 s b la cr g S) A' G P c0 s0 q co ca := by
  have lim := W.lim
  obtain ⟨⟨w1, w2⟩, ⟨a1, a2, a3⟩, ⟨g1, g2, g3⟩, ⟨p1, p2⟩, ⟨c1, ⟨c2, c3, c4⟩, c5, c6, c7, c8, c9, cA⟩, wc, ⟨kn, t1, t2, t3⟩, ⟨r1, r2⟩, cc⟩ := W
  obtain ⟨f1, f2, f3, f4, f5, f6, f7⟩ := f
  have Aq : A' = A ∨ A' = hC h := by rcases f7 with y | y <;> omega
  have cle : hC h ≤ hC h' := by rcases f7 with y | y <;> omega
  have nG' : hN h' G = hN h G := f4 G (Or.inl c3)
  have nP' : hN h' P = hN h P := f4 P (Or.inl c4)
  have hL' : ∀ r, Dm h r → r ≠ A' → hL (CH (wL h' A' T) 6 s b la cr g S) r = hL h r := fun r y n => by
    rw [CH_L, wL_n _ _ n]; exact f2 r y n
  have hI' : ∀ r, Dm h r → ¬ (6 ≤ r ∧ r ≤ 10) → hI (CH (wL h' A' T) 6 s b la cr g S) r = hI h r := fun r y n => by
    rw [CH_n (by omega)]
    exact f1 r y (by omega) (by omega) (by omega)
  refine ⟨⟨fun r y n => hI' r y (fun z => n (by unfold xsc; omega)), fun r y => hL' r (by unfold Dm; omega) (by omega), fun r j y n => f3 r j y (by omega), fun r y => f4 r y, cle⟩, ⟨⟨_, _, _, _, _, CH_I⟩, w2.tr (hI' 14 (Or.inl (by omega)) (by omega))⟩, ⟨f5, f6⟩, ⟨?_, ?_, ?_⟩, ⟨?_, ?_⟩, ⟨?_, ⟨?_, ?_, ?_⟩, ?_, c6, c7, ?_, ?_, cA⟩, C, ⟨kn, t1, ?_, ?_⟩, ⟨?_, ?_⟩, cc⟩
  · show hR h' 12 6 = some G
    rw [f3 12 6 (Or.inl (by omega)) (by omega)]; exact g1
  · show 64 ≤ hN h' G; rw [nG']; exact g2
  · show hN h' G ≤ 14000; rw [nG']; exact g3
  · show hR h' 23 0 = some P
    rw [f3 23 0 (Or.inl (by omega)) (by omega)]; exact p1
  · show hN h' P = 0 ∨ hN h' P = 625; rw [nP']; exact p2
  · show 92 < hC h'; omega
  · show A' < hC h'; rcases f7 with y | y <;> omega
  · show G < hC h'; omega
  · show P < hC h'; omega
  · omega
  · omega
  · omega
  · rw [hL' 12 (Or.inl (by omega)) (by omega)]; exact t2
  · rw [hL' 12 (Or.inl (by omega)) (by omega), hL' 13 (Or.inl (by omega)) (by omega)]; exact t3
  · show hC h' ≤ c0 + hN h' A' + hN h' G + hN h' P
    rw [nG', nP']
    rcases f7 with ⟨y1, y2, y3⟩ | ⟨y1, y2, y3, y4, y5⟩
    · rw [y1, y2, f4 A (Or.inl c2)]; exact r1
    · omega
  · show hS h' ≤ s0 + raN (hN h' A') 143500 + raN (hN h' G) 14000 + hN h' P
    rw [nG', nP']
    rcases f7 with ⟨y1, y2, y3⟩ | ⟨y1, y2, y3, y4, y5⟩
    · rw [y1, y3, f4 A (Or.inl c2)]; exact r2
    · have := raN_g y4 y5 f6.2
      omega
