/-! both sides' frames; heaps, still, fewest -/
theorem XS.sd {h k : Hp} {o p : Nat} {q v z co ca : Int → Int} (S : XS h o p q v z co ca) (D : Sd h k) : XS k o p q v z co ca := by
  have tt := S.2.1.1
  unfold TO at tt
  have rk : hR k = hR h := congrArg (fun x => x.1) D.1
  have lk' : hN k = hN h := congrArg (fun x => x.2.2.1) D.1
  have n3 : ∀ r, r < 68 → hI k r = hI h r := fun r y => funext fun j => D.2.1 r j (by unfold scr; omega) (by omega) (by omega)
  obtain ⟨a1, a2, a5, ⟨a7, a8, a9⟩, ⟨T0, b2, b3, b4⟩, b5⟩ := S
  refine ⟨⟨?_, ?_⟩, a2, by rw [rk]; exact a5, ⟨a7.tr (fun r y1 y2 => n3 r (by omega)), a8, a9.tr (n3 _ (by omega)) (n3 _ (by omega))⟩, ⟨T0, b2, b3.tr (n3 _ (by omega)) (n3 _ (by omega)), b4.tr (n3 _ (by omega))⟩, fun m hm => (b5 m hm).tr (fun r y1 y2 => n3 r (by omega))⟩
  · intro y hy
    rw [rk]; exact a1.1 y hy
  · intro y hy
    rw [lk']; exact a1.2 y hy
theorem XW.sd {h k : Hp} {A G P c0 s0 : Nat} {q co ca : Int → Int} (W : XW h A G P c0 s0 q co ca) (D : Sd h k) : XW k A G P c0 s0 q co ca :=
  W.sc D.1 (fun r y => funext fun j => D.2.1 r j (by unfold scr; omega) (by omega) (by omega)) (fun r y => D.2.2 r (by omega))
/-- the model's rows, where a question of the class has been -/
theorem XFr.mv {h k : Hp} (f : XFr h k) (hc : 92 < hC h) (M : MV h) : MV k ∧ (∀ r, 68 ≤ r → r ≤ 92 → hI k r = hI h r) ∧ hI k 9999999 = hI h 9999999 := by
  have n : ∀ r, 68 ≤ r → r ≤ 92 → hI k r = hI h r := fun r r1 r2 => f.1 r (Or.inl (by omega)) (by unfold xsc; omega)
  have z : ∀ r, 68 ≤ r → r ≤ 92 → rz k r = rz h r := fun r r1 r2 => by
    funext j
    unfold rz
    rw [n r r1 r2]
  have d1 : ∀ x ∈ smN, x.1 ≤ 92 := by decide
  refine ⟨⟨⟨fun x hx => ?_, fun x hx => ?_⟩, ?_, ?_⟩, n, f.1 9999999 (Or.inr rfl) (by unfold xsc; omega)⟩
  · rw [f.2.2.1 68 x.1 (Or.inl (by omega)) (by omega)]
    exact M.1.1 x hx
  · have := d1 x hx
    rw [f.2.2.2.1 x.1 (Or.inl (by omega))]
    exact M.1.2 x hx
  · rw [z 74 (by omega) (by omega)]; exact M.2.1
  · rw [z 74 (by omega) (by omega), z 79 (by omega) (by omega)]; exact M.2.2
theorem X_fewest (d dm : Nat) {h : Hp} {o p A G P c0 s0 : Nat} {q v z co ca q2 co2 ca2 : Int → Int} (hq : q = rz h 74) (hv : v = rz h 79) (M : MV h) (S : XS h o p q v z co ca) (W : XW h A G P c0 s0 q2 co2 ca2) :
    ∃ (c : Int) (k : Hp), evm (d + 51) 123 [vR 11 0] h = some (some (vI (iZ c)), k) ∧ XFr h k ∧ XW k A G P c0 s0 q2 co2 ca2 ∧ ∃ k', evm (dm + 50) 233 [vR 12 68] k = some (some (vI (iZ c)), k') ∧ Ms k k' (rz k 79) (rz k 80) := by
  have hc : 92 < hC h := W.2.2.2.2.1.1
  obtain ⟨T0, b2, b3, b4⟩ := S.2.2.2.2.1
  have h41 : v 41 ≠ 2 := by omega
  obtain ⟨c, ⟨F, T, L, e1⟩, _⟩ := f_few d dm hq hv M h41 S.1 S.2.1.1 S.2.2.2.1.1 b4
  have nI : ∀ r, r ≠ 22 → hI (wL (wL (wI h 22 F) 21 T) 20 L) r = hI h r := fun r n => by
    show hI (wI h 22 F) r = _
    rw [wI_n _ _ n]
  have nL : ∀ r, r ≠ 20 → r ≠ 21 → hL (wL (wL (wI h 22 F) 21 T) 20 L) r = hL h r := fun r n n' => by
    rw [wL_n _ _ n, wL_n _ _ n']
    rfl
  have fr : XFr h (wL (wL (wI h 22 F) 21 T) 20 L) := XFr.sc rfl (fun r n => nI r (fun y => n (by unfold xsc; omega))) (fun r y => nL r (by omega) (by omega))
  have mk := fr.mv hc M
  have z74 : q = rz (wL (wL (wI h 22 F) 21 T) 20 L) 74 := by
    rw [hq]; funext j; unfold rz; rw [mk.2.1 74 (by omega) (by omega)]
  have z79 : v = rz (wL (wL (wI h 22 F) 21 T) 20 L) 79 := by
    rw [hv]; funext j; unfold rz; rw [mk.2.1 79 (by omega) (by omega)]
  obtain ⟨c', ⟨F', T', L', e1'⟩, k', m1, m2⟩ := f_few d dm z74 z79 mk.1 h41 S.1 S.2.1.1 S.2.2.2.1.1 b4
  have ec : vI (iZ c') = vI (iZ c) := by
    rw [e1] at e1'
    exact (Option.some.inj (Prod.mk.inj (Option.some.inj e1')).1).symm
  rw [ec] at m1
  refine ⟨c, wL (wL (wI h 22 F) 21 T) 20 L, ?_, fr, W.sc rfl (fun r y => nI r (by omega)) (fun r y => nL r (by omega) (by omega)), k', m1, m2⟩
  rw [show d + 51 = (d + 50) + 1 from rfl, e_X_fewest, S.1.r 0 5 20, bR_s, S.2.2.1.1, bR_s, S.1.r 0 9 46, bR_s, e1, bI_s]
