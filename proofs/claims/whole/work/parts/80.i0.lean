/-! what stays between questions -/
def blk (v : Int → Int) (m : Nat) : Int → Int := fun j => v (84 * (m : Int) + j)
/-- a climber's rows tell strides -/
def HndR (h : Hp) (c : Nat) (q w : Int → Int) : Prop := hI h c = cFw (pS w (w 0)) (w 0) (stv q (pL q w (w 0))) (pR q w (w 0)) (pG q w (w 0)) ∧ ∀ j : Int, 0 ≤ j → j < w 0 → hI h (c + 1) j.toNat = iZ (w (1 + j))
def DusR (h : Hp) (r : Nat) (w : Int → Int) : Prop := ∀ s : Int, 0 ≤ s → s ≤ 40 → hI h r s.toNat = iZ (w (41 + s)) ∧ 0 ≤ w (41 + s) ∧ w (41 + s) ≤ 2
def Crow (h : Hp) (c : Nat) : Prop := ∃ s b la cr g, hI h c = cFw s b la cr g
def MkR (h : Hp) (q v z : Int → Int) (m : Nat) : Prop := hI h (30 + 4 * m) 2 = bZ (z m ≠ 0) ∧ Crow h (31 + 4 * m) ∧ (z m ≠ 0 → VT q (blk v (m + 1)) ∧ blk v (m + 1) 41 = 0 ∧ HndR h (31 + 4 * m) q (blk v (m + 1)) ∧ DusR h (33 + 4 * m) (blk v (m + 1)))
/-- the class stands so -/
def XS (h : Hp) (o p : Nat) (q v z co ca : Int → Int) : Prop := SX h ∧ (TO o ∧ TO p ∧ o ≠ p) ∧ (hR h 0 11 = some o ∧ hR h 0 12 = some p) ∧ (SR h o q ∧ VS q ∧ LX h o q co ca) ∧ (VT q v ∧ v 41 = 0 ∧ HndR h 4 q v ∧ DusR h 46 v) ∧ ∀ m : Nat, m < 4 → MkR h q v z m
def xsc (r : Nat) : Prop := (6 ≤ r ∧ r ≤ 28) ∨ r = 47 ∨ r = 57 ∨ r = 67
/-- only scratch of the class has changed -/
def XFr (h k : Hp) : Prop := (∀ r, Dm h r → ¬ xsc r → hI k r = hI h r) ∧ (∀ r, (68 ≤ r ∧ r ≤ 92 ∨ r = 9999999) → hL k r = hL h r) ∧ (∀ r j, Dm h r → ¬ ((r = 8 ∧ j = 2) ∨ (r = 12 ∧ j = 6) ∨ (r = 23 ∧ j = 0)) → hR k r j = hR h r j) ∧ (∀ r, Dm h r → hN k r = hN h r) ∧ hC h ≤ hC k
theorem XFr.rf (h : Hp) : XFr h h := ⟨fun _ _ _ => rfl, fun _ _ => rfl, fun _ _ _ _ => rfl, fun _ _ => rfl, Nat.le_refl _⟩
theorem XFr.tr {h k l : Hp} (a : XFr h k) (b : XFr k l) : XFr h l := by
  have dm : ∀ r, Dm h r → Dm k r := fun r y => by
    have := a.2.2.2.2
    unfold Dm at *
    omega
  exact ⟨fun r y n => (b.1 r (dm r y) n).trans (a.1 r y n), fun r y => (b.2.1 r y).trans (a.2.1 r y), fun r j y n => (b.2.2.1 r j (dm r y) n).trans (a.2.2.1 r j y n), fun r y => (b.2.2.2.1 r (dm r y)).trans (a.2.2.2.1 r y), Nat.le_trans a.2.2.2.2 b.2.2.2.2⟩
theorem XFr.sx {h k : Hp} (f : XFr h k) (hc : 92 < hC h) (X : SX h) : SX k := by
  have d1 : ∀ x ∈ sxR, x.1 ≤ 92 ∧ ¬ ((x.1 = 8 ∧ x.2.1 = 2) ∨ (x.1 = 12 ∧ x.2.1 = 6) ∨ (x.1 = 23 ∧ x.2.1 = 0)) := by decide
  have d2 : ∀ x ∈ sxN, x.1 ≤ 92 := by decide
  refine ⟨fun x hx => ?_, fun x hx => ?_⟩
  · have := d1 x hx
    rw [f.2.2.1 x.1 x.2.1 (Or.inl (by omega)) this.2]
    exact X.1 x hx
  · have := d2 x hx
    rw [f.2.2.2.1 x.1 (Or.inl (by omega))]
    exact X.2 x hx
theorem HndR.tr {h k : Hp} {c : Nat} {q w : Int → Int} (a : HndR h c q w) (e : hI k c = hI h c) (e' : hI k (c + 1) = hI h (c + 1)) : HndR k c q w := by
  unfold HndR; rw [e, e']; exact a
theorem DusR.tr {h k : Hp} {r : Nat} {w : Int → Int} (a : DusR h r w) (e : hI k r = hI h r) : DusR k r w := by
  unfold DusR; rw [e]; exact a
theorem Crow.tr {h k : Hp} {c : Nat} (a : Crow h c) (e : hI k c = hI h c) : Crow k c := by
  unfold Crow; rw [e]; exact a
theorem MkR.tr {h k : Hp} {q v z : Int → Int} {m : Nat} (a : MkR h q v z m) (e : ∀ r, 30 + 4 * m ≤ r → r ≤ 33 + 4 * m → hI k r = hI h r) : MkR k q v z m := by
  refine ⟨by rw [e _ (by omega) (by omega)]; exact a.1, a.2.1.tr (e _ (by omega) (by omega)), fun y => ?_⟩
  have b := a.2.2 y
  exact ⟨b.1, b.2.1, b.2.2.1.tr (e _ (by omega) (by omega)) (e _ (by omega) (by omega)), b.2.2.2.tr (e _ (by omega) (by omega))⟩
theorem XS.fr {h k : Hp} {o p : Nat} {q v z co ca : Int → Int} (S : XS h o p q v z co ca) (hc : 92 < hC h) (f : XFr h k) : XS k o p q v z co ca := by
  obtain ⟨a1, ⟨a2, a3, a4⟩, ⟨a5, a6⟩, ⟨a7, a8, a9⟩, ⟨b1, b2, b3, b4⟩, b5⟩ := S
  have t2 := a2
  unfold TO at t2
  have I : ∀ r, r ≤ 92 → ¬ xsc r → hI k r = hI h r := fun r r1 r2 => f.1 r (Or.inl (by omega)) r2
  have ns : ∀ r, (r < 6 ∨ 28 < r) → r ≠ 47 → r ≠ 57 → r ≠ 67 → ¬ xsc r := fun r r1 r2 r3 r4 => by unfold xsc; omega
  refine ⟨f.sx hc a1, ⟨a2, a3, a4⟩, ⟨?_, ?_⟩, ⟨a7.tr (fun r r1 r2 => I r (by omega) (ns r (by omega) (by omega) (by omega) (by omega))), a8, a9.tr (I _ (by omega) (ns _ (by omega) (by omega) (by omega) (by omega))) (I _ (by omega) (ns _ (by omega) (by omega) (by omega) (by omega)))⟩, ⟨b1, b2, b3.tr (I _ (by omega) (ns _ (by omega) (by omega) (by omega) (by omega))) (I _ (by omega) (ns _ (by omega) (by omega) (by omega) (by omega))), b4.tr (I _ (by omega) (ns _ (by omega) (by omega) (by omega) (by omega)))⟩, fun m hm => (b5 m hm).tr (fun r r1 r2 => I r (by omega) (ns r (by omega) (by omega) (by omega) (by omega)))⟩
  · rw [f.2.2.1 0 11 (Or.inl (by omega)) (by omega)]; exact a5
  · rw [f.2.2.1 0 12 (Or.inl (by omega)) (by omega)]; exact a6
/-! room -/
def raN (n m : Nat) : Nat := if n = m then 3 * m else 2 * n
theorem raN_g {n n' m : Nat} (h1 : 2 * n ≤ n' ∨ n' = m) (h2 : n < n') (h3 : n' ≤ m) : raN n m + n' ≤ raN n' m := by
  unfold raN
  rw [if_neg (by omega)]
  split <;> omega
def Room (h : Hp) (A G P c0 s0 : Nat) : Prop := hC h ≤ c0 + hN h A + hN h G + hN h P ∧ hS h ≤ s0 + raN (hN h A) 143500 + raN (hN h G) 14000 + hN h P
/-- the class's scratch -/
def XW (h : Hp) (A G P c0 s0 : Nat) (q co ca : Int → Int) : Prop := (Crow h 6 ∧ Crow h 14) ∧ (hR h 8 2 = some A ∧ 64 ≤ hN h A ∧ hN h A ≤ 143500) ∧ (hR h 12 6 = some G ∧ 64 ≤ hN h G ∧ hN h G ≤ 14000) ∧ (hR h 23 0 = some P ∧ (hN h P = 0 ∨ hN h P = 625)) ∧ (92 < hC h ∧ (A < hC h ∧ G < hC h ∧ P < hC h) ∧ (92 < A ∨ A = 11) ∧ (92 < G ∨ G = 19) ∧ (92 < P ∨ P = 24) ∧ A ≠ G ∧ A ≠ P ∧ G ≠ P) ∧ WC h q A ∧ TCh h q co ca ∧ Room h A G P c0 s0 ∧ c0 ≤ 1000
