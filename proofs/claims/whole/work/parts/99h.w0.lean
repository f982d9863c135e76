/-! what lies behind the stair's numbers does not matter -/
def Agr (q q' : Int → Int) : Prop := ∀ j : Int, 0 ≤ j → j < 70 → q' j = q j
def Agc (a b : Int → Int) : Prop := ∀ i : Nat, i < 1100 → b i = a i
theorem Agr.sy {q q' : Int → Int} (A : Agr q q') : Agr q' q := fun j a b => (A j a b).symm
theorem VS.cg {q q' : Int → Int} (A : Agr q q') (V : VS q) : VS q' := by
  have vn := V.n
  have vb := V.nb
  have vt := V.top
  unfold VS at *
  rw [A 0 (by omega) (by omega), A 1 (by omega) (by omega), A 2 (by omega) (by omega), A 3 (by omega) (by omega), A 4 (by omega) (by omega), A 5 (by omega) (by omega), A 6 (by omega) (by omega), A 8 (by omega) (by omega), A 15 (by omega) (by omega), A 26 (by omega) (by omega)]
  obtain ⟨w0, w1, w2, w3, w5, w6, w8, w15, u1, u2, u3, u4, u5, u6, u7⟩ := V
  refine ⟨w0, w1, w2, w3, w5, w6, w8, w15, fun k k1 k2 => ?_, fun i j i1 i2 i3 => ?_, fun k k1 k2 => ?_, fun i j i1 i2 i3 => ?_, fun s s1 s2 => ?_, u6, fun s s1 s2 => ?_⟩
  · rw [A _ (by omega) (by omega)]; exact u1 k k1 k2
  · rw [A _ (by omega) (by omega), A _ (by omega) (by omega)]; exact u2 i j i1 i2 i3
  · rw [A _ (by omega) (by omega)]; exact u3 k k1 k2
  · rw [A _ (by omega) (by omega), A _ (by omega) (by omega)]; exact u4 i j i1 i2 i3
  · rw [A _ (by omega) (by omega)]; exact u5 s s1 s2
  · rw [A _ (by omega) (by omega)]; exact u7 s s1 s2
theorem Brd_cg {q q' : Int → Int} (A : Agr q q') (V : VS q) (a b : Int) : Brd q' 0 a b ↔ Brd q 0 a b := by
  have vb := V.nb
  unfold Brd
  rw [show (0 : Int) + 15 = 15 from rfl, A 15 (by omega) (by omega)]
  exact ⟨fun ⟨k, k1, k2, k3⟩ => ⟨k, k1, k2, by rw [A _ (by omega) (by omega)] at k3; exact k3⟩, fun ⟨k, k1, k2, k3⟩ => ⟨k, k1, k2, by rw [A _ (by omega) (by omega)]; exact k3⟩⟩
theorem May_cg {q q' v : Int → Int} (A : Agr q q') (V : VS q) {s l c g t k : Int} (hs : 0 ≤ s) (hl : 0 ≤ l ∧ l ≤ q 8) (hk : 0 ≤ k ∧ k < q 8) (m : May q v False s l c g t k) : May q' v False s l c g t k := by
  have vn := V.n
  have vt := V.top
  have vs := V.str hk.1 hk.2
  obtain ⟨m1, m2, m3, m4, m5, m6, m7⟩ := m
  have ek := A (9 + k) (by omega) (by omega)
  unfold May Shut Must Grt at *
  rw [ek, A 0 (by omega) (by omega), A 4 (by omega) (by omega), A 1 (by omega) (by omega), A 5 (by omega) (by omega), A 6 (by omega) (by omega), A (26 + (s + q (9 + k))) (by omega) (by omega)]
  refine ⟨m1, m2, fun ⟨j, j1, j2, j3⟩ => m3 ⟨j, j1, j2, ?_⟩, fun ⟨l1, l2⟩ => m4 ⟨l1, ?_⟩, m5, m6, m7⟩
  · rcases j3 with y | y
    · left; rw [A _ (by omega) (by omega)] at y; exact y
    · exact Or.inr y
  · rw [A (9 + (l - 1)) (by omega) (by omega), Brd_cg A V] at l2; exact l2
theorem ixo_cg {q q' : Int → Int} (A : Agr q q') (V : VS q) (z : Int) : ixo q' z = ixo q z := by
  have vn := V.n
  have e : (fun k : Int => 0 ≤ k ∧ k < q' 8 ∧ q' (9 + k) = z) = fun k : Int => 0 ≤ k ∧ k < q 8 ∧ q (9 + k) = z := by
    funext k
    apply propext
    rw [A 8 (by omega) (by omega)]
    constructor
    · rintro ⟨k1, k2, k3⟩
      exact ⟨k1, k2, by rw [A _ (by omega) (by omega)] at k3; exact k3⟩
    · rintro ⟨k1, k2, k3⟩
      exact ⟨k1, k2, by rw [A _ (by omega) (by omega)]; exact k3⟩
  exact congrArg (fun p : Int → Prop => @dite _ (∃ k, p k) (Classical.propDecidable _) (fun h => Classical.choose h) (fun _ => (-1 : Int))) e
theorem pL_cg {q q' : Int → Int} (A : Agr q q') (V : VS q) (v : Int → Int) (i : Int) : pL q' v i = pL q v i := by
  unfold pL; rw [ixo_cg A V]
theorem pG_cg {q q' : Int → Int} (A : Agr q q') (v : Int → Int) (i : Int) : pG q' v i = pG q v i := by
  unfold pG Grt; rw [A 5 (by omega) (by omega)]
theorem VT.ps {q v : Int → Int} (V : VS q) (T : VT q v) : ∀ i, 0 ≤ i → i ≤ v 0 → 0 ≤ pS v i ∧ pS v i ≤ 40 := by
  have vt := V.top
  refine upZ (fun _ => ?_) (fun i hi ih hle => ?_)
  · unfold pS; rw [sZ_0 _ (by omega)]; omega
  · obtain ⟨k, k1, k2, k3, k4⟩ := T.2.1 i hi (by omega)
    have := k4.1
    have vs := V.str k1 k2
    have i0 := ih (by omega)
    rw [pS_s v hi, k3]
    omega
theorem pR_cg {q q' v : Int → Int} (A : Agr q q') (V : VS q) (T : VT q v) {i : Int} (hi : i ≤ v 0) : pR q' v i = pR q v i := by
  unfold pR
  refine sZ_c (fun k k1 k2 => ?_)
  have := T.ps V (k + 1) (by omega) (by omega)
  rw [A _ (by omega) (by omega)]
theorem pC_cg {q q' v : Int → Int} (A : Agr q q') (V : VS q) (T : VT q v) {i : Int} (hi : i ≤ v 0) : pC q' v i = pC q v i := by
  unfold pC; rw [A 1 (by omega) (by omega), pR_cg A V T hi]
theorem pL_b {q v : Int → Int} (V : VS q) (i : Int) : 0 ≤ pL q v i ∧ pL q v i ≤ q 8 := by
  have vn := V.n
  unfold pL
  split
  · omega
  · have := ixo_b q (v i); omega
theorem VT.cg {q q' v : Int → Int} (A : Agr q q') (V : VS q) (T : VT q v) : VT q' v := by
  refine ⟨T.1, fun i i1 i2 => ?_, T.2.2⟩
  obtain ⟨k, k1, k2, k3, k4⟩ := T.2.1 i i1 i2
  have vn := V.n
  have ps := T.ps V i i1 (by omega)
  refine ⟨k, k1, by rw [A 8 (by omega) (by omega)]; exact k2, by rw [A _ (by omega) (by omega)]; exact k3, ?_⟩
  rw [pL_cg A V, pC_cg A V T (by omega), pG_cg A]
  exact May_cg A V ps.1 (pL_b V i) ⟨k1, k2⟩ k4
theorem stv_cg {q q' : Int → Int} (A : Agr q q') (V : VS q) {l : Int} (hl : l ≤ q 8) : stv q' l = stv q l := by
  have vn := V.n
  unfold stv
  by_cases c : l ≤ 0
  · rw [if_pos c, if_pos c]
  · rw [if_neg c, if_neg c, A _ (by omega) (by omega)]
theorem HndR.cg {h : Hp} {c : Nat} {q q' w : Int → Int} (A : Agr q q') (V : VS q) (T : VT q w) (H : HndR h c q w) : HndR h c q' w := by
  unfold HndR
  rw [pL_cg A V, stv_cg A V (pL_b V _).2, pR_cg A V T (Int.le_refl _), pG_cg A]
  exact H
theorem Hpv_cg {q q' : Int → Int} (A : Agr q q') (V : VS q) : ∀ s : Int, 0 ≤ s → s ≤ q 0 → Hpv q' s = Hpv q s := by
  have V' := V.cg A
  have vt := V.top
  have vn := V.n
  have key : ∀ m : Nat, ∀ s : Int, 0 ≤ s → s ≤ q 0 → q 0 - s ≤ m → Hpv q' s = Hpv q s := by
    intro m
    induction m with
    | zero =>
      intro s s0 s1 sm
      rw [Hpv_e V' s0 (by rw [A 0 (by omega) (by omega)]; exact s1), Hpv_e V s0 s1]
      refine pif_c (by rw [A _ (by omega) (by omega)]) (fun _ => rfl) (fun _ => mx_c fun m _ _ => ?_)
      rw [A 8 (by omega) (by omega), A 0 (by omega) (by omega)]
      constructor
      · rintro ⟨k, k1, k2, k3, _⟩
        rw [A _ (by omega) (by omega)] at k3
        have := V.str k1 k2
        omega
      · rintro ⟨k, k1, k2, k3, _⟩
        have := V.str k1 k2
        omega
    | succ m ih =>
      intro s s0 s1 sm
      rw [Hpv_e V' s0 (by rw [A 0 (by omega) (by omega)]; exact s1), Hpv_e V s0 s1]
      refine pif_c (by rw [A _ (by omega) (by omega)]) (fun _ => rfl) (fun _ => mx_c fun m _ _ => ?_)
      rw [A 8 (by omega) (by omega), A 0 (by omega) (by omega)]
      constructor
      · rintro ⟨k, k1, k2, k3, k4, k5⟩
        rw [A (9 + k) (by omega) (by omega)] at k3 k4 k5
        have := V.str k1 k2
        rw [A _ (by omega) (by omega)] at k4
        rw [ih _ (by omega) k3 (by omega)] at k5
        exact ⟨k, k1, k2, k3, k4, k5⟩
      · rintro ⟨k, k1, k2, k3, k4, k5⟩
        have := V.str k1 k2
        refine ⟨k, k1, k2, ?_⟩
        rw [A (9 + k) (by omega) (by omega), A _ (by omega) (by omega), ih _ (by omega) k3 (by omega)]
        exact ⟨k3, k4, k5⟩
  intro s s0 s1
  exact key (q 0 - s).toNat s s0 s1 (by omega)
theorem SR.cg {h : Hp} {o : Nat} {q q' : Int → Int} (A : Agr q q') (V : VS q) (R : SR h o q) : SR h o q' := by
  have vn := V.n
  have vt := V.top
  obtain ⟨r1, ⟨B, b1, b2, b3⟩, r3, ⟨r4, r5⟩, r6, r7, r8, r9⟩ := R
  unfold SR
  rw [A 0 (by omega) (by omega), A 8 (by omega) (by omega), A 1 (by omega) (by omega), A 15 (by omega) (by omega), A 2 (by omega) (by omega), A 3 (by omega) (by omega), A 4 (by omega) (by omega), A 5 (by omega) (by omega), A 6 (by omega) (by omega)]
  refine ⟨r1, ⟨B, b1, b2, fun z => (b3 z).trans ?_⟩, fun k k1 k2 => ?_, ⟨r4, fun k k1 k2 => ?_⟩, fun s s1 s2 => ?_, fun a ha => ?_, fun s s1 s2 => ?_, fun s s1 s2 => ?_⟩
  · exact ⟨fun ⟨k, k1, k2, k3⟩ => ⟨k, k1, k2, by rw [A _ (by omega) (by omega)]; exact k3⟩, fun ⟨k, k1, k2, k3⟩ => ⟨k, k1, k2, by rw [A _ (by omega) (by omega)] at k3; exact k3⟩⟩
  · rw [A _ (by omega) (by omega)]; exact r3 k k1 k2
  · rw [A _ (by omega) (by omega)]; exact r5 k k1 k2
  · rw [A _ (by omega) (by omega)]; exact r6 s s1 s2
  · obtain ⟨B', c1, c2, c3⟩ := r7 a ha
    exact ⟨B', c1, c2, fun z hz => (c3 z hz).trans (Brd_cg A V _ _).symm⟩
  · rw [Hpv_cg A V s s1 s2]; exact r8 s s1 s2
  · obtain ⟨F, f1, f2, f3, f4⟩ := r9 s s1 s2
    refine ⟨F, f1, f2, f3, fun t ht => (f4 t ht).trans ?_⟩
    constructor
    · rintro ⟨y1, y2⟩
      exact ⟨y1, fun ⟨j, j1, j2, j3⟩ => y2 ⟨j, j1, j2, by rw [A _ (by omega) (by omega)] at j3; exact j3⟩⟩
    · rintro ⟨y1, y2⟩
      exact ⟨y1, fun ⟨j, j1, j2, j3⟩ => y2 ⟨j, j1, j2, by rw [A _ (by omega) (by omega)]; exact j3⟩⟩
theorem LX.cg {h : Hp} {o : Nat} {q q' co co' ca ca' : Int → Int} (A : Agr q q') (C : Agc co co') (D : Agc ca ca') (L : LX h o q co ca) : LX h o q' co' ca' := by
  unfold LX
  rw [A 7 (by omega) (by omega)]
  rcases L with a | ⟨a, n, W, b, c⟩
  · exact Or.inl a
  · have := W.1.2.1
    refine Or.inr ⟨a, n, WFc_c W (fun i hi => C i (by omega)) (fun i hi => D i (by omega)), b, fun i hi => ?_⟩
    rw [C i (by omega), D i (by omega)]
    exact c i hi
theorem LW.cg {q q' co co' ca ca' : Int → Int} (A : Agr q q') (C : Agc co co') (D : Agc ca ca') (L : LW q co ca) : LW q' co' ca' := by
  unfold LW
  rw [A 7 (by omega) (by omega)]
  rcases L with a | ⟨a, n, W⟩
  · exact Or.inl a
  · have := W.1.2.1
    exact Or.inr ⟨a, n, WFc_c W (fun i hi => C i (by omega)) (fun i hi => D i (by omega))⟩
theorem XS.cg {h : Hp} {o p : Nat} {q q' v z co co' ca ca' : Int → Int} (A : Agr q q') (C : Agc co co') (D : Agc ca ca') (S : XS h o p q v z co ca) : XS h o p q' v z co' ca' := by
  obtain ⟨a1, a2, a5, ⟨a7, a8, a9⟩, ⟨T0, b2, b3, b4⟩, b5⟩ := S
  refine ⟨a1, a2, a5, ⟨a7.cg A a8, a8.cg A, a9.cg A C D⟩, ⟨T0.cg A a8, b2, b3.cg A a8 T0, b4⟩, fun m hm => ?_⟩
  obtain ⟨m1, m2, m3⟩ := b5 m hm
  refine ⟨m1, m2, fun y => ?_⟩
  obtain ⟨c1, c2, c3, c4⟩ := m3 y
  exact ⟨c1.cg A a8, c2, c3.cg A a8 c1, c4⟩
/-- all that is kept in mind is forgotten -/
def vrt (h : Hp) : Hp := sL (sI h 8 3 (iZ (-4))) 12 7 (jZ 0)
theorem vrt_x (h : Hp) : XFr h (vrt h) := by
  refine XFr.sc rfl (fun r n => ?_) (fun r n => ?_)
  · show hI (sI h 8 3 (iZ (-4))) r = _
    rw [sI_w, wI_n _ _ (fun y => n (by unfold xsc; omega))]
  · unfold vrt
    rw [sL_w, wL_n _ _ (by omega)]
    rfl
theorem XW.vt {h : Hp} {A G P c0 s0 : Nat} {q co ca : Int → Int} (W : XW h A G P c0 s0 q co ca) (q' co' ca' : Int → Int) : XW (vrt h) A G P c0 s0 q' co' ca' := by
  obtain ⟨⟨w1, w2⟩, w3, w4, w5, w6, _, _, w9, w10⟩ := W
  refine ⟨⟨w1.tr ?_, w2.tr ?_⟩, w3, w4, w5, w6, ⟨-4, ?_, Or.inl rfl⟩, ⟨0, by omega, ?_, Or.inl rfl⟩, w9, w10⟩
  · show hI (sI h 8 3 (iZ (-4))) 6 = _
    rw [sI_w, wI_n _ _ (by decide)]
  · show hI (sI h 8 3 (iZ (-4))) 14 = _
    rw [sI_w, wI_n _ _ (by decide)]
  · show hI (sI h 8 3 (iZ (-4))) 8 3 = _
    rw [sI_e]
  · unfold vrt
    rw [sL_w, wL_L, up_e]
theorem eqI {X : Option Rs} {a b : Int32} {k l : Hp} (x : X = some (some (vI a), k)) (y : X = some (some (vI b), l)) : a = b := by
  rw [x] at y
  have := Option.some.inj (Prod.mk.inj (Option.some.inj y)).1
  exact Sum.inl.inj this
theorem eqL {X : Option Rs} {a b : Int64} {k l : Hp} (x : X = some (some (vL a), k)) (y : X = some (some (vL b), l)) : a = b := by
  rw [x] at y
  have := Option.some.inj (Prod.mk.inj (Option.some.inj y)).1
  exact Sum.inl.inj (Sum.inr.inj this)
