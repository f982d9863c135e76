/-! moves, the tape, the telling -/
theorem inv_m {h k l : Hp} {o p A G P c0 s0 n : Nat} {q co ca v' z' : Int → Int} (K : SM h ∧ MWd h ∧ Tpp h h n) (A1 : Agr q (rz h 74)) (A2 : Agc co (rz h 75)) (A3 : Agc ca (rz h 76)) (e2 : k.2 = h.2) (ei : ∀ r, (r < 4 ∨ 67 < r) → hI k r = hI h r) (Wk : XW k A G P c0 s0 q co ca) (Sk : XS k o p q v' z' co ca) (m : Ms k l v' z') : Stq h k l c0 s0 := by
  obtain ⟨D, m79, m80⟩ := m
  have nl : ∀ r j, ¬ scr r j → r ≠ 79 → r ≠ 80 → hI l r j = hI k r j := D.2.1
  have zl : ∀ r, (r = 74 ∨ r = 75 ∨ r = 76) → rz l r = rz h r := fun r hr => rz_e (funext fun j => (nl r j (by unfold scr; omega) (by omega) (by omega)).trans (by rw [ei r (by omega)]))
  have ln : hN l = hN h := (congrArg (fun x => x.2.2.1) D.1).trans (congrArg (fun x => x.2.2.2.1) e2)
  have lR : hR l = hR h := (congrArg (fun x => x.1) D.1).trans (congrArg (fun x => x.2.1) e2)
  have kn : hN k = hN h := congrArg (fun x => x.2.2.2.1) e2
  have Sl := Sk.sd D
  rw [← m79, ← m80] at Sl
  refine ⟨⟨ei 9999999 (by omega), by rw [kn]⟩, ⟨(funext fun j => nl 9999999 j (by unfold scr; omega) (by omega) (by omega)).trans (ei 9999999 (by omega)), by rw [ln]⟩, o, p, A, G, P, q, co, ca, n, Sl, Wk.sd D, ⟨?_, ?_, ?_⟩, ?_, ?_, ?_⟩
  · unfold SM; rw [lR, ln]; exact K.1
  · refine K.2.1.tr ((D.2.2 73 (by omega)).trans ?_)
    show k.2.1 73 = h.2.1 73
    rw [e2]
  · refine K.2.2.tr ?_ (fun j => ?_) ?_ (fun j => ?_)
    · rw [nl 2 1 (by unfold scr; omega) (by omega) (by omega), ei 2 (by omega)]
    · rw [nl 3 j (by unfold scr; omega) (by omega) (by omega), ei 3 (by omega)]
    · rw [nl 68 2 (by unfold scr; omega) (by omega) (by omega), ei 68 (by omega)]
    · rw [nl 69 j (by unfold scr; omega) (by omega) (by omega), ei 69 (by omega)]
  · rw [zl 74 (by omega)]; exact A1
  · rw [zl 75 (by omega)]; exact A2
  · rw [zl 76 (by omega)]; exact A3
theorem mv_m {h k : Hp} (M : MV h) (e2 : k.2 = h.2) (ei : ∀ r, (r < 4 ∨ 67 < r) → hI k r = hI h r) : MV k ∧ ∀ r, 67 < r → rz k r = rz h r := by
  have zk : ∀ r, 67 < r → rz k r = rz h r := fun r hr => rz_e (ei r (Or.inr hr))
  refine ⟨⟨sm_e e2 M.1, ?_, ?_⟩, zk⟩
  · rw [zk 74 (by omega)]; exact M.2.1
  · rw [zk 74 (by omega), zk 79 (by omega)]; exact M.2.2
theorem bZ_j {a b : Prop} (e : bZ a = bZ b) : a ↔ b := by
  by_cases x : a
  · by_cases y : b
    · exact ⟨fun _ => y, fun _ => x⟩
    · rw [bZ_t x, bZ_f y] at e; exact absurd e (by decide)
  · by_cases y : b
    · rw [bZ_f x, bZ_t y] at e; exact absurd e (by decide)
    · exact ⟨fun z => absurd z x, fun z => absurd z y⟩
theorem st_stride {h : Hp} {c0 s0 : Nat} (I : INV h c0 s0) (w0 : Int32) : ∃ a k l, evm 1000 106 [vR 11 0, vI w0] h = some (some (vI a), k) ∧ evm 1000 201 [vR 12 68, vI w0] k = some (some (vI a), l) ∧ Stq h k l c0 s0 := by
  obtain ⟨o, p, A, G, P, q, co, ca, n, S, W, K, ⟨A1, A2, A3⟩, M, L, S', ⟨S0, W0⟩, S1, W1⟩ := I.all
  obtain ⟨x0, x0a, x0b, rfl⟩ := iz_of w0
  obtain ⟨k, e1, e2, e3, Wk, y1, y2⟩ := X_stride 997 S W ⟨x0a, x0b⟩
  obtain ⟨k1, g1, _⟩ := X_stride 997 S0 W0 ⟨x0a, x0b⟩
  obtain ⟨k2, g2, _⟩ := X_stride 997 S1 W1 ⟨x0a, x0b⟩
  obtain ⟨Mk, zk⟩ := mv_m M e2 e3
  obtain ⟨l, m1, m2, m3⟩ := M_stride 993 Mk ⟨x0a, x0b⟩
  rw [zk 74 (by omega), zk 79 (by omega)] at m1 m2 m3
  rw [zk 80 (by omega)] at m2 m3
  have eq := eqI g1 g2
  rw [← eq] at m1
  refine ⟨_, k, l, e1, m1, ?_⟩
  by_cases c : MayZ q (rz h 79) x0
  · exact inv_m K A1 A2 A3 e2 e3 Wk (y1 c) (m2 ((bZ_j eq).mp c))
  · exact inv_m K A1 A2 A3 e2 e3 Wk (y2 c) (m3 (fun y => c ((bZ_j eq).mpr y)))
theorem st_back {h : Hp} {c0 s0 : Nat} (I : INV h c0 s0) (b : Prop) : ∃ a k l, evm 1000 107 [vR 11 0, vI (bZ b)] h = some (some (vI a), k) ∧ evm 1000 202 [vR 12 68, vI (bZ b)] k = some (some (vI a), l) ∧ Stq h k l c0 s0 := by
  obtain ⟨o, p, A, G, P, q, co, ca, n, S, W, K, ⟨A1, A2, A3⟩, M, L, S', ⟨S0, W0⟩, S1, W1⟩ := I.all
  obtain ⟨k, e1, e2, e3, Wk, y1⟩ := X_back 997 S W b
  obtain ⟨Mk, zk⟩ := mv_m M e2 e3
  obtain ⟨l, m1, m2⟩ := M_back 998 Mk b
  rw [zk 79 (by omega)] at m1 m2
  rw [zk 80 (by omega)] at m2
  exact ⟨_, k, l, e1, m1, inv_m K A1 A2 A3 e2 e3 Wk y1 m2⟩
theorem st_dust {h : Hp} {c0 s0 : Nat} (I : INV h c0 s0) (w0 w1 : Int32) : ∃ a k l, evm 1000 121 [vR 11 0, vI w0, vI w1] h = some (some (vI a), k) ∧ evm 1000 227 [vR 12 68, vI w0, vI w1] k = some (some (vI a), l) ∧ Stq h k l c0 s0 := by
  obtain ⟨o, p, A, G, P, q, co, ca, n, S, W, K, ⟨A1, A2, A3⟩, M, L, S', ⟨S0, W0⟩, S1, W1⟩ := I.all
  obtain ⟨x0, x0a, x0b, rfl⟩ := iz_of w0
  obtain ⟨x1, x1a, x1b, rfl⟩ := iz_of w1
  obtain ⟨k, e1, e2, e3, Wk, y1, y2⟩ := X_dust 999 S W ⟨x0a, x0b⟩ ⟨x1a, x1b⟩
  obtain ⟨k1, g1, _⟩ := X_dust 999 S0 W0 ⟨x0a, x0b⟩ ⟨x1a, x1b⟩
  obtain ⟨k2, g2, _⟩ := X_dust 999 S1 W1 ⟨x0a, x0b⟩ ⟨x1a, x1b⟩
  obtain ⟨Mk, zk⟩ := mv_m M e2 e3
  obtain ⟨l, m1, m2, m3⟩ := M_dust 998 Mk ⟨x0a, x0b⟩ ⟨x1a, x1b⟩
  rw [zk 74 (by omega)] at m1 m2 m3
  rw [zk 79 (by omega), zk 80 (by omega)] at m2 m3
  have eq := eqI g1 g2
  rw [← eq] at m1
  refine ⟨_, k, l, e1, m1, ?_⟩
  by_cases c : DuO q x0 x1
  · exact inv_m K A1 A2 A3 e2 e3 Wk (y1 c) (m2 ((bZ_j eq).mp c))
  · exact inv_m K A1 A2 A3 e2 e3 Wk (y2 c) (m3 (fun y => c ((bZ_j eq).mpr y)))
theorem st_mark {h : Hp} {c0 s0 : Nat} (I : INV h c0 s0) (w0 : Int32) (b : Prop) : ∃ a k l, evm 1000 127 [vR 11 0, vI w0, vI (bZ b)] h = some (some (vI a), k) ∧ evm 1000 238 [vR 12 68, vI w0, vI (bZ b)] k = some (some (vI a), l) ∧ Stq h k l c0 s0 := by
  obtain ⟨o, p, A, G, P, q, co, ca, n, S, W, K, ⟨A1, A2, A3⟩, M, L, S', ⟨S0, W0⟩, S1, W1⟩ := I.all
  obtain ⟨x0, x0a, x0b, rfl⟩ := iz_of w0
  obtain ⟨k, e1, e2, e3, Wk, y1, y2, y3⟩ := X_mark 997 S W ⟨x0a, x0b⟩ b
  obtain ⟨Mk, zk⟩ := mv_m M e2 e3
  obtain ⟨l, m1, m2, m3, m4⟩ := M_mark 998 Mk ⟨x0a, x0b⟩ b
  rw [zk 80 (by omega)] at m1
  rw [zk 79 (by omega), zk 80 (by omega)] at m2 m3 m4
  refine ⟨_, k, l, e1, m1, ?_⟩
  by_cases c : MkO (rz h 80) x0 b
  · by_cases bb : b
    · exact inv_m K A1 A2 A3 e2 e3 Wk (y1 c bb) (m2 c bb)
    · exact inv_m K A1 A2 A3 e2 e3 Wk (y2 c bb) (m3 c bb)
  · exact inv_m K A1 A2 A3 e2 e3 Wk (y3 c) (m4 c)
/-! only the class's part of the heap matters to it -/
theorem XS.lo {h k : Hp} {o p : Nat} {q v z co ca : Int → Int} (S : XS h o p q v z co ca) (e : k.2.2 = h.2.2) (n3 : ∀ r, 3 < r → r < 68 → hI k r = hI h r) : XS k o p q v z co ca := by
  have tt := S.2.1.1
  unfold TO at tt
  have rk : hR k = hR h := congrArg (fun x => x.1) e
  have lk' : hN k = hN h := congrArg (fun x => x.2.2.1) e
  obtain ⟨a1, a2, a5, ⟨a7, a8, a9⟩, ⟨T0, b2, b3, b4⟩, b5⟩ := S
  refine ⟨⟨?_, ?_⟩, a2, by rw [rk]; exact a5, ⟨a7.tr (fun r y1 y2 => n3 r (by omega) (by omega)), a8, a9.tr (n3 _ (by omega) (by omega)) (n3 _ (by omega) (by omega))⟩, ⟨T0, b2, b3.tr (n3 _ (by omega) (by omega)) (n3 _ (by omega) (by omega)), b4.tr (n3 _ (by omega) (by omega))⟩, fun m hm => (b5 m hm).tr (fun r y1 y2 => n3 r (by omega) (by omega))⟩
  · intro y hy
    rw [rk]; exact a1.1 y hy
  · intro y hy
    rw [lk']; exact a1.2 y hy
theorem st_feed {h : Hp} {c0 s0 : Nat} (I : INV h c0 s0) (w0 w1 w2 : Int64) : ∃ a k l, evm 1000 102 [vR 11 0, vL w0, vL w1, vL w2] h = some (some (vI a), k) ∧ evm 1000 139 [vR 12 68, vL w0, vL w1, vL w2] k = some (some (vI a), l) ∧ Stq h k l c0 s0 := by
  obtain ⟨o, p, A, G, P, q, co, ca, n, S, W, K, A1, A2, A3⟩ := I
  obtain ⟨k, _, n1, e1, _, f1, _⟩ := J_feed 998 w0 w1 w2 S.1 K.1 K.2.2
  have Tk : Tpp h k n := by
    obtain ⟨⟨t1, t2, t3⟩, t4⟩ := K.2.2
    refine ⟨⟨t1, t2, by rw [f1.2 68 (by decide) (by decide)]; exact t3⟩, fun i hi => ?_⟩
    unfold rz
    rw [f1.2 69 (by decide) (by decide)]
    exact t4 i hi
  have Mk : SM k := sm_e f1.1 K.1
  obtain ⟨k', l, n2, g1, g2, f2, f3, T2⟩ := J_feed 998 w0 w1 w2 S.1 Mk Tk
  have ek : k' = k := by
    rw [e1] at g1
    exact (Prod.mk.inj (Option.some.inj g1)).2.symm
  subst ek
  have en : iZ ((n2 : Nat) : Int) = iZ ((n1 : Nat) : Int) := (eqI e1 g1).symm
  have l2 : l.2 = h.2 := f3.1.trans f1.1
  have lk : ∀ r, r ≠ 2 → r ≠ 3 → r ≠ 68 → r ≠ 69 → hI l r = hI h r := fun r r1 r2 r3 r4 => (f3.2 r r3 r4).trans (f1.2 r r1 r2)
  have zl : ∀ r, r = 74 ∨ r = 75 ∨ r = 76 ∨ r = 79 ∨ r = 80 → rz l r = rz h r := fun r hr => rz_e (lk r (by omega) (by omega) (by omega) (by omega))
  refine ⟨_, k', l, e1, by rw [← en]; exact g2, ⟨f1.2 9999999 (by decide) (by decide), by rw [show hN k' = hN h from congrArg (fun x => x.2.2.2.1) f1.1]⟩, ⟨lk 9999999 (by decide) (by decide) (by decide) (by decide), by rw [show hN l = hN h from congrArg (fun x => x.2.2.2.1) l2]⟩, o, p, A, G, P, q, co, ca, n2, ?_, ?_, ⟨sm_e l2 K.1, ?_, ?_⟩, ?_, ?_, ?_⟩
  · rw [zl 79 (by omega), zl 80 (by omega)]
    exact S.lo (congrArg (fun x => x.2) l2) (fun r r1 r2 => lk r (by omega) (by omega) (by omega) (by omega))
  · exact W.sc (congrArg (fun x => x.2) l2) (fun r hr => lk r (by omega) (by omega) (by omega) (by omega)) (fun r hr => by show l.2.1 r = h.2.1 r; rw [l2])
  · refine K.2.1.tr ?_
    show l.2.1 73 = h.2.1 73
    rw [l2]
  · obtain ⟨⟨t1, t2, t3⟩, t4⟩ := T2
    refine ⟨⟨t1, by rw [f3.2 2 (by decide) (by decide)]; exact t2, t3⟩, fun i hi => ?_⟩
    rw [f3.2 3 (by decide) (by decide)]
    exact t4 i hi
  · rw [zl 74 (by omega)]; exact A1
  · rw [zl 75 (by omega)]; exact A2
  · rw [zl 76 (by omega)]; exact A3
