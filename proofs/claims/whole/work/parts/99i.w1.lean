/-! one call of the law -/
def INV (h : Hp) (c0 s0 : Nat) : Prop := ∃ (o p A G P : Nat) (q co ca : Int → Int) (n : Nat), XS h o p q (rz h 79) (rz h 80) co ca ∧ XW h A G P c0 s0 q co ca ∧ (SM h ∧ MWd h ∧ Tpp h h n) ∧ Agr q (rz h 74) ∧ Agc co (rz h 75) ∧ Agc ca (rz h 76)
def Scr (h k : Hp) : Prop := hI k 9999999 = hI h 9999999 ∧ hN k 9999999 = hN h 9999999
def Stq (h k l : Hp) (c0 s0 : Nat) : Prop := Scr h k ∧ Scr h l ∧ INV l c0 s0
theorem MWd.tr {h k : Hp} (W : MWd h) (e : hL k 73 = hL h 73) : MWd k := fun w hw => by rw [e]; exact W w hw
theorem Tpp.tr {h k : Hp} {n : Nat} (T : Tpp h h n) (e2 : hI k 2 1 = hI h 2 1) (e3 : ∀ j, hI k 3 j = hI h 3 j) (e68 : hI k 68 2 = hI h 68 2) (e69 : ∀ j, hI k 69 j = hI h 69 j) : Tpp k k n := by
  obtain ⟨⟨t1, t2, t3⟩, t4⟩ := T
  refine ⟨⟨t1, e2.trans t2, e68.trans t3⟩, fun i hi => ?_⟩
  unfold rz
  rw [e3, e69, e69]
  exact t4 i hi
theorem rz_e {h k : Hp} {r : Nat} (e : hI k r = hI h r) : rz k r = rz h r := by
  funext j; unfold rz; rw [e]
theorem inv_q {h k l : Hp} {o p A G P A' G' P' c0 s0 n : Nat} {q co ca : Int → Int} (S : XS h o p q (rz h 79) (rz h 80) co ca) (W : XW h A G P c0 s0 q co ca) (K : SM h ∧ MWd h ∧ Tpp h h n) (A1 : Agr q (rz h 74)) (A2 : Agc co (rz h 75)) (A3 : Agc ca (rz h 76)) (f : XFr h k) (Wk : XW k A' G' P' c0 s0 q co ca) (m : Ms k l (rz k 79) (rz k 80)) : Stq h k l c0 s0 := by
  have hc : 92 < hC h := W.2.2.2.2.1.1
  have Sk := S.fr hc f
  obtain ⟨D, m79, m80⟩ := m
  have nk : ∀ r, 68 ≤ r → r ≤ 92 → hI k r = hI h r := fun r r1 r2 => f.1 r (Or.inl (by omega)) (by unfold xsc; omega)
  have nk2 : ∀ r, r = 2 ∨ r = 3 → hI k r = hI h r := fun r r1 => f.1 r (Or.inl (by omega)) (by unfold xsc; omega)
  have zk : ∀ r, 68 ≤ r → r ≤ 92 → rz k r = rz h r := fun r r1 r2 => rz_e (nk r r1 r2)
  have nl : ∀ r j, ¬ scr r j → r ≠ 79 → r ≠ 80 → hI l r j = hI k r j := D.2.1
  have zl : ∀ r, (r = 74 ∨ r = 75 ∨ r = 76) → rz l r = rz k r := fun r hr => rz_e (funext fun j => nl r j (by unfold scr; omega) (by omega) (by omega))
  have sk : hI k 9999999 = hI h 9999999 := f.1 9999999 (Or.inr rfl) (by unfold xsc; omega)
  have skn : hN k 9999999 = hN h 9999999 := f.2.2.2.1 9999999 (Or.inr rfl)
  have ln : hN l = hN k := congrArg (fun x => x.2.2.1) D.1
  have lR : hR l = hR k := congrArg (fun x => x.1) D.1
  have Sl := Sk.sd D
  rw [← zk 79 (by omega) (by omega), ← m79, ← zk 80 (by omega) (by omega), ← m80] at Sl
  refine ⟨⟨sk, skn⟩, ⟨(funext fun j => nl 9999999 j (by unfold scr; omega) (by omega) (by omega)).trans sk, by rw [ln]; exact skn⟩, o, p, A', G', P', q, co, ca, n, Sl, Wk.sd D, ⟨?_, ?_, ?_⟩, ?_, ?_, ?_⟩
  · have d1 : ∀ x ∈ smN, x.1 ≤ 92 := by decide
    refine ⟨fun x hx => ?_, fun x hx => ?_⟩
    · rw [lR, f.2.2.1 68 x.1 (Or.inl (by omega)) (by omega)]; exact K.1.1 x hx
    · have := d1 x hx
      rw [ln, f.2.2.2.1 x.1 (Or.inl (by omega))]; exact K.1.2 x hx
  · exact K.2.1.tr ((D.2.2 73 (by omega)).trans (f.2.1 73 (by omega)))
  · refine K.2.2.tr ?_ (fun j => ?_) ?_ (fun j => ?_)
    · rw [nl 2 1 (by unfold scr; omega) (by omega) (by omega), nk2 2 (Or.inl rfl)]
    · rw [nl 3 j (by unfold scr; omega) (by omega) (by omega), nk2 3 (Or.inr rfl)]
    · rw [nl 68 2 (by unfold scr; omega) (by omega) (by omega), nk 68 (by omega) (by omega)]
    · rw [nl 69 j (by unfold scr; omega) (by omega) (by omega), nk 69 (by omega) (by omega)]
  · rw [zl 74 (by omega), zk 74 (by omega) (by omega)]; exact A1
  · rw [zl 75 (by omega), zk 75 (by omega) (by omega)]; exact A2
  · rw [zl 76 (by omega), zk 76 (by omega) (by omega)]; exact A3
theorem mv_of {h : Hp} {o p n : Nat} {q co ca : Int → Int} (S : XS h o p q (rz h 79) (rz h 80) co ca) (K : SM h ∧ MWd h ∧ Tpp h h n) (A1 : Agr q (rz h 74)) : MV h := ⟨K.1, S.2.2.2.1.2.1.cg A1, S.2.2.2.2.1.1.cg A1 S.2.2.2.1.2.1⟩
theorem lw_of {h : Hp} {o p : Nat} {q co ca : Int → Int} (S : XS h o p q (rz h 79) (rz h 80) co ca) (A1 : Agr q (rz h 74)) (A2 : Agc co (rz h 75)) (A3 : Agc ca (rz h 76)) : LW (rz h 74) (rz h 75) (rz h 76) := S.2.2.2.1.2.2.w.cg A1 A2 A3
/-- everything that a call needs -/
theorem INV.all {h : Hp} {c0 s0 : Nat} (I : INV h c0 s0) : ∃ (o p A G P : Nat) (q co ca : Int → Int) (n : Nat), XS h o p q (rz h 79) (rz h 80) co ca ∧ XW h A G P c0 s0 q co ca ∧ (SM h ∧ MWd h ∧ Tpp h h n) ∧ (Agr q (rz h 74) ∧ Agc co (rz h 75) ∧ Agc ca (rz h 76)) ∧ MV h ∧ LW (rz h 74) (rz h 75) (rz h 76) ∧ XS h o p (rz h 74) (rz h 79) (rz h 80) (rz h 75) (rz h 76) ∧ (XS (vrt h) o p q (rz h 79) (rz h 80) co ca ∧ XW (vrt h) A G P c0 s0 q co ca) ∧ (XS (vrt h) o p (rz h 74) (rz h 79) (rz h 80) (rz h 75) (rz h 76) ∧ XW (vrt h) A G P c0 s0 (rz h 74) (rz h 75) (rz h 76)) := by
  obtain ⟨o, p, A, G, P, q, co, ca, n, S, W, K, A1, A2, A3⟩ := I
  have hc : 92 < hC h := W.2.2.2.2.1.1
  have S0 := S.fr hc (vrt_x h)
  exact ⟨o, p, A, G, P, q, co, ca, n, S, W, K, ⟨A1, A2, A3⟩, mv_of S K A1, lw_of S A1 A2 A3, S.cg A1 A2 A3, ⟨S0, W.vt q co ca⟩, ⟨S0.cg A1 A2 A3, W.vt _ _ _⟩⟩
theorem st_many {h : Hp} {c0 s0 : Nat} (I : INV h c0 s0)  : ∃ a k l, evm 1000 110 [vR 11 0] h = some (some (vL a), k) ∧ evm 1000 206 [vR 12 68] k = some (some (vL a), l) ∧ Stq h k l c0 s0 := by
  obtain ⟨o, p, A, G, P, q, co, ca, n, S, W, K, ⟨A1, A2, A3⟩, M, L, S', ⟨S0, W0⟩, S1, W1⟩ := I.all
  obtain ⟨k, A', e1, f, Wk⟩ := X_many 913 S W
  obtain ⟨k1, _, g1, _⟩ := X_many 913 S0 W0
  obtain ⟨k2, _, g2, _⟩ := X_many 913 S1 W1
  have mk := f.mv W.2.2.2.2.1.1 M
  have zk : ∀ r, 68 ≤ r → r ≤ 92 → rz k r = rz h r := fun r r1 r2 => rz_e (mk.2.1 r r1 r2)
  obtain ⟨l, e2, m⟩ := M_many 993 mk.1
  have sq := inv_q S W K A1 A2 A3 f Wk m
  rw [zk 74 (by omega) (by omega), zk 79 (by omega) (by omega)] at e2
  rw [← eqL g1 g2] at e2
  exact ⟨_, k, l, e1, e2, sq⟩
theorem st_manyOf {h : Hp} {c0 s0 : Nat} (I : INV h c0 s0) (w0 : Int32) : ∃ a k l, evm 1000 111 [vR 11 0, vI w0] h = some (some (vL a), k) ∧ evm 1000 207 [vR 12 68, vI w0] k = some (some (vL a), l) ∧ Stq h k l c0 s0 := by
  obtain ⟨o, p, A, G, P, q, co, ca, n, S, W, K, ⟨A1, A2, A3⟩, M, L, S', ⟨S0, W0⟩, S1, W1⟩ := I.all
  obtain ⟨x0, x0a, x0b, rfl⟩ := iz_of w0
  obtain ⟨k, A', e1, f, Wk⟩ := X_manyOf 914 S W ⟨x0a, x0b⟩
  obtain ⟨k1, _, g1, _⟩ := X_manyOf 914 S0 W0 ⟨x0a, x0b⟩
  obtain ⟨k2, _, g2, _⟩ := X_manyOf 914 S1 W1 ⟨x0a, x0b⟩
  have mk := f.mv W.2.2.2.2.1.1 M
  have zk : ∀ r, 68 ≤ r → r ≤ 92 → rz k r = rz h r := fun r r1 r2 => rz_e (mk.2.1 r r1 r2)
  obtain ⟨l, e2, m⟩ := M_manyOf 993 mk.1 ⟨x0a, x0b⟩
  have sq := inv_q S W K A1 A2 A3 f Wk m
  rw [zk 74 (by omega) (by omega), zk 79 (by omega) (by omega)] at e2
  rw [← eqL g1 g2] at e2
  exact ⟨_, k, l, e1, e2, sq⟩
theorem st_fit {h : Hp} {c0 s0 : Nat} (I : INV h c0 s0)  : ∃ a k l, evm 1000 122 [vR 11 0] h = some (some (vL a), k) ∧ evm 1000 228 [vR 12 68] k = some (some (vL a), l) ∧ Stq h k l c0 s0 := by
  obtain ⟨o, p, A, G, P, q, co, ca, n, S, W, K, ⟨A1, A2, A3⟩, M, L, S', ⟨S0, W0⟩, S1, W1⟩ := I.all
  obtain ⟨k, A', e1, f, Wk⟩ := X_fit 914 S W
  obtain ⟨k1, _, g1, _⟩ := X_fit 914 S0 W0
  obtain ⟨k2, _, g2, _⟩ := X_fit 914 S1 W1
  have mk := f.mv W.2.2.2.2.1.1 M
  have zk : ∀ r, 68 ≤ r → r ≤ 92 → rz k r = rz h r := fun r r1 r2 => rz_e (mk.2.1 r r1 r2)
  obtain ⟨l, e2, m⟩ := M_fit 993 mk.1
  have sq := inv_q S W K A1 A2 A3 f Wk m
  rw [zk 74 (by omega) (by omega), zk 79 (by omega) (by omega)] at e2
  rw [← eqL g1 g2] at e2
  exact ⟨_, k, l, e1, e2, sq⟩
theorem st_game {h : Hp} {c0 s0 : Nat} (I : INV h c0 s0)  : ∃ a k l, evm 1000 119 [vR 11 0] h = some (some (vI a), k) ∧ evm 1000 224 [vR 12 68] k = some (some (vI a), l) ∧ Stq h k l c0 s0 := by
  obtain ⟨o, p, A, G, P, q, co, ca, n, S, W, K, ⟨A1, A2, A3⟩, M, L, S', ⟨S0, W0⟩, S1, W1⟩ := I.all
  obtain ⟨k, A', e1, f, Wk⟩ := X_game 955 S W
  obtain ⟨k1, _, g1, _⟩ := X_game 955 S0 W0
  obtain ⟨k2, _, g2, _⟩ := X_game 955 S1 W1
  have mk := f.mv W.2.2.2.2.1.1 M
  have zk : ∀ r, 68 ≤ r → r ≤ 92 → rz k r = rz h r := fun r r1 r2 => rz_e (mk.2.1 r r1 r2)
  obtain ⟨l, e2, m⟩ := M_game 993 mk.1
  have sq := inv_q S W K A1 A2 A3 f Wk m
  rw [zk 74 (by omega) (by omega), zk 79 (by omega) (by omega)] at e2
  rw [← eqI g1 g2] at e2
  exact ⟨_, k, l, e1, e2, sq⟩
theorem st_nth {h : Hp} {c0 s0 : Nat} (I : INV h c0 s0) (w0 : Int64) (w1 : Int32) : ∃ a k l, evm 1000 113 [vR 11 0, vL w0, vI w1] h = some (some (vI a), k) ∧ evm 1000 210 [vR 12 68, vL w0, vI w1] k = some (some (vI a), l) ∧ Stq h k l c0 s0 := by
  obtain ⟨o, p, A, G, P, q, co, ca, n, S, W, K, ⟨A1, A2, A3⟩, M, L, S', ⟨S0, W0⟩, S1, W1⟩ := I.all
  obtain ⟨x0, x0a, x0b, rfl⟩ := jz_of w0
  obtain ⟨x1, x1a, x1b, rfl⟩ := iz_of w1
  obtain ⟨k, A', e1, f, Wk⟩ := X_nth 911 S W ⟨x0a, x0b⟩ ⟨x1a, x1b⟩
  obtain ⟨k1, _, g1, _⟩ := X_nth 911 S0 W0 ⟨x0a, x0b⟩ ⟨x1a, x1b⟩
  obtain ⟨k2, _, g2, _⟩ := X_nth 911 S1 W1 ⟨x0a, x0b⟩ ⟨x1a, x1b⟩
  have mk := f.mv W.2.2.2.2.1.1 M
  have zk : ∀ r, 68 ≤ r → r ≤ 92 → rz k r = rz h r := fun r r1 r2 => rz_e (mk.2.1 r r1 r2)
  obtain ⟨l, e2, m⟩ := M_nth 993 mk.1 ⟨x0a, x0b⟩ ⟨x1a, x1b⟩
  have sq := inv_q S W K A1 A2 A3 f Wk m
  rw [zk 74 (by omega) (by omega), zk 79 (by omega) (by omega)] at e2
  rw [← eqI g1 g2] at e2
  exact ⟨_, k, l, e1, e2, sq⟩
theorem st_fair {h : Hp} {c0 s0 : Nat} (I : INV h c0 s0) (w0 : Int32) (w1 : Int32) : ∃ a k l, evm 1000 125 [vR 11 0, vI w0, vI w1] h = some (some (vI a), k) ∧ evm 1000 236 [vR 12 68, vI w0, vI w1] k = some (some (vI a), l) ∧ Stq h k l c0 s0 := by
  obtain ⟨o, p, A, G, P, q, co, ca, n, S, W, K, ⟨A1, A2, A3⟩, M, L, S', ⟨S0, W0⟩, S1, W1⟩ := I.all
  obtain ⟨x0, x0a, x0b, rfl⟩ := iz_of w0
  obtain ⟨x1, x1a, x1b, rfl⟩ := iz_of w1
  obtain ⟨k, A', e1, f, Wk⟩ := X_fair 911 S W ⟨x0a, x0b⟩ ⟨x1a, x1b⟩
  obtain ⟨k1, _, g1, _⟩ := X_fair 911 S0 W0 ⟨x0a, x0b⟩ ⟨x1a, x1b⟩
  obtain ⟨k2, _, g2, _⟩ := X_fair 911 S1 W1 ⟨x0a, x0b⟩ ⟨x1a, x1b⟩
  have mk := f.mv W.2.2.2.2.1.1 M
  have zk : ∀ r, 68 ≤ r → r ≤ 92 → rz k r = rz h r := fun r r1 r2 => rz_e (mk.2.1 r r1 r2)
  obtain ⟨l, e2, m⟩ := M_fair 993 mk.1 ⟨x0a, x0b⟩ ⟨x1a, x1b⟩
  have sq := inv_q S W K A1 A2 A3 f Wk m
  rw [zk 74 (by omega) (by omega), zk 79 (by omega) (by omega)] at e2
  rw [← eqI g1 g2] at e2
  exact ⟨_, k, l, e1, e2, sq⟩
theorem st_rank {h : Hp} {c0 s0 : Nat} (I : INV h c0 s0)  : ∃ a k l, evm 1000 112 [vR 11 0] h = some (some (vL a), k) ∧ evm 1000 208 [vR 12 68] k = some (some (vL a), l) ∧ Stq h k l c0 s0 := by
  obtain ⟨o, p, A, G, P, q, co, ca, n, S, W, K, ⟨A1, A2, A3⟩, M, L, S', ⟨S0, W0⟩, S1, W1⟩ := I.all
  obtain ⟨k, A', e1, f, Wk⟩ := X_rank 912 S W
  obtain ⟨k1, _, g1, _⟩ := X_rank 912 S0 W0
  obtain ⟨k2, _, g2, _⟩ := X_rank 912 S1 W1
  have mk := f.mv W.2.2.2.2.1.1 M
  have zk : ∀ r, 68 ≤ r → r ≤ 92 → rz k r = rz h r := fun r r1 r2 => rz_e (mk.2.1 r r1 r2)
  obtain ⟨l, e2, m⟩ := M_rank 993 mk.1
  have sq := inv_q S W K A1 A2 A3 f Wk m
  rw [zk 74 (by omega) (by omega), zk 79 (by omega) (by omega)] at e2
  rw [← eqL g1 g2] at e2
  exact ⟨_, k, l, e1, e2, sq⟩
theorem st_two {h : Hp} {c0 s0 : Nat} (I : INV h c0 s0)  : ∃ a k l, evm 1000 118 [vR 11 0] h = some (some (vL a), k) ∧ evm 1000 223 [vR 12 68] k = some (some (vL a), l) ∧ Stq h k l c0 s0 := by
  obtain ⟨o, p, A, G, P, q, co, ca, n, S, W, K, ⟨A1, A2, A3⟩, M, L, S', ⟨S0, W0⟩, S1, W1⟩ := I.all
  obtain ⟨k, A', e1, f, Wk⟩ := X_two 996 S W
  obtain ⟨k1, _, g1, _⟩ := X_two 996 S0 W0
  obtain ⟨k2, _, g2, _⟩ := X_two 996 S1 W1
  have mk := f.mv W.2.2.2.2.1.1 M
  have zk : ∀ r, 68 ≤ r → r ≤ 92 → rz k r = rz h r := fun r r1 r2 => rz_e (mk.2.1 r r1 r2)
  obtain ⟨l, e2, m⟩ := M_two 997 mk.1
  have sq := inv_q S W K A1 A2 A3 f Wk m
  rw [zk 74 (by omega) (by omega)] at e2
  rw [← eqL g1 g2] at e2
  exact ⟨_, k, l, e1, e2, sq⟩
theorem st_crowd {h : Hp} {c0 s0 : Nat} (I : INV h c0 s0) (w0 : Int64) (w1 : Int32) : ∃ a k l, evm 1000 115 [vR 11 0, vL w0, vI w1] h = some (some (vL a), k) ∧ evm 1000 219 [vR 12 68, vL w0, vI w1] k = some (some (vL a), l) ∧ Stq h k l c0 s0 := by
  obtain ⟨o, p, A, G, P, q, co, ca, n, S, W, K, ⟨A1, A2, A3⟩, M, L, S', ⟨S0, W0⟩, S1, W1⟩ := I.all
  obtain ⟨x0, x0a, x0b, rfl⟩ := jz_of w0
  obtain ⟨x1, x1a, x1b, rfl⟩ := iz_of w1
  obtain ⟨k, A', e1, f, Wk⟩ := X_crowd 992 S W ⟨x0a, x0b⟩ ⟨x1a, x1b⟩
  obtain ⟨k1, _, g1, _⟩ := X_crowd 992 S0 W0 ⟨x0a, x0b⟩ ⟨x1a, x1b⟩
  obtain ⟨k2, _, g2, _⟩ := X_crowd 992 S1 W1 ⟨x0a, x0b⟩ ⟨x1a, x1b⟩
  have mk := f.mv W.2.2.2.2.1.1 M
  have zk : ∀ r, 68 ≤ r → r ≤ 92 → rz k r = rz h r := fun r r1 r2 => rz_e (mk.2.1 r r1 r2)
  have Lk : LW (rz k 74) (rz k 75) (rz k 76) := by rw [zk 74 (by omega) (by omega), zk 75 (by omega) (by omega), zk 76 (by omega) (by omega)]; exact L
  obtain ⟨l, e2, m⟩ := M_crowd 992 mk.1 Lk ⟨x0a, x0b⟩ ⟨x1a, x1b⟩
  have sq := inv_q S W K A1 A2 A3 f Wk m
  rw [zk 74 (by omega) (by omega), zk 75 (by omega) (by omega), zk 76 (by omega) (by omega)] at e2
  rw [← eqL g1 g2] at e2
  exact ⟨_, k, l, e1, e2, sq⟩
theorem st_weary {h : Hp} {c0 s0 : Nat} (I : INV h c0 s0) (w0 : Int64) : ∃ a k l, evm 1000 116 [vR 11 0, vL w0] h = some (some (vL a), k) ∧ evm 1000 220 [vR 12 68, vL w0] k = some (some (vL a), l) ∧ Stq h k l c0 s0 := by
  obtain ⟨o, p, A, G, P, q, co, ca, n, S, W, K, ⟨A1, A2, A3⟩, M, L, S', ⟨S0, W0⟩, S1, W1⟩ := I.all
  obtain ⟨x0, x0a, x0b, rfl⟩ := jz_of w0
  obtain ⟨k, A', e1, f, Wk⟩ := X_weary 992 S W ⟨x0a, x0b⟩
  obtain ⟨k1, _, g1, _⟩ := X_weary 992 S0 W0 ⟨x0a, x0b⟩
  obtain ⟨k2, _, g2, _⟩ := X_weary 992 S1 W1 ⟨x0a, x0b⟩
  have mk := f.mv W.2.2.2.2.1.1 M
  have zk : ∀ r, 68 ≤ r → r ≤ 92 → rz k r = rz h r := fun r r1 r2 => rz_e (mk.2.1 r r1 r2)
  have Lk : LW (rz k 74) (rz k 75) (rz k 76) := by rw [zk 74 (by omega) (by omega), zk 75 (by omega) (by omega), zk 76 (by omega) (by omega)]; exact L
  obtain ⟨l, e2, m⟩ := M_weary 992 mk.1 Lk ⟨x0a, x0b⟩
  have sq := inv_q S W K A1 A2 A3 f Wk m
  rw [zk 74 (by omega) (by omega), zk 75 (by omega) (by omega), zk 76 (by omega) (by omega)] at e2
  rw [← eqL g1 g2] at e2
  exact ⟨_, k, l, e1, e2, sq⟩
theorem st_weight {h : Hp} {c0 s0 : Nat} (I : INV h c0 s0) (w0 : Int32) : ∃ a k l, evm 1000 117 [vR 11 0, vI w0] h = some (some (vI a), k) ∧ evm 1000 221 [vR 12 68, vI w0] k = some (some (vI a), l) ∧ Stq h k l c0 s0 := by
  obtain ⟨o, p, A, G, P, q, co, ca, n, S, W, K, ⟨A1, A2, A3⟩, M, L, S', ⟨S0, W0⟩, S1, W1⟩ := I.all
  obtain ⟨x0, x0a, x0b, rfl⟩ := iz_of w0
  obtain ⟨k, e1, f, Wk⟩ := X_weight 996 S W ⟨x0a, x0b⟩
  obtain ⟨k1, g1, _⟩ := X_weight 996 S0 W0 ⟨x0a, x0b⟩
  obtain ⟨k2, g2, _⟩ := X_weight 996 S1 W1 ⟨x0a, x0b⟩
  have mk := f.mv W.2.2.2.2.1.1 M
  have zk : ∀ r, 68 ≤ r → r ≤ 92 → rz k r = rz h r := fun r r1 r2 => rz_e (mk.2.1 r r1 r2)
  have Lk : LW (rz k 74) (rz k 75) (rz k 76) := by rw [zk 74 (by omega) (by omega), zk 75 (by omega) (by omega), zk 76 (by omega) (by omega)]; exact L
  obtain ⟨l, e2, m⟩ := M_weight 993 mk.1 Lk ⟨x0a, x0b⟩
  have sq := inv_q S W K A1 A2 A3 f Wk m
  rw [zk 74 (by omega) (by omega), zk 75 (by omega) (by omega), zk 76 (by omega) (by omega), zk 79 (by omega) (by omega)] at e2
  rw [← eqI g1 g2] at e2
  exact ⟨_, k, l, e1, e2, sq⟩
theorem st_climb {h : Hp} {c0 s0 : Nat} (I : INV h c0 s0) (w0 : Int32) (w1 : Int32) : ∃ a k l, evm 1000 126 [vR 11 0, vI w0, vI w1] h = some (some (vI a), k) ∧ evm 1000 237 [vR 12 68, vI w0, vI w1] k = some (some (vI a), l) ∧ Stq h k l c0 s0 := by
  obtain ⟨o, p, A, G, P, q, co, ca, n, S, W, K, ⟨A1, A2, A3⟩, M, L, S', ⟨S0, W0⟩, S1, W1⟩ := I.all
  obtain ⟨x0, x0a, x0b, rfl⟩ := iz_of w0
  obtain ⟨x1, x1a, x1b, rfl⟩ := iz_of w1
  obtain ⟨k, e1, f, Wk⟩ := X_climb 994 S W ⟨x0a, x0b⟩ ⟨x1a, x1b⟩
  obtain ⟨k1, g1, _⟩ := X_climb 994 S0 W0 ⟨x0a, x0b⟩ ⟨x1a, x1b⟩
  obtain ⟨k2, g2, _⟩ := X_climb 994 S1 W1 ⟨x0a, x0b⟩ ⟨x1a, x1b⟩
  have mk := f.mv W.2.2.2.2.1.1 M
  have zk : ∀ r, 68 ≤ r → r ≤ 92 → rz k r = rz h r := fun r r1 r2 => rz_e (mk.2.1 r r1 r2)
  have Lk : LW (rz k 74) (rz k 75) (rz k 76) := by rw [zk 74 (by omega) (by omega), zk 75 (by omega) (by omega), zk 76 (by omega) (by omega)]; exact L
  obtain ⟨l, e2, m⟩ := M_climb 994 mk.1 Lk ⟨x0a, x0b⟩ ⟨x1a, x1b⟩
  have sq := inv_q S W K A1 A2 A3 f Wk m
  rw [zk 74 (by omega) (by omega), zk 75 (by omega) (by omega), zk 76 (by omega) (by omega)] at e2
  rw [← eqI g1 g2] at e2
  exact ⟨_, k, l, e1, e2, sq⟩
theorem st_may {h : Hp} {c0 s0 : Nat} (I : INV h c0 s0) (w0 : Int32) : ∃ a k l, evm 1000 105 [vR 11 0, vI w0] h = some (some (vI a), k) ∧ evm 1000 200 [vR 12 68, vI w0] k = some (some (vI a), l) ∧ Stq h k l c0 s0 := by
  obtain ⟨o, p, A, G, P, q, co, ca, n, S, W, K, ⟨A1, A2, A3⟩, M, L, S', ⟨S0, W0⟩, S1, W1⟩ := I.all
  obtain ⟨x0, x0a, x0b, rfl⟩ := iz_of w0
  obtain ⟨l, e2, m⟩ := M_may 994 M ⟨x0a, x0b⟩
  exact ⟨_, h, l, X_may 997 S' ⟨x0a, x0b⟩, e2, inv_q S W K A1 A2 A3 (XFr.rf h) W m.ms⟩
theorem st_taken {h : Hp} {c0 s0 : Nat} (I : INV h c0 s0) (w0 : Int32) : ∃ a k l, evm 1000 108 [vR 11 0, vI w0] h = some (some (vI a), k) ∧ evm 1000 203 [vR 12 68, vI w0] k = some (some (vI a), l) ∧ Stq h k l c0 s0 := by
  obtain ⟨o, p, A, G, P, q, co, ca, n, S, W, K, ⟨A1, A2, A3⟩, M, L, S', ⟨S0, W0⟩, S1, W1⟩ := I.all
  obtain ⟨x0, x0a, x0b, rfl⟩ := iz_of w0
  obtain ⟨l, e2, m⟩ := M_taken 998 M ⟨x0a, x0b⟩
  exact ⟨_, h, l, X_taken 999 S' ⟨x0a, x0b⟩, e2, inv_q S W K A1 A2 A3 (XFr.rf h) W m⟩
theorem st_lawful {h : Hp} {c0 s0 : Nat} (I : INV h c0 s0)  : ∃ a k l, evm 1000 109 [vR 11 0] h = some (some (vI a), k) ∧ evm 1000 205 [vR 12 68] k = some (some (vI a), l) ∧ Stq h k l c0 s0 := by
  obtain ⟨o, p, A, G, P, q, co, ca, n, S, W, K, ⟨A1, A2, A3⟩, M, L, S', ⟨S0, W0⟩, S1, W1⟩ := I.all
  obtain ⟨l, e2, m⟩ := M_lawful 995 M
  exact ⟨_, h, l, X_lawful 998 S', e2, inv_q S W K A1 A2 A3 (XFr.rf h) W m⟩
theorem st_step {h : Hp} {c0 s0 : Nat} (I : INV h c0 s0) (w0 : Int32) (w1 : Int32) : ∃ a k l, evm 1000 104 [vR 11 0, vI w0, vI w1] h = some (some (vI a), k) ∧ evm 1000 199 [vR 12 68, vI w0, vI w1] k = some (some (vI a), l) ∧ Stq h k l c0 s0 := by
  obtain ⟨o, p, A, G, P, q, co, ca, n, S, W, K, ⟨A1, A2, A3⟩, M, L, S', ⟨S0, W0⟩, S1, W1⟩ := I.all
  obtain ⟨x0, x0a, x0b, rfl⟩ := iz_of w0
  obtain ⟨x1, x1a, x1b, rfl⟩ := iz_of w1
  obtain ⟨l, e2, m⟩ := M_step 997 M ⟨x0a, x0b⟩ ⟨x1a, x1b⟩
  exact ⟨_, h, l, X_step 999 S' ⟨x0a, x0b⟩ ⟨x1a, x1b⟩, e2, inv_q S W K A1 A2 A3 (XFr.rf h) W m⟩
theorem st_heaps {h : Hp} {c0 s0 : Nat} (I : INV h c0 s0) (w0 : Int32) : ∃ a k l, evm 1000 120 [vR 11 0, vI w0] h = some (some (vI a), k) ∧ evm 1000 226 [vR 12 68, vI w0] k = some (some (vI a), l) ∧ Stq h k l c0 s0 := by
  obtain ⟨o, p, A, G, P, q, co, ca, n, S, W, K, ⟨A1, A2, A3⟩, M, L, S', ⟨S0, W0⟩, S1, W1⟩ := I.all
  obtain ⟨x0, x0a, x0b, rfl⟩ := iz_of w0
  obtain ⟨l, e2, m⟩ := M_heaps 997 M ⟨x0a, x0b⟩
  exact ⟨_, h, l, x_heaps 999 S'.1 S'.2.1.1 S'.2.2.1.1 S'.2.2.2.1.1 S'.2.2.2.1.2.1 ⟨x0a, x0b⟩, e2, inv_q S W K A1 A2 A3 (XFr.rf h) W m⟩
theorem st_still {h : Hp} {c0 s0 : Nat} (I : INV h c0 s0) (w0 w1 w2 w3 w4 : Int32) : ∃ a k l, evm 1000 124 [vR 11 0, vI w0, vI w1, vI w2, vI w3, vI w4] h = some (some (vI a), k) ∧ evm 1000 234 [vR 12 68, vI w0, vI w1, vI w2, vI w3, vI w4] k = some (some (vI a), l) ∧ Stq h k l c0 s0 := by
  obtain ⟨o, p, A, G, P, q, co, ca, n, S, W, K, ⟨A1, A2, A3⟩, M, L, S', ⟨S0, W0⟩, S1, W1⟩ := I.all
  obtain ⟨x0, x0a, x0b, rfl⟩ := iz_of w0
  obtain ⟨x1, x1a, x1b, rfl⟩ := iz_of w1
  obtain ⟨x2, x2a, x2b, rfl⟩ := iz_of w2
  obtain ⟨x3, x3a, x3b, rfl⟩ := iz_of w3
  obtain ⟨x4, x4a, x4b, rfl⟩ := iz_of w4
  obtain ⟨l, e2, m⟩ := M_still 998 (h := h) ⟨x0a, x0b⟩ ⟨x1a, x1b⟩ ⟨x2a, x2b⟩ ⟨x3a, x3b⟩ ⟨x4a, x4b⟩
  exact ⟨_, h, l, x_still 998 ⟨x0a, x0b⟩ ⟨x1a, x1b⟩ ⟨x2a, x2b⟩ ⟨x3a, x3b⟩ ⟨x4a, x4b⟩, e2, inv_q S W K A1 A2 A3 (XFr.rf h) W m⟩
theorem st_count {h : Hp} {c0 s0 : Nat} (I : INV h c0 s0) (w0 : Int32) : ∃ a k l, evm 1000 128 [vR 11 0, vI w0] h = some (some (vI a), k) ∧ evm 1000 239 [vR 12 68, vI w0] k = some (some (vI a), l) ∧ Stq h k l c0 s0 := by
  obtain ⟨o, p, A, G, P, q, co, ca, n, S, W, K, ⟨A1, A2, A3⟩, M, L, S', ⟨S0, W0⟩, S1, W1⟩ := I.all
  obtain ⟨x0, x0a, x0b, rfl⟩ := iz_of w0
  obtain ⟨l, e2, m⟩ := M_count 996 M ⟨x0a, x0b⟩
  have T := K.2.2.1
  have r2 : rz h 68 2 = n := by
    unfold rz
    rw [show (2 : Int).toNat = 2 from rfl, T.2.2, iz_i (by omega) (by omega)]
  rw [r2] at e2
  exact ⟨_, h, l, X_count 999 S' T.2.1 ⟨x0a, x0b⟩, e2, inv_q S W K A1 A2 A3 (XFr.rf h) W m⟩
theorem st_fewest {h : Hp} {c0 s0 : Nat} (I : INV h c0 s0) : ∃ a k l, evm 1000 123 [vR 11 0] h = some (some (vI a), k) ∧ evm 1000 233 [vR 12 68] k = some (some (vI a), l) ∧ Stq h k l c0 s0 := by
  obtain ⟨o, p, A, G, P, q, co, ca, n, S, W, K, ⟨A1, A2, A3⟩, M, L, S', ⟨S0, W0⟩, S1, W1⟩ := I.all
  obtain ⟨c, k, e1, f, Wk, l, e2, m⟩ := X_fewest 949 950 rfl rfl M S' W
  exact ⟨_, k, l, e1, e2, inv_q S W K A1 A2 A3 f Wk m⟩
