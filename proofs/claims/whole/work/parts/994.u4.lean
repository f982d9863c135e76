/-! lines: creaks, foot, count, great -/
def LLn (p : Nat) (c : Int → Int) (n : Int) (N i : Nat) (hx hm : Hp) (X M : Option Rs) : Prop := ∃ hx' hm1 hm' r, X = some (some (vI (iZ r)), hx') ∧ M = some (none, hm1) ∧ (∀ e, 2 ≤ e → evm e 150 [vR 12 68, vI (59 : Int32)] hm1 = some (none, hm')) ∧ (r = 0 ∨ r = 1) ∧ LOut p c n N i hx hm hx' hm' r
theorem LLn.flt {p : Nat} {c : Int → Int} {n : Int} {N i : Nat} {hx hm hx' hm1 : Hp} {X M : Option Rs} (eX : X = some (some (vI (iZ 0)), hx')) (eM : M = some (none, hm1)) (x : XQf p hx hx') (m : MQf hm hm1) (F : LFl hx' hm1) : LLn p c n N i hx hm X M := by
  obtain ⟨F', f1, f2⟩ := F
  exact ⟨hx', hm1, hm1, 0, eX, eM, fun e he => u_tsF he f2 _, Or.inl rfl, x, m, Or.inr ⟨rfl, F', f1, f2⟩⟩
theorem LLn.end {p : Nat} {c : Int → Int} {n : Int} {N i j L : Nat} {q : Int → Int} {hx hm h1 m1 : Hp} {X M : Option Rs} {d : Nat} (hd : 7 ≤ d) (S : LSt p c n N j L q h1 m1) (eX : X = bI (evm d 59 [vR 6 1, vI (59 : Int32)] h1) fun x h => bif isB x then some (some (vI x), h) else none) (eM : M = some (none, m1)) (x : XQf p hx h1) (m : MQf hm m1) (ij : i ≤ j) : LLn p c n N i hx hm X M := by
  obtain ⟨hx', hm', r, a1, a2, a3, a4⟩ := S.fin hd
  refine ⟨hx', m1, hm', r, ?_, eM, a2, a3, a4.pre x m ij⟩
  rw [eX, a1]
  rcases a3 with rfl | rfl
  · rfl
  · rfl
theorem JF.s {h : Hp} {F : Int} (J : JF h F) {r k : Nat} (v : Int32) (hr : ¬ (r = 68 ∧ k = 8)) : JF (sI h r k v) F := ⟨J.1, by rw [sI_o _ _ (by omega)]; exact J.2.1, J.2.2⟩
theorem LFl.s {hx hm : Hp} (f : LFl hx hm) {r k : Nat} (v : Int32) (hr : ¬ (r = 68 ∧ k = 8)) : LFl hx (sI hm r k v) := by
  obtain ⟨F, a, b⟩ := f
  exact ⟨F, a, b.s v hr⟩
theorem VPn.sc {q q' : Int → Int} (V : VPn q) (e : ∀ k, 7 ≤ k → q' k = q k) (e0 : q' 0 = q 0) (c1 : -1 ≤ q' 1 ∧ q' 1 ≤ 4) (c2 : -1 ≤ q' 2 ∧ q' 2 ≤ 1) (c3 : 0 ≤ q' 3 ∧ q' 3 ≤ q' 4 ∧ q' 4 ≤ 40) (c5 : -1 ≤ q' 5 ∧ q' 5 ≤ 12 ∧ q' 5 ≠ 0) (c6 : 0 ≤ q' 6 ∧ q' 6 ≤ 4) : VPn q' := by
  obtain ⟨v0, v1, v2, v3, v5, v6, v8, v15, w1, w2, w3, w4, w5, w6, w7⟩ := V
  refine ⟨by rw [e0]; exact v0, c1, c2, c3, c5, c6, by rw [e 8 (by omega)]; exact v8, by rw [e 15 (by omega)]; exact v15, fun k k1 k2 => ?_, fun i j i1 i2 i3 => ?_, fun k k1 k2 => ?_, fun i j i1 i2 i3 => ?_, fun s s1 s2 => ?_, by rw [e 26 (by omega)]; exact w6, fun s s1 s2 => ?_⟩
  · rw [e 8 (by omega)] at k2; rw [e _ (by omega)]; exact w1 k k1 k2
  · rw [e 8 (by omega)] at i3; rw [e _ (by omega), e _ (by omega)]; exact w2 i j i1 i2 i3
  · rw [e 15 (by omega)] at k2; rw [e _ (by omega)]; exact w3 k k1 k2
  · rw [e 15 (by omega)] at i3; rw [e _ (by omega), e _ (by omega)]; exact w4 i j i1 i2 i3
  · rw [e _ (by omega)]; exact w5 s s1 s2
  · rw [e0] at s1; rw [e _ (by omega)]; exact w7 s s1 s2
theorem PMd.s {h : Hp} {q : Int → Int} (P : PMd h q) {j : Int} (hj : 0 ≤ j ∧ j < 70) (x : Int) {k : Nat} (hk : k = (70 + j).toNat) : PMd (sI h 74 k (iZ x)) (upv q j x) := by
  intro j' a b
  by_cases e : j' = j
  · subst e; rw [upv_e, hk, sI_e]
  · rw [upv_n _ _ e, sI_o _ _ (by omega)]; exact P j' a b
theorem Pnd.sc {hx hm hx' hm' : Hp} {p : Nat} {q q' : Int → Int} (P : Pnd hx hm p q) (ex : ∀ r, r ≠ p → hI hx' r = hI hx r) (e9 : hI hx' p 9 = hI hx p 9) (n9 : P9 hx' p q') (pm : PMd hm' q') (e : ∀ k, 7 ≤ k → q' k = q k) (V : VPn q') : Pnd hx' hm' p q' := by
  obtain ⟨p1, p2, p3, p4, p5, p6, p7⟩ := P
  refine ⟨n9, ?_, ?_, ?_, ?_, pm, V⟩
  · obtain ⟨B, b1, b2, b3⟩ := p2
    refine ⟨B, b1, by rw [e9]; exact b2, fun z => (b3 z).trans ⟨?_, ?_⟩⟩
    · rintro ⟨k, k1, k2, k3⟩
      exact ⟨k, k1, by rw [e 8 (by omega)]; exact k2, by rw [e _ (by omega)]; exact k3⟩
    · rintro ⟨k, k1, k2, k3⟩
      rw [e 8 (by omega)] at k2
      rw [e _ (by omega)] at k3
      exact ⟨k, k1, k2, k3⟩
  · obtain ⟨s, s1, s2, s3⟩ := p3
    unfold PSt
    rw [ex (p + 1) (by omega), e 8 (by omega)]
    refine ⟨s, s1, s2, fun z => (s3 z).trans ⟨?_, ?_⟩⟩
    · rintro ⟨k, k1, k2, k3⟩
      exact ⟨k, k1, k2, by rw [e _ (by omega)]; exact k3⟩
    · rintro ⟨k, k1, k2, k3⟩
      rw [e _ (by omega)] at k3
      exact ⟨k, k1, k2, k3⟩
  · intro s s1 s2
    rw [ex (p + 3) (by omega), e _ (by omega)]; exact p4 s s1 s2
  · intro a ha
    obtain ⟨B, b1, b2, b3⟩ := p5 a ha
    refine ⟨B, b1, by rw [ex (p + 4) (by omega)]; exact b2, fun z hz => (b3 z hz).trans ?_⟩
    unfold Brd
    rw [e (0 + 15) (by omega)]
    constructor
    · rintro ⟨k, k1, k2, k3⟩
      exact ⟨k, k1, k2, by rw [e _ (by omega)]; exact k3⟩
    · rintro ⟨k, k1, k2, k3⟩
      rw [e _ (by omega)] at k3
      exact ⟨k, k1, k2, k3⟩
theorem LSt.sc {p : Nat} {c : Int → Int} {n : Int} {N i L : Nat} {q q' : Int → Int} {hx hm : Hp} (S : LSt p c n N i L q hx hm) {sl k : Nat} (v w : Int32) (hs : sl ≠ 9 ∧ sl ≠ 8 ∧ sl ≠ 11) (hk : 70 ≤ k) (n9 : P9 (sI hx p sl v) p q') (pm : PMd (sI hm 74 k w) q') (e : ∀ k, 7 ≤ k → q' k = q k) (V : VPn q') (h4 : L.testBit 3 = false → q' 4 = 40) : LSt p c n N i L q' (sI hx p sl v) (sI hm 74 k w) := by
  obtain ⟨t, J, M, ⟨l1, l2, l3, l4, l5, l6⟩, P, C⟩ := S
  have tp : 48 ≤ p := by unfold TO at t; omega
  have ex : ∀ r, r ≠ p → hI (sI hx p sl v) r = hI hx r := fun r hr => by rw [sI_w, wI_n _ _ hr]
  have em : ∀ r k', r ≠ 74 → hI (sI hm 74 k w) r k' = hI hm r k' := fun r k' hr => sI_o _ _ (by omega)
  refine ⟨t, ⟨J.1, J.2.1.tr (ex 3 (by omega)), by rw [ex 2 (by omega)]; exact J.2.2.1, by rw [ex 1 (by omega)]; exact J.2.2.2⟩, M.tr rfl (fun r k' hr => em r k' (by omega)) (by rw [em _ _ (by decide)]; exact M.2.1.1) M.2.1.2 (by rw [em _ _ (by decide)]; exact M.2.2), ⟨by rw [ex 1 (by omega)]; exact l1, by rw [em _ _ (by decide)]; exact l2, l3, fun y => by rw [e 8 (by omega)]; exact l4 y, fun y => by rw [e 7 (by omega)]; exact l5 y, h4⟩, P.sc ex (sI_o _ _ (by omega)) n9 pm e V, C.tr (e 7 (by omega)) (ex _ (by omega)) (ex _ (by omega)) (em _ _ (by decide)) (fun k => em _ _ (by decide)) (fun k => em _ _ (by decide))⟩
theorem LSt.s1 {p : Nat} {c : Int → Int} {n : Int} {N i L : Nat} {q : Int → Int} {hx hm : Hp} (S : LSt p c n N i L q hx hm) {x : Int} (hx0 : -1 ≤ x ∧ x ≤ 4) : LSt p c n N i L (upv q 1 x) (sI hx p 10 (iZ (x))) (sI hm 74 71 (iZ x)) := by
  have P := S.2.2.2.2.1
  obtain ⟨v0, v1, v2, v3, v5, v6, vr⟩ := P.2.2.2.2.2.2
  obtain ⟨a7, a8, a10, a11, a12, a13, a14, a15, a16⟩ := P.1
  refine S.sc _ _ (by omega) (by omega) ⟨?_, ?_, ?_, ?_, ?_, ?_, ?_, ?_, ?_⟩ (P.2.2.2.2.2.1.s (j := 1) (by omega) x (by omega)) (fun k hk => upv_n _ _ (by omega)) (P.2.2.2.2.2.2.sc (fun k hk => upv_n _ _ (by omega)) (upv_n _ _ (by omega)) ?_ ?_ ?_ ?_ ?_) (fun y => ?_)
  · rw [sI_o _ _ (by omega), upv_n _ _ (by omega)]; exact a7
  · rw [sI_o _ _ (by omega), upv_n _ _ (by omega)]; exact a8
  · rw [sI_e, upv_e]
  · rw [sI_o _ _ (by omega), upv_n _ _ (by omega)]; exact a11
  · rw [sI_o _ _ (by omega), upv_n _ _ (by omega)]; exact a12
  · rw [sI_o _ _ (by omega), upv_n _ _ (by omega)]; exact a13
  · rw [sI_o _ _ (by omega), upv_n _ _ (by omega)]; exact a14
  · rw [sI_o _ _ (by omega), upv_n _ _ (by omega)]; exact a15
  · rw [sI_o _ _ (by omega), upv_n _ _ (by omega)]; exact a16
  · rw [upv_e]; omega
  · rw [upv_n q x (show (2 : Int) ≠ 1 by omega)]; omega
  · rw [upv_n q x (show (3 : Int) ≠ 1 by omega), upv_n q x (show (4 : Int) ≠ 1 by omega)]; omega
  · rw [upv_n q x (show (5 : Int) ≠ 1 by omega)]; omega
  · rw [upv_n q x (show (6 : Int) ≠ 1 by omega)]; omega
  · rw [upv_n _ _ (by omega)]; exact S.2.2.2.1.2.2.2.2.2 y
theorem LSt.s2 {p : Nat} {c : Int → Int} {n : Int} {N i L : Nat} {q : Int → Int} {hx hm : Hp} (S : LSt p c n N i L q hx hm) {x : Int} (hx0 : 0 ≤ x ∧ x ≤ 1) : LSt p c n N i L (upv q 2 x) (sI hx p 12 (iZ (1 - x))) (sI hm 74 72 (iZ x)) := by
  have P := S.2.2.2.2.1
  obtain ⟨v0, v1, v2, v3, v5, v6, vr⟩ := P.2.2.2.2.2.2
  obtain ⟨a7, a8, a10, a11, a12, a13, a14, a15, a16⟩ := P.1
  refine S.sc _ _ (by omega) (by omega) ⟨?_, ?_, ?_, ?_, ?_, ?_, ?_, ?_, ?_⟩ (P.2.2.2.2.2.1.s (j := 2) (by omega) x (by omega)) (fun k hk => upv_n _ _ (by omega)) (P.2.2.2.2.2.2.sc (fun k hk => upv_n _ _ (by omega)) (upv_n _ _ (by omega)) ?_ ?_ ?_ ?_ ?_) (fun y => ?_)
  · rw [sI_o _ _ (by omega), upv_n _ _ (by omega)]; exact a7
  · rw [sI_o _ _ (by omega), upv_n _ _ (by omega)]; exact a8
  · rw [sI_o _ _ (by omega), upv_n _ _ (by omega)]; exact a10
  · rw [sI_o _ _ (by omega), upv_n _ _ (by omega)]; exact a11
  · rw [sI_e, upv_e, if_neg (by omega)]
  · rw [sI_o _ _ (by omega), upv_n _ _ (by omega)]; exact a13
  · rw [sI_o _ _ (by omega), upv_n _ _ (by omega)]; exact a14
  · rw [sI_o _ _ (by omega), upv_n _ _ (by omega)]; exact a15
  · rw [sI_o _ _ (by omega), upv_n _ _ (by omega)]; exact a16
  · rw [upv_n q x (show (1 : Int) ≠ 2 by omega)]; omega
  · rw [upv_e]; omega
  · rw [upv_n q x (show (3 : Int) ≠ 2 by omega), upv_n q x (show (4 : Int) ≠ 2 by omega)]; omega
  · rw [upv_n q x (show (5 : Int) ≠ 2 by omega)]; omega
  · rw [upv_n q x (show (6 : Int) ≠ 2 by omega)]; omega
  · rw [upv_n _ _ (by omega)]; exact S.2.2.2.1.2.2.2.2.2 y
theorem LSt.s3 {p : Nat} {c : Int → Int} {n : Int} {N i L : Nat} {q : Int → Int} {hx hm : Hp} (S : LSt p c n N i L q hx hm) {x : Int} (hx0 : 0 ≤ x ∧ x ≤ 40 ∧ x ≤ q 4) : LSt p c n N i L (upv q 3 x) (sI hx p 13 (iZ (x))) (sI hm 74 73 (iZ x)) := by
  have P := S.2.2.2.2.1
  obtain ⟨v0, v1, v2, v3, v5, v6, vr⟩ := P.2.2.2.2.2.2
  obtain ⟨a7, a8, a10, a11, a12, a13, a14, a15, a16⟩ := P.1
  refine S.sc _ _ (by omega) (by omega) ⟨?_, ?_, ?_, ?_, ?_, ?_, ?_, ?_, ?_⟩ (P.2.2.2.2.2.1.s (j := 3) (by omega) x (by omega)) (fun k hk => upv_n _ _ (by omega)) (P.2.2.2.2.2.2.sc (fun k hk => upv_n _ _ (by omega)) (upv_n _ _ (by omega)) ?_ ?_ ?_ ?_ ?_) (fun y => ?_)
  · rw [sI_o _ _ (by omega), upv_n _ _ (by omega)]; exact a7
  · rw [sI_o _ _ (by omega), upv_n _ _ (by omega)]; exact a8
  · rw [sI_o _ _ (by omega), upv_n _ _ (by omega)]; exact a10
  · rw [sI_o _ _ (by omega), upv_n _ _ (by omega)]; exact a11
  · rw [sI_o _ _ (by omega), upv_n _ _ (by omega)]; exact a12
  · rw [sI_e, upv_e]
  · rw [sI_o _ _ (by omega), upv_n _ _ (by omega)]; exact a14
  · rw [sI_o _ _ (by omega), upv_n _ _ (by omega)]; exact a15
  · rw [sI_o _ _ (by omega), upv_n _ _ (by omega)]; exact a16
  · rw [upv_n q x (show (1 : Int) ≠ 3 by omega)]; omega
  · rw [upv_n q x (show (2 : Int) ≠ 3 by omega)]; omega
  · rw [upv_e, upv_n q x (show (4 : Int) ≠ 3 by omega)]; omega
  · rw [upv_n q x (show (5 : Int) ≠ 3 by omega)]; omega
  · rw [upv_n q x (show (6 : Int) ≠ 3 by omega)]; omega
  · rw [upv_n _ _ (by omega)]; exact S.2.2.2.1.2.2.2.2.2 y
theorem LSt.s4 {p : Nat} {c : Int → Int} {n : Int} {N i L : Nat} {q : Int → Int} {hx hm : Hp} (S : LSt p c n N i L q hx hm) {x : Int} (hL3 : L.testBit 3 = true) (hx0 : q 3 ≤ x ∧ x ≤ 40) : LSt p c n N i L (upv q 4 x) (sI hx p 14 (iZ (x))) (sI hm 74 74 (iZ x)) := by
  have P := S.2.2.2.2.1
  obtain ⟨v0, v1, v2, v3, v5, v6, vr⟩ := P.2.2.2.2.2.2
  obtain ⟨a7, a8, a10, a11, a12, a13, a14, a15, a16⟩ := P.1
  refine S.sc _ _ (by omega) (by omega) ⟨?_, ?_, ?_, ?_, ?_, ?_, ?_, ?_, ?_⟩ (P.2.2.2.2.2.1.s (j := 4) (by omega) x (by omega)) (fun k hk => upv_n _ _ (by omega)) (P.2.2.2.2.2.2.sc (fun k hk => upv_n _ _ (by omega)) (upv_n _ _ (by omega)) ?_ ?_ ?_ ?_ ?_) (fun y => ?_)
  · rw [sI_o _ _ (by omega), upv_n _ _ (by omega)]; exact a7
  · rw [sI_o _ _ (by omega), upv_n _ _ (by omega)]; exact a8
  · rw [sI_o _ _ (by omega), upv_n _ _ (by omega)]; exact a10
  · rw [sI_o _ _ (by omega), upv_n _ _ (by omega)]; exact a11
  · rw [sI_o _ _ (by omega), upv_n _ _ (by omega)]; exact a12
  · rw [sI_o _ _ (by omega), upv_n _ _ (by omega)]; exact a13
  · rw [sI_e, upv_e]
  · rw [sI_o _ _ (by omega), upv_n _ _ (by omega)]; exact a15
  · rw [sI_o _ _ (by omega), upv_n _ _ (by omega)]; exact a16
  · rw [upv_n q x (show (1 : Int) ≠ 4 by omega)]; omega
  · rw [upv_n q x (show (2 : Int) ≠ 4 by omega)]; omega
  · rw [upv_n q x (show (3 : Int) ≠ 4 by omega), upv_e]; omega
  · rw [upv_n q x (show (5 : Int) ≠ 4 by omega)]; omega
  · rw [upv_n q x (show (6 : Int) ≠ 4 by omega)]; omega
  · rw [hL3] at y; cases y
theorem LSt.s5 {p : Nat} {c : Int → Int} {n : Int} {N i L : Nat} {q : Int → Int} {hx hm : Hp} (S : LSt p c n N i L q hx hm) {x : Int} (hx0 : 1 ≤ x ∧ x ≤ 12) : LSt p c n N i L (upv q 5 x) (sI hx p 15 (iZ (x))) (sI hm 74 75 (iZ x)) := by
  have P := S.2.2.2.2.1
  obtain ⟨v0, v1, v2, v3, v5, v6, vr⟩ := P.2.2.2.2.2.2
  obtain ⟨a7, a8, a10, a11, a12, a13, a14, a15, a16⟩ := P.1
  refine S.sc _ _ (by omega) (by omega) ⟨?_, ?_, ?_, ?_, ?_, ?_, ?_, ?_, ?_⟩ (P.2.2.2.2.2.1.s (j := 5) (by omega) x (by omega)) (fun k hk => upv_n _ _ (by omega)) (P.2.2.2.2.2.2.sc (fun k hk => upv_n _ _ (by omega)) (upv_n _ _ (by omega)) ?_ ?_ ?_ ?_ ?_) (fun y => ?_)
  · rw [sI_o _ _ (by omega), upv_n _ _ (by omega)]; exact a7
  · rw [sI_o _ _ (by omega), upv_n _ _ (by omega)]; exact a8
  · rw [sI_o _ _ (by omega), upv_n _ _ (by omega)]; exact a10
  · rw [sI_o _ _ (by omega), upv_n _ _ (by omega)]; exact a11
  · rw [sI_o _ _ (by omega), upv_n _ _ (by omega)]; exact a12
  · rw [sI_o _ _ (by omega), upv_n _ _ (by omega)]; exact a13
  · rw [sI_o _ _ (by omega), upv_n _ _ (by omega)]; exact a14
  · rw [sI_e, upv_e]
  · rw [sI_o _ _ (by omega), upv_n _ _ (by omega)]; exact a16
  · rw [upv_n q x (show (1 : Int) ≠ 5 by omega)]; omega
  · rw [upv_n q x (show (2 : Int) ≠ 5 by omega)]; omega
  · rw [upv_n q x (show (3 : Int) ≠ 5 by omega), upv_n q x (show (4 : Int) ≠ 5 by omega)]; omega
  · rw [upv_e]; omega
  · rw [upv_n q x (show (6 : Int) ≠ 5 by omega)]; omega
  · rw [upv_n _ _ (by omega)]; exact S.2.2.2.1.2.2.2.2.2 y
theorem LSt.s6 {p : Nat} {c : Int → Int} {n : Int} {N i L : Nat} {q : Int → Int} {hx hm : Hp} (S : LSt p c n N i L q hx hm) {x : Int} (hx0 : 0 ≤ x ∧ x ≤ 4) : LSt p c n N i L (upv q 6 x) (sI hx p 16 (iZ (x))) (sI hm 74 76 (iZ x)) := by
  have P := S.2.2.2.2.1
  obtain ⟨v0, v1, v2, v3, v5, v6, vr⟩ := P.2.2.2.2.2.2
  obtain ⟨a7, a8, a10, a11, a12, a13, a14, a15, a16⟩ := P.1
  refine S.sc _ _ (by omega) (by omega) ⟨?_, ?_, ?_, ?_, ?_, ?_, ?_, ?_, ?_⟩ (P.2.2.2.2.2.1.s (j := 6) (by omega) x (by omega)) (fun k hk => upv_n _ _ (by omega)) (P.2.2.2.2.2.2.sc (fun k hk => upv_n _ _ (by omega)) (upv_n _ _ (by omega)) ?_ ?_ ?_ ?_ ?_) (fun y => ?_)
  · rw [sI_o _ _ (by omega), upv_n _ _ (by omega)]; exact a7
  · rw [sI_o _ _ (by omega), upv_n _ _ (by omega)]; exact a8
  · rw [sI_o _ _ (by omega), upv_n _ _ (by omega)]; exact a10
  · rw [sI_o _ _ (by omega), upv_n _ _ (by omega)]; exact a11
  · rw [sI_o _ _ (by omega), upv_n _ _ (by omega)]; exact a12
  · rw [sI_o _ _ (by omega), upv_n _ _ (by omega)]; exact a13
  · rw [sI_o _ _ (by omega), upv_n _ _ (by omega)]; exact a14
  · rw [sI_o _ _ (by omega), upv_n _ _ (by omega)]; exact a15
  · rw [sI_e, upv_e]
  · rw [upv_n q x (show (1 : Int) ≠ 6 by omega)]; omega
  · rw [upv_n q x (show (2 : Int) ≠ 6 by omega)]; omega
  · rw [upv_n q x (show (3 : Int) ≠ 6 by omega), upv_n q x (show (4 : Int) ≠ 6 by omega)]; omega
  · rw [upv_n q x (show (5 : Int) ≠ 6 by omega)]; omega
  · rw [upv_e]; omega
  · rw [upv_n _ _ (by omega)]; exact S.2.2.2.1.2.2.2.2.2 y
