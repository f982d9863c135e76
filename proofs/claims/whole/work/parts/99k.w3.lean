/-! plain: the throw is caught -/
theorem xnwI (h : Hp) (kd len n : Nat) {r : Nat} (e : r ≠ hC h) : hI (sN h kd len n) r = hI h r := funext fun k => if_neg e
theorem xnwL (h : Hp) (kd len n : Nat) {r : Nat} (e : r ≠ hC h) : hL (sN h kd len n) r = hL h r := funext fun k => if_neg e
theorem xnwR (h : Hp) (kd len n : Nat) {r : Nat} (e : r ≠ hC h) (k : Nat) : hR (sN h kd len n) r k = hR h r k := if_neg e
theorem xnwN (h : Hp) (kd len n : Nat) {r : Nat} (e : r ≠ hC h) : hN (sN h kd len n) r = hN h r := if_neg e
theorem XFr.nw {h : Hp} (hc : 92 < hC h) (hb : hC h < 1000000) (kd len n : Nat) : XFr h (sN h kd len n) := by
  have ne : ∀ r, Dm h r → r ≠ hC h := fun r y => by unfold Dm at y; omega
  exact ⟨fun r y _ => xnwI h kd len n (ne r y), fun r y => xnwL h kd len n (by omega), fun r j y _ => xnwR h kd len n (ne r y) j, fun r y => xnwN h kd len n (ne r y), Nat.le_succ _⟩
theorem XW.nw {h : Hp} {A G P c0 s0 : Nat} {q co ca : Int → Int} (W : XW h A G P c0 s0 q co ca) (hc0 : c0 < 1000) : XW (sN h 30 0 6) A G P (c0 + 1) (s0 + 6) q co ca := by
  obtain ⟨⟨w1, w1'⟩, w2, w3, w4, w5, wc, ⟨kn, t1, t2, t3⟩, w8, w9⟩ := W
  have hA : A ≠ hC h := by omega
  have hG : G ≠ hC h := by omega
  have hP : P ≠ hC h := by omega
  have i : ∀ r, r ≤ 92 → hI (sN h 30 0 6) r = hI h r := fun r y => xnwI h 30 0 6 (by omega)
  have l : ∀ r, r ≤ 92 → hL (sN h 30 0 6) r = hL h r := fun r y => xnwL h 30 0 6 (by omega)
  refine ⟨⟨w1.tr (i _ (by omega)), w1'.tr (i _ (by omega))⟩, ?_, ?_, ?_, ⟨by show 92 < hC h + 1; omega, ?_, w5.2.2⟩, wc.tr (i _ (by omega)) (i _ (by omega)) (xnwL h 30 0 6 hA) (xnwN h 30 0 6 hA), ⟨kn, t1, ?_, ?_⟩, ?_, by omega⟩
  · rw [xnwR h 30 0 6 (by omega), xnwN h 30 0 6 hA]; exact w2
  · rw [xnwR h 30 0 6 (by omega), xnwN h 30 0 6 hG]; exact w3
  · rw [xnwR h 30 0 6 (by omega), xnwN h 30 0 6 hP]; exact w4
  · show A < hC h + 1 ∧ G < hC h + 1 ∧ P < hC h + 1
    omega
  · rw [l 12 (by omega)]; exact t2
  · rw [l 12 (by omega), l 13 (by omega)]; exact t3
  · unfold Room
    rw [xnwN h 30 0 6 hA, xnwN h 30 0 6 hG, xnwN h 30 0 6 hP]
    obtain ⟨r1, r2⟩ := w8
    show hC h + 1 ≤ _ ∧ hS h + 6 ≤ _
    omega
theorem XW.mo {h : Hp} {A G P c0 s0 : Nat} {q co ca : Int → Int} (W : XW h A G P c0 s0 q co ca) (hc0 : c0 < 1000) : XW h A G P (c0 + 1) (s0 + 6) q co ca := by
  obtain ⟨w1, w2, w3, w4, w5, wc, wt, w8, w9⟩ := W
  refine ⟨w1, w2, w3, w4, w5, wc, wt, ?_, by omega⟩
  unfold Room at *
  omega
theorem INV.mo {h : Hp} {c0 s0 : Nat} (I : INV h c0 s0) (hc0 : c0 < 1000) : INV h (c0 + 1) (s0 + 6) := by
  obtain ⟨o, p, A, G, P, q, co, ca, n, S, W, K, A1, A2, A3⟩ := I
  exact ⟨o, p, A, G, P, q, co, ca, n, S, W.mo hc0, K, A1, A2, A3⟩
theorem e_lawp (d x o : Nat) (p0 p1 : Int32) (h : Hp) : evm (d + 1) 255 [vR 11 x, vI p0, vI p1, vR 21 o] h = ifp (0 ≤ p0 ∧ p0 ≤ 999999999 ∧ 1 ≤ p1 ∧ p1 ≤ 9999) (bI (evm d 114 [vR 11 x, vI p0, vI p1] h) (fun r h1 => ifp (inb 0 (hN h1 o) = true) (some (some (vI 0), sL h1 o 0 r.toInt64)) none)) (alc h (fun _ => some (some (vI 1), sN h 30 0 6))) := rfl
theorem iz_le {a b : Int} (h1 : -2147483648 ≤ a ∧ a < 2147483648 ∧ -2147483648 ≤ b ∧ b < 2147483648) : iZ a ≤ iZ b ↔ a ≤ b := by
  rw [Int32.le_iff_toInt_le, iz_i (by omega) (by omega), iz_i (by omega) (by omega)]
theorem st_plain {h : Hp} {c0 s0 : Nat} (I : INV h c0 s0) (hc0 : c0 < 1000) (w0 w1 : Int32) : ∃ (t a : Int32) (k l : Hp), evm 1000 255 [vR 11 0, vI w0, vI w1, vR 21 92] h = some (some (vI t), k) ∧ evm 1000 212 [vR 12 68, vI w0, vI w1] k = some (some (vI a), l) ∧ evm 1000 138 [vR 12 68] l = some (some (vI t), l) ∧ hN l 92 = 1 ∧ (t = 0 → lg_cmp (hL l 92 0) a.toInt64 = 0) ∧ Stq h k l (c0 + 1) (s0 + 6) := by
  obtain ⟨o, p, A, G, P, q, co, ca, n, S, W, K, ⟨A1, A2, A3⟩, M, L, S', ⟨S0, W0⟩, S1, W1⟩ := I.all
  obtain ⟨x0, x0a, x0b, rfl⟩ := iz_of w0
  obtain ⟨x1, x1a, x1b, rfl⟩ := iz_of w1
  have hc : 92 < hC h := W.2.2.2.2.1.1
  have cnd : (0 ≤ iZ x0 ∧ iZ x0 ≤ 999999999 ∧ 1 ≤ iZ x1 ∧ iZ x1 ≤ 9999) ↔ PlO x0 x1 := by
    rw [show (0 : Int32) = iZ 0 from rfl, show (999999999 : Int32) = iZ 999999999 from rfl, show (1 : Int32) = iZ 1 from rfl, show (9999 : Int32) = iZ 9999 from rfl, iz_le (by omega), iz_le (by omega), iz_le (by omega), iz_le (by omega)]
    unfold PlO
    omega
  have thr : ∀ l : Hp, evm 1000 138 [vR 12 68] l = some (some (vI (hI l 68 0)), l) := fun l => e_M_thrown 999 68 l
  rw [show (1000 : Nat) = 999 + 1 from rfl, e_lawp]
  by_cases hp : PlO x0 x1
  · rw [ifp_t (cnd.mpr hp)]
    obtain ⟨k, e1, f, Wk⟩ := X_plain 994 S W hp
    obtain ⟨k1, g1, _⟩ := X_plain 994 S0 W0 hp
    obtain ⟨k2, g2, _⟩ := X_plain 994 S1 W1 hp
    have eq := eqI g1 g2
    have Sk := S.fr hc f
    have n92 : hN k 92 = 1 := Sk.1.n 92 1
    rw [show evm 999 114 [vR 11 0, vI (iZ x0), vI (iZ x1)] h = _ from e1]
    simp only [bI_s, n92]
    rw [ifp_t (show inb 0 1 = true by decide)]
    have yb : 0 < x1 ∧ x1 ≤ 9999 := by unfold PlO at hp; omega
    have ab : 0 ≤ Anq q x0 % x1 ∧ Anq q x0 % x1 < 2147483648 := by
      have := Int.emod_nonneg (Anq q x0) (by omega : x1 ≠ 0)
      have := Int.emod_lt_of_pos (Anq q x0) yb.1
      omega
    rw [iz_l (by omega)]
    obtain ⟨k', ek'⟩ : ∃ k', k' = sL k 92 0 (jZ (Anq q x0 % x1)) := ⟨_, rfl⟩
    have k'I : ∀ r, hI k' r = hI k r := fun r => by rw [ek']; rfl
    have k'2 : k'.2.2 = k.2.2 := by rw [ek']; rfl
    have k'L : ∀ r, r ≠ 92 → hL k' r = hL k r := fun r hr => by rw [ek', sL_w, wL_n _ _ hr]
    have mk := f.mv hc M
    have M' : MV k' := by
      refine ⟨?_, ?_, ?_⟩
      · have e1 : hR k' = hR k := congrArg (fun x => x.1) k'2
        have e2 : hN k' = hN k := congrArg (fun x => x.2.2.1) k'2
        unfold SM; rw [e1, e2]; exact mk.1.1
      · rw [rz_e (k'I 74)]; exact mk.1.2.1
      · rw [rz_e (k'I 74), rz_e (k'I 79)]; exact mk.1.2.2
    obtain ⟨l, m1, m2, m3⟩ := M_plain 996 M' ⟨x0a, x0b⟩ ⟨x1a, x1b⟩
    rw [rz_e (k'I 74), rz_e (mk.2.1 74 (by omega) (by omega)), pif_t hp, ← eq] at m1
    have Wk' : XW k' A G P c0 s0 q co ca := Wk.sc k'2 (fun r _ => k'I r) (fun r hr => k'L r (by omega))
    have Sk' : XS k' o p q (rz h 79) (rz h 80) co ca := Sk.lo k'2 (fun r _ _ => k'I r)
    have D := m2.ms
    have nk : ∀ r, 68 ≤ r → r ≤ 92 → hI k' r = hI h r := fun r r1 r2 => (k'I r).trans (mk.2.1 r r1 r2)
    have zk' : ∀ r, 68 ≤ r → r ≤ 92 → rz k' r = rz h r := fun r r1 r2 => rz_e (nk r r1 r2)
    rw [← ek']
    have nl : ∀ r j, ¬ scr r j → hI l r j = hI k' r j := m2.2.1
    have zl : ∀ r, (r = 74 ∨ r = 75 ∨ r = 76 ∨ r = 79 ∨ r = 80) → rz l r = rz h r := fun r hr => (m2.z (by omega)).trans (zk' r (by omega) (by omega))
    have ln : hN l = hN k' := congrArg (fun x => x.2.2.1) m2.1
    have lR : hR l = hR k' := congrArg (fun x => x.1) m2.1
    have nk2 : ∀ r, r = 2 ∨ r = 3 → hI k r = hI h r := fun r r1 => f.1 r (Or.inl (by omega)) (by unfold xsc; omega)
    have n' : hN k' = hN k := congrArg (fun x => x.2.2.1) k'2
    refine ⟨0, _, k', l, rfl, m1, ?_, ?_, fun _ => ?_, ⟨?_, ?_⟩, ⟨?_, ?_⟩, ?_⟩
    · rw [thr l, m3, bZ_f (fun y => y hp)]; rfl
    · rw [ln, n']; exact n92
    · rw [m2.2.2 92 (by omega), ek', sL_w, wL_L, up_e, iz_l (by omega), cmp_jz (by omega), if_neg (by omega), if_pos rfl]; rfl
    · rw [k'I]; exact mk.2.2
    · rw [n', f.2.2.2.1 9999999 (Or.inr rfl)]
    · refine (funext fun j => nl 9999999 j (by unfold scr; omega)).trans ?_
      rw [k'I]; exact mk.2.2
    · rw [ln, n', f.2.2.2.1 9999999 (Or.inr rfl)]
    · refine INV.mo ⟨o, p, A, G, P, q, co, ca, n, ?_, Wk'.sd D.1, ⟨m2.m M'.1, ?_, ?_⟩, ?_, ?_, ?_⟩ hc0
      · rw [zl 79 (by omega), zl 80 (by omega)]; exact Sk'.sd D.1
      · exact K.2.1.tr ((m2.2.2 73 (by omega)).trans ((k'L 73 (by decide)).trans (f.2.1 73 (by omega))))
      · refine K.2.2.tr ?_ (fun j => ?_) ?_ (fun j => ?_)
        · rw [nl 2 1 (by unfold scr; omega), k'I, nk2 2 (Or.inl rfl)]
        · rw [nl 3 j (by unfold scr; omega), k'I, nk2 3 (Or.inr rfl)]
        · rw [nl 68 2 (by unfold scr; omega), nk 68 (by omega) (by omega)]
        · rw [nl 69 j (by unfold scr; omega), nk 69 (by omega) (by omega)]
      · rw [zl 74 (by omega)]; exact A1
      · rw [zl 75 (by omega)]; exact A2
      · rw [zl 76 (by omega)]; exact A3
  · have hb : hC h < 1000000 := by
      have r := W.2.2.2.2.2.2.2.1.1
      have r1 := W.2.1.2.2
      have r2 := W.2.2.1.2.2
      have r3 := W.2.2.2.1.2
      have r4 := W.2.2.2.2.2.2.2.2
      omega
    rw [ifp_f (fun y => hp (cnd.mp y))]
    unfold alc
    rw [ifp_t hb]
    have f := XFr.nw hc hb 30 0 6
    have Wk := W.nw hc0
    have mk := f.mv hc M
    obtain ⟨l, m1, m2, m3⟩ := M_plain 996 mk.1 ⟨x0a, x0b⟩ ⟨x1a, x1b⟩
    have Sk := S.fr hc f
    have sq := inv_q S (W.mo hc0) K A1 A2 A3 f Wk m2.ms
    refine ⟨1, _, sN h 30 0 6, l, rfl, m1, ?_, ?_, fun y => absurd y (by decide), sq⟩
    · rw [thr l, m3, bZ_t hp]; rfl
    · rw [show hN l = hN (sN h 30 0 6) from congrArg (fun x => x.2.2.1) m2.1]; exact Sk.1.n 92 1
/-! stair -/
theorem XS.lp {h k : Hp} {o p : Nat} {q v z co ca : Int → Int} (S : XS h o p q v z co ca) (e : k.2.2 = h.2.2) (n3 : ∀ r, 3 < r → r < 68 → (r < p ∨ p + 8 < r) → hI k r = hI h r) : XS k o p q v z co ca := by
  have tt := S.2.1
  unfold TO at tt
  have rk : hR k = hR h := congrArg (fun x => x.1) e
  have lk' : hN k = hN h := congrArg (fun x => x.2.2.1) e
  obtain ⟨a1, a2, a5, ⟨a7, a8, a9⟩, ⟨T0, b2, b3, b4⟩, b5⟩ := S
  refine ⟨⟨?_, ?_⟩, a2, by rw [rk]; exact a5, ⟨a7.tr (fun r y1 y2 => n3 r (by omega) (by omega) (by omega)), a8, a9.tr (n3 _ (by omega) (by omega) (by omega)) (n3 _ (by omega) (by omega) (by omega))⟩, ⟨T0, b2, b3.tr (n3 _ (by omega) (by omega) (by omega)) (n3 _ (by omega) (by omega) (by omega)), b4.tr (n3 _ (by omega) (by omega) (by omega))⟩, fun m hm => (b5 m hm).tr (fun r y1 y2 => n3 r (by omega) (by omega) (by omega))⟩
  · intro y hy
    rw [rk]; exact a1.1 y hy
  · intro y hy
    rw [lk']; exact a1.2 y hy
theorem st_stair {h : Hp} {c0 s0 : Nat} (I : INV h c0 s0) : ∃ a k l, evm 1000 103 [vR 11 0] h = some (some (vI a), k) ∧ evm 1000 158 [vR 12 68] k = some (some (vI a), l) ∧ Stq h k l c0 s0 := by
  obtain ⟨o, p, A, G, P, q, co, ca, n, S, W, K, A1, A2, A3⟩ := I
  have tt := S.2.1
  have to1 := tt.1
  have to2 := tt.2.1
  unfold TO at to1 to2
  obtain ⟨x1, y1, r, e1, _, rb, t1, _, cs⟩ := j_read (d := 999) (e := 1000) (by omega) (by omega) tt.2.1 S.1 K.1 K.2.1 K.2.2
  have eX : evm 1000 103 [vR 11 0] h = ifp (iZ r = 0)
      (bR (hR x1 0 11) fun r5 =>
      bR (hR x1 0 12) fun r6 =>
      bV (evm 999 129 [vR 11 0] (sR (sR x1 0 11 r6) 0 12 r5)) fun h7 =>
      some (some (vI (iZ r)), h7))
      (some (some (vI (iZ r)), x1)) := by
    rw [show (1000 : Nat) = 999 + 1 from rfl, e_X_stair, S.1.r 0 0 1, bR_s, S.2.2.1.2, bR_s, e1, bI_s]
  by_cases r0 : r = 0
  · -- it stands
    have cs' : TakeFr p h h x1 y1 := by
      rcases cs with ⟨y, _⟩ | ⟨_, y⟩
      · exact absurd r0 y
      · exact y
    obtain ⟨xq, _⟩ := cs'
    subst r0
    have xR : hR x1 = hR h := congrArg (fun x => x.2.1) xq.1
    obtain ⟨x2, ex2⟩ : ∃ x2, x2 = sR (sR x1 0 11 p) 0 12 o := ⟨_, rfl⟩
    have x2I : ∀ r, hI x2 r = hI x1 r := fun r => by rw [ex2]; rfl
    have x2L : hL x2 = hL h := by
      rw [ex2]
      show x1.2.1 = h.2.1
      rw [xq.1]
    have x2N : hN x2 = hN h := by
      rw [ex2]
      show x1.2.2.2.2.1 = h.2.2.2.2.1
      rw [xq.1]
    have x2C : hC x2 = hC h ∧ hS x2 = hS h := by
      rw [ex2]
      refine ⟨?_, ?_⟩
      · show x1.2.2.2.2.2.1 = h.2.2.2.2.2.1
        rw [xq.1]
      · show x1.2.2.2.2.2.2 = h.2.2.2.2.2.2
        rw [xq.1]
    have x2R : ∀ a b, ¬ (a = 0 ∧ (b = 11 ∨ b = 12)) → hR x2 a b = hR h a b := fun a b hab => by
      rw [ex2]
      show (if a = 0 ∧ b = 12 then some o else if a = 0 ∧ b = 11 then some p else hR x1 a b) = _
      rw [if_neg (by omega), if_neg (by omega), xR]
    have x211 : hR x2 0 11 = some p := by
      rw [ex2]
      show (if (0 : Nat) = 0 ∧ (11 : Nat) = 12 then some o else if (0 : Nat) = 0 ∧ (11 : Nat) = 11 then some p else hR x1 0 11) = _
      rw [if_neg (by omega), if_pos ⟨rfl, rfl⟩]
    have x212 : hR x2 0 12 = some o := by
      rw [ex2]
      show (if (0 : Nat) = 0 ∧ (12 : Nat) = 12 then some o else if (0 : Nat) = 0 ∧ (12 : Nat) = 11 then some p else hR x1 0 12) = _
      rw [if_pos ⟨rfl, rfl⟩]
    have d1 : ∀ x ∈ sxR, ¬ (x.1 = 0 ∧ (x.2.1 = 11 ∨ x.2.1 = 12)) := by decide
    have X2 : SX x2 := ⟨fun x hx => by rw [x2R _ _ (d1 x hx)]; exact S.1.1 x hx, fun x hx => by rw [x2N]; exact S.1.2 x hx⟩
    have C4 : Crow x2 4 := by
      obtain ⟨T0, b2, b3, b4⟩ := S.2.2.2.2.1
      have c0 : Crow h 4 := ⟨_, _, _, _, _, b3.1⟩
      refine c0.tr ?_
      rw [x2I, xq.2 4 (by omega) (by omega) (by omega)]
    obtain ⟨k, a1, a2, a3, a4, a5, a6, a7, a8, a9⟩ := x_anew (d := 999) (by omega) X2 C4
    have kX : evm 1000 103 [vR 11 0] h = some (some (vI (iZ 0)), k) := by
      rw [eX, ifp_t (show iZ 0 = (0 : Int32) from rfl), xR, S.2.2.1.1, bR_s, S.2.2.1.2, bR_s, ← ex2, a1]
      rfl
    have kR : hR k = hR x2 := congrArg (fun x => x.1) a2
    have kN : hN k = hN h := (congrArg (fun x => x.2.2.1) a2).trans x2N
    have kI : ∀ r, r ≠ 1 → r ≠ 2 → (r < p ∨ p + 8 < r) → r ≠ 4 → r ≠ 8 → r ≠ 46 → r ≠ 30 → r ≠ 34 → r ≠ 38 → r ≠ 42 → hI k r = hI h r := fun r h1 h2 h3 h4 h5 h6 h7 h8 h9 h10 => by
      rw [a9 r h4 h5 h6 h7 h8 h9 h10, x2I, xq.2 r h1 h2 h3]
    have Mk : SM k := by
      refine ⟨fun x hx => ?_, fun x hx => ?_⟩
      · rw [kR, x2R _ _ (by omega)]; exact K.1.1 x hx
      · rw [kN]; exact K.1.2 x hx
    have Wk : MWd k := K.2.1.tr ((a3 73 (by decide)).trans (by rw [x2L]))
    have Tk : Tpp h k n := by
      obtain ⟨⟨t1, t2, t3⟩, t4⟩ := K.2.2
      refine ⟨⟨t1, t2, by rw [kI 68 (by omega) (by omega) (by omega) (by omega) (by omega) (by omega) (by omega) (by omega) (by omega) (by omega)]; exact t3⟩, fun i hi => ?_⟩
      unfold rz
      rw [kI 69 (by omega) (by omega) (by omega) (by omega) (by omega) (by omega) (by omega) (by omega) (by omega) (by omega)]
      exact t4 i hi
    obtain ⟨x1', l, r', e1', e2', rb', t1', t2', cs2⟩ := j_read (d := 999) (e := 1000) (by omega) (by omega) tt.2.1 S.1 Mk Wk Tk
    have er : r' = 0 := by
      have := eqI e1 e1'
      have := (iz_eq (by omega)).mp this
      omega
    have ex : x1' = x1 := by
      rw [e1] at e1'
      exact (Prod.mk.inj (Option.some.inj e1')).2.symm
    subst er ex
    obtain ⟨_, ⟨l2, lL, lI⟩, R, V, LXX, z79, z80⟩ : TakeFr p h k x1' l := by
      rcases cs2 with ⟨y, _⟩ | ⟨_, y⟩
      · exact absurd rfl y
      · exact y
    have lR : hR l = hR k := congrArg (fun x => x.1) l2
    have lN : hN l = hN h := (congrArg (fun x => x.2.2.1) l2).trans kN
    have lo : ∀ r, r < 68 → hI l r = hI k r := fun r hr => funext fun j => lI r j (by omega) (by omega) (by omega) (by omega) (by omega) (by omega) (by omega) (by omega)
    have lsc : hI l 9999999 = hI k 9999999 := funext fun j => lI 9999999 j (by omega) (by omega) (by omega) (by omega) (by omega) (by omega) (by omega) (by omega)
    have ksc : hI k 9999999 = hI h 9999999 := kI _ (by omega) (by omega) (by omega) (by omega) (by omega) (by omega) (by omega) (by omega) (by omega) (by omega)
    have kp : ∀ r, 48 ≤ r → r < 68 → hI l r = hI x1' r := fun r r1 r2 => by rw [lo r r2, a9 r (by omega) (by omega) (by omega) (by omega) (by omega) (by omega) (by omega), x2I]
    have vz : ∀ j : Int, 0 ≤ j → j < 84 → rz l 79 j = 0 := fun j j1 j2 => by
      unfold rz; rw [z79 _ (by omega)]; rfl
    have v0 := vz 0 (by omega) (by omega)
    have zz : ∀ m : Nat, m < 4 → rz l 80 m = 0 := fun m hm => by
      unfold rz; rw [Int.toNat_natCast, z80 m hm]; rfl
    refine ⟨_, k, l, kX, e2', ⟨ksc, by rw [kN]⟩, ⟨lsc.trans ksc, by rw [lN]⟩, p, o, A, G, P, rz l 74, rz l 75, rz l 76, 0, ?_, ?_, ⟨?_, ?_, ?_⟩, fun _ _ _ => rfl, fun _ _ => rfl, fun _ _ => rfl⟩
    · refine ⟨⟨fun x hx => ?_, fun x hx => ?_⟩, ⟨tt.2.1, tt.1, fun y => tt.2.2 y.symm⟩, ⟨?_, ?_⟩, ⟨R.tr (fun r r1 r2 => kp r (by omega) (by omega)), V, LXX.tr (kp _ (by omega) (by omega)) (kp _ (by omega) (by omega))⟩, ⟨⟨by omega, ?_, fun s s1 s2 => ?_⟩, vz 41 (by omega) (by omega), ⟨?_, fun j j1 j2 => by omega⟩, fun s s1 s2 => ?_⟩, fun m hm => ⟨?_, ?_, fun y => absurd (zz m hm) y⟩⟩
      · rw [lR, kR]; exact X2.1 x hx
      · rw [lN]; exact S.1.2 x hx
      · rw [lR, kR]; exact x211
      · rw [lR, kR]; exact x212
      · rw [v0]; intro i i1 i2; omega
      · rw [vz _ (by omega) (by omega)]; omega
      · rw [lo 4 (by omega), a5, v0]
        have q1 : pS (rz l 79) 0 = 0 := by unfold pS; exact sZ_0 _ (by omega)
        have q2 : pL (rz l 74) (rz l 79) 0 = 0 := by unfold pL; rw [if_pos (by omega)]
        have q3 : pR (rz l 74) (rz l 79) 0 = 0 := by unfold pR; exact sZ_0 _ (by omega)
        have q4 : pG (rz l 74) (rz l 79) 0 = 0 := by unfold pG; exact sZ_0 _ (by omega)
        have q5 : stv (rz l 74) 0 = 0 := by unfold stv; rw [if_pos (by omega)]
        rw [q1, q2, q3, q4, q5]
      · rw [lo 46 (by omega), a7 _ (by omega), vz (41 + s) (by omega) (by omega)]
        exact ⟨rfl, by omega, by omega⟩
      · rw [lo _ (by omega), a8 m hm, bZ_f (fun y => y (zz m hm))]
      · refine (S.2.2.2.2.2 m hm).2.1.tr ?_
        rw [lo _ (by omega)]
        exact kI _ (by omega) (by omega) (by omega) (by omega) (by omega) (by omega) (by omega) (by omega) (by omega) (by omega)
    · obtain ⟨⟨w1, w1'⟩, w2, w3, w4, w5, _, _, w8, w9⟩ := W
      have lC : hC l = hC h := (congrArg (fun x => x.2.2.2.1) l2).trans ((congrArg (fun x => x.2.2.2.1) a2).trans x2C.1)
      have lS : hS l = hS h := (congrArg (fun x => x.2.2.2.2) l2).trans ((congrArg (fun x => x.2.2.2.2) a2).trans x2C.2)
      refine ⟨⟨w1.tr ?_, w1'.tr ?_⟩, ?_, ?_, ?_, by rw [lC]; exact w5, ⟨-4, ?_, Or.inl rfl⟩, ⟨0, by omega, ?_, Or.inl rfl⟩, ?_, w9⟩
      · rw [lo _ (by omega)]; exact kI _ (by omega) (by omega) (by omega) (by omega) (by omega) (by omega) (by omega) (by omega) (by omega) (by omega)
      · rw [lo _ (by omega)]; exact kI _ (by omega) (by omega) (by omega) (by omega) (by omega) (by omega) (by omega) (by omega) (by omega) (by omega)
      · rw [lR, kR, x2R _ _ (by omega), lN]; exact w2
      · rw [lR, kR, x2R _ _ (by omega), lN]; exact w3
      · rw [lR, kR, x2R _ _ (by omega), lN]; exact w4
      · rw [lo 8 (by omega)]; exact a6
      · rw [lL 12 (by omega)]; exact a4
      · unfold Room; rw [lN, lC, lS]; exact w8
    · refine ⟨fun x hx => by rw [lR]; exact Mk.1 x hx, fun x hx => by rw [lN]; exact K.1.2 x hx⟩
    · exact Wk.tr (lL 73 (by decide))
    · refine ⟨⟨by omega, ?_, t2'⟩, fun i hi => by omega⟩
      rw [lo 2 (by omega), a9 2 (by omega) (by omega) (by omega) (by omega) (by omega) (by omega) (by omega), x2I]; exact t1
  · -- it does not stand
    have nz : ¬ iZ r = (0 : Int32) := fun y => by rw [show (0 : Int32) = iZ 0 from rfl] at y; exact r0 ((iz_eq (by omega)).mp y)
    rw [ifp_f nz] at eX
    obtain ⟨xq, _⟩ : FaultFr p h h x1 y1 := by
      rcases cs with ⟨_, y⟩ | ⟨y, _⟩
      · exact y
      · exact absurd y r0
    have kN : hN x1 = hN h := congrArg (fun x => x.2.2.2.1) xq.1
    have Mk : SM x1 := sm_e xq.1 K.1
    have Wk : MWd x1 := K.2.1.tr (by show x1.2.1 73 = h.2.1 73; rw [xq.1])
    have Tk : Tpp h x1 n := by
      obtain ⟨⟨t1, t2, t3⟩, t4⟩ := K.2.2
      refine ⟨⟨t1, t2, by rw [xq.2 68 (by omega) (by omega) (by omega)]; exact t3⟩, fun i hi => ?_⟩
      unfold rz
      rw [xq.2 69 (by omega) (by omega) (by omega)]
      exact t4 i hi
    obtain ⟨x1', l, r', e1', e2', rb', t1', t2', cs2⟩ := j_read (d := 999) (e := 1000) (by omega) (by omega) tt.2.1 S.1 Mk Wk Tk
    have er : r' = r := ((iz_eq (by omega)).mp (eqI e1 e1')).symm
    have ex : x1' = x1 := by
      rw [e1] at e1'
      exact (Prod.mk.inj (Option.some.inj e1')).2.symm
    subst er ex
    obtain ⟨_, l2, lL, lI⟩ : FaultFr p h x1' x1' l := by
      rcases cs2 with ⟨_, y⟩ | ⟨y, _⟩
      · exact y
      · exact absurd y r0
    have x22 : x1'.2.2 = h.2.2 := congrArg (fun x => x.2) xq.1
    have l22 : l.2.2 = h.2.2 := l2.trans x22
    have lN : hN l = hN h := congrArg (fun x => x.2.2.1) l22
    have lR : hR l = hR h := congrArg (fun x => x.1) l22
    have lk : ∀ r k, r ≠ 1 → r ≠ 2 → (r < p ∨ p + 8 < r) → r ≠ 68 → r ≠ 70 → r ≠ 71 → ¬ (r = 74 ∧ 70 ≤ k) → ¬ ((r = 75 ∨ r = 76) ∧ 1100 ≤ k) → hI l r k = hI h r k := fun r k h1 h2 h3 h4 h5 h6 h7 h8 => by
      rw [lI r k h4 h5 h6 h7 h8, xq.2 r h1 h2 h3]
    have z79 : rz l 79 = rz h 79 := rz_e (funext fun k => lk 79 k (by omega) (by omega) (by omega) (by omega) (by omega) (by omega) (by omega) (by omega))
    have z80 : rz l 80 = rz h 80 := rz_e (funext fun k => lk 80 k (by omega) (by omega) (by omega) (by omega) (by omega) (by omega) (by omega) (by omega))
    have xsc' : hI x1' 9999999 = hI h 9999999 := xq.2 _ (by omega) (by omega) (by omega)
    refine ⟨_, x1', l, eX, e2', ⟨xsc', by rw [kN]⟩, ⟨funext fun k => lk 9999999 k (by omega) (by omega) (by omega) (by omega) (by omega) (by omega) (by omega) (by omega), by rw [lN]⟩, o, p, A, G, P, q, co, ca, 0, ?_, ?_, ⟨?_, ?_, ?_⟩, ?_, ?_, ?_⟩
    · rw [z79, z80]
      exact S.lp l22 (fun r r1 r2 r3 => funext fun k => lk r k (by omega) (by omega) r3 (by omega) (by omega) (by omega) (by omega) (by omega))
    · exact W.sc l22 (fun r hr => funext fun k => lk r k (by omega) (by omega) (by omega) (by omega) (by omega) (by omega) (by omega) (by omega)) (fun r hr => (lL r (by omega)).trans (by show x1'.2.1 r = h.2.1 r; rw [xq.1]))
    · unfold SM; rw [lR, lN]; exact K.1
    · exact Wk.tr (lL 73 (by decide))
    · refine ⟨⟨by omega, ?_, t2'⟩, fun i hi => by omega⟩
      rw [lI 2 1 (by omega) (by omega) (by omega) (by omega) (by omega)]; exact t1
    · intro j j1 j2
      unfold rz
      rw [lk 74 _ (by omega) (by omega) (by omega) (by omega) (by omega) (by omega) (by omega) (by omega)]
      exact A1 j j1 j2
    · intro i hi
      unfold rz
      rw [lk 75 _ (by omega) (by omega) (by omega) (by omega) (by omega) (by omega) (by omega) (by omega)]
      exact A2 i hi
    · intro i hi
      unfold rz
      rw [lk 76 _ (by omega) (by omega) (by omega) (by omega) (by omega) (by omega) (by omega) (by omega)]
      exact A3 i hi
