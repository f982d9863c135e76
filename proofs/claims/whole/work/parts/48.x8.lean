/-! ways are begun -/
theorem j_max (d : Nat) {h : Hp} {a b : Int} (ha : -2147483648 ≤ a ∧ a < 2147483648) (hb : -2147483648 ≤ b ∧ b < 2147483648) : evm (d + 1) 240 [vI (iZ a), vI (iZ b)] h = some (some (vI (iZ (if a < b then b else a))), h) := by
  rw [e_JMath_max]
  simp (disch := omega) only [lit32, litJ, iz_add, iz_sub, iz_mul, iz_neg, nI_iz, ix_iz, inb_iz, ifp_t, ifp_f, ifp_T, ifp_F, iz_eq, iz_lt, bI_s, bL_s, bV_s, bR_s]
  exact ifp_r (fun y => ri_e (by rw [if_pos y])) (fun y => ri_e (by rw [if_neg y]))
theorem j_min (d : Nat) {h : Hp} {a b : Int} (ha : -2147483648 ≤ a ∧ a < 2147483648) (hb : -2147483648 ≤ b ∧ b < 2147483648) : evm (d + 1) 241 [vI (iZ a), vI (iZ b)] h = some (some (vI (iZ (if b < a then b else a))), h) := by
  rw [e_JMath_min]
  simp (disch := omega) only [lit32, litJ, iz_add, iz_sub, iz_mul, iz_neg, nI_iz, ix_iz, inb_iz, ifp_t, ifp_f, ifp_T, ifp_F, iz_eq, iz_lt, bI_s, bL_s, bV_s, bR_s]
  exact ifp_r (fun y => ri_e (by rw [if_pos y])) (fun y => ri_e (by rw [if_neg y]))
/-- cells that there are -/
def Dm (h : Hp) (r : Nat) : Prop := r < hC h ∨ r = 9999999
theorem sN_I {h : Hp} {kd len n r : Nat} (e : r ≠ hC h) : hI (sN h kd len n) r = hI h r := by funext k; exact if_neg e
theorem sN_L {h : Hp} {kd len n r : Nat} (e : r ≠ hC h) : hL (sN h kd len n) r = hL h r := by funext k; exact if_neg e
theorem sN_R {h : Hp} {kd len n r : Nat} (e : r ≠ hC h) : hR (sN h kd len n) r = hR h r := by funext k; exact if_neg e
theorem sN_N {h : Hp} {kd len n r : Nat} (e : r ≠ hC h) : hN (sN h kd len n) r = hN h r := if_neg e
theorem sN_Ne {h : Hp} {kd len n : Nat} : hN (sN h kd len n) (hC h) = len := if_pos rfl
theorem sR_e {h : Hp} {r k v : Nat} : hR (sR h r k v) r k = some v := if_pos ⟨rfl, rfl⟩
theorem sR_n {h : Hp} {r k v r' k' : Nat} (e : ¬ (r' = r ∧ k' = k)) : hR (sR h r k v) r' k' = hR h r' k' := if_neg e
/-- a row of longs is there anew, or not -/
def AN (rf kf lo hi : Nat) (g h' : Hp) (A A' : Nat) : Prop :=
  (∀ r, Dm g r → hI h' r = hI g r) ∧ (∀ r, Dm g r → r ≠ A' → hL h' r = hL g r) ∧ (∀ r k, Dm g r → ¬ (r = rf ∧ k = kf) → hR h' r k = hR g r k) ∧ (∀ r, Dm g r → hN h' r = hN g r) ∧ hR h' rf kf = some A' ∧ (lo ≤ hN h' A' ∧ hN h' A' ≤ hi) ∧
  ((A' = A ∧ hC h' = hC g ∧ hS h' = hS g) ∨ (A' = hC g ∧ hC h' = hC g + 1 ∧ hS h' = hS g + hN h' A' ∧ (2 * hN g A ≤ hN h' A' ∨ hN h' A' = hi) ∧ hN g A < hN h' A'))
theorem x_begin195 (d : Nat) {g : Hp} {A : Nat} {sz : Int} (hA : hR g 8 2 = some A) (h0 : 0 ≤ sz) (hn : sz ≤ hN g A) (hn2 : hN g A ≤ 1000000) : ∀ i : Int, 0 ≤ i ∧ i ≤ sz → ∀ T : Nat → Int64, (∀ j : Nat, (j : Int) < i → T j = jZ (-1)) → ∃ T', L_Ways_begin_195 d 8 (iZ sz) (iZ i) (wL g A T) = some (none, wL g A T') ∧ ∀ j : Nat, (j : Int) < sz → T' j = jZ (-1) := by
  have m1 : (-1 : Int64) = jZ (-1) := rfl
  refine lpZ sz (fun i hi hb T hT => ?_) (fun i hi ih hb T hT => ?_)
  · rw [e_Ways_begin_195]
    simp (disch := omega) only [lit32, litJ, iz_add, iz_sub, iz_mul, iz_neg, nI_iz, ix_iz, inb_iz, ifp_t, ifp_f, ifp_T, ifp_F, iz_eq, iz_lt, bI_s, bL_s, bV_s, bR_s]
    exact ⟨T, rfl, fun j hj => hT j (by omega)⟩
  · rw [e_Ways_begin_195, m1]
    simp (disch := omega) only [lit32, litJ, iz_add, iz_sub, iz_mul, iz_neg, nI_iz, ix_iz, inb_iz, ifp_t, ifp_f, ifp_T, ifp_F, iz_eq, iz_lt, bI_s, bL_s, bV_s, bR_s, wL_R, hA, wL_N, sL_wL]
    refine ih (by omega) _ (fun j hj => ?_)
    by_cases e : j = i.toNat
    · rw [e, up_e]
    · rw [up_n _ _ e]; exact hT j (by omega)
theorem x_begin131 (d : Nat) {g : Hp} {A : Nat} {tm lk ck gk sz : Int} (e1 : hI g 8 8 = iZ lk) (e2 : hI g 8 9 = iZ ck) (e3 : hI g 8 10 = iZ gk) (hsz : tm * lk * ck * gk = sz) (hb : 1 ≤ sz ∧ sz ≤ 143500) (hA : hR g 8 2 = some A) (hln : 64 ≤ hN g A ∧ hN g A ≤ 143500) (hc : A < hC g ∧ 92 < hC g ∧ hC g < 999999) :
    ∃ h' A', L_Ways_begin_131 (d + 1) 8 (iZ tm) g = some (none, h') ∧ AN 8 2 64 143500 g h' A A' ∧ sz ≤ hN h' A' ∧ ∀ i : Nat, (i : Int) < sz → hL h' A' i = jZ (-1) := by
  rw [e_Ways_begin_131, hA, bR_s, e1, e2, e3]
  simp only [iz_mul, hsz, nI_iz, lit32]
  by_cases h1 : (hN g A : Int) < sz
  · rw [ifp_t ((iz_lt (by omega)).mpr h1), ifp_f (fun y => by have := (iz_lt (by omega)).mp y; omega), bR_s, j_min d (by omega) (by omega), bI_s, j_max d (by omega) (by split <;> omega), bI_s]
    obtain ⟨n, hn⟩ : ∃ n : Nat, (if sz < (if (143500 : Int) < 2 * (hN g A : Int) then 143500 else 2 * (hN g A : Int)) then (if (143500 : Int) < 2 * (hN g A : Int) then 143500 else 2 * (hN g A : Int)) else sz) = (n : Int) := ⟨_, (Int.toNat_of_nonneg (by split <;> (try split) <;> omega)).symm⟩
    have nb : sz ≤ n ∧ n ≤ 143500 ∧ (2 * hN g A ≤ n ∨ n = 143500) := by
      split at hn <;> (try split at hn) <;> omega
    rw [hn]
    have ei : inb (iZ (n : Int)) 1000000 = true := (inb_iz (by omega)).mpr (by omega)
    rw [ifp_t ei, ix_iz (by omega), Int.toNat_natCast]
    unfold alc
    rw [ifp_t (show hC g < 1000000 by omega)]
    have hA2 : hR (sR (sN g 21 n n) 8 2 (hC g)) 8 2 = some (hC g) := sR_e
    have hN2 : hN (sR (sN g 21 n n) 8 2 (hC g)) (hC g) = n := sN_Ne
    obtain ⟨T', t1, t2⟩ := x_begin195 (d + 1) (sz := sz) hA2 (by omega) (by rw [hN2]; omega) (by rw [hN2]; omega) 0 (by omega) (hL (sR (sN g 21 n n) 8 2 (hC g)) (hC g)) (fun j hj => by omega)
    rw [wL_self] at t1
    refine ⟨_, hC g, t1, ⟨?_, ?_, ?_, ?_, ?_, ?_, Or.inr ⟨rfl, rfl, ?_, ?_, ?_⟩⟩, ?_, ?_⟩
    · intro r hr; exact sN_I (kd := 21) (len := n) (n := n) (by unfold Dm at hr; omega)
    · intro r hr hr2
      rw [wL_n _ _ hr2]
      exact sN_L (kd := 21) (len := n) (n := n) hr2
    · intro r k hr hk
      rw [wL_R, sR_n hk]
      exact congrFun (sN_R (kd := 21) (len := n) (n := n) (by unfold Dm at hr; omega)) k
    · intro r hr
      exact sN_N (kd := 21) (len := n) (n := n) (by unfold Dm at hr; omega)
    · exact hA2
    · rw [wL_N, hN2]; omega
    · rw [wL_N, hN2]; rfl
    · rw [wL_N, hN2]; omega
    · rw [wL_N, hN2]; omega
    · rw [wL_N, hN2]; omega
    · intro i hi
      rw [wL_L]; exact t2 i hi
  · rw [ifp_f (fun y => h1 ((iz_lt (by omega)).mp y))]
    obtain ⟨T', t1, t2⟩ := x_begin195 (d + 1) (sz := sz) hA (by omega) (by omega) (by omega) 0 (by omega) (hL g A) (fun j hj => by omega)
    rw [wL_self] at t1
    refine ⟨_, A, t1, ⟨fun r _ => rfl, fun r _ hr => wL_n _ _ hr, fun r k _ _ => rfl, fun r _ => rfl, hA, hln, Or.inl ⟨rfl, rfl, rfl⟩⟩, ?_, ?_⟩
    · rw [wL_N]; omega
    · intro i hi
      rw [wL_L]; exact t2 i hi
theorem and0 {a b : Nat} : a &&& b = 0 ↔ ∀ i, ¬ (a.testBit i = true ∧ b.testBit i = true) := by
  constructor
  · intro h i y
    have := congrArg (fun x => Nat.testBit x i) h
    simp only [Nat.testBit_and, y.1, y.2, Nat.zero_testBit] at this
    exact absurd this (by decide)
  · intro h
    apply Nat.eq_of_testBit_eq
    intro i
    rw [Nat.testBit_and, Nat.zero_testBit]
    have := h i
    cases e1 : a.testBit i <;> cases e2 : b.testBit i
    · rfl
    · rfl
    · rfl
    · exact absurd ⟨e1, e2⟩ this
theorem x_findLastKinds (d : Nat) {h : Hp} (X : SX h) {o : Nat} (t : TO o) {q : Int → Int} (R : SR h o q) (V : VS q) : ∃ f K, evm (d + 2) 96 [vR 10 8, vR 5 o] h = some (none, wI (wI h 8 f) 9 K) ∧ f 8 = iZ (lkq q) ∧ (∀ j, j ≠ 8 → f j = hI h 8 j) ∧ ∀ a : Int, 0 ≤ a → a ≤ 12 → K a.toNat = iZ (klq q a) := by
  have lk := lkq_b V
  have loop : ∀ a : Int, 0 ≤ a ∧ a ≤ 13 → ∀ (f K : Nat → Int32), f 8 = iZ (1 + nK q a) → (∀ j, j ≠ 8 → f j = hI h 8 j) → (∀ b : Int, 0 ≤ b → b < a → K b.toNat = iZ (klq q b)) → ∃ f' K', L_Ways_findLastKinds_7 (d + 1) 8 o (iZ a) (wI (wI h 8 f) 9 K) = some (none, wI (wI h 8 f') 9 K') ∧ f' 8 = iZ (lkq q) ∧ (∀ j, j ≠ 8 → f' j = hI h 8 j) ∧ ∀ a : Int, 0 ≤ a → a ≤ 12 → K' a.toNat = iZ (klq q a) := by
    refine lpZ 13 (fun a ha hb f K f1 f2 k1 => ?_) (fun a ha ih hb f K f1 f2 k1 => ?_)
    · rw [e_Ways_findLastKinds_7]
      simp (disch := omega) only [lit32, litJ, iz_add, iz_sub, iz_mul, iz_neg, nI_iz, ix_iz, inb_iz, ifp_t, ifp_f, ifp_T, ifp_F, iz_eq, iz_lt, bI_s, bL_s, bV_s, bR_s]
      exact ⟨f, K, rfl, by rw [f1, show a = 13 by omega]; rfl, f2, fun b b1 b2 => k1 b b1 (by omega)⟩
    · have X' : ∀ {f K}, SX (wI (wI h 8 f) 9 K) := fun {_ _} => X
      have tt := t
      unfold TO at tt
      have R' : ∀ {f K}, SR (wI (wI h 8 f) 9 K) o q := fun {f K} => R.tr (fun r r1 r2 => by rw [wI_n _ _ (by omega), wI_n _ _ (by omega)])
      obtain ⟨B1, b1, b2, b3⟩ := R.bits
      obtain ⟨B2, b4, b5, b6⟩ := R.brd (a := a.toNat) (by omega)
      have kb : ¬ (B2 &&& B1 = 0) ↔ ∃ k, 0 ≤ k ∧ k < q 8 ∧ Brd q 0 a (q (9 + k)) := by
        rw [and0]
        constructor
        · intro y
          obtain ⟨i, hi⟩ := Classical.not_forall.mp y
          have hi' := Classical.not_not.mp hi
          obtain ⟨k, k1, k2, k3⟩ := (b3 i).mp hi'.2
          have vs := V.str k1 k2
          have := (b6 i (by omega)).mp hi'.1
          rw [← k3, show ((a.toNat : Nat) : Int) = a by omega] at this
          exact ⟨k, k1, k2, this⟩
        · rintro ⟨k, k1, k2, k3⟩ y
          have vs := V.str k1 k2
          refine y (q (9 + k)).toNat ⟨(b6 _ (by omega)).mpr ?_, (b3 _).mpr ⟨k, k1, k2, by omega⟩⟩
          rw [show (((q (9 + k)).toNat : Nat) : Int) = q (9 + k) by omega, show ((a.toNat : Nat) : Int) = a by omega]
          exact k3
      have next : ∀ (f' K' : Nat → Int32), f' 8 = iZ (1 + nK q (a + 1)) → (∀ j, j ≠ 8 → f' j = hI h 8 j) → K' a.toNat = iZ (klq q a) → (∀ j, j ≠ a.toNat → K' j = K j) → ∃ f'' K'', L_Ways_findLastKinds_7 (d + 1) 8 o (iZ (a + 1)) (wI (wI h 8 f') 9 K') = some (none, wI (wI h 8 f'') 9 K'') ∧ f'' 8 = iZ (lkq q) ∧ (∀ j, j ≠ 8 → f'' j = hI h 8 j) ∧ ∀ a : Int, 0 ≤ a → a ≤ 12 → K'' a.toNat = iZ (klq q a) := by
        intro f' K' g1 g2 g3 g4
        refine ih (by omega) f' K' g1 g2 (fun b b1 b2 => ?_)
        by_cases e : b = a
        · subst e; exact g3
        · rw [g4 _ (by omega)]; exact k1 b b1 (by omega)
      have same : ¬ Kb q a → nK q (a + 1) = nK q a := by
        intro y; unfold nK; rw [sZ_s _ hb.1, pif_f y, Int.add_zero]
      rw [e_Ways_findLastKinds_7]
      simp (disch := omega) only [lit32, litJ, iz_add, iz_sub, iz_mul, iz_neg, nI_iz, ix_iz, inb_iz, ifp_t, ifp_f, ifp_T, ifp_F, iz_eq, iz_lt, bI_s, bL_s, bV_s, bR_s, X'.r 8 0 9, X'.n 9 13, sI_wI]
      rw [x_tells d R' V (by omega), bI_s]
      simp only [bZ_0]
      by_cases ht : Tld q a
      · rw [ifp_f (fun y => y ht)]
        have r4 : hI (wI (wI h 8 f) 9 (up K a.toNat (iZ 0))) (o + 4) a.toNat = iZ B2 := by rw [wI_n _ _ (by omega), wI_n _ _ (by omega)]; exact b5
        have r9 : hI (wI (wI h 8 f) 9 (up K a.toNat (iZ 0))) o 9 = iZ B1 := by rw [wI_n _ _ (by omega), wI_n _ _ (by omega)]; exact b2
        simp (disch := omega) only [lit32, litJ, iz_add, iz_sub, iz_mul, iz_neg, nI_iz, ix_iz, inb_iz, ifp_t, ifp_f, ifp_T, ifp_F, iz_eq, iz_lt, bI_s, bL_s, bV_s, bR_s, X'.o3 t, X'.n4 t, r4, r9]
        have bl : B2 &&& B1 ≤ B2 := Nat.and_le_left
        rw [b_and, ifp_n (show iZ ((B2 &&& B1 : Nat) : Int) = iZ 0 ↔ B2 &&& B1 = 0 by rw [iz_eq (by omega)]; omega)]
        by_cases hk : B2 &&& B1 = 0
        · rw [ifp_t hk]
          have nk : ¬ Kb q a := fun y => (kb.mpr y.2) hk
          exact next f _ (by rw [same nk, f1]) f2 (by rw [up_e]; unfold klq; rw [pif_f nk]) (fun j hj => up_n _ _ hj)
        · rw [ifp_f hk]
          have yk : Kb q a := ⟨ht, kb.mp hk⟩
          simp (disch := omega) only [lit32, litJ, iz_add, iz_sub, iz_mul, iz_neg, nI_iz, ix_iz, inb_iz, ifp_t, ifp_f, ifp_T, ifp_F, iz_eq, iz_lt, bI_s, bL_s, bV_s, bR_s, X'.r 8 0 9, X'.n 9 13, sI_wI]
          have i8 : ∀ K, hI (wI (wI h 8 f) 9 K) 8 8 = iZ (1 + nK q a) := fun K => by rw [wI_n _ _ (by decide), wI_I]; exact f1
          rw [i8, i8, iz_add, CH_x (c := 8)]
          refine next _ _ ?_ ?_ ?_ ?_
          · rw [up_e, nK_s hb.1 yk]; congr 1; omega
          · intro j hj; rw [up_n _ _ hj]; exact f2 j hj
          · rw [up_e]; unfold klq; rw [pif_t yk]
          · intro j hj; rw [up_n _ _ hj, up_n _ _ hj]
      · rw [ifp_t ht]
        have nk : ¬ Kb q a := fun y => ht y.1
        exact next f _ (by rw [same nk, f1]) f2 (by rw [up_e]; unfold klq; rw [pif_f nk]) (fun j hj => up_n _ _ hj)
  rw [e_Ways_findLastKinds]
  have := loop 0 (by omega) (up (hI h 8) 8 (iZ 1)) (hI h 9) (by rw [up_e]; unfold nK; rw [sZ_0 _ (by omega)]; rfl) (fun j hj => up_n _ _ hj) (fun b b1 b2 => by omega)
  have e : wI (wI h 8 (up (hI h 8) 8 (iZ 1))) 9 (hI h 9) = sI h 8 8 1 := by
    rw [sI_w]
    have : hI h 9 = hI (wI h 8 (up (hI h 8) 8 (iZ 1))) 9 := (wI_n _ _ (by decide)).symm
    rw [this, wI_self]; rfl
  rw [e] at this
  exact this
def WBc (h : Hp) (q : Int → Int) (pu le mo : Int) : Prop :=
  (hI h 8 3 = iZ pu ∧ hI h 8 4 = iZ le ∧ hI h 8 5 = iZ mo ∧ hI h 8 6 = bZ (PM q le mo) ∧ hI h 8 7 = bZ (FM q pu) ∧ hI h 8 8 = iZ (lkq q) ∧ hI h 8 9 = iZ (mxC q + 1) ∧ hI h 8 10 = iZ (mxG q + 1)) ∧ (∀ a : Int, 0 ≤ a → a ≤ 12 → hI h 9 a.toNat = iZ (klq q a))
/-- what a beginning leaves -/
def Bgn (h h' : Hp) (q : Int → Int) (pu le mo : Int) (A A' : Nat) : Prop := (∀ r, Dm h r → r ≠ 8 → r ≠ 9 → hI h' r = hI h r) ∧ (∃ g : Hp, hC g = hC h ∧ hS g = hS h ∧ hL g = hL h ∧ hR g = hR h ∧ hN g = hN h ∧ AN 8 2 64 143500 g h' A A') ∧ WBc h' q pu le mo ∧ szX q (PM q le mo) (FM q pu) ≤ hN h' A' ∧ ∀ i : Nat, (i : Int) < szX q (PM q le mo) (FM q pu) → hL h' A' i = jZ (-1)
theorem x_begin (d : Nat) {h : Hp} (X : SX h) {o : Nat} (t : TO o) {q : Int → Int} (R : SR h o q) (V : VS q) {pu le mo : Int} (hpu : -10 ≤ pu ∧ pu ≤ 40) (hle : 0 ≤ le ∧ le ≤ 40 ∧ 0 ≤ mo ∧ mo ≤ q 4) {A : Nat} (hA : hR h 8 2 = some A) (hln : 64 ≤ hN h A ∧ hN h A ≤ 143500) (hc : A < hC h ∧ 92 < hC h ∧ hC h < 999999) :
    ∃ h' A', evm (d + 4) 95 [vR 10 8, vR 5 o, vI (iZ pu), vI (iZ le), vI (iZ mo)] h = some (none, h') ∧ Bgn h h' q pu le mo A A' := by
  have tt := t
  unfold TO at tt
  have v1 := V.top
  have vc := V.cnt
  have vf := V.foot
  have vr := V.cre
  have vg := V.gre
  have R' : ∀ {f}, SR (wI h 8 f) o q := fun {f} => R.tr (fun r r1 r2 => wI_n _ _ (by omega))
  have X' : ∀ {f}, SX (wI h 8 f) := fun {_} => X
  have szb := szX_b (pm := PM q le mo) (fm := FM q pu) V
  have l64 : ∀ f : Nat → Int32, f 3 = iZ pu → f 4 = iZ le → f 5 = iZ mo → f 6 = bZ (PM q le mo) → ∃ h' A', L_Ways_begin_64 (d + 3) 8 o (bZ (FM q pu)) 8 (wI h 8 f) = some (none, h') ∧ Bgn h h' q pu le mo A A' := by
    intro f f3 f4 f5 f6
    rw [e_Ways_begin_64, bZ_B, cond_true, sI_wI, x_creakKinds (d + 2) R' V, bI_s, sI_wI, x_greatKinds (d + 2) R' V, bI_s, sI_wI]
    obtain ⟨F, K, e1, e2, e3, e4⟩ := x_findLastKinds (d + 1) X' t (R' (f := up (up (up f 7 (bZ (FM q pu))) 9 (iZ (mxC q + 1))) 10 (iZ (mxG q + 1)))) V
    rw [wI_wI] at e1
    rw [e1, bV_s]
    have i8 : ∀ j, j ≠ 8 → hI (wI (wI h 8 F) 9 K) 8 j = up (up (up f 7 (bZ (FM q pu))) 9 (iZ (mxC q + 1))) 10 (iZ (mxG q + 1)) j := by
      intro j hj
      rw [wI_n _ _ (by decide), wI_I, e3 j hj, wI_I]
    have i88 : hI (wI (wI h 8 F) 9 K) 8 8 = iZ (lkq q) := by rw [wI_n _ _ (by decide), wI_I]; exact e2
    have i3 : hI (wI (wI h 8 F) 9 K) 8 3 = iZ pu := by rw [i8 3 (by decide)]; exact f3
    have i4 : hI (wI (wI h 8 F) 9 K) 8 4 = iZ le := by rw [i8 4 (by decide)]; exact f4
    have i5 : hI (wI (wI h 8 F) 9 K) 8 5 = iZ mo := by rw [i8 5 (by decide)]; exact f5
    have i6 : hI (wI (wI h 8 F) 9 K) 8 6 = bZ (PM q le mo) := by rw [i8 6 (by decide)]; exact f6
    have i7 : hI (wI (wI h 8 F) 9 K) 8 7 = bZ (FM q pu) := by rw [i8 7 (by decide)]; rfl
    have i9 : hI (wI (wI h 8 F) 9 K) 8 9 = iZ (mxC q + 1) := by rw [i8 9 (by decide)]; rfl
    have i10 : hI (wI (wI h 8 F) 9 K) 8 10 = iZ (mxG q + 1) := by rw [i8 10 (by decide)]; rfl
    have io : hI (wI (wI h 8 F) 9 K) o 7 = iZ (q 0) := by rw [wI_n _ _ (by omega), wI_n _ _ (by omega)]; exact R.top
    have fin : ∀ tm : Int, tm = tmX (PM q le mo) (FM q pu) (q 0) → ∃ h' A', L_Ways_begin_131 (d + 3) 8 (iZ tm) (wI (wI h 8 F) 9 K) = some (none, h') ∧ Bgn h h' q pu le mo A A' := by
      intro tm htm
      obtain ⟨h', A', g1, g2, g3, g4⟩ := x_begin131 (d + 2) (g := wI (wI h 8 F) 9 K) (sz := szX q (PM q le mo) (FM q pu)) (tm := tm) i88 i9 i10 (by rw [htm]; rfl) szb hA hln hc
      refine ⟨h', A', g1, ?_, ⟨wI (wI h 8 F) 9 K, rfl, rfl, rfl, rfl, rfl, g2⟩, ?_, g3, g4⟩
      · intro r hr h8 h9
        rw [g2.1 r hr, wI_n _ _ h9, wI_n _ _ h8]
      · have d8 : hI h' 8 = hI (wI (wI h 8 F) 9 K) 8 := g2.1 8 (Or.inl (show 8 < hC h by omega))
        have d9 : hI h' 9 = hI (wI (wI h 8 F) 9 K) 9 := g2.1 9 (Or.inl (show 9 < hC h by omega))
        unfold WBc
        rw [d8, d9]
        refine ⟨⟨i3, i4, i5, i6, i7, i88, i9, i10⟩, ?_⟩
        intro a a1 a2
        rw [wI_I]; exact e4 a a1 a2
    rw [i6, i7, io]
    simp (disch := omega) only [lit32, litJ, iz_add, iz_sub, iz_mul, iz_neg, nI_iz, ix_iz, inb_iz, ifp_t, ifp_f, ifp_T, ifp_F, iz_eq, iz_lt, bI_s, bL_s, bV_s, bR_s, bZ_0]
    by_cases p : PM q le mo
    · rw [ifp_f (fun y => y p)]
      have p2 : q 0 * (q 0 + 1) ≤ 40 * 41 := Int.mul_le_mul (by omega) (by omega) (by omega) (by omega)
      have p3 : 0 ≤ q 0 * (q 0 + 1) := Int.mul_nonneg (by omega) (by omega)
      rw [iz_div (by omega)]
      exact fin _ (by unfold tmX; rw [pif_t p]; rfl)
    · rw [ifp_t p]
      by_cases f : FM q pu
      · rw [ifp_f (fun y => y f)]
        exact fin _ (by unfold tmX; rw [pif_f p, pif_t f])
      · rw [ifp_t f]
        exact fin _ (by unfold tmX; rw [pif_f p, pif_f f])
  have l41 : ∀ x : Int32, x = bZ (PM q le mo) → ∃ h' A', L_Ways_begin_41 (d + 3) 8 o (iZ pu) x 8 (wI h 8 (up (up (up (hI h 8) 3 (iZ pu)) 4 (iZ le)) 5 (iZ mo))) = some (none, h') ∧ Bgn h h' q pu le mo A A' := by
    intro x hx
    have r12 : ∀ f, hI (wI h 8 f) o 12 = iZ (if q 2 < 0 then -1 else 1 - q 2) := fun f => by rw [wI_n _ _ (by omega)]; exact R.foot
    rw [e_Ways_begin_41, hx, bZ_B, cond_true, sI_wI, r12]
    have go := fun (y : Int32) (hy : y = bZ (FM q pu)) => by
      have := l64 (up (up (up (up (hI h 8) 3 (iZ pu)) 4 (iZ le)) 5 (iZ mo)) 6 (bZ (PM q le mo))) rfl rfl rfl rfl
      rw [← hy] at this
      exact this
    by_cases c1 : q 2 < 0
    · rw [if_pos c1, ifp_t (by decide)]
      exact go _ (by unfold FM; rw [bZ_f (by omega)]; rfl)
    · rw [if_neg c1]
      simp (disch := omega) only [lit32, litJ, iz_add, iz_sub, iz_mul, iz_neg, nI_iz, ix_iz, inb_iz, ifp_t, ifp_f, ifp_T, ifp_F, iz_eq, iz_lt, bI_s, bL_s, bV_s, bR_s]
      by_cases c2 : pu = -3
      · rw [ifp_t c2]
        exact go _ (by unfold FM; rw [bZ_f (by omega)])
      · rw [ifp_f c2]
        exact go _ (by unfold FM; rw [bZ_t (by omega)])
  rw [e_Ways_begin, sI_w h, sI_wI, sI_wI, wI_I, wI_n h _ (show o ≠ 8 by omega), R.top]
  have u4 : up (up (up (hI h 8) 3 (iZ pu)) 4 (iZ le)) 5 (iZ mo) 4 = iZ le := rfl
  have u5 : up (up (up (hI h 8) 3 (iZ pu)) 4 (iZ le)) 5 (iZ mo) 5 = iZ mo := rfl
  rw [u4, u5]
  simp (disch := omega) only [lit32, litJ, iz_add, iz_sub, iz_mul, iz_neg, nI_iz, ix_iz, inb_iz, ifp_t, ifp_f, ifp_T, ifp_F, iz_eq, iz_lt, bI_s, bL_s, bV_s, bR_s]
  by_cases c1 : 1 < le
  · rw [ifp_t c1]; exact l41 _ (bZ_t (Or.inl c1)).symm
  · rw [ifp_f c1]
    by_cases c2 : mo < q 0
    · rw [ifp_t c2]; exact l41 _ (bZ_t (Or.inr c2)).symm
    · rw [ifp_f c2]; exact l41 _ (bZ_f (fun y => by unfold PM at y; omega)).symm
