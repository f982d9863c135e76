/-! the tape: both lay the same signs -/
def okS (x : Int) : Prop := x = 10 ∨ (32 ≤ x ∧ x ≤ 126)
def Tpp (hx hm : Hp) (n : Nat) : Prop := (n ≤ 1000 ∧ hI hx 2 1 = iZ n ∧ hI hm 68 2 = iZ n) ∧ ∀ i : Nat, i < n → hI hx 3 i = hI hm 69 i ∧ okS (rz hm 69 i)
def FdX (hx hx' : Hp) : Prop := hx'.2 = hx.2 ∧ ∀ r, r ≠ 2 → r ≠ 3 → hI hx' r = hI hx r
def FdM (hm hm' : Hp) : Prop := hm'.2 = hm.2 ∧ ∀ r, r ≠ 68 → r ≠ 69 → hI hm' r = hI hm r
theorem chN : ∀ n : Nat, n < 128 → chr (nI n) = nI n ∧ isCh (nI n) = true := by decide +kernel
theorem chZ {z : Int} (h : 0 ≤ z ∧ z < 128) : chr (iZ z) = iZ z ∧ isCh (iZ z) = true := by
  have := chN z.toNat (by omega)
  rw [nI_iz, show ((z.toNat : Nat) : Int) = z by omega] at this
  exact this
theorem fdL (d : Nat) (y : Int64) : ∀ (t : Nat), t ≤ 8 → ∀ (hx hm : Hp) (n : Nat), hR hx 2 0 = some 3 → hN hx 3 = 1000 → hR hm 68 1 = some 69 → hN hm 69 = 1000 → Tpp hx hm n → ∃ hx' hm' n', L_Tape_put_3 d 2 y (iZ (8 * (t : Int) - 8)) hx = some (none, hx') ∧ L_M_lay_3 d 68 y (iZ (8 * (t : Int) - 8)) hm = some (none, hm') ∧ FdX hx hx' ∧ FdM hm hm' ∧ Tpp hx' hm' n' := by
  intro t
  induction t with
  | zero =>
    intro _ hx hm n _ _ _ _ T
    refine ⟨hx, hm, n, ?_, ?_, ⟨rfl, fun _ _ _ => rfl⟩, ⟨rfl, fun _ _ _ => rfl⟩, T⟩
    · rw [e_Tape_put_3]; simp (disch := omega) only [lit32, litJ, iz_add, iz_sub, iz_mul, iz_neg, nI_iz, ix_iz, inb_iz, ifp_t, ifp_f, iz_eq, iz_lt, bI_s, bL_s, bV_s, bR_s, rz_iz]
    · rw [e_M_lay_3]; simp (disch := omega) only [lit32, litJ, iz_add, iz_sub, iz_mul, iz_neg, nI_iz, ix_iz, inb_iz, ifp_t, ifp_f, iz_eq, iz_lt, bI_s, bL_s, bV_s, bR_s, rz_iz]
  | succ t ih =>
    intro ht hx hm n r1 n1 r2 n2 T
    have sk : ∃ hx' hm' n', L_Tape_put_3 d 2 y (iZ (8 * ((t + 1 : Nat) : Int) - 8) + (-8 : Int32)) hx = some (none, hx') ∧ L_M_lay_3 d 68 y (iZ (8 * ((t + 1 : Nat) : Int) - 8) + (-8 : Int32)) hm = some (none, hm') ∧ FdX hx hx' ∧ FdM hm hm' ∧ Tpp hx' hm' n' := by
      rw [show iZ (8 * ((t + 1 : Nat) : Int) - 8) + (-8 : Int32) = iZ (8 * (t : Int) - 8) by
        rw [show (-8 : Int32) = iZ (-8) from rfl, iz_add]; congr 1; omega]
      exact ih (by omega) hx hm n r1 n1 r2 n2 T
    rw [e_Tape_put_3, e_M_lay_3]
    obtain ⟨z, z1, z2, ez⟩ := iz_of ((y >>> ((iZ (8 * ((t + 1 : Nat) : Int) - 8)).toInt64 &&& 63)).toInt32 &&& (255 : Int32))
    rw [ez]
    have c0 : ¬ iZ (8 * ((t + 1 : Nat) : Int) - 8) < (0 : Int32) := by
      rw [lit32, iz_lt (by omega)]; omega
    rw [ifp_f c0, ifp_f c0]
    have put : okS z → ∃ hx' hm' n', L_Tape_put_43 d 2 y (iZ (8 * ((t + 1 : Nat) : Int) - 8)) (iZ z) (1 : Int32) hx = some (none, hx') ∧ L_M_lay_38 d 68 y (iZ (8 * ((t + 1 : Nat) : Int) - 8)) (iZ z) hm = some (none, hm') ∧ FdX hx hx' ∧ FdM hm hm' ∧ Tpp hx' hm' n' := by
      intro ok
      have zb : 0 ≤ z ∧ z < 128 := by unfold okS at ok; omega
      obtain ⟨⟨t1, t2, t3⟩, t4⟩ := T
      rw [e_Tape_put_43, e_M_lay_38]
      rw [ifp_f (show ¬ (1 : Int32) = 0 by decide)]
      simp only [r1, bR_s, n1, r2, n2, t2, t3, nI_iz]
      by_cases c : n < 1000
      · have g1 : iZ (n : Int) < iZ ((1000 : Nat) : Int) := (iz_lt (by omega)).mpr (by omega)
        have g2 : iZ (n : Int) < (1000 : Int32) := by rw [lit32]; exact (iz_lt (by omega)).mpr (by omega)
        have g3 : inb (iZ (n : Int)) 1000 = true := (inb_iz (by omega)).mpr (by omega)
        rw [ifp_t g1, ifp_t g2, ifp_t g3, ifp_t g3, (chZ zb).1, (chZ zb).2]
        simp only [cond_true, ix_iz (show 0 ≤ (n : Int) ∧ (n : Int) < 2147483648 by omega), Int.toNat_natCast]
        have q1 : ∀ w, hI (sI hx 3 n w) 2 1 = iZ n := fun w => by rw [sI_w, wI_n _ _ (by decide)]; exact t2
        have q2 : ∀ w, hI (sI hm 69 n w) 68 2 = iZ n := fun w => by rw [sI_w, wI_n _ _ (by decide)]; exact t3
        rw [q1, q2, show (1 : Int32) = iZ 1 from rfl, iz_add]
        have T' : Tpp (sI (sI hx 3 n (iZ z)) 2 1 (iZ ((n : Int) + 1))) (sI (sI hm 69 n (iZ z)) 68 2 (iZ ((n : Int) + 1))) (n + 1) := by
          refine ⟨⟨by omega, ?_, ?_⟩, fun i hi => ?_⟩
          · rw [sI_w, wI_I, up_e]; rfl
          · rw [sI_w, wI_I, up_e]; rfl
          · have a1 : ∀ w, hI (sI (sI hx 3 n (iZ z)) 2 1 w) 3 = up (hI hx 3) n (iZ z) := fun w => by rw [sI_w, wI_n _ _ (by decide), sI_w, wI_I]
            have a2 : ∀ w, hI (sI (sI hm 69 n (iZ z)) 68 2 w) 69 = up (hI hm 69) n (iZ z) := fun w => by rw [sI_w, wI_n _ _ (by decide), sI_w, wI_I]
            unfold rz
            rw [a1, a2]
            by_cases e : i = n
            · subst e
              rw [up_e, up_e, Int.toNat_natCast, up_e, iz_i (by omega) (by omega)]
              exact ⟨rfl, ok⟩
            · rw [up_n _ _ e, up_n _ _ e, Int.toNat_natCast, up_n _ _ e]
              have := t4 i (by omega)
              unfold rz at this
              rw [Int.toNat_natCast] at this
              exact this
        have st : iZ (8 * ((t + 1 : Nat) : Int) - 8) + (-8 : Int32) = iZ (8 * (t : Int) - 8) := by
          rw [show (-8 : Int32) = iZ (-8) from rfl, iz_add]; congr 1; omega
        rw [st]
        obtain ⟨hx', hm', n', b1, b2, b3, b4, b5⟩ := ih (by omega) (sI (sI hx 3 n (iZ z)) 2 1 (iZ ((n : Int) + 1))) (sI (sI hm 69 n (iZ z)) 68 2 (iZ ((n : Int) + 1))) (n + 1) r1 n1 r2 n2 T'
        refine ⟨hx', hm', n', b1, b2, ⟨b3.1, fun r x1 x2 => (b3.2 r x1 x2).trans ?_⟩, ⟨b4.1, fun r x1 x2 => (b4.2 r x1 x2).trans ?_⟩, b5⟩
        · rw [sI_w, wI_n _ _ x1, sI_w, wI_n _ _ x2]
        · rw [sI_w, wI_n _ _ x1, sI_w, wI_n _ _ x2]
      · have g1 : ¬ iZ (n : Int) < iZ ((1000 : Nat) : Int) := fun y => c (by have := (iz_lt (by omega)).mp y; omega)
        have g2 : ¬ iZ (n : Int) < (1000 : Int32) := fun y => c (by rw [lit32] at y; have := (iz_lt (by omega)).mp y; omega)
        rw [ifp_f g1, ifp_f g2]
        exact sk
    have non : ∃ hx' hm' n', L_Tape_put_43 d 2 y (iZ (8 * ((t + 1 : Nat) : Int) - 8)) (iZ z) (0 : Int32) hx = some (none, hx') ∧ L_M_lay_3 d 68 y (iZ (8 * ((t + 1 : Nat) : Int) - 8) + (-8 : Int32)) hm = some (none, hm') ∧ FdX hx hx' ∧ FdM hm hm' ∧ Tpp hx' hm' n' := by
      rw [e_Tape_put_43, ifp_t rfl]
      exact sk
    have l10 : (iZ z = (10 : Int32)) ↔ z = 10 := by rw [lit32]; exact iz_eq (by omega)
    have l32 : (iZ z < (32 : Int32)) ↔ z < 32 := by rw [lit32]; exact iz_lt (by omega)
    have l126 : ((126 : Int32) < iZ z) ↔ 126 < z := by rw [lit32]; exact iz_lt (by omega)
    by_cases c1 : z = 10
    · rw [ifp_t (l10.mpr c1), ifp_t (l10.mpr c1)]
      exact put (Or.inl c1)
    · rw [ifp_f (fun y => c1 (l10.mp y)), ifp_f (fun y => c1 (l10.mp y))]
      by_cases c2 : z < 32
      · rw [ifp_t (l32.mpr c2), ifp_t (l32.mpr c2)]
        exact non
      · rw [ifp_f (fun y => c2 (l32.mp y)), ifp_f (fun y => c2 (l32.mp y))]
        by_cases c3 : 126 < z
        · rw [ifp_t (l126.mpr c3), ifp_t (l126.mpr c3)]
          exact non
        · rw [ifp_f (fun y => c3 (l126.mp y)), ifp_f (fun y => c3 (l126.mp y))]
          exact put (Or.inr (by omega))
theorem FdX.tr {a b c : Hp} (x : FdX a b) (y : FdX b c) : FdX a c := ⟨y.1.trans x.1, fun r r1 r2 => (y.2 r r1 r2).trans (x.2 r r1 r2)⟩
theorem FdM.tr {a b c : Hp} (x : FdM a b) (y : FdM b c) : FdM a c := ⟨y.1.trans x.1, fun r r1 r2 => (y.2 r r1 r2).trans (x.2 r r1 r2)⟩
theorem fdA (d : Nat) (y : Int64) {hx hm : Hp} {n : Nat} (X : SX hx) (M : SM hm) (T : Tpp hx hm n) : ∃ hx' hm' n', evm (d + 1) 67 [vR 8 2, vL y] hx = some (none, hx') ∧ evm (d + 1) 140 [vR 12 68, vL y] hm = some (none, hm') ∧ FdX hx hx' ∧ FdM hm hm' ∧ Tpp hx' hm' n' := by
  rw [e_Tape_put, e_M_lay]
  exact fdL d y 8 (by omega) hx hm n (X.r 2 0 3) (X.n 3 1000) (M.r 1 69) (M.n 69 1000) T
theorem FdX.sx {a b : Hp} (x : FdX a b) (X : SX a) : SX b := by
  have e1 : hR b = hR a := congrArg (fun x => x.2.1) x.1
  have e2 : hN b = hN a := congrArg (fun x => x.2.2.2.1) x.1
  unfold SX; rw [e1, e2]; exact X
theorem FdM.sm {a b : Hp} (x : FdM a b) (X : SM a) : SM b := by
  have e1 : hR b = hR a := congrArg (fun x => x.2.1) x.1
  have e2 : hN b = hN a := congrArg (fun x => x.2.2.2.1) x.1
  unfold SM; rw [e1, e2]; exact X
theorem J_feed (d : Nat) (a b c : Int64) {hx hm : Hp} {n : Nat} (X : SX hx) (M : SM hm) (T : Tpp hx hm n) : ∃ hx' hm' n', evm (d + 2) 102 [vR 11 0, vL a, vL b, vL c] hx = some (some (vI (iZ (n' : Nat))), hx') ∧ evm (d + 2) 139 [vR 12 68, vL a, vL b, vL c] hm = some (some (vI (iZ (n' : Nat))), hm') ∧ FdX hx hx' ∧ FdM hm hm' ∧ Tpp hx' hm' n' := by
  rw [e_X_feed, e_M_feed]
  have M0 : SM (sI hm 68 0 (0 : Int32)) := M
  have T0 : Tpp hx (sI hm 68 0 (0 : Int32)) n := by
    obtain ⟨⟨t1, t2, t3⟩, t4⟩ := T
    refine ⟨⟨t1, t2, ?_⟩, fun i hi => ?_⟩
    · rw [sI_w, wI_I, up_n _ _ (by decide)]; exact t3
    · unfold rz
      rw [sI_w, wI_n _ _ (by decide)]
      exact t4 i hi
  obtain ⟨x1, m1, n1, a1, a2, a3, a4, a5⟩ := fdA d a X M0 T0
  have X1 := a3.sx X
  have M1 := a4.sm M0
  obtain ⟨x2, m2, n2, b1, b2, b3, b4, b5⟩ := fdA d b X1 M1 a5
  have X2 := b3.sx X1
  have M2 := b4.sm M1
  obtain ⟨x3, m3, n3, c1, c2, c3, c4, c5⟩ := fdA d c X2 M2 b5
  have X3 := c3.sx X2
  refine ⟨x3, m3, n3, ?_, ?_, (a3.tr b3).tr c3, ?_, c5⟩
  · simp only [X.r 0 0 1, X.r 1 0 2, bR_s, a1, bV_s, X1.r 0 0 1, X1.r 1 0 2, b1, X2.r 0 0 1, X2.r 1 0 2, c1, X3.r 0 0 1, X3.r 1 0 2, c5.1.2.1]
  · simp only [a2, bV_s, b2, c2, c5.1.2.2]
  · have z0 : FdM hm (sI hm 68 0 (0 : Int32)) := ⟨rfl, fun r r1 r2 => by rw [sI_w, wI_n _ _ r1]⟩
    exact z0.tr ((a4.tr b4).tr c4)
