/-! the model: count, dust, mark; how many stand still -/
noncomputable def cnV (q v : Int → Int) (n z : Int) : Int := if z = 0 then q 0 else if z = 1 then pS v (v 0) else if z = 2 then v 0 else if z = 3 then pR q v (v 0) else if z = 4 then pG q v (v 0) else if z = 5 then q 8 else if z = 6 then q 15 else if z = 7 then n else -1
theorem M_count (d : Nat) {h : Hp} (M : MV h) {z : Int} (hz : -2147483648 ≤ z ∧ z < 2147483648) : ∃ h', evm (d + 4) 239 [vR 12 68, vI (iZ z)] h = some (some (vI (iZ (cnV (rz h 74) (rz h 79) (rz h 68 2) z))), h') ∧ Ms h h' (rz h 79) (rz h 80) := by
  rw [e_M_count, sI_w]
  obtain ⟨f, f1, f2, f3, f4, f5⟩ := m_now d M (f0 := up (hI h 68) 0 0) rfl
  have ac : Sc h (wI h 68 f) := Sc.f f5
  have M1 := M.sc ac
  have e74 := ac.z (r := 74) (by decide)
  have e79 := ac.z (r := 79) (by decide)
  refine ⟨_, ?_, ac.ms⟩
  have e15 : hI (wI h 68 f) 74 (Int.toNat 15) = iZ (rz h 74 15) := by rw [rz_iz, e74]
  have e2 : hI (wI h 68 f) 68 2 = iZ (rz h 68 2) := by rw [wI_I, f5]; exact rz_iz h 68 2
  rw [f1, bV_s]
  simp (disch := omega) only [lit32, litJ, iz_add, iz_sub, iz_mul, iz_neg, nI_iz, ix_iz, inb_iz, ifp_t, ifp_f, ifp_T, ifp_F, iz_eq, iz_lt, bI_s, bL_s, bV_s, bR_s, m_steps (d + 2) M1.1, m_takenMany (d + 2) M1.1, m_strides (d + 2) M1.1, e74, e79, f2.1, f2.2.2.1, f2.2.2.2, M1.1.r 10 74, M1.1.n 74 140, e15, e2, Int.reduceAdd]
  unfold cnV
  refine ifp_r (fun y => ri_e (by rw [if_pos y])) (fun y0 => ?_)
  rw [if_neg y0]
  refine ifp_r (fun y => ri_e (by rw [if_pos y])) (fun y1 => ?_)
  rw [if_neg y1]
  refine ifp_r (fun y => ri_e (by rw [if_pos y])) (fun y2 => ?_)
  rw [if_neg y2]
  refine ifp_r (fun y => ri_e (by rw [if_pos y])) (fun y3 => ?_)
  rw [if_neg y3]
  refine ifp_r (fun y => ri_e (by rw [if_pos y])) (fun y4 => ?_)
  rw [if_neg y4]
  refine ifp_r (fun y => ri_e (by rw [if_pos y])) (fun y5 => ?_)
  rw [if_neg y5]
  refine ifp_r (fun y => ri_e (by rw [if_pos y])) (fun y6 => ?_)
  rw [if_neg y6]
  refine ifp_r (fun y => ri_e (by rw [if_pos y])) (fun y7 => ?_)
  rw [if_neg y7]
def DuO (q : Int → Int) (x y : Int) : Prop := (1 ≤ x ∧ x ≤ q 0 - 1) ∧ 0 ≤ y ∧ y ≤ 2
theorem M_dust (d : Nat) {h : Hp} (M : MV h) {x y : Int} (hx : -2147483648 ≤ x ∧ x < 2147483648) (hy : -2147483648 ≤ y ∧ y < 2147483648) : ∃ h', evm (d + 2) 227 [vR 12 68, vI (iZ x), vI (iZ y)] h = some (some (vI (bZ (DuO (rz h 74) x y))), h') ∧ (DuO (rz h 74) x y → Ms h h' (zup (rz h 79) (41 + x) y) (rz h 80)) ∧ (¬ DuO (rz h 74) x y → Ms h h' (rz h 79) (rz h 80)) := by
  have a0 : Sc h (sI h 68 0 (iZ 0)) := Sc.s h _ (by decide)
  have M0 := M.sc a0
  have v1 := M.2.1.top
  rw [e_M_dust]
  simp only [lit32]
  rw [m_steps d M0.1, bI_s, a0.z (r := 74) (by decide), iz_sub, m_within d hx (by omega) (by omega), bI_s, m_within d hy (by omega) (by omega), bI_s]
  simp only [bZ_0]
  unfold DuO
  by_cases h1 : 1 ≤ x ∧ x ≤ rz h 74 0 - 1
  · rw [ifp_f (fun z => z h1)]
    by_cases h2 : 0 ≤ y ∧ y ≤ 2
    · rw [ifp_f (fun z => z h2), bZ_t ⟨h1, h2⟩]
      simp (disch := omega) only [lit32, litJ, iz_add, iz_sub, iz_mul, iz_neg, nI_iz, ix_iz, inb_iz, ifp_t, ifp_f, ifp_T, ifp_F, iz_eq, iz_lt, bI_s, bL_s, bV_s, bR_s, M0.1.r 17 79, M0.1.n 79 420]
      refine ⟨_, rfl, fun _ => ⟨a0.d.tr (Sd.s _ _ _ (Or.inl rfl)), ?_, ?_⟩, fun z => absurd ⟨h1, h2⟩ z⟩
      · rw [rz_s _ 79 (by omega), a0.z (r := 79) (by decide)]
      · rw [rz_n _ _ _ (by decide)]; exact a0.z (by decide)
    · rw [ifp_t h2, bZ_f (fun z => h2 z.2)]
      exact ⟨_, rfl, fun z => absurd z.2 h2, fun _ => a0.ms⟩
  · rw [ifp_t h1, bZ_f (fun z => h1 z.1)]
    exact ⟨_, rfl, fun z => absurd z.1 h1, fun _ => a0.ms⟩
def zcp (v : Int → Int) (a b : Nat) : Int → Int := fun j => if 84 * b ≤ j.toNat ∧ j.toNat < 84 * b + 84 then v ((84 * a + (j.toNat - 84 * b) : Nat)) else v j
def MkO (w : Int → Int) (x : Int) (b : Prop) : Prop := (0 ≤ x ∧ x ≤ 3) ∧ (b → w x ≠ 0)
theorem M_mark (d : Nat) {h : Hp} (M : MV h) {x : Int} (hx : -2147483648 ≤ x ∧ x < 2147483648) (b : Prop) : ∃ h', evm (d + 2) 238 [vR 12 68, vI (iZ x), vI (bZ b)] h = some (some (vI (bZ (MkO (rz h 80) x b))), h') ∧ (MkO (rz h 80) x b → b → Ms h h' (zcp (rz h 79) (1 + x.toNat) 0) (zup (rz h 80) x 1)) ∧ (MkO (rz h 80) x b → ¬ b → Ms h h' (zcp (rz h 79) 0 (1 + x.toNat)) (zup (rz h 80) x 1)) ∧ (¬ MkO (rz h 80) x b → Ms h h' (rz h 79) (rz h 80)) := by
  have a0 : Sc h (sI h 68 0 (iZ 0)) := Sc.s h _ (by decide)
  have M0 := M.sc a0
  have copy : ∀ (K : Hp) (a c : Nat), SM K → (a = 0 ∧ 1 ≤ c ∧ c ≤ 4 ∨ c = 0 ∧ 1 ≤ a ∧ a ≤ 4) → ∃ F, L_M_mark_64 (d + 1) 68 (iZ a) (iZ c) (iZ 0) K = some (some (vI (iZ 1)), wI K 79 F) ∧ rz (wI K 79 F) 79 = zcp (rz K 79) a c := by
    intro K a c S hac
    have loop : ∀ k : Int, 0 ≤ k ∧ k ≤ 84 → ∀ F : Nat → Int32, (∀ j : Nat, F j = if 84 * c ≤ j ∧ (j : Int) < 84 * c + k then hI K 79 (84 * a + (j - 84 * c)) else hI K 79 j) → ∃ F', L_M_mark_64 (d + 1) 68 (iZ a) (iZ c) (iZ k) (wI K 79 F) = some (some (vI (iZ 1)), wI K 79 F') ∧ ∀ j : Nat, F' j = if 84 * c ≤ j ∧ (j : Int) < 84 * c + 84 then hI K 79 (84 * a + (j - 84 * c)) else hI K 79 j := by
      have S' : ∀ {F}, SM (wI K 79 F) := fun {_} => S
      refine lpZ 84 (fun k hk hb F hF => ?_) (fun k hk ih hb F hF => ?_)
      · rw [e_M_mark_64]
        simp (disch := omega) only [lit32, litJ, iz_add, iz_sub, iz_mul, iz_neg, nI_iz, ix_iz, inb_iz, ifp_t, ifp_f, ifp_T, ifp_F, iz_eq, iz_lt, bI_s, bL_s, bV_s, bR_s]
        rw [show k = 84 by omega] at hF
        exact ⟨F, rfl, hF⟩
      · rw [e_M_mark_64]
        simp (disch := omega) only [lit32, litJ, iz_add, iz_sub, iz_mul, iz_neg, nI_iz, ix_iz, inb_iz, ifp_t, ifp_f, ifp_T, ifp_F, iz_eq, iz_lt, bI_s, bL_s, bV_s, bR_s, S'.r 17 79, S'.n 79 420, wI_I, sI_wI]
        refine ih (by omega) _ (fun j => ?_)
        by_cases e : j = (84 * (c : Int) + k).toNat
        · rw [e, up_e, hF, if_neg (by omega), if_pos (by omega)]
          congr 1
          omega
        · rw [up_n _ _ e, hF]
          by_cases e2 : 84 * c ≤ j ∧ (j : Int) < 84 * c + k
          · rw [if_pos e2, if_pos (by omega)]
          · rw [if_neg e2, if_neg (by omega)]
    obtain ⟨F, f1, f2⟩ := loop 0 (by omega) (hI K 79) (fun j => by rw [if_neg (by omega)])
    rw [wI_self] at f1
    refine ⟨F, f1, ?_⟩
    funext j
    unfold zcp
    show (hI (wI K 79 F) 79 j.toNat).toInt = _
    rw [wI_I, f2]
    by_cases e : 84 * c ≤ j.toNat ∧ j.toNat < 84 * c + 84
    · rw [if_pos (by omega), if_pos e]; rfl
    · rw [if_neg (by omega), if_neg e]; rfl
  rw [e_M_mark]
  simp only [lit32]
  rw [m_within d hx (by omega) (by omega), bI_s]
  simp only [bZ_0]
  unfold MkO
  by_cases h1 : 0 ≤ x ∧ x ≤ 3
  · rw [ifp_f (fun z => z h1)]
    have e80 : hI (sI h 68 0 (iZ 0)) 80 x.toNat = iZ (rz h 80 x) := by rw [rz_iz, a0.z (r := 80) (by decide)]
    have rb := rz_rg h 80 x
    have ex : iZ (1 + x) = iZ ((1 + x.toNat : Nat) : Int) := by congr 1; omega
    have fin : ∀ (K : Hp) (F : Nat → Int32), K = sI (sI h 68 0 (iZ 0)) 80 x.toNat (iZ 1) → ∀ v, rz (wI K 79 F) 79 = v → Ms h (wI K 79 F) v (zup (rz h 80) x 1) := by
      intro K F hK v hv
      refine ⟨?_, hv, ?_⟩
      · rw [hK]
        refine (a0.d.tr (Sd.s (sI h 68 0 (iZ 0)) x.toNat (iZ 1) (Or.inr rfl))).tr ⟨rfl, fun r k q q1 q2 => ?_, fun _ _ => rfl⟩
        rw [wI_n _ _ q1]
      · rw [wI_rz _ _ (by decide), hK, rz_s _ 80 (by omega), a0.z (r := 80) (by decide)]
    by_cases hb : b
    · rw [ifp_f (fun z => z hb)]
      simp (disch := omega) only [lit32, litJ, iz_add, iz_sub, iz_mul, iz_neg, nI_iz, ix_iz, inb_iz, ifp_t, ifp_f, ifp_T, ifp_F, iz_eq, iz_lt, bI_s, bL_s, bV_s, bR_s, M0.1.r 18 80, M0.1.n 80 4, e80]
      by_cases h2 : rz h 80 x = 0
      · rw [ifp_t h2, bZ_f (show ¬ ((0 ≤ x ∧ x ≤ 3) ∧ (b → rz h 80 x ≠ 0)) from fun z => z.2 hb h2)]
        exact ⟨_, rfl, fun z => absurd h2 (z.2 hb), fun z => absurd h2 (z.2 hb), fun _ => a0.ms⟩
      · rw [ifp_f h2, bZ_t (show (0 ≤ x ∧ x ≤ 3) ∧ (b → rz h 80 x ≠ 0) from ⟨h1, fun _ => h2⟩), e_M_mark_29]
        simp (disch := omega) only [lit32, litJ, iz_add, iz_sub, iz_mul, iz_neg, nI_iz, ix_iz, inb_iz, ifp_t, ifp_f, ifp_T, ifp_F, iz_eq, iz_lt, bI_s, bL_s, bV_s, bR_s, M0.1.r 18 80, M0.1.n 80 4, bZ_0]
        rw [ifp_f (fun z => z hb), e_M_mark_47]
        simp (disch := omega) only [lit32, litJ, iz_add, iz_sub, iz_mul, iz_neg, nI_iz, ix_iz, inb_iz, ifp_t, ifp_f, ifp_T, ifp_F, iz_eq, iz_lt, bI_s, bL_s, bV_s, bR_s, bZ_0]
        rw [ifp_f (fun z => z hb), ex]
        obtain ⟨F, f1, f2⟩ := copy (sI (sI h 68 0 (iZ 0)) 80 x.toNat (iZ 1)) (1 + x.toNat) 0 M0.1 (by omega)
        refine ⟨_, f1, fun _ _ => fin _ F rfl _ ?_, fun _ z => absurd hb z, fun z => absurd ⟨h1, fun _ => h2⟩ z⟩
        rw [f2, rz_n _ _ _ (by decide), a0.z (r := 79) (by decide)]
    · rw [ifp_t hb, bZ_t (show (0 ≤ x ∧ x ≤ 3) ∧ (b → rz h 80 x ≠ 0) from ⟨h1, fun z => absurd z hb⟩), e_M_mark_29]
      simp (disch := omega) only [lit32, litJ, iz_add, iz_sub, iz_mul, iz_neg, nI_iz, ix_iz, inb_iz, ifp_t, ifp_f, ifp_T, ifp_F, iz_eq, iz_lt, bI_s, bL_s, bV_s, bR_s, M0.1.r 18 80, M0.1.n 80 4, bZ_0]
      first | rw [ifp_t hb, e_M_mark_47] | rw [e_M_mark_47]
      simp (disch := omega) only [lit32, litJ, iz_add, iz_sub, iz_mul, iz_neg, nI_iz, ix_iz, inb_iz, ifp_t, ifp_f, ifp_T, ifp_F, iz_eq, iz_lt, bI_s, bL_s, bV_s, bR_s, bZ_0]
      first | rw [ifp_t hb, ex] | rw [ex]
      obtain ⟨F, f1, f2⟩ := copy (sI (sI h 68 0 (iZ 0)) 80 x.toNat (iZ 1)) 0 (1 + x.toNat) M0.1 (by omega)
      refine ⟨_, f1, fun _ z => absurd z hb, fun _ _ => fin _ F rfl _ ?_, fun z => absurd ⟨h1, fun z => absurd z hb⟩ z⟩
      rw [f2, rz_n _ _ _ (by decide), a0.z (r := 79) (by decide)]
  · rw [ifp_t h1, bZ_f (show ¬ ((0 ≤ x ∧ x ≤ 3) ∧ (b → rz h 80 x ≠ 0)) from fun z => h1 z.1)]
    exact ⟨_, rfl, fun z => absurd z.1 h1, fun z => absurd z.1 h1, fun _ => a0.ms⟩
/-! standing still -/
def stA (c t o s : Int) : Int := if s - t < 0 then -(c * s - t * o) else c * s - t * o
def stB (t s : Int) : Int := if s - t < 0 then -(s - t) else s - t
def stl (c t o s y : Int) : Int := if (1 ≤ c ∧ c ≤ 999) ∧ (1 ≤ t ∧ t ≤ 999) ∧ (1 ≤ o ∧ o ≤ 999) ∧ (1 ≤ s ∧ s ≤ 999) ∧ (0 ≤ y ∧ y ≤ 1) ∧ t ≠ s ∧ 0 < stA c t o s then (if y = 0 then stA c t o s else stB t s) / (Nat.gcd (stA c t o s).toNat (stB t s).toNat : Nat) else -1
theorem gcd_st {a b : Int} (ha : 0 ≤ a) (hb : 0 < b) : Nat.gcd a.toNat b.toNat = Nat.gcd b.toNat (a % b).toNat := by
  have : (a % b).toNat = a.toNat % b.toNat := Int.toNat_emod ha (by omega)
  rw [this, Nat.gcd_comm a.toNat b.toNat, Nat.gcd_rec b.toNat a.toNat, Nat.gcd_comm]
theorem M_still (d : Nat) {h : Hp} {c t o s y : Int} (hc : -2147483648 ≤ c ∧ c < 2147483648) (ht : -2147483648 ≤ t ∧ t < 2147483648) (ho : -2147483648 ≤ o ∧ o < 2147483648) (hs : -2147483648 ≤ s ∧ s < 2147483648) (hy : -2147483648 ≤ y ∧ y < 2147483648) : ∃ h', evm (d + 2) 234 [vR 12 68, vI (iZ c), vI (iZ t), vI (iZ o), vI (iZ s), vI (iZ y)] h = some (some (vI (iZ (stl c t o s y))), h') ∧ Ms h h' (rz h 79) (rz h 80) := by
  have a0 : Sc h (sI h 68 0 (iZ 0)) := Sc.s h _ (by decide)
  refine ⟨_, ?_, a0.ms⟩
  rw [e_M_still]
  simp only [lit32]
  rw [m_within d hc (by omega) (by omega), bI_s, m_within d ht (by omega) (by omega), bI_s, m_within d ho (by omega) (by omega), bI_s, m_within d hs (by omega) (by omega), bI_s]
  simp only [bZ_0]
  have bad : ¬ ((1 ≤ c ∧ c ≤ 999) ∧ (1 ≤ t ∧ t ≤ 999) ∧ (1 ≤ o ∧ o ≤ 999) ∧ (1 ≤ s ∧ s ≤ 999) ∧ (0 ≤ y ∧ y ≤ 1) ∧ t ≠ s ∧ 0 < stA c t o s) → stl c t o s y = -1 := fun z => if_neg z
  refine ifp_r (fun z => ri_e (bad (fun w => z w.1)).symm) (fun h1 => ifp_r (fun z => ri_e (bad (fun w => z w.2.1)).symm) (fun h2 => ifp_r (fun z => ri_e (bad (fun w => z w.2.2.1)).symm) (fun h3 => ifp_r (fun z => ri_e (bad (fun w => z w.2.2.2.1)).symm) (fun h4 => ?_))))
  have h1 := Classical.not_not.mp h1
  have h2 := Classical.not_not.mp h2
  have h3 := Classical.not_not.mp h3
  have h4 := Classical.not_not.mp h4
  rw [e_M_still_50]
  simp only [lit32]
  rw [m_within d hy (by omega) (by omega), bI_s]
  simp only [bZ_0]
  refine ifp_r (fun z => ri_e (bad (fun w => z w.2.2.2.2.1)).symm) (fun h5 => ?_)
  have h5 := Classical.not_not.mp h5
  rw [ifp_n (iz_eq (by omega))]
  refine ifp_r (fun z => ri_e (bad (fun w => w.2.2.2.2.2.1 z)).symm) (fun h6 => ?_)
  have p1 : 1 ≤ c * s ∧ c * s ≤ 999 * 999 := ⟨by have := Int.mul_le_mul h1.1 h4.1 (by omega) (by omega); omega, Int.mul_le_mul h1.2 h4.2 (by omega) (by omega)⟩
  have p2 : 1 ≤ t * o ∧ t * o ≤ 999 * 999 := ⟨by have := Int.mul_le_mul h2.1 h3.1 (by omega) (by omega); omega, Int.mul_le_mul h2.2 h3.2 (by omega) (by omega)⟩
  have aB : -1000000 ≤ stA c t o s ∧ stA c t o s ≤ 1000000 := by unfold stA; split <;> omega
  have bB : 1 ≤ stB t s ∧ stB t s ≤ 999 := by unfold stB; split <;> omega
  have l129 : 0 < stA c t o s → ∀ (n : Nat) (a b : Int), b < n → 0 ≤ b → (0 < a ∧ a < 2147483648) → b ≤ 2147483647 → Nat.gcd a.toNat b.toNat = Nat.gcd (stA c t o s).toNat (stB t s).toNat → L_M_still_129 (d + 1) (iZ y) (iZ (stA c t o s)) (iZ (stB t s)) (iZ a) (iZ b) (sI h 68 0 (iZ 0)) = some (some (vI (iZ (stl c t o s y))), sI h 68 0 (iZ 0)) := by
    intro hp n
    induction n with
    | zero => intro a b h1 h2; omega
    | succ n ih =>
      intro a b hb1 hb2 ha hb3 hg
      rw [e_M_still_129]
      simp (disch := omega) only [lit32, litJ, iz_add, iz_sub, iz_mul, iz_neg, nI_iz, ix_iz, inb_iz, ifp_t, ifp_f, ifp_T, ifp_F, iz_eq, iz_lt, bI_s, bL_s, bV_s, bR_s]
      by_cases b0 : b = 0
      · rw [ifp_t b0]
        have eg : a = (Nat.gcd (stA c t o s).toNat (stB t s).toNat : Nat) := by
          rw [← hg, b0]
          show a = (Nat.gcd a.toNat 0 : Nat)
          rw [Nat.gcd_zero_right]; omega
        have es : stl c t o s y = (if y = 0 then stA c t o s else stB t s) / a := by
          unfold stl
          rw [if_pos ⟨h1, h2, h3, h4, h5, h6, hp⟩, ← eg]
        rw [es]
        refine ifp_r (fun z => ?_) (fun z => ?_)
        · rw [if_pos z]
          simp (disch := omega) only [lit32, litJ, iz_add, iz_sub, iz_mul, iz_neg, nI_iz, ix_iz, inb_iz, ifp_t, ifp_f, ifp_T, ifp_F, iz_eq, iz_lt, bI_s, bL_s, bV_s, bR_s, iz_div]
        · rw [if_neg z]
          simp (disch := omega) only [lit32, litJ, iz_add, iz_sub, iz_mul, iz_neg, nI_iz, ix_iz, inb_iz, ifp_t, ifp_f, ifp_T, ifp_F, iz_eq, iz_lt, bI_s, bL_s, bV_s, bR_s, iz_div]
      · rw [ifp_f b0]
        simp (disch := omega) only [lit32, litJ, iz_add, iz_sub, iz_mul, iz_neg, nI_iz, ix_iz, inb_iz, ifp_t, ifp_f, ifp_T, ifp_F, iz_eq, iz_lt, bI_s, bL_s, bV_s, bR_s, irem_iz]
        have m1 : 0 ≤ a % b ∧ a % b < b := ⟨Int.emod_nonneg _ b0, Int.emod_lt_of_pos _ (by omega)⟩
        exact ih b (a % b) (by omega) m1.1 (by omega) (by omega) (by rw [← gcd_st (by omega) (by omega)]; exact hg)
  have l112 : ∀ x w : Int, x = stA c t o s → w = stB t s → L_M_still_112 (d + 1) (iZ y) (iZ x) (iZ w) (sI h 68 0 (iZ 0)) = some (some (vI (iZ (stl c t o s y))), sI h 68 0 (iZ 0)) := by
    intro x w hx hw
    rw [hx, hw, e_M_still_112]
    simp (disch := omega) only [lit32, litJ, iz_add, iz_sub, iz_mul, iz_neg, nI_iz, ix_iz, inb_iz, ifp_t, ifp_f, ifp_T, ifp_F, iz_eq, iz_lt, bI_s, bL_s, bV_s, bR_s]
    refine ifp_r (fun z => ?_) (fun z => ri_e (bad (fun w => z w.2.2.2.2.2.2)).symm)
    exact l129 z 1000 _ _ (by omega) (by omega) (by omega) (by omega) rfl
  simp (disch := omega) only [lit32, litJ, iz_add, iz_sub, iz_mul, iz_neg, nI_iz, ix_iz, inb_iz, ifp_t, ifp_f, ifp_T, ifp_F, iz_eq, iz_lt, bI_s, bL_s, bV_s, bR_s]
  by_cases h7 : s - t < 0
  · rw [ifp_t h7, ifp_t h7]
    exact l112 _ _ (by unfold stA; rw [if_pos h7]) (by unfold stB; rw [if_pos h7])
  · rw [ifp_f h7, ifp_f h7]
    exact l112 _ _ (by unfold stA; rw [if_neg h7]) (by unfold stB; rw [if_neg h7])
theorem x_gcd (d : Nat) {h : Hp} : ∀ (m : Nat) (a b i : Int), (0 < a ∧ a < 2147483648) → (0 ≤ b ∧ b < (2 : Int) ^ m ∧ b < 2147483648) → (0 ≤ i ∧ i + 2 * m + 1 ≤ 64) → L_X_commonDivisor_7 d (iZ a) (iZ b) (iZ i) h = some (some (vI (iZ (Nat.gcd a.toNat b.toNat : Nat))), h) := by
  have done : ∀ (a i : Int), (0 < a ∧ a < 2147483648) → (0 ≤ i ∧ i ≤ 64) → L_X_commonDivisor_7 d (iZ a) (iZ 0) (iZ i) h = some (some (vI (iZ (Nat.gcd a.toNat 0 : Nat))), h) := by
    intro a i ha hi
    have eg : ((Nat.gcd a.toNat 0 : Nat) : Int) = a := by rw [Nat.gcd_zero_right]; omega
    rw [e_X_commonDivisor_7, eg]
    simp (disch := omega) only [lit32, litJ, iz_add, iz_sub, iz_mul, iz_neg, nI_iz, ix_iz, inb_iz, ifp_t, ifp_f, ifp_T, ifp_F, iz_eq, iz_lt, bI_s, bL_s, bV_s, bR_s]
    exact ifp_r (fun _ => rfl) (fun _ => rfl)
  intro m
  induction m with
  | zero =>
    intro a b i ha hb hi
    have b0 : b = 0 := by have : (2 : Int) ^ 0 = 1 := rfl; omega
    rw [b0]; exact done a i ha (by omega)
  | succ m ih =>
    intro a b i ha hb hi
    by_cases b0 : b = 0
    · rw [b0]; exact done a i ha (by omega)
    · have m1 : 0 ≤ a % b ∧ a % b < b := ⟨Int.emod_nonneg _ b0, Int.emod_lt_of_pos _ (by omega)⟩
      rw [e_X_commonDivisor_7]
      simp (disch := omega) only [lit32, litJ, iz_add, iz_sub, iz_mul, iz_neg, nI_iz, ix_iz, inb_iz, ifp_t, ifp_f, ifp_T, ifp_F, iz_eq, iz_lt, bI_s, bL_s, bV_s, bR_s, irem_iz]
      rw [gcd_st (by omega) (show 0 < b by omega)]
      by_cases r0 : a % b = 0
      · rw [r0]
        exact done b (i + 1) (by omega) (by omega)
      · have m2 : 0 ≤ b % (a % b) ∧ b % (a % b) < a % b := ⟨Int.emod_nonneg _ r0, Int.emod_lt_of_pos _ (by omega)⟩
        have m3 : b % (a % b) ≤ b - a % b := by
          have e := Int.emod_add_mul_ediv b (a % b)
          have h1 : 1 ≤ b / (a % b) := Int.le_ediv_of_mul_le (by omega) (by omega)
          have h2 : (a % b) * 1 ≤ (a % b) * (b / (a % b)) := Int.mul_le_mul_of_nonneg_left h1 (by omega)
          omega
        rw [e_X_commonDivisor_7]
        simp (disch := omega) only [lit32, litJ, iz_add, iz_sub, iz_mul, iz_neg, nI_iz, ix_iz, inb_iz, ifp_t, ifp_f, ifp_T, ifp_F, iz_eq, iz_lt, bI_s, bL_s, bV_s, bR_s, irem_iz]
        rw [gcd_st (by omega) (show 0 < a % b by omega)]
        have p2 : (2 : Int) ^ (m + 1) = 2 ^ m * 2 := Int.pow_succ 2 m
        exact ih _ _ _ (by omega) (by omega) (by omega)
theorem x_isNoStill (d : Nat) {h : Hp} {x : Int} (hx : -2147483648 ≤ x ∧ x < 2147483648) : evm (d + 1) 135 [vI (iZ x)] h = some (some (vI (bZ (¬ (1 ≤ x ∧ x ≤ 999)))), h) := by
  rw [e_X_isNoStill]
  simp (disch := omega) only [lit32, litJ, iz_add, iz_sub, iz_mul, iz_neg, nI_iz, ix_iz, inb_iz, ifp_t, ifp_f, ifp_T, ifp_F, iz_eq, iz_lt, bI_s, bL_s, bV_s, bR_s]
  exact ifp_r (fun y => rb_t (by omega)) (fun y => ifp_r (fun z => rb_t (by omega)) (fun z => rb_f (by omega)))
theorem x_still (d : Nat) {h : Hp} {c t o s y : Int} (hc : -2147483648 ≤ c ∧ c < 2147483648) (ht : -2147483648 ≤ t ∧ t < 2147483648) (ho : -2147483648 ≤ o ∧ o < 2147483648) (hs : -2147483648 ≤ s ∧ s < 2147483648) (hy : -2147483648 ≤ y ∧ y < 2147483648) : evm (d + 2) 124 [vR 11 0, vI (iZ c), vI (iZ t), vI (iZ o), vI (iZ s), vI (iZ y)] h = some (some (vI (iZ (stl c t o s y))), h) := by
  have bad : ¬ ((1 ≤ c ∧ c ≤ 999) ∧ (1 ≤ t ∧ t ≤ 999) ∧ (1 ≤ o ∧ o ≤ 999) ∧ (1 ≤ s ∧ s ≤ 999) ∧ (0 ≤ y ∧ y ≤ 1) ∧ t ≠ s ∧ 0 < stA c t o s) → stl c t o s y = -1 := fun z => if_neg z
  rw [e_X_still, x_isNoStill d hc, bI_s, x_isNoStill d ht, bI_s]
  simp only [lit32, bZ_0]
  refine ifp_r (fun h1 => ifp_r (fun h2 => ?_) (fun z => ri_e (bad (fun w => z (fun x => x w.2.1))).symm)) (fun z => ri_e (bad (fun w => z (fun x => x w.1))).symm)
  have h1 := Classical.not_not.mp h1
  have h2 := Classical.not_not.mp h2
  rw [e_X_still_14, x_isNoStill d ho, bI_s, x_isNoStill d hs, bI_s]
  simp only [lit32, bZ_0]
  refine ifp_r (fun h3 => ifp_r (fun h4 => ?_) (fun z => ri_e (bad (fun w => z (fun x => x w.2.2.2.1))).symm)) (fun z => ri_e (bad (fun w => z (fun x => x w.2.2.1))).symm)
  have h3 := Classical.not_not.mp h3
  have h4 := Classical.not_not.mp h4
  rw [ifp_n (iz_lt (by omega)), ifp_n (iz_lt (by omega)), ifp_n (iz_eq (by omega))]
  refine ifp_r (fun z => ri_e (bad (fun w => by have := w.2.2.2.2.1; omega)).symm) (fun h5 => ifp_r (fun z => ri_e (bad (fun w => by have := w.2.2.2.2.1; omega)).symm) (fun h6 => ifp_r (fun z => ri_e (bad (fun w => w.2.2.2.2.2.1 z)).symm) (fun h7 => ?_)))
  have p1 : 1 ≤ c * s ∧ c * s ≤ 999 * 999 := ⟨by have := Int.mul_le_mul h1.1 h4.1 (by omega) (by omega); omega, Int.mul_le_mul h1.2 h4.2 (by omega) (by omega)⟩
  have p2 : 1 ≤ t * o ∧ t * o ≤ 999 * 999 := ⟨by have := Int.mul_le_mul h2.1 h3.1 (by omega) (by omega); omega, Int.mul_le_mul h2.2 h3.2 (by omega) (by omega)⟩
  have aB : -1000000 ≤ stA c t o s ∧ stA c t o s ≤ 1000000 := by unfold stA; split <;> omega
  have bB : 1 ≤ stB t s ∧ stB t s ≤ 999 := by unfold stB; split <;> omega
  have l81 : ∀ x w : Int, x = stA c t o s → w = stB t s → L_X_still_81 (d + 1) (iZ y) (iZ x) (iZ w) h = some (some (vI (iZ (stl c t o s y))), h) := by
    intro x w hx hw
    rw [hx, hw, e_X_still_81, e_X_commonDivisor]
    simp (disch := omega) only [lit32, litJ, iz_add, iz_sub, iz_mul, iz_neg, nI_iz, ix_iz, inb_iz, ifp_t, ifp_f, ifp_T, ifp_F, iz_eq, iz_lt, bI_s, bL_s, bV_s, bR_s]
    refine ifp_r (fun z => ?_) (fun z => ri_e (bad (fun w => z w.2.2.2.2.2.2)).symm)
    rw [x_gcd d 10 _ _ 0 (by omega) (by have : (2 : Int) ^ 10 = 1024 := rfl; omega) (by omega), bI_s]
    have gp : 0 < Nat.gcd (stA c t o s).toNat (stB t s).toNat := Nat.gcd_pos_of_pos_left _ (by omega)
    have gl : Nat.gcd (stA c t o s).toNat (stB t s).toNat ≤ (stA c t o s).toNat := Nat.le_of_dvd (by omega) (Nat.gcd_dvd_left _ _)
    have es : stl c t o s y = (if y = 0 then stA c t o s else stB t s) / (Nat.gcd (stA c t o s).toNat (stB t s).toNat : Nat) := if_pos ⟨h1, h2, h3, h4, by omega, h7, z⟩
    rw [es]
    simp (disch := omega) only [lit32, litJ, iz_add, iz_sub, iz_mul, iz_neg, nI_iz, ix_iz, inb_iz, ifp_t, ifp_f, ifp_T, ifp_F, iz_eq, iz_lt, bI_s, bL_s, bV_s, bR_s, iz_div]
    exact ifp_r (fun z => ri_e (by rw [if_pos z])) (fun z => ri_e (by rw [if_neg z]))
  simp (disch := omega) only [lit32, litJ, iz_add, iz_sub, iz_mul, iz_neg, nI_iz, ix_iz, inb_iz, ifp_t, ifp_f, ifp_T, ifp_F, iz_eq, iz_lt, bI_s, bL_s, bV_s, bR_s]
  rw [Int.mul_comm o t]
  by_cases h8 : s - t < 0
  · rw [ifp_t h8]
    exact l81 _ _ (by unfold stA; rw [if_pos h8]) (by unfold stB; rw [if_pos h8])
  · rw [ifp_f h8]
    exact l81 _ _ (by unfold stA; rw [if_neg h8]) (by unfold stB; rw [if_neg h8])
