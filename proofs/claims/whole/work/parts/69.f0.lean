/-! bits of longs -/
theorem w_of (n : Nat) : jZ n = Int64.ofNat n := Int64.ofInt_eq_ofNat
theorem w_c : ∀ k, k < 64 → ((nI k).toInt64 &&& 63) = Int64.ofNat k := by decide +kernel
theorem w_sm : ∀ k, k < 64 → ((Int64.ofNat k).toBitVec.smod 64).toNat = k := by decide +kernel
theorem w_ix {k : Nat} (hk : k < 64) : (iZ k).toInt64 &&& jZ 63 = Int64.ofNat k := by
  rw [← nI_iz]; exact w_c k hk
theorem w_shr {n k : Nat} (hn : n < 9223372036854775808) (hk : k < 64) : jZ n >>> ((iZ k).toInt64 &&& jZ 63) = jZ ((n / 2 ^ k : Nat) : Int) := by
  rw [w_ix hk]
  apply Int64.toInt_inj.mp
  have h2 : n / 2 ^ k ≤ n := Nat.div_le_self _ _
  obtain ⟨m, hm⟩ : ∃ m, m = n / 2 ^ k := ⟨_, rfl⟩
  rw [← hm] at h2 ⊢
  rw [jz_i (a := (m : Int)) (by omega) (by omega)]
  show ((jZ n).toBitVec.sshiftRight ((Int64.ofNat k).toBitVec.smod 64).toNat).toInt = _
  rw [w_sm k hk, BitVec.toInt_sshiftRight]
  show (jZ n).toInt >>> k = _
  rw [jz_i (by omega) (by omega), Int.shiftRight_eq_div_pow, hm]
  rfl
theorem w_or (a b : Nat) : jZ a ||| jZ b = jZ ((a ||| b : Nat) : Int) := by
  rw [w_of, w_of, w_of]
  apply Int64.toBitVec_inj.1
  exact BitVec.ofNat_or.symm
theorem w_and (a b : Nat) : jZ a &&& jZ b = jZ ((a &&& b : Nat) : Int) := by
  rw [w_of, w_of, w_of]
  apply Int64.toBitVec_inj.1
  exact BitVec.ofNat_and.symm
theorem w_one {k : Nat} (hk : k < 62) : jZ 1 <<< ((iZ k).toInt64 &&& jZ 63) = jZ ((2 ^ k : Nat) : Int) := by
  rw [w_ix (by omega), show jZ 1 = Int64.ofNat 1 from rfl, w_of]
  apply Int64.toBitVec_inj.1
  rw [Int64.toBitVec_shiftLeft]
  apply BitVec.eq_of_toNat_eq
  rw [BitVec.shiftLeft_eq', BitVec.toNat_shiftLeft, w_sm k (by omega)]
  show (BitVec.ofNat 64 1).toNat <<< k % 2 ^ 64 = (BitVec.ofNat 64 (2 ^ k)).toNat
  rw [BitVec.toNat_ofNat, BitVec.toNat_ofNat, Nat.shiftLeft_eq]
  have : (1 : Nat) % 2 ^ 64 = 1 := by decide
  rw [this, Nat.one_mul]
theorem w_tst {n k : Nat} (hn : n < 9223372036854775808) (hk : k < 64) : lg_cmp ((jZ n >>> ((iZ k).toInt64 &&& jZ 63)) &&& jZ 1) (jZ 0) = iZ 0 ↔ n.testBit k = false := by
  rw [w_shr hn hk, show (1 : Int) = ((1 : Nat) : Int) from rfl, w_and, Nat.and_one_is_mod]
  have h1 : n / 2 ^ k ≤ n := Nat.div_le_self _ _
  rw [cmp_eq (by omega), Nat.testBit_eq_decide_div_mod_eq]
  simp only [decide_eq_false_iff_not]
  omega
/-! which steps one comes to -/
def Opn (q v : Int → Int) (s : Int) : Prop := q (26 + s) ≠ 1 ∧ v (41 + s) ≠ 2
def LdF (q v : Int → Int) : Nat → Int → Int → Prop
  | 0, _, _ => False
  | n + 1, s, t => ∃ k, 0 ≤ k ∧ k < q 8 ∧ s + q (9 + k) ≤ q 0 ∧ Opn q v (s + q (9 + k)) ∧ (t = s + q (9 + k) ∨ LdF q v n (s + q (9 + k)) t)
def Ld (q v : Int → Int) (s t : Int) : Prop := LdF q v 41 s t
theorem LdF_s {q v : Int → Int} (V : VS q) : ∀ (n : Nat) (s t : Int), q 0 - s ≤ n → (LdF q v n s t ↔ LdF q v (n + 1) s t) := by
  intro n
  induction n with
  | zero =>
    intro s t h
    rw [LdF, LdF]
    refine ⟨fun y => absurd y id, ?_⟩
    rintro ⟨k, k1, k2, k3, k4⟩
    have := V.str k1 k2
    omega
  | succ n ih =>
    intro s t h
    rw [LdF, LdF]
    constructor
    · rintro ⟨k, k1, k2, k3, k4, k5⟩
      have := V.str k1 k2
      exact ⟨k, k1, k2, k3, k4, k5.elim Or.inl (fun y => Or.inr ((ih _ _ (by omega)).mp y))⟩
    · rintro ⟨k, k1, k2, k3, k4, k5⟩
      have := V.str k1 k2
      exact ⟨k, k1, k2, k3, k4, k5.elim Or.inl (fun y => Or.inr ((ih _ _ (by omega)).mpr y))⟩
theorem Ld_e {q v : Int → Int} (V : VS q) {s t : Int} (hs : 0 ≤ s) : Ld q v s t ↔ ∃ k, 0 ≤ k ∧ k < q 8 ∧ s + q (9 + k) ≤ q 0 ∧ Opn q v (s + q (9 + k)) ∧ (t = s + q (9 + k) ∨ Ld q v (s + q (9 + k)) t) := by
  have v1 := V.top
  show LdF q v 41 s t ↔ _
  rw [LdF]
  constructor
  · rintro ⟨k, k1, k2, k3, k4, k5⟩
    have := V.str k1 k2
    exact ⟨k, k1, k2, k3, k4, k5.elim Or.inl (fun y => Or.inr ((LdF_s V 40 _ _ (by omega)).mp y))⟩
  · rintro ⟨k, k1, k2, k3, k4, k5⟩
    have := V.str k1 k2
    exact ⟨k, k1, k2, k3, k4, k5.elim Or.inl (fun y => Or.inr ((LdF_s V 40 _ _ (by omega)).mpr y))⟩
theorem Ld_o {q v : Int → Int} (V : VS q) {s t : Int} (h : Ld q v s t) : Opn q v t ∧ s < t ∧ t ≤ q 0 := by
  have : ∀ (n : Nat) (s t : Int), LdF q v n s t → Opn q v t ∧ s < t ∧ t ≤ q 0 := by
    intro n
    induction n with
    | zero => intro s t h; exact absurd h id
    | succ n ih =>
      intro s t h
      rw [LdF] at h
      obtain ⟨k, k1, k2, k3, k4, k5⟩ := h
      have := V.str k1 k2
      rcases k5 with rfl | k5
      · exact ⟨k4, by omega, k3⟩
      · have i := ih _ _ k5
        exact ⟨i.1, by omega, i.2.2⟩
  exact this 41 s t h
/-! the model's -/
theorem m_isOpen (d : Nat) {h : Hp} (S : SM h) {z : Int} (hz : 0 ≤ z ∧ z ≤ 41) : evm (d + 2) 229 [vR 12 68, vI (iZ z)] h = some (some (vI (bZ (Opn (rz h 74) (rz h 79) z))), h) := by
  have r1 := rz_rg h 74 (26 + z)
  have r2 := rz_rg h 79 (41 + z)
  rw [e_M_isOpen, m_kindOf d S (by omega)]
  simp (disch := omega) only [S.r 17 79, S.n 79 420, lit32, litJ, iz_add, iz_sub, iz_mul, iz_neg, nI_iz, ix_iz, inb_iz, ifp_t, ifp_f, iz_eq, iz_lt, bI_s, bL_s, bV_s, bR_s, rz_iz]
  unfold Opn
  exact ifp_r (fun y => rb_f (fun z => z.1 y)) (fun y => ifp_r (fun w => rb_f (fun z => z.2 w)) (fun w => rb_t ⟨y, w⟩))
theorem m_isTrodden (d : Nat) {h : Hp} (S : SM h) {z : Int} (hz : 0 ≤ z ∧ z ≤ 41) : evm (d + 1) 231 [vR 12 68, vI (iZ z)] h = some (some (vI (bZ (rz h 79 (41 + z) = 1))), h) := by
  have r2 := rz_rg h 79 (41 + z)
  rw [e_M_isTrodden]
  simp (disch := omega) only [S.r 17 79, S.n 79 420, lit32, litJ, iz_add, iz_sub, iz_mul, iz_neg, nI_iz, ix_iz, inb_iz, ifp_t, ifp_f, iz_eq, iz_lt, bI_s, bL_s, bV_s, bR_s, rz_iz]
  exact ifp_r (fun y => rb_t y) (fun y => rb_f y)
def LdM (q v : Int → Int) (s t : Int) : Prop := Opn q v s ∧ (s = t ∨ Ld q v s t)
theorem m_findLeads (d : Nat) {h : Hp} (S : SM h) (V : VS (rz h 74)) : ∃ F, evm (d + 3) 230 [vR 12 68] h = some (none, wI h 89 F) ∧ ∀ s t, 0 ≤ s → s ≤ rz h 74 0 → 0 ≤ t → t ≤ rz h 74 0 → F (41 * s + t).toNat = bZ (LdM (rz h 74) (rz h 79) s t) := by
  have e74 : ∀ {F}, rz (wI h 89 F) 74 = rz h 74 := fun {F} => wI_rz h F (by decide)
  have e79 : ∀ {F}, rz (wI h 89 F) 79 = rz h 79 := fun {F} => wI_rz h F (by decide)
  have S' : ∀ {F}, SM (wI h 89 F) := fun {_} => S
  obtain ⟨q, hq⟩ : ∃ q, q = rz h 74 := ⟨_, rfl⟩
  obtain ⟨v, hv⟩ : ∃ v, v = rz h 79 := ⟨_, rfl⟩
  rw [← hq] at V e74 ⊢
  rw [← hv] at e79 ⊢
  have v1 := V.top
  have vn := V.n
  have opn : ∀ (F : Nat → Int32) (z : Int), (0 ≤ z ∧ z ≤ 41) → evm (d + 2) 229 [vR 12 68, vI (iZ z)] (wI h 89 F) = some (some (vI (bZ (Opn q v z))), wI h 89 F) := by
    intro F z hz
    have := m_isOpen d (S' (F := F)) hz
    rw [e74, e79] at this
    exact this
  have l5 : ∀ s, -1 ≤ s ∧ s ≤ q 0 → ∀ F : Nat → Int32, (∀ s' t, s < s' → s' ≤ q 0 → 0 ≤ t → t ≤ q 0 → F (41 * s' + t).toNat = bZ (LdM q v s' t)) → ∃ F', L_M_findLeads_5 (d + 2) 68 (iZ s) (wI h 89 F) = some (none, wI h 89 F') ∧ ∀ s t, 0 ≤ s → s ≤ q 0 → 0 ≤ t → t ≤ q 0 → F' (41 * s + t).toNat = bZ (LdM q v s t) := by
    refine lpD (fun s hs hb F hF => ?_) (fun s hs ih hb F hF => ?_)
    · rw [e_M_findLeads_5]
      simp (disch := omega) only [lit32, litJ, iz_add, iz_sub, iz_mul, iz_neg, nI_iz, ix_iz, inb_iz, ifp_t, ifp_f, ifp_T, ifp_F, iz_eq, iz_lt, bI_s, bL_s, bV_s, bR_s]
      exact ⟨F, rfl, fun s' t h1 h2 => hF s' t (by omega) h2⟩
    · have l11 : ∀ t, 0 ≤ t ∧ t ≤ q 0 + 1 → ∀ F : Nat → Int32, (∀ s' t', (s < s' ∨ s' = s ∧ t' < t) → s' ≤ q 0 → 0 ≤ t' → t' ≤ q 0 → F (41 * s' + t').toNat = bZ (LdM q v s' t')) → ∃ F', L_M_findLeads_11 (d + 2) 68 (iZ s) (iZ t) (wI h 89 F) = some (none, wI h 89 F') ∧ ∀ s t, 0 ≤ s → s ≤ q 0 → 0 ≤ t → t ≤ q 0 → F' (41 * s + t).toNat = bZ (LdM q v s t) := by
        refine lpZ (q 0 + 1) (fun t ht htb F hF => ?_) (fun t ht iht htb F hF => ?_)
        · rw [e_M_findLeads_11, m_steps (d + 1) S', bI_s, e74]
          simp (disch := omega) only [lit32, litJ, iz_add, iz_sub, iz_mul, iz_neg, nI_iz, ix_iz, inb_iz, ifp_t, ifp_f, ifp_T, ifp_F, iz_eq, iz_lt, bI_s, bL_s, bV_s, bR_s]
          exact ih (by omega) F (fun s' t' h1 h2 h3 h4 => hF s' t' (by omega) h2 h3 h4)
        · have l114 : ∀ b : Prop, (b ↔ LdM q v s t) → ∃ F', L_M_findLeads_114 (d + 2) 68 (iZ s) (iZ t) (bZ b) (wI h 89 F) = some (none, wI h 89 F') ∧ ∀ s t, 0 ≤ s → s ≤ q 0 → 0 ≤ t → t ≤ q 0 → F' (41 * s + t).toNat = bZ (LdM q v s t) := by
            intro b hb'
            rw [e_M_findLeads_114]
            simp (disch := omega) only [lit32, litJ, iz_add, iz_sub, iz_mul, iz_neg, nI_iz, ix_iz, inb_iz, ifp_t, ifp_f, ifp_T, ifp_F, iz_eq, iz_lt, bI_s, bL_s, bV_s, bR_s, S'.r 33 89, S'.n 89 1681, bZ_B, cond_true, sI_wI]
            refine iht (by omega) _ (fun s' t' h1 h2 h3 h4 => ?_)
            by_cases e : s' = s ∧ t' = t
            · rw [e.1, e.2, up_e, bZ_c hb']
            · rw [up_n _ _ (by omega)]; exact hF s' t' (by omega) h2 h3 h4
          have l41 : ∀ k, 0 ≤ k ∧ k ≤ q 8 → ∀ b : Prop, (b ↔ (s = t ∧ Opn q v s) ∨ (Opn q v s ∧ ∃ i, 0 ≤ i ∧ i < k ∧ s + q (9 + i) ≤ t ∧ Opn q v (s + q (9 + i)) ∧ LdM q v (s + q (9 + i)) t)) → ∃ F', L_M_findLeads_41 (d + 2) 68 (iZ s) (iZ t) (bZ b) (iZ k) (wI h 89 F) = some (none, wI h 89 F') ∧ ∀ s t, 0 ≤ s → s ≤ q 0 → 0 ≤ t → t ≤ q 0 → F' (41 * s + t).toNat = bZ (LdM q v s t) := by
            refine lpZ (q 8) (fun k hk hkb b hbb => ?_) (fun k hk ihk hkb b hbb => ?_)
            · rw [e_M_findLeads_41, m_strides (d + 1) S', bI_s, e74]
              simp (disch := omega) only [lit32, litJ, iz_add, iz_sub, iz_mul, iz_neg, nI_iz, ix_iz, inb_iz, ifp_t, ifp_f, ifp_T, ifp_F, iz_eq, iz_lt, bI_s, bL_s, bV_s, bR_s]
              refine l114 b ?_
              rw [hbb]
              unfold LdM
              rw [Ld_e V hs]
              constructor
              · rintro (⟨h1, h2⟩ | ⟨h1, i, i1, i2, i3, i4, i5⟩)
                · exact ⟨h2, Or.inl h1⟩
                · refine ⟨h1, Or.inr ⟨i, i1, by omega, by omega, i4, i5.2.elim (fun y => Or.inl y.symm) Or.inr⟩⟩
              · rintro ⟨h1, h2 | ⟨i, i1, i2, i3, i4, i5⟩⟩
                · exact Or.inl ⟨h2, h1⟩
                · refine Or.inr ⟨h1, i, i1, by omega, ?_, i4, i4, i5.elim (fun y => Or.inl y.symm) Or.inr⟩
                  rcases i5 with rfl | i5
                  · omega
                  · have := (Ld_o V i5).2.1; omega
            · have vs := V.str hkb.1 hk
              rw [e_M_findLeads_41, m_strides (d + 1) S', bI_s, e74, opn F s (by omega), bI_s]
              simp (disch := omega) only [lit32, litJ, iz_add, iz_sub, iz_mul, iz_neg, nI_iz, ix_iz, inb_iz, ifp_t, ifp_f, ifp_T, ifp_F, iz_eq, iz_lt, bI_s, bL_s, bV_s, bR_s, bZ_0]
              by_cases ho : Opn q v s
              · rw [ifp_f (fun y => y ho), e_M_findLeads_58, m_strideOf (d + 1) S' (by omega), bI_s, e74]
                simp (disch := omega) only [lit32, litJ, iz_add, iz_sub, iz_mul, iz_neg, nI_iz, ix_iz, inb_iz, ifp_t, ifp_f, ifp_T, ifp_F, iz_eq, iz_lt, bI_s, bL_s, bV_s, bR_s, bZ_0]
                have next : ∀ c : Prop, (c ↔ b ∨ (s + q (9 + k) ≤ t ∧ Opn q v (s + q (9 + k)) ∧ LdM q v (s + q (9 + k)) t)) → ∃ F', L_M_findLeads_41 (d + 2) 68 (iZ s) (iZ t) (bZ c) (iZ (k + 1)) (wI h 89 F) = some (none, wI h 89 F') ∧ ∀ s t, 0 ≤ s → s ≤ q 0 → 0 ≤ t → t ≤ q 0 → F' (41 * s + t).toNat = bZ (LdM q v s t) := by
                  intro c hc
                  refine ihk (by omega) c ?_
                  rw [hc, hbb]
                  constructor
                  · rintro ((h1 | ⟨h1, i, i1, i2, i3⟩) | h1)
                    · exact Or.inl h1
                    · exact Or.inr ⟨h1, i, i1, by omega, i3⟩
                    · exact Or.inr ⟨ho, k, hkb.1, by omega, h1⟩
                  · rintro (h1 | ⟨h1, i, i1, i2, i3⟩)
                    · exact Or.inl (Or.inl h1)
                    · by_cases e : i = k
                      · subst e; exact Or.inr i3
                      · exact Or.inl (Or.inr ⟨h1, i, i1, by omega, i3⟩)
                have nT := fun hc => next True ⟨fun _ => hc, fun _ => trivial⟩
                have nF := fun hc => next False ⟨fun y => absurd y id, hc⟩
                rw [bZ_t trivial] at nT
                rw [bZ_f id] at nF
                by_cases hbv : b
                · rw [ifp_f (fun y => y hbv)]
                  exact nT (Or.inl hbv)
                · rw [ifp_t hbv]
                  by_cases c1 : t < s + q (9 + k)
                  · rw [ifp_t c1]
                    exact nF (fun y => y.elim hbv (fun z => by omega))
                  · rw [ifp_f c1, opn F _ (by omega), bI_s]
                    simp (disch := omega) only [lit32, litJ, iz_add, iz_sub, iz_mul, iz_neg, nI_iz, ix_iz, inb_iz, ifp_t, ifp_f, ifp_T, ifp_F, iz_eq, iz_lt, bI_s, bL_s, bV_s, bR_s, bZ_0]
                    by_cases c2 : Opn q v (s + q (9 + k))
                    · rw [ifp_f (fun y => y c2)]
                      simp (disch := omega) only [lit32, litJ, iz_add, iz_sub, iz_mul, iz_neg, nI_iz, ix_iz, inb_iz, ifp_t, ifp_f, ifp_T, ifp_F, iz_eq, iz_lt, bI_s, bL_s, bV_s, bR_s, S'.r 33 89, S'.n 89 1681, wI_I, hF (s + q (9 + k)) t (by omega) (by omega) (by omega) (by omega), bZ_0]
                      by_cases c3 : LdM q v (s + q (9 + k)) t
                      · rw [ifp_f (fun y => y c3)]
                        exact nT (Or.inr ⟨by omega, c2, c3⟩)
                      · rw [ifp_t c3]
                        exact nF (fun y => y.elim hbv (fun z => c3 z.2.2))
                    · rw [ifp_t c2]
                      exact nF (fun y => y.elim hbv (fun z => c2 z.2.1))
              · rw [ifp_t ho]
                refine l114 b ?_
                rw [hbb]
                exact ⟨fun y => y.elim (fun z => absurd z.2 ho) (fun z => absurd z.1 ho), fun y => absurd y.1 ho⟩
          have start := fun (b : Prop) (hb : b ↔ (s = t ∧ Opn q v s)) => l41 0 (by omega) b (by
            rw [hb]
            exact ⟨Or.inl, fun y => y.elim id (fun ⟨_, i, i1, i2, _⟩ => by omega)⟩)
          have nT := fun hc => start True ⟨fun _ => hc, fun _ => trivial⟩
          have nF := fun hc => start False ⟨fun y => absurd y id, hc⟩
          rw [bZ_t trivial] at nT
          rw [bZ_f id] at nF
          rw [e_M_findLeads_11, m_steps (d + 1) S', bI_s, e74]
          simp (disch := omega) only [lit32, litJ, iz_add, iz_sub, iz_mul, iz_neg, nI_iz, ix_iz, inb_iz, ifp_t, ifp_f, ifp_T, ifp_F, iz_eq, iz_lt, bI_s, bL_s, bV_s, bR_s]
          by_cases c1 : s = t
          · rw [ifp_t c1, opn F s (by omega), bI_s]
            simp only [bZ_0]
            by_cases c2 : Opn q v s
            · rw [ifp_f (fun y => y c2)]
              exact nT ⟨c1, c2⟩
            · rw [ifp_t c2]
              exact nF (fun y => c2 y.2)
          · rw [ifp_f c1]
            exact nF (fun y => c1 y.1)
      rw [e_M_findLeads_5]
      simp (disch := omega) only [lit32, litJ, iz_add, iz_sub, iz_mul, iz_neg, nI_iz, ix_iz, inb_iz, ifp_t, ifp_f, ifp_T, ifp_F, iz_eq, iz_lt, bI_s, bL_s, bV_s, bR_s]
      exact l11 0 (by omega) F (fun s' t' h1 h2 h3 h4 => hF s' t' (by omega) h2 h3 h4)
  rw [e_M_findLeads, m_steps (d + 1) S, bI_s, ← hq]
  have := l5 (q 0) (by omega) (hI h 89) (fun s' t h1 h2 => by omega)
  rw [wI_self] at this
  exact this
/-! the class's -/
theorem x_reached (d : Nat) {h : Hp} (X : SX h) {o : Nat} (t : TO o) {q v : Int → Int} (R : SR h o q) (V : VS q) (D : ∀ s, 0 ≤ s → s ≤ 40 → hI h 46 s.toNat = iZ (v (41 + s)) ∧ 0 ≤ v (41 + s) ∧ v (41 + s) ≤ 2) : ∃ F T, evm (d + 1) 63 [vR 7 20, vR 5 o, vR 20 46] h = some (none, wL (wI h 22 F) 21 T) ∧ (∀ s, 0 ≤ s → s ≤ q 0 → F s.toNat = iZ (-1)) ∧ ∀ s, 0 ≤ s → s ≤ q 0 → ∃ B : Nat, B < 2 ^ 41 ∧ T s.toNat = jZ B ∧ ∀ z : Nat, B.testBit z = true ↔ Ld q v s z := by
  have tt := t
  unfold TO at tt
  have v1 := V.top
  have vn := V.n
  have X' : ∀ {F T}, SX (wL (wI h 22 F) 21 T) := fun {_ _} => X
  have R' : ∀ {F T}, SR (wL (wI h 22 F) 21 T) o q := fun {F T} => R.tr (fun r r1 r2 => by
    show hI (wI h 22 F) r = _
    rw [wI_n _ _ (by omega)])
  have D' : ∀ {F T}, hI (wL (wI h 22 F) 21 T) 46 = hI h 46 := fun {F T} => by
    show hI (wI h 22 F) 46 = _
    rw [wI_n _ _ (by decide)]
  have l5 : ∀ s, -1 ≤ s ∧ s ≤ q 0 → ∀ (F : Nat → Int32) (T : Nat → Int64), (∀ j, s < j → j ≤ q 0 → F j.toNat = iZ (-1)) → (∀ j, s < j → j ≤ q 0 → ∃ B : Nat, B < 2 ^ 41 ∧ T j.toNat = jZ B ∧ ∀ z : Nat, B.testBit z = true ↔ Ld q v j z) → ∃ F' T', L_Sweep_findReached_5 d 20 o 46 (iZ s) (wL (wI h 22 F) 21 T) = some (none, wL (wI h 22 F') 21 T') ∧ (∀ s, 0 ≤ s → s ≤ q 0 → F' s.toNat = iZ (-1)) ∧ ∀ s, 0 ≤ s → s ≤ q 0 → ∃ B : Nat, B < 2 ^ 41 ∧ T' s.toNat = jZ B ∧ ∀ z : Nat, B.testBit z = true ↔ Ld q v s z := by
    refine lpD (fun s hs hb F T hF hT => ?_) (fun s hs ih hb F T hF hT => ?_)
    · rw [e_Sweep_findReached_5]
      simp (disch := omega) only [lit32, litJ, iz_add, iz_sub, iz_mul, iz_neg, nI_iz, ix_iz, inb_iz, ifp_t, ifp_f, ifp_T, ifp_F, iz_eq, iz_lt, bI_s, bL_s, bV_s, bR_s]
      exact ⟨F, T, rfl, fun j j1 j2 => hF j (by omega) j2, fun j j1 j2 => hT j (by omega) j2⟩
    · have l26 : ∀ k, 0 ≤ k ∧ k ≤ q 8 → ∀ (F : Nat → Int32) (T : Nat → Int64), (∀ j, s ≤ j → j ≤ q 0 → F j.toNat = iZ (-1)) → (∀ j, s < j → j ≤ q 0 → ∃ B : Nat, B < 2 ^ 41 ∧ T j.toNat = jZ B ∧ ∀ z : Nat, B.testBit z = true ↔ Ld q v j z) → (∃ B : Nat, B < 2 ^ 41 ∧ T s.toNat = jZ B ∧ ∀ z : Nat, B.testBit z = true ↔ ∃ i, 0 ≤ i ∧ i < k ∧ s + q (9 + i) ≤ q 0 ∧ Opn q v (s + q (9 + i)) ∧ ((z : Int) = s + q (9 + i) ∨ Ld q v (s + q (9 + i)) z)) → ∃ F' T', L_Sweep_findReached_26 d 20 o 46 (iZ s) (iZ k) (wL (wI h 22 F) 21 T) = some (none, wL (wI h 22 F') 21 T') ∧ (∀ s, 0 ≤ s → s ≤ q 0 → F' s.toNat = iZ (-1)) ∧ ∀ s, 0 ≤ s → s ≤ q 0 → ∃ B : Nat, B < 2 ^ 41 ∧ T' s.toNat = jZ B ∧ ∀ z : Nat, B.testBit z = true ↔ Ld q v s z := by
        refine lpZ (q 8) (fun k hk hkb F T hF hT hB => ?_) (fun k hk ihk hkb F T hF hT hB => ?_)
        · rw [e_Sweep_findReached_26, R'.n]
          simp (disch := omega) only [lit32, litJ, iz_add, iz_sub, iz_mul, iz_neg, nI_iz, ix_iz, inb_iz, ifp_t, ifp_f, ifp_T, ifp_F, iz_eq, iz_lt, bI_s, bL_s, bV_s, bR_s]
          rw [show s + -1 = s - 1 by omega]
          refine ih (by omega) F T (fun j j1 j2 => hF j (by omega) j2) (fun j j1 j2 => ?_)
          by_cases e : j = s
          · subst e
            obtain ⟨B, b1, b2, b3⟩ := hB
            refine ⟨B, b1, b2, fun z => ?_⟩
            rw [b3, Ld_e V hs, show k = q 8 by omega]
          · exact hT j (by omega) j2
        · have vs := V.str hkb.1 hk
          obtain ⟨B, b1, b2, b3⟩ := hB
          have same : ¬ (s + q (9 + k) ≤ q 0 ∧ Opn q v (s + q (9 + k))) → ∃ F' T', L_Sweep_findReached_26 d 20 o 46 (iZ s) (iZ (k + 1)) (wL (wI h 22 F) 21 T) = some (none, wL (wI h 22 F') 21 T') ∧ (∀ s, 0 ≤ s → s ≤ q 0 → F' s.toNat = iZ (-1)) ∧ ∀ s, 0 ≤ s → s ≤ q 0 → ∃ B : Nat, B < 2 ^ 41 ∧ T' s.toNat = jZ B ∧ ∀ z : Nat, B.testBit z = true ↔ Ld q v s z := by
            intro hno
            refine ihk (by omega) F T hF hT ⟨B, b1, b2, fun z => ?_⟩
            rw [b3]
            constructor
            · rintro ⟨i, i1, i2, i3⟩; exact ⟨i, i1, by omega, i3⟩
            · rintro ⟨i, i1, i2, i3, i4, i5⟩
              by_cases e : i = k
              · subst e; exact absurd ⟨i3, i4⟩ hno
              · exact ⟨i, i1, by omega, i3, i4, i5⟩
          rw [e_Sweep_findReached_26, R'.n]
          simp (disch := omega) only [lit32, litJ, iz_add, iz_sub, iz_mul, iz_neg, nI_iz, ix_iz, inb_iz, ifp_t, ifp_f, ifp_T, ifp_F, iz_eq, iz_lt, bI_s, bL_s, bV_s, bR_s]
          rw [e_Sweep_findReached_35]
          simp (disch := omega) only [lit32, litJ, iz_add, iz_sub, iz_mul, iz_neg, nI_iz, ix_iz, inb_iz, ifp_t, ifp_f, ifp_T, ifp_F, iz_eq, iz_lt, bI_s, bL_s, bV_s, bR_s, X'.o0 t, X'.n1 t, R'.str hkb.1 hk, R'.top]
          by_cases c1 : q 0 < s + q (9 + k)
          · rw [ifp_t c1]
            exact same (fun y => by omega)
          · have kb := V.kin (s := s + q (9 + k)) (by omega) (by omega)
            have dk := D (s + q (9 + k)) (by omega) (by omega)
            rw [ifp_f c1]
            simp (disch := omega) only [lit32, litJ, iz_add, iz_sub, iz_mul, iz_neg, nI_iz, ix_iz, inb_iz, ifp_t, ifp_f, ifp_T, ifp_F, iz_eq, iz_lt, bI_s, bL_s, bV_s, bR_s, X'.o2 t, X'.n3 t, R'.kin (s := s + q (9 + k)) (by omega) (by omega)]
            by_cases c2 : q (26 + (s + q (9 + k))) = 1
            · rw [ifp_t c2]
              exact same (fun y => y.2.1 c2)
            · rw [ifp_f c2]
              simp (disch := omega) only [lit32, litJ, iz_add, iz_sub, iz_mul, iz_neg, nI_iz, ix_iz, inb_iz, ifp_t, ifp_f, ifp_T, ifp_F, iz_eq, iz_lt, bI_s, bL_s, bV_s, bR_s, X'.n 46 41, D', dk.1]
              by_cases c3 : v (41 + (s + q (9 + k))) = 2
              · rw [ifp_t c3]
                exact same (fun y => y.2.2 c3)
              · obtain ⟨B2, d1, d2, d3⟩ := hT (s + q (9 + k)) (by omega) (by omega)
                rw [ifp_f c3]
                simp (disch := omega) only [lit32, litJ, iz_add, iz_sub, iz_mul, iz_neg, nI_iz, ix_iz, inb_iz, ifp_t, ifp_f, ifp_T, ifp_F, iz_eq, iz_lt, bI_s, bL_s, bV_s, bR_s, X'.r 20 0 21, X'.n 21 41, wL_L, b2, d2]
                have es : iZ (s + q (9 + k)) = iZ (((s + q (9 + k)).toNat : Nat) : Int) := by congr 1; omega
                rw [es, w_one (by omega), w_or, w_or, sL_wL]
                refine ihk (by omega) F _ hF (fun j j1 j2 => ?_) ⟨B ||| (B2 ||| 2 ^ (s + q (9 + k)).toNat), Nat.or_lt_two_pow b1 (Nat.or_lt_two_pow d1 (Nat.pow_lt_pow_right (by decide) (by omega))), up_e _ _ _, fun z => ?_⟩
                · rw [up_n _ _ (by omega)]; exact hT j j1 j2
                · rw [Nat.testBit_or, Bool.or_eq_true, tb_or, b3, d3]
                  constructor
                  · rintro (⟨i, i1, i2, i3⟩ | h1 | h1)
                    · exact ⟨i, i1, by omega, i3⟩
                    · exact ⟨k, hkb.1, by omega, by omega, ⟨c2, c3⟩, Or.inr h1⟩
                    · exact ⟨k, hkb.1, by omega, by omega, ⟨c2, c3⟩, Or.inl (by omega)⟩
                  · rintro ⟨i, i1, i2, i3, i4, i5⟩
                    by_cases e : i = k
                    · subst e
                      exact Or.inr (i5.elim (fun y => Or.inr (by omega)) Or.inl)
                    · exact Or.inl ⟨i, i1, by omega, i3, i4, i5⟩
      rw [e_Sweep_findReached_5]
      have sIw : ∀ (x : Int32), sI (wL (wI h 22 F) 21 T) 22 s.toNat x = wL (wI h 22 (up F s.toNat x)) 21 T := fun x => by
        show wL (sI (wI h 22 F) 22 s.toNat x) 21 T = _
        rw [sI_wI]
      simp (disch := omega) only [lit32, litJ, iz_add, iz_sub, iz_mul, iz_neg, nI_iz, ix_iz, inb_iz, ifp_t, ifp_f, ifp_T, ifp_F, iz_eq, iz_lt, bI_s, bL_s, bV_s, bR_s, X'.r 20 1 22, X'.n 22 41, sIw, X'.r 20 0 21, X'.n 21 41, sL_wL]
      refine l26 0 (by omega) _ _ (fun j j1 j2 => ?_) (fun j j1 j2 => ?_) ⟨0, by decide, up_e _ _ _, fun z => ?_⟩
      · by_cases e : j = s
        · rw [e, up_e]
        · rw [up_n _ _ (by omega)]; exact hF j (by omega) j2
      · rw [up_n _ _ (by omega)]; exact hT j j1 j2
      · rw [Nat.zero_testBit]
        exact ⟨fun y => (by cases y), fun ⟨i, i1, i2, _⟩ => by omega⟩
  rw [e_Sweep_findReached, R.top]
  have := l5 (q 0) (by omega) (hI h 22) (hL h 21) (fun j j1 j2 => by omega) (fun j j1 j2 => by omega)
  rw [wI_self] at this
  rw [wL_self] at this
  exact this
