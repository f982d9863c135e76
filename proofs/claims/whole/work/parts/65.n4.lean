/-! heaps -/
theorem mx_c {P P' : Int → Prop} (h : ∀ m, 0 ≤ m → m ≤ 6 → (P m ↔ P' m)) : mx P = mx P' := by
  unfold mx
  rw [propext (h 0 (by omega) (by omega)), propext (h 1 (by omega) (by omega)), propext (h 2 (by omega) (by omega)), propext (h 3 (by omega) (by omega)), propext (h 4 (by omega) (by omega)), propext (h 5 (by omega) (by omega))]
theorem mx_b (P : Int → Prop) : 0 ≤ mx P ∧ mx P ≤ 6 := by
  unfold mx pif
  repeat' split
  all_goals omega
theorem mx_e {P : Int → Prop} {j : Int} (hj : 0 ≤ j ∧ j ≤ 6) (h1 : ∀ i, 0 ≤ i → i < j → P i) (h2 : ¬ P j) : mx P = j := by
  have c : j = 0 ∨ j = 1 ∨ j = 2 ∨ j = 3 ∨ j = 4 ∨ j = 5 ∨ j = 6 := by omega
  unfold mx
  rcases c with rfl | rfl | rfl | rfl | rfl | rfl | rfl
  · rw [pif_t h2]
  · rw [pif_f (fun y => y (h1 0 (by omega) (by omega))), pif_t h2]
  · rw [pif_f (fun y => y (h1 0 (by omega) (by omega))), pif_f (fun y => y (h1 1 (by omega) (by omega))), pif_t h2]
  · rw [pif_f (fun y => y (h1 0 (by omega) (by omega))), pif_f (fun y => y (h1 1 (by omega) (by omega))), pif_f (fun y => y (h1 2 (by omega) (by omega))), pif_t h2]
  · rw [pif_f (fun y => y (h1 0 (by omega) (by omega))), pif_f (fun y => y (h1 1 (by omega) (by omega))), pif_f (fun y => y (h1 2 (by omega) (by omega))), pif_f (fun y => y (h1 3 (by omega) (by omega))), pif_t h2]
  · rw [pif_f (fun y => y (h1 0 (by omega) (by omega))), pif_f (fun y => y (h1 1 (by omega) (by omega))), pif_f (fun y => y (h1 2 (by omega) (by omega))), pif_f (fun y => y (h1 3 (by omega) (by omega))), pif_f (fun y => y (h1 4 (by omega) (by omega))), pif_t h2]
  · rw [pif_f (fun y => y (h1 0 (by omega) (by omega))), pif_f (fun y => y (h1 1 (by omega) (by omega))), pif_f (fun y => y (h1 2 (by omega) (by omega))), pif_f (fun y => y (h1 3 (by omega) (by omega))), pif_f (fun y => y (h1 4 (by omega) (by omega))), pif_f (fun y => y (h1 5 (by omega) (by omega)))]
theorem Hpf_b (q : Int → Int) (n : Nat) (s : Int) : -1 ≤ Hpf q n s ∧ Hpf q n s ≤ 6 := by
  cases n with
  | zero => rw [Hpf]; omega
  | succ n =>
    rw [Hpf]
    by_cases h : q (26 + s) = 1
    · rw [pif_t h]; omega
    · rw [pif_f h]; have := mx_b (fun m => ∃ k, 0 ≤ k ∧ k < q 8 ∧ s + q (9 + k) ≤ q 0 ∧ q (26 + (s + q (9 + k))) ≠ 1 ∧ Hpf q n (s + q (9 + k)) = m); omega
theorem Hpf_s {q : Int → Int} (V : VS q) : ∀ (n : Nat) (s : Int), s ≤ q 0 → q 0 - s < n → Hpf q n s = Hpf q (n + 1) s := by
  intro n
  induction n with
  | zero => intro s h0 h; omega
  | succ n ih =>
    intro s h0 h
    rw [Hpf, Hpf]
    refine pif_c Iff.rfl (fun _ => rfl) (fun _ => mx_c fun m _ _ => ?_)
    constructor
    · rintro ⟨k, k1, k2, k3, k4, k5⟩
      have := V.str k1 k2
      exact ⟨k, k1, k2, k3, k4, by rw [← ih _ k3 (by omega)]; exact k5⟩
    · rintro ⟨k, k1, k2, k3, k4, k5⟩
      have := V.str k1 k2
      exact ⟨k, k1, k2, k3, k4, by rw [ih _ k3 (by omega)]; exact k5⟩
theorem Hpv_e {q : Int → Int} (V : VS q) {s : Int} (h0 : 0 ≤ s) (h1 : s ≤ q 0) : Hpv q s = pif (q (26 + s) = 1) (-1) (mx fun m => ∃ k, 0 ≤ k ∧ k < q 8 ∧ s + q (9 + k) ≤ q 0 ∧ q (26 + (s + q (9 + k))) ≠ 1 ∧ Hpv q (s + q (9 + k)) = m) := by
  have v1 := V.top
  show Hpf q 41 s = _
  rw [Hpf]
  refine pif_c Iff.rfl (fun _ => rfl) (fun _ => mx_c fun m _ _ => ?_)
  constructor
  · rintro ⟨k, k1, k2, k3, k4, k5⟩
    have := V.str k1 k2
    exact ⟨k, k1, k2, k3, k4, by unfold Hpv; rw [← Hpf_s V 40 _ k3 (by omega)]; exact k5⟩
  · rintro ⟨k, k1, k2, k3, k4, k5⟩
    have := V.str k1 k2
    exact ⟨k, k1, k2, k3, k4, by unfold Hpv at k5; rw [Hpf_s V 40 _ k3 (by omega)]; exact k5⟩
theorem Hpv_b {q : Int → Int} (V : VS q) {s : Int} (h0 : 0 ≤ s) (h1 : s ≤ q 0) (hk : q (26 + s) ≠ 1) : 0 ≤ Hpv q s ∧ Hpv q s ≤ 6 := by
  rw [Hpv_e V h0 h1, pif_f hk]; exact mx_b _
/-- the heaps that are met -/
noncomputable def Mt (q : Int → Int) (s : Int) : Nat → Nat
  | 0 => 0
  | k + 1 => @ite _ (s + q (9 + k) ≤ q 0 ∧ q (26 + (s + q (9 + k))) ≠ 1) (Classical.propDecidable _) (Mt q s k ||| 2 ^ (Hpv q (s + q (9 + k))).toNat) (Mt q s k)
def pc7 (m : Nat) : Nat := (m.testBit 0).toNat + (m.testBit 1).toNat + (m.testBit 2).toNat + (m.testBit 3).toNat + (m.testBit 4).toNat + (m.testBit 5).toNat + (m.testBit 6).toNat
theorem pc7_o : ∀ m, m < 128 → ∀ b, b < 7 → pc7 (m ||| 2 ^ b) ≤ pc7 m + 1 := by decide +kernel
theorem Mt_b {q : Int → Int} (V : VS q) {s : Int} (hs : 0 ≤ s) : ∀ k : Nat, (k : Int) ≤ q 8 → Mt q s k < 128 ∧ pc7 (Mt q s k) ≤ k := by
  intro k
  induction k with
  | zero => intro _; exact ⟨show (0 : Nat) < 128 by decide, show pc7 0 ≤ 0 by decide⟩
  | succ k ih =>
    intro hk
    obtain ⟨a, b⟩ := ih (by omega)
    rw [Mt]
    have vs := V.str (k := k) (by omega) (by omega)
    by_cases h : s + q (9 + k) ≤ q 0 ∧ q (26 + (s + q (9 + k))) ≠ 1
    · rw [if_pos h]
      have hb := Hpv_b V (s := s + q (9 + k)) (by omega) h.1 h.2
      exact ⟨or_lt (n := 7) a (by omega), Nat.le_trans (pc7_o _ a _ (by omega)) (by omega)⟩
    · rw [if_neg h]; exact ⟨a, by omega⟩
theorem Mt_t {q : Int → Int} {s : Int} (j : Nat) : ∀ k : Nat, (Mt q s k).testBit j = true ↔ ∃ i : Nat, i < k ∧ s + q (9 + i) ≤ q 0 ∧ q (26 + (s + q (9 + i))) ≠ 1 ∧ (Hpv q (s + q (9 + i))).toNat = j := by
  intro k
  induction k with
  | zero =>
    rw [Mt, Nat.zero_testBit]
    exact ⟨fun y => (by cases y), fun ⟨i, h, _⟩ => absurd h (Nat.not_lt_zero _)⟩
  | succ k ih =>
    rw [Mt]
    by_cases h : s + q (9 + k) ≤ q 0 ∧ q (26 + (s + q (9 + k))) ≠ 1
    · rw [if_pos h, tb_or, ih]
      constructor
      · rintro (⟨i, h1, h2⟩ | h1)
        · exact ⟨i, by omega, h2⟩
        · exact ⟨k, by omega, h.1, h.2, h1.symm⟩
      · rintro ⟨i, h1, h2, h3, h4⟩
        by_cases e : i = k
        · subst e; exact Or.inr h4.symm
        · exact Or.inl ⟨i, by omega, h2, h3, h4⟩
    · rw [if_neg h, ih]
      constructor
      · rintro ⟨i, h1, h2⟩; exact ⟨i, by omega, h2⟩
      · rintro ⟨i, h1, h2, h3, h4⟩
        by_cases e : i = k
        · subst e; exact absurd ⟨h2, h3⟩ h
        · exact ⟨i, by omega, h2, h3, h4⟩
theorem Mt_v {q : Int → Int} (V : VS q) {s : Int} (h0 : 0 ≤ s) (h1 : s ≤ q 0) : ∃ v : Nat, v ≤ 6 ∧ (∀ i, i < v → (Mt q s (q 8).toNat).testBit i = true) ∧ (Mt q s (q 8).toNat).testBit v = false ∧ mx (fun m => ∃ k, 0 ≤ k ∧ k < q 8 ∧ s + q (9 + k) ≤ q 0 ∧ q (26 + (s + q (9 + k))) ≠ 1 ∧ Hpv q (s + q (9 + k)) = m) = v := by
  have vn := V.n
  obtain ⟨b1, b2⟩ := Mt_b V h0 (q 8).toNat (by omega)
  have iff : ∀ m : Int, 0 ≤ m → ((∃ k, 0 ≤ k ∧ k < q 8 ∧ s + q (9 + k) ≤ q 0 ∧ q (26 + (s + q (9 + k))) ≠ 1 ∧ Hpv q (s + q (9 + k)) = m) ↔ (Mt q s (q 8).toNat).testBit m.toNat = true) := by
    intro m hm
    rw [Mt_t]
    constructor
    · rintro ⟨k, k1, k2, k3, k4, k5⟩
      exact ⟨k.toNat, by omega, by rw [show ((k.toNat : Nat) : Int) = k by omega]; exact ⟨k3, k4, by rw [k5]⟩⟩
    · rintro ⟨i, i1, i2, i3, i4⟩
      have vs := V.str (k := i) (by omega) (by omega)
      have := Hpv_b V (s := s + q (9 + i)) (by omega) i2 i3
      exact ⟨i, by omega, by omega, i2, i3, by omega⟩
  have ex : ∀ m, m < 128 → pc7 m ≤ 6 → ∃ v, v ≤ 6 ∧ (∀ i, i < v → m.testBit i = true) ∧ m.testBit v = false := by
    intro m _ hp
    unfold pc7 at hp
    cases e0 : m.testBit 0
    · exact ⟨0, by omega, fun i hi => by omega, e0⟩
    cases e1 : m.testBit 1
    · exact ⟨1, by omega, fun i hi => by rw [show i = 0 by omega]; exact e0, e1⟩
    cases e2 : m.testBit 2
    · exact ⟨2, by omega, fun i hi => by rcases (show i = 0 ∨ i = 1 by omega) with rfl | rfl <;> assumption, e2⟩
    cases e3 : m.testBit 3
    · exact ⟨3, by omega, fun i hi => by rcases (show i = 0 ∨ i = 1 ∨ i = 2 by omega) with rfl | rfl | rfl <;> assumption, e3⟩
    cases e4 : m.testBit 4
    · exact ⟨4, by omega, fun i hi => by rcases (show i = 0 ∨ i = 1 ∨ i = 2 ∨ i = 3 by omega) with rfl | rfl | rfl | rfl <;> assumption, e4⟩
    cases e5 : m.testBit 5
    · exact ⟨5, by omega, fun i hi => by rcases (show i = 0 ∨ i = 1 ∨ i = 2 ∨ i = 3 ∨ i = 4 by omega) with rfl | rfl | rfl | rfl | rfl <;> assumption, e5⟩
    cases e6 : m.testBit 6
    · exact ⟨6, by omega, fun i hi => by rcases (show i = 0 ∨ i = 1 ∨ i = 2 ∨ i = 3 ∨ i = 4 ∨ i = 5 by omega) with rfl | rfl | rfl | rfl | rfl | rfl <;> assumption, e6⟩
    rw [e0, e1, e2, e3, e4, e5, e6] at hp
    exact absurd hp (by decide)
  obtain ⟨v, v1, v2, v3⟩ := ex _ b1 (by omega)
  refine ⟨v, v1, v2, v3, mx_e (by omega) (fun i i1 i2 => (iff i i1).mpr (v2 _ (by omega))) (fun y => ?_)⟩
  have := (iff v (by omega)).mp y
  rw [Int.toNat_natCast, v3] at this
  cases this
/-! the model's heaps -/
theorem m_findHeaps (d : Nat) {h : Hp} (S : SM h) (V : VS (rz h 74)) : ∃ F, evm (d + 2) 225 [vR 12 68] h = some (none, wI h 88 F) ∧ ∀ s, 0 ≤ s → s ≤ rz h 74 0 → F s.toNat = iZ (Hpv (rz h 74) s) := by
  have e74 : ∀ {F}, rz (wI h 88 F) 74 = rz h 74 := fun {F} => wI_rz h F (by decide)
  obtain ⟨q, hq⟩ : ∃ q, q = rz h 74 := ⟨_, rfl⟩
  rw [← hq] at V e74 ⊢
  have S' : ∀ {F}, SM (wI h 88 F) := fun {_} => S
  have v1 := V.top
  have vn := V.n
  have l5 : ∀ s, -1 ≤ s ∧ s ≤ q 0 → ∀ F : Nat → Int32, (∀ j, s < j → j ≤ q 0 → F j.toNat = iZ (Hpv q j)) → ∃ F', L_M_findHeaps_5 (d + 1) 68 (iZ s) (wI h 88 F) = some (none, wI h 88 F') ∧ ∀ s, 0 ≤ s → s ≤ q 0 → F' s.toNat = iZ (Hpv q s) := by
    refine lpD (fun s hs hb F hF => ?_) (fun s hs ih hb F hF => ?_)
    · rw [e_M_findHeaps_5]
      simp (disch := omega) only [lit32, litJ, iz_add, iz_sub, iz_mul, iz_neg, nI_iz, ix_iz, inb_iz, ifp_t, ifp_f, ifp_T, ifp_F, iz_eq, iz_lt, bI_s, bL_s, bV_s, bR_s]
      exact ⟨F, rfl, fun j j1 j2 => hF j (by omega) j2⟩
    · obtain ⟨v, w1, w2, w3, w4⟩ := Mt_v V hs hb.2
      obtain ⟨mb, _⟩ := Mt_b V hs (q 8).toNat (by omega)
      have kb := V.kin (s := s) hs (by omega)
      have put : ∀ x : Int, x = Hpv q s → ∃ F', L_M_findHeaps_5 (d + 1) 68 (iZ (s + -1)) (wI h 88 (up F s.toNat (iZ x))) = some (none, wI h 88 F') ∧ ∀ s, 0 ≤ s → s ≤ q 0 → F' s.toNat = iZ (Hpv q s) := by
        intro x hx
        refine ih (by omega) _ (fun j j1 j2 => ?_)
        by_cases e : j = s
        · rw [e, up_e, hx]
        · rw [up_n _ _ (by omega)]; exact hF j (by omega) j2
      have he := Hpv_e V hs hb.2
      have l73 : ∀ k : Int, 0 ≤ k ∧ k ≤ v → ∃ F', L_M_findHeaps_73 (d + 1) 68 (iZ s) (iZ (Mt q s (q 8).toNat)) (iZ k) (wI h 88 F) = some (none, wI h 88 F') ∧ ∀ s, 0 ≤ s → s ≤ q 0 → F' s.toNat = iZ (Hpv q s) := by
        have bit : ∀ k : Nat, k ≤ 6 → (((iZ (Mt q s (q 8).toNat) >>> (iZ k &&& iZ 31)) &&& iZ 1 = iZ 1) ↔ (Mt q s (q 8).toNat).testBit k = true) := by
          intro k hk
          rw [b_shr (by omega) (by omega), show (1 : Int) = ((1 : Nat) : Int) from rfl, b_and, Nat.and_one_is_mod]
          have := Nat.div_le_self (Mt q s (q 8).toNat) (2 ^ k)
          rw [iz_eq (by omega), Nat.testBit_eq_decide_div_mod_eq]
          simp only [decide_eq_true_eq]
          omega
        refine lpZ v (fun k hk hkb => ?_) (fun k hk ihk hkb => ?_)
        · have ek : k = v := by omega
          subst ek
          have ks : evm (d + 1) 179 [vR 12 68, vI (iZ s)] (wI h 88 F) = some (some (vI (iZ (q (26 + s)))), wI h 88 F) := by
            have := m_kindOf d (S' (F := F)) (z := s) (by omega)
            rw [e74] at this
            exact this
          rw [e_M_findHeaps_73]
          simp only [lit32]
          rw [ifp_n (bit v w1), ifp_f (by rw [w3]; decide), S'.r 32 88, bR_s, ks, bI_s, m_steps d S', bI_s, e74]
          simp (disch := omega) only [lit32, litJ, iz_add, iz_sub, iz_mul, iz_neg, nI_iz, ix_iz, inb_iz, ifp_t, ifp_f, ifp_T, ifp_F, iz_eq, iz_lt, bI_s, bL_s, bV_s, bR_s, S'.n 88 41, sI_wI]
          by_cases c1 : q (26 + s) = 1
          · rw [ifp_t c1]
            exact put _ (by rw [he, pif_t c1])
          · rw [ifp_f c1]
            rw [pif_f c1, w4] at he
            by_cases c2 : s = q 0
            · rw [ifp_t c2]
              refine put _ ?_
              rw [he]
              have : v = 0 := Classical.byContradiction fun y => by
                have t0 := w2 0 (by omega)
                rw [Mt_t] at t0
                obtain ⟨i, i1, i2, _⟩ := t0
                have := V.str (k := i) (by omega) (by omega)
                omega
              rw [this]; rfl
            · rw [ifp_f c2]
              exact put _ he.symm
        · have tb := w2 k.toNat (by omega)
          have := bit k.toNat (by omega)
          rw [show ((k.toNat : Nat) : Int) = k by omega] at this
          rw [e_M_findHeaps_73]
          simp only [lit32]
          rw [ifp_n this, ifp_t tb, iz_add]
          exact ihk (by omega)
      have l13 : ∀ k : Int, 0 ≤ k ∧ k ≤ q 8 → ∃ F', L_M_findHeaps_13 (d + 1) 68 (iZ s) (iZ (Mt q s k.toNat)) (iZ k) (wI h 88 F) = some (none, wI h 88 F') ∧ ∀ s, 0 ≤ s → s ≤ q 0 → F' s.toNat = iZ (Hpv q s) := by
        refine lpZ (q 8) (fun k hk hkb => ?_) (fun k hk ihk hkb => ?_)
        · rw [e_M_findHeaps_13, m_strides d S', bI_s, e74]
          simp (disch := omega) only [lit32, litJ, iz_add, iz_sub, iz_mul, iz_neg, nI_iz, ix_iz, inb_iz, ifp_t, ifp_f, ifp_T, ifp_F, iz_eq, iz_lt, bI_s, bL_s, bV_s, bR_s]
          rw [show k = q 8 by omega]
          exact l73 0 (by omega)
        · have vs := V.str hkb.1 hk
          obtain ⟨mbk, _⟩ := Mt_b V hs k.toNat (by omega)
          have ek : ((k.toNat : Nat) : Int) = k := by omega
          have ms : Mt q s (k + 1).toNat = @ite _ (s + q (9 + k) ≤ q 0 ∧ q (26 + (s + q (9 + k))) ≠ 1) (Classical.propDecidable _) (Mt q s k.toNat ||| 2 ^ (Hpv q (s + q (9 + k))).toNat) (Mt q s k.toNat) := by
            rw [show (k + 1).toNat = k.toNat + 1 by omega, Mt, ek]
          have ihk' := ihk (by omega)
          rw [ms] at ihk'
          have or0 : iZ (Mt q s k.toNat) ||| iZ 0 = iZ (Mt q s k.toNat) := by
            have := b_or (Mt q s k.toNat) 0
            rw [Nat.or_zero] at this
            exact this
          rw [e_M_findHeaps_13, m_strides d S', bI_s, e74]
          simp (disch := omega) only [lit32, litJ, iz_add, iz_sub, iz_mul, iz_neg, nI_iz, ix_iz, inb_iz, ifp_t, ifp_f, ifp_T, ifp_F, iz_eq, iz_lt, bI_s, bL_s, bV_s, bR_s]
          rw [m_strideOf d S' (by omega), bI_s, e74, m_steps d S', bI_s, e74]
          simp (disch := omega) only [lit32, litJ, iz_add, iz_sub, iz_mul, iz_neg, nI_iz, ix_iz, inb_iz, ifp_t, ifp_f, ifp_T, ifp_F, iz_eq, iz_lt, bI_s, bL_s, bV_s, bR_s, or0]
          by_cases c1 : q 0 < s + q (9 + k)
          · rw [ifp_t c1]
            rw [if_neg (by omega)] at ihk'
            exact ihk'
          · have kk := V.kin (s := s + q (9 + k)) (by omega) (by omega)
            rw [ifp_f c1, m_kindOf d S' (by omega), bI_s, e74]
            simp (disch := omega) only [lit32, litJ, iz_add, iz_sub, iz_mul, iz_neg, nI_iz, ix_iz, inb_iz, ifp_t, ifp_f, ifp_T, ifp_F, iz_eq, iz_lt, bI_s, bL_s, bV_s, bR_s]
            by_cases c2 : q (26 + (s + q (9 + k))) = 1
            · rw [ifp_t c2]
              rw [if_neg (fun y => y.2 c2)] at ihk'
              exact ihk'
            · have hb' := Hpv_b V (s := s + q (9 + k)) (by omega) (by omega) c2
              rw [if_pos ⟨by omega, c2⟩] at ihk'
              rw [ifp_f c2]
              simp (disch := omega) only [lit32, litJ, iz_add, iz_sub, iz_mul, iz_neg, nI_iz, ix_iz, inb_iz, ifp_t, ifp_f, ifp_T, ifp_F, iz_eq, iz_lt, bI_s, bL_s, bV_s, bR_s, S'.r 32 88, S'.n 88 41, wI_I, hF (s + q (9 + k)) (by omega) (by omega)]
              rw [show iZ (Hpv q (s + q (9 + k))) = iZ (((Hpv q (s + q (9 + k))).toNat : Nat) : Int) by rw [show (((Hpv q (s + q (9 + k))).toNat : Nat) : Int) = Hpv q (s + q (9 + k)) by omega], b_one (by omega), b_or]
              exact ihk'
      rw [e_M_findHeaps_5]
      simp (disch := omega) only [lit32, litJ, iz_add, iz_sub, iz_mul, iz_neg, nI_iz, ix_iz, inb_iz, ifp_t, ifp_f, ifp_T, ifp_F, iz_eq, iz_lt, bI_s, bL_s, bV_s, bR_s]
      exact l13 0 (by omega)
  rw [e_M_findHeaps, m_steps d S, bI_s, ← hq]
  have := l5 (q 0) (by omega) (hI h 88) (fun j j1 j2 => by omega)
  rw [wI_self] at this
  exact this
theorem M_step (d : Nat) {h : Hp} (M : MV h) {x y : Int} (hx : -2147483648 ≤ x ∧ x < 2147483648) (hy : -2147483648 ≤ y ∧ y < 2147483648) : ∃ h', evm (d + 3) 199 [vR 12 68, vI (iZ x), vI (iZ y)] h = some (some (vI (iZ (if (0 ≤ x ∧ x ≤ rz h 74 0) ∧ 0 ≤ y ∧ y ≤ 2 then (if y = 0 then rz h 74 (26 + x) else if y = 1 then Hpv (rz h 74) x else rz h 79 (41 + x)) else -1))), h') ∧ Ms h h' (rz h 79) (rz h 80) := by
  have a0 : Sc h (sI h 68 0 (iZ 0)) := Sc.s h _ (by decide)
  have M0 := M.sc a0
  have v1 := M.2.1.top
  rw [e_M_step]
  simp only [lit32]
  rw [m_steps (d + 1) M0.1, bI_s, a0.z (r := 74) (by decide), m_within (d + 1) hx (by omega) (by omega), bI_s, m_within (d + 1) hy (by omega) (by omega), bI_s]
  simp only [bZ_0]
  by_cases h1 : 0 ≤ x ∧ x ≤ rz h 74 0
  · rw [ifp_f (fun z => z h1)]
    by_cases h2 : 0 ≤ y ∧ y ≤ 2
    · rw [ifp_f (fun z => z h2), if_pos ⟨h1, h2⟩]
      obtain ⟨F, f1, f2⟩ := m_findHeaps d M0.1 M0.2.1
      rw [a0.z (r := 74) (by decide)] at f2
      have a1 : Sc h (wI (sI h 68 0 (iZ 0)) 88 F) := a0.tr (Sc.i _ F (by decide))
      have M1 := M.sc a1
      have e74 := a1.z (r := 74) (by decide)
      have e79 := a1.z (r := 79) (by decide)
      refine ⟨_, ?_, a1.ms⟩
      rw [f1, bV_s, m_kindOf (d + 1) M1.1 (by omega), bI_s, e74]
      simp (disch := omega) only [lit32, litJ, iz_add, iz_sub, iz_mul, iz_neg, nI_iz, ix_iz, inb_iz, ifp_t, ifp_f, ifp_T, ifp_F, iz_eq, iz_lt, bI_s, bL_s, bV_s, bR_s, M1.1.r 32 88, M1.1.n 88 41, M1.1.r 17 79, M1.1.n 79 420, wI_I]
      have e41 : hI (wI (sI h 68 0 (iZ 0)) 88 F) 79 (41 + x).toNat = iZ (rz h 79 (41 + x)) := by rw [rz_iz, e79]
      rw [f2 x (by omega) (by omega), e41]
      exact ifp_r (fun z => ri_e (by rw [if_pos z])) (fun z => ifp_r (fun w => ri_e (by rw [if_neg z, if_pos w])) (fun w => ri_e (by rw [if_neg z, if_neg w])))
    · rw [ifp_t h2, if_neg (fun z => h2 z.2)]
      exact ⟨_, rfl, a0.ms⟩
  · rw [ifp_t h1, if_neg (fun z => h1 z.1)]
    exact ⟨_, rfl, a0.ms⟩
/-- heaps, as digits -/
noncomputable def HsF (q : Int → Int) : Nat → Int → Nat → Int
  | 0, l, s => if l ≠ 0 then -1 else if s ≠ 0 then 1 else 0
  | n + 1, l, s => pif (q 0 < l % 64 ∨ q (26 + l % 64) = 1) (-1) (HsF q n (l / 64) (s ^^^ (Hpv q (l % 64)).toNat))
theorem M_heaps (d : Nat) {h : Hp} (M : MV h) {x : Int} (hx : -2147483648 ≤ x ∧ x < 2147483648) : ∃ h', evm (d + 3) 226 [vR 12 68, vI (iZ x)] h = some (some (vI (iZ (if x < 0 then -1 else HsF (rz h 74) 4 x 0))), h') ∧ Ms h h' (rz h 79) (rz h 80) := by
  have a0 : Sc h (sI h 68 0 (iZ 0)) := Sc.s h _ (by decide)
  have M0 := M.sc a0
  obtain ⟨F, f1, f2⟩ := m_findHeaps d M0.1 M0.2.1
  rw [a0.z (r := 74) (by decide)] at f2
  have a1 : Sc h (wI (sI h 68 0 (iZ 0)) 88 F) := a0.tr (Sc.i _ F (by decide))
  have M1 := M.sc a1
  have e74 := a1.z (r := 74) (by decide)
  have V := M.2.1
  obtain ⟨q, hq⟩ : ∃ q, q = rz h 74 := ⟨_, rfl⟩
  rw [← hq] at f2 e74 V ⊢
  have v1 := V.top
  obtain ⟨K, hK⟩ : ∃ K, K = wI (sI h 68 0 (iZ 0)) 88 F := ⟨_, rfl⟩
  have KF : hI K 88 = F := by rw [hK]; exact wI_I _ _ _
  rw [← hK] at f1 a1 M1 e74
  rw [e_M_heaps]
  simp only [lit32]
  rw [f1, bV_s, ifp_n (iz_lt (by omega))]
  refine ⟨K, ?_, a1.ms⟩
  have l100 : ∀ (l : Int) (s : Nat), 0 ≤ l ∧ l < 2147483648 → s < 128 → L_M_heaps_100 (d + 2) (iZ l) (iZ s) (iZ 1) K = some (some (vI (iZ (HsF q 0 l s))), K) := by
    intro l s hl hs
    rw [e_M_heaps_100, HsF]
    simp (disch := omega) only [lit32, litJ, iz_add, iz_sub, iz_mul, iz_neg, nI_iz, ix_iz, inb_iz, ifp_t, ifp_f, ifp_T, ifp_F, iz_eq, iz_lt, bI_s, bL_s, bV_s, bR_s]
    refine ifp_r (fun y => ri_e (by rw [if_pos (by omega)])) (fun y => ifp_r (fun z => ri_e ?_) (fun z => ri_e ?_))
    · rw [if_neg (by omega), if_neg (by omega)]
    · rw [if_neg (by omega), if_pos (by omega)]
  have bad : ∀ (l : Int) (s : Nat) (k : Int), 0 ≤ k ∧ k ≤ 4 → L_M_heaps_27 (d + 2) 68 (iZ l) (iZ s) (iZ 0) (iZ k) K = some (some (vI (iZ (-1))), K) := by
    intro l s k hk
    have e100 : ∀ y, L_M_heaps_100 (d + 2) (iZ l) y (iZ 0) K = some (some (vI (iZ (-1))), K) := by
      intro y
      rw [e_M_heaps_100]
      simp (disch := omega) only [lit32, litJ, iz_add, iz_sub, iz_mul, iz_neg, nI_iz, ix_iz, inb_iz, ifp_t, ifp_f, ifp_T, ifp_F, iz_eq, iz_lt, bI_s, bL_s, bV_s, bR_s]
    rw [e_M_heaps_27, e100]
    simp (disch := omega) only [lit32, litJ, iz_add, iz_sub, iz_mul, iz_neg, nI_iz, ix_iz, inb_iz, ifp_t, ifp_f, ifp_T, ifp_F, iz_eq, iz_lt, bI_s, bL_s, bV_s, bR_s]
    exact ifp_r (fun _ => rfl) (fun _ => rfl)
  have loop : ∀ (n : Nat) (l : Int) (s : Nat) (k : Int), 0 ≤ l ∧ l < 2147483648 → s < 128 → k + n = 4 → 0 ≤ k → L_M_heaps_27 (d + 2) 68 (iZ l) (iZ s) (iZ 1) (iZ k) K = some (some (vI (iZ (HsF q n l s))), K) := by
    intro n
    induction n with
    | zero =>
      intro l s k hl hs hk hk0
      rw [e_M_heaps_27]
      simp (disch := omega) only [lit32, litJ, iz_add, iz_sub, iz_mul, iz_neg, nI_iz, ix_iz, inb_iz, ifp_t, ifp_f, ifp_T, ifp_F, iz_eq, iz_lt, bI_s, bL_s, bV_s, bR_s]
      exact l100 l s hl hs
    | succ n ih =>
      intro l s k hl hs hk hk0
      have lm : 0 ≤ l % 64 ∧ l % 64 < 64 := by omega
      have l73b : ∀ y : Int, L_M_heaps_73 (d + 2) 68 (iZ (l / 64)) (iZ s) (iZ k) (iZ y) (iZ 0) K = some (some (vI (iZ (-1))), K) := by
        intro y
        rw [e_M_heaps_73]
        simp (disch := omega) only [lit32, litJ, iz_add, iz_sub, iz_mul, iz_neg, nI_iz, ix_iz, inb_iz, ifp_t, ifp_f, ifp_T, ifp_F, iz_eq, iz_lt, bI_s, bL_s, bV_s, bR_s]
        have : iZ s ^^^ iZ 0 = iZ s := by
          have := b_xor s 0
          rw [Nat.xor_zero] at this
          exact this
        rw [this]
        exact bad _ _ _ (by omega)
      rw [e_M_heaps_27, HsF]
      simp (disch := omega) only [lit32, litJ, iz_add, iz_sub, iz_mul, iz_neg, nI_iz, ix_iz, inb_iz, ifp_t, ifp_f, ifp_T, ifp_F, iz_eq, iz_lt, bI_s, bL_s, bV_s, bR_s, irem_iz, iz_div]
      rw [m_steps (d + 1) M1.1, bI_s, e74]
      simp (disch := omega) only [lit32, litJ, iz_add, iz_sub, iz_mul, iz_neg, nI_iz, ix_iz, inb_iz, ifp_t, ifp_f, ifp_T, ifp_F, iz_eq, iz_lt, bI_s, bL_s, bV_s, bR_s]
      by_cases c1 : q 0 < l % 64
      · rw [ifp_t c1, pif_t (Or.inl c1)]
        exact l73b _
      · have fv := f2 (l % 64) (by omega) (by omega)
        rw [ifp_f c1]
        simp (disch := omega) only [lit32, litJ, iz_add, iz_sub, iz_mul, iz_neg, nI_iz, ix_iz, inb_iz, ifp_t, ifp_f, ifp_T, ifp_F, iz_eq, iz_lt, bI_s, bL_s, bV_s, bR_s, M1.1.r 32 88, M1.1.n 88 41, KF, fv]
        by_cases c2 : q (26 + l % 64) = 1
        · have : Hpv q (l % 64) = -1 := by rw [Hpv_e V (by omega) (by omega), pif_t c2]
          rw [this, ifp_t (by decide), pif_t (Or.inr c2)]
          exact l73b _
        · have hb := Hpv_b V (s := l % 64) (by omega) (by omega) c2
          rw [pif_f (by omega), ifp_f (fun y => by have := (iz_lt (by omega)).mp y; omega), e_M_heaps_73]
          simp (disch := omega) only [lit32, litJ, iz_add, iz_sub, iz_mul, iz_neg, nI_iz, ix_iz, inb_iz, ifp_t, ifp_f, ifp_T, ifp_F, iz_eq, iz_lt, bI_s, bL_s, bV_s, bR_s, M1.1.r 32 88, M1.1.n 88 41, KF, fv]
          rw [show iZ (Hpv q (l % 64)) = iZ (((Hpv q (l % 64)).toNat : Nat) : Int) by rw [show (((Hpv q (l % 64)).toNat : Nat) : Int) = Hpv q (l % 64) by omega], b_xor]
          refine ih _ _ _ (by omega) (Nat.xor_lt_two_pow (n := 7) hs (by omega)) (by omega) (by omega)
  by_cases h0 : x < 0
  · rw [ifp_t h0, if_pos h0]
    exact bad x 0 0 (by omega)
  · rw [ifp_f h0, if_neg h0]
    exact loop 4 x 0 0 (by omega) (by decide) (by omega) (by omega)
/-! the class's heaps -/
theorem x_heaps (d : Nat) {h : Hp} (X : SX h) {o : Nat} (t : TO o) (ho : hR h 0 11 = some o) {q : Int → Int} (R : SR h o q) (V : VS q) {x : Int} (hx : -2147483648 ≤ x ∧ x < 2147483648) : evm (d + 1) 120 [vR 11 0, vI (iZ x)] h = some (some (vI (iZ (if x < 0 then -1 else HsF q 4 x 0))), h) := by
  have v1 := V.top
  have loop : ∀ (n : Nat) (l : Int) (s : Nat) (k : Int), 0 ≤ l ∧ l < 2147483648 → s < 128 → k + n = 4 → 0 ≤ k → L_X_heaps_13 d 0 (iZ l) (iZ s) (iZ k) h = some (some (vI (iZ (HsF q n l s))), h) := by
    intro n
    induction n with
    | zero =>
      intro l s k hl hs hk hk0
      rw [e_X_heaps_13, HsF]
      simp (disch := omega) only [lit32, litJ, iz_add, iz_sub, iz_mul, iz_neg, nI_iz, ix_iz, inb_iz, ifp_t, ifp_f, ifp_T, ifp_F, iz_eq, iz_lt, bI_s, bL_s, bV_s, bR_s]
      refine ifp_r (fun y => ifp_r (fun z => ri_e ?_) (fun z => ri_e ?_)) (fun y => ri_e (by rw [if_pos (by omega)]))
      · rw [if_neg (by omega), if_neg (by omega)]
      · rw [if_neg (by omega), if_pos (by omega)]
    | succ n ih =>
      intro l s k hl hs hk hk0
      have lm : 0 ≤ l % 64 ∧ l % 64 < 64 := by omega
      have el : l = ((l.toNat : Nat) : Int) := by omega
      have e63 : iZ l &&& iZ 63 = iZ (l % 64) := by
        rw [show iZ l = iZ ((l.toNat : Nat) : Int) by rw [← el], show (63 : Int) = ((63 : Nat) : Int) from rfl, b_and, show (63 : Nat) = 2 ^ 6 - 1 from rfl, Nat.and_two_pow_sub_one_eq_mod]
        congr 1; omega
      have e6 : iZ l >>> (iZ 6 &&& iZ 31) = iZ (l / 64) := by
        have := b_shr (n := l.toNat) (k := 6) (by omega) (by omega)
        rw [← el] at this
        rw [show iZ 6 = iZ ((6 : Nat) : Int) from rfl, this]
        congr 1; omega
      have kk := V.kin (s := l % 64)
      rw [e_X_heaps_13, HsF]
      simp (disch := omega) only [lit32, litJ, iz_add, iz_sub, iz_mul, iz_neg, nI_iz, ix_iz, inb_iz, ifp_t, ifp_f, ifp_T, ifp_F, iz_eq, iz_lt, bI_s, bL_s, bV_s, bR_s]
      rw [e_X_heaps_19]
      simp (disch := omega) only [lit32, litJ, iz_add, iz_sub, iz_mul, iz_neg, nI_iz, ix_iz, inb_iz, ifp_t, ifp_f, ifp_T, ifp_F, iz_eq, iz_lt, bI_s, bL_s, bV_s, bR_s, ho, R.top, e63, e6, X.o2 t, X.n3 t, X.o4 t, X.n5 t]
      by_cases c1 : q 0 < l % 64
      · rw [ifp_t c1, pif_t (Or.inl c1)]
      · have kb := kk (by omega) (by omega)
        rw [ifp_f c1]
        simp (disch := omega) only [lit32, litJ, iz_add, iz_sub, iz_mul, iz_neg, nI_iz, ix_iz, inb_iz, ifp_t, ifp_f, ifp_T, ifp_F, iz_eq, iz_lt, bI_s, bL_s, bV_s, bR_s, R.kin (s := l % 64) (by omega) (by omega), R.hp (s := l % 64) (by omega) (by omega)]
        by_cases c2 : q (26 + l % 64) = 1
        · rw [ifp_t c2, pif_t (Or.inr c2)]
        · have hb := Hpv_b V (s := l % 64) (by omega) (by omega) c2
          rw [ifp_f c2, pif_f (by omega), show iZ (Hpv q (l % 64)) = iZ (((Hpv q (l % 64)).toNat : Nat) : Int) by rw [show (((Hpv q (l % 64)).toNat : Nat) : Int) = Hpv q (l % 64) by omega], b_xor]
          exact ih _ _ _ (by omega) (Nat.xor_lt_two_pow (n := 7) hs (by omega)) (by omega) (by omega)
  rw [e_X_heaps]
  simp (disch := omega) only [lit32, litJ, iz_add, iz_sub, iz_mul, iz_neg, nI_iz, ix_iz, inb_iz, ifp_t, ifp_f, ifp_T, ifp_F, iz_eq, iz_lt, bI_s, bL_s, bV_s, bR_s]
  refine ifp_r (fun y => ri_e (by rw [if_pos y])) (fun y => ?_)
  rw [if_neg y]
  exact loop 4 x 0 0 (by omega) (by decide) (by omega) (by omega)
