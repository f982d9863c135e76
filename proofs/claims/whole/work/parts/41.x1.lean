/-! what may be next, for one of the class -/
def CanZ (q : Int → Int) (s b la cr g z : Int) : Prop := Tld q z ∧ b < q 4 ∧ s + z ≤ q 0 ∧ q (26 + (s + z)) ≠ 1 ∧ (¬ ∃ j, s < j ∧ j < s + z ∧ q (26 + j) = 3) ∧ ¬ Brd q 0 la z ∧ ¬ (q (26 + (s + z)) = 2 ∧ q 1 ≠ -1 ∧ q 1 ≤ cr) ∧ ¬ (Grt q z ∧ q 6 ≤ g)
theorem Tld.b {q : Int → Int} (V : VS q) {z : Int} (t : Tld q z) : 1 ≤ z ∧ z ≤ 12 := by
  obtain ⟨k, k1, k2, k3⟩ := t
  have := V.str k1 k2
  omega
theorem x_can (d : Nat) {h : Hp} (S : SX h) {o : Nat} (t : TO o) {q : Int → Int} (R : SR h o q) (V : VS q) {c : Nat} {s b la cr g : Int} (hc : hI h c = cFw s b la cr g) {z : Int} (hz : -2147483648 ≤ z ∧ z < 2147483648) (hs : 0 ≤ s ∧ s ≤ q 0) (hb : 0 ≤ b ∧ b ≤ 100) (hl : 0 ≤ la ∧ la ≤ 12) (hcr : 0 ≤ cr ∧ cr ≤ 100) (hg : 0 ≤ g ∧ g ≤ 100) :
    evm (d + 2) 4 [vR 0 c, vR 5 o, vI (iZ z)] h = some (some (vI (bZ (CanZ q s b la cr g z))), h) := by
  have c1 : hI h c 1 = iZ s := by rw [hc]; rfl
  have c2 : hI h c 2 = iZ b := by rw [hc]; rfl
  have c3 : hI h c 3 = iZ la := by rw [hc]; rfl
  have c4 : hI h c 4 = iZ cr := by rw [hc]; rfl
  have c5 : hI h c 5 = iZ g := by rw [hc]; rfl
  have v1 := V.top
  have v2 := V.cnt
  have v3 := V.cre
  have v4 := V.tim
  rw [e_Climber_can, x_tells d R V hz, bI_s]
  simp (disch := omega) only [lit32, litJ, iz_add, iz_sub, iz_mul, iz_neg, nI_iz, ix_iz, inb_iz, ifp_t, ifp_f, ifp_T, ifp_F, iz_eq, iz_lt, bI_s, bL_s, bV_s, bR_s, bZ_0, c1, c2, R.mos]
  refine ifp_r (fun h1 => rb_f (fun y => h1 y.1)) (fun h1 => ?_)
  have T : Tld q z := Classical.byContradiction h1
  have tb := T.b V
  refine ifp_r (fun h2 => ?_) (fun h2 => rb_f (fun y => h2 y.2.1))
  obtain ⟨F, f1, f2, f3, f4⟩ := R.far hs.1 hs.2
  have f5 := f4 (s + z) (by omega)
  rw [e_Climber_can_37, c1]
  simp (disch := omega) only [S.o5 t, S.n6 t, S.o2 t, S.n3 t, lit32, litJ, iz_add, iz_sub, iz_mul, iz_neg, nI_iz, ix_iz, inb_iz, ifp_t, ifp_f, ifp_T, ifp_F, iz_eq, iz_lt, bI_s, bL_s, bV_s, bR_s, f3]
  refine ifp_r (fun h3 => rb_f (fun y => ?_)) (fun h3 => ?_)
  · have := f5.mpr ⟨y.2.2.1, y.2.2.2.2.1⟩; omega
  have h4 := f5.mp (by omega)
  have kb := V.kin (s := s + z) (by omega) (by omega)
  simp (disch := omega) only [lit32, litJ, iz_add, iz_sub, iz_mul, iz_neg, nI_iz, ix_iz, inb_iz, ifp_t, ifp_f, ifp_T, ifp_F, iz_eq, iz_lt, bI_s, bL_s, bV_s, bR_s, R.kin (s := s + z) (by omega) (by omega), c3, x_isBarred d S t R hl (show 0 ≤ z ∧ z ≤ 12 by omega), bZ_0]
  refine ifp_r (fun h5 => rb_f (fun y => y.2.2.2.1 h5)) (fun h5 => ?_)
  refine ifp_r (fun h6 => ?_) (fun h6 => rb_f (fun y => h6 y.2.2.2.2.2.1))
  have tail : ∀ P : Prop, (P ↔ CanZ q s b la cr g z) → ((¬ (Grt q z ∧ q 6 ≤ g)) ↔ P) → L_Climber_can_120 (d + 1) c o (iZ z) h = some (some (vI (bZ (CanZ q s b la cr g z))), h) := by
    intro P p1 p2
    rw [e_Climber_can_120, x_isGreat d R V (by omega), bI_s, c5, R.tim]
    simp (disch := omega) only [lit32, litJ, iz_add, iz_sub, iz_mul, iz_neg, nI_iz, ix_iz, inb_iz, ifp_t, ifp_f, ifp_T, ifp_F, iz_eq, iz_lt, bI_s, bL_s, bV_s, bR_s, bZ_0]
    refine ifp_r (fun h7 => rb_t (p1.mp (p2.mp (fun y => h7 y.1)))) (fun h7 => ifp_r (fun h8 => rb_t (p1.mp (p2.mp (fun y => by omega)))) (fun h8 => rb_f (fun y => ?_)))
    exact y.2.2.2.2.2.2.2 ⟨Classical.byContradiction h7, by omega⟩
  have fin : ¬ (q (26 + (s + z)) = 2 ∧ q 1 ≠ -1 ∧ q 1 ≤ cr) → L_Climber_can_120 (d + 1) c o (iZ z) h = some (some (vI (bZ (CanZ q s b la cr g z))), h) := by
    intro y
    refine tail (¬ (Grt q z ∧ q 6 ≤ g)) ⟨fun p => ⟨T, h2, h4.1, h5, h4.2, h6, y, p⟩, fun p => p.2.2.2.2.2.2.2⟩ Iff.rfl
  rw [c4, R.cre]
  simp (disch := omega) only [lit32, litJ, iz_add, iz_sub, iz_mul, iz_neg, nI_iz, ix_iz, inb_iz, ifp_t, ifp_f, ifp_T, ifp_F, iz_eq, iz_lt, bI_s, bL_s, bV_s, bR_s, S.o2 t, S.n3 t, R.kin (s := s + z) (by omega) (by omega)]
  refine ifp_r (fun h7 => ifp_r (fun h8 => fin (fun y => y.2.1 h8)) (fun h8 => ?_)) (fun h7 => fin (fun y => h7 y.1))
  refine ifp_r (fun h9 => fin (fun y => by have := y.2.2; omega)) (fun h9 => rb_f (fun y => ?_))
  exact y.2.2.2.2.2.2.1 ⟨h7, h8, by omega⟩
/-- the stride ahead by its place -/
def stv (q : Int → Int) (l : Int) : Int := if l ≤ 0 then 0 else q (9 + (l - 1))
def crC (q : Int → Int) (cr : Int) : Int := if q 1 < 0 then 0 else cr
theorem Brd_0 {q : Int → Int} (V : VS q) (z : Int) (hz : 0 ≤ z ∧ z ≤ 12) : ¬ Brd q 0 0 z := by
  rintro ⟨k, k1, k2, k3⟩
  obtain ⟨a, b, ha, hb, e⟩ := V.2.2.2.2.2.2.2.2.2.2.1 k k1 (by simpa using k2)
  simp only [Int.zero_add] at k3
  omega
theorem stv_b {q : Int → Int} (V : VS q) {l : Int} (hl : 0 ≤ l ∧ l ≤ q 8) : 0 ≤ stv q l ∧ stv q l ≤ 12 := by
  unfold stv
  by_cases h : l ≤ 0
  · rw [if_pos h]; omega
  · rw [if_neg h]
    have := V.str (k := l - 1) (by omega) (by omega)
    omega
theorem Can_k {q : Int → Int} (V : VS q) (w : Int → Int) {s l cr g b k : Int} (hl : 0 ≤ l ∧ l ≤ q 8) (hk : 0 ≤ k ∧ k < q 8) : CanZ q s b (stv q l) cr g (q (9 + k)) ↔ May q w False s l (crC q cr) g b k := by
  have v1 := V.cre
  have v3 := V.str hk.1 hk.2
  have e1 : ∀ s, Shut q w False s ↔ q (26 + s) = 1 := fun s => ⟨fun y => y.elim id (fun y => absurd y.1 id), Or.inl⟩
  have e2 : ∀ s, Must q w False s ↔ q (26 + s) = 3 := fun s => ⟨fun y => y.elim id (fun y => absurd y.1 id), Or.inl⟩
  unfold CanZ May crC
  simp only [e1, e2]
  have e3 : ¬ Brd q 0 (stv q l) (q (9 + k)) ↔ ¬ (0 < l ∧ Brd q 0 (q (9 + (l - 1))) (q (9 + k))) := by
    unfold stv
    by_cases h : l ≤ 0
    · rw [if_pos h]
      exact ⟨fun _ y => by omega, fun _ => Brd_0 V _ (by omega)⟩
    · rw [if_neg h]
      exact ⟨fun y z => y z.2, fun y z => y ⟨by omega, z⟩⟩
  rw [e3]
  constructor
  · rintro ⟨a1, a2, a3, a4, a5, a6, a7, a8⟩
    refine ⟨a3, a4, a5, a6, by omega, fun y => a7 ⟨y.1, by omega, ?_⟩, fun y => a8 ⟨y.1, by omega⟩⟩
    rw [if_neg (by omega)] at y; omega
  · rintro ⟨a1, a2, a3, a4, a5, a6, a7⟩
    refine ⟨⟨k, hk.1, hk.2, rfl⟩, by omega, a1, a2, a3, a4, fun y => a6 ⟨y.1, by omega, ?_⟩, fun y => a7 ⟨y.1, by omega⟩⟩
    rw [if_neg (by omega)]; omega
/-! a stride -/
noncomputable def crN (q : Int → Int) (cr s : Int) : Int := cr + pif (q (26 + s) = 2) 1 0
theorem crC_n {q : Int → Int} {cr s k : Int} : crC q (crN q cr (s + q (9 + k))) = nxC q s (crC q cr) k := by
  unfold crC crN
  by_cases h1 : q 1 < 0
  · rw [if_pos h1, if_pos h1, nxC_f (by omega)]
  · rw [if_neg h1, if_neg h1]
    by_cases h2 : q (26 + (s + q (9 + k))) = 2
    · rw [pif_t h2, nxC_t ⟨h2, by omega⟩]
    · rw [pif_f h2, nxC_f (fun y => h2 y.1), Int.add_zero]
theorem x_go (d : Nat) {h : Hp} (X : SX h) {o : Nat} (t : TO o) {q : Int → Int} (R : SR h o q) (V : VS q) {c : Nat} (hc : c ≤ 46) (c0 : hR h c 0 = some (c + 1)) (c1 : hN h (c + 1) = 40) {s b la cr g k : Int} {S : Nat → Int32} (hk : 0 ≤ k ∧ k < q 8) (hs : 0 ≤ s ∧ s + q (9 + k) ≤ q 0) (hb : 0 ≤ b ∧ b < 40) :
    evm (d + 2) 5 [vR 0 c, vR 5 o, vI (iZ (q (9 + k)))] (CH h c s b la cr g S) = some (none, CH h c (s + q (9 + k)) (b + 1) (q (9 + k)) (crN q cr (s + q (9 + k))) (nxG q g k) (up S b.toNat (iZ (q (9 + k))))) := by
  have v1 := V.top
  have v3 := V.str hk.1 hk.2
  have kb := V.kin (s := s + q (9 + k)) (by omega) (by omega)
  have X' : ∀ {s b la cr g S}, SX (CH h c s b la cr g S) := fun {_ _ _ _ _ _} => X
  have R' : ∀ {s b la cr g S}, SR (CH h c s b la cr g S) o q := fun {_ _ _ _ _ _} => R.ch t hc
  rw [e_Climber_go, CH_R, c0, bR_s, CH_N, c1, CH_I, cFw_2]
  simp (disch := omega) only [lit32, litJ, iz_add, iz_sub, iz_mul, iz_neg, nI_iz, ix_iz, inb_iz, ifp_t, ifp_f, ifp_T, ifp_F, iz_eq, iz_lt, bI_s, bL_s, bV_s, bR_s]
  rw [e_Climber_go_12, CH_I, cFw_1, cFw_2, CH_R, c0, bR_s, CH_N, c1]
  rw [R'.top]
  simp (disch := omega) only [lit32, litJ, iz_add, iz_sub, iz_mul, iz_neg, nI_iz, ix_iz, inb_iz, ifp_t, ifp_f, ifp_T, ifp_F, iz_eq, iz_lt, bI_s, bL_s, bV_s, bR_s]
  simp only [CH_s, CH_I, cFw_1, cFw_2, cFw_3, cFw_4, cFw_5, iz_add, CH_1, CH_2, CH_3]
  simp (disch := omega) only [lit32, litJ, iz_add, iz_sub, iz_mul, iz_neg, nI_iz, ix_iz, inb_iz, ifp_t, ifp_f, ifp_T, ifp_F, iz_eq, iz_lt, bI_s, bL_s, bV_s, bR_s, X'.o2 t, X'.n3 t, R'.kin (s := s + q (9 + k)) (by omega) (by omega)]
  have tail : ∀ x : Int, x = pif (q (26 + (s + q (9 + k))) = 2) 1 0 → L_Climber_go_89 (d + 1) c o (iZ (q (9 + k))) (iZ x) (iZ cr) c (CH h c (s + q (9 + k)) (b + 1) (q (9 + k)) cr g (up S b.toNat (iZ (q (9 + k))))) = some (none, CH h c (s + q (9 + k)) (b + 1) (q (9 + k)) (crN q cr (s + q (9 + k))) (nxG q g k) (up S b.toNat (iZ (q (9 + k))))) := by
    intro x hx
    rw [e_Climber_go_89]
    simp only [lit32, litJ, iz_add, iz_sub, iz_mul, iz_neg, nI_iz, ix_iz, inb_iz, ifp_t, ifp_f, ifp_T, ifp_F, iz_eq, iz_lt, bI_s, bL_s, bV_s, bR_s, CH_4, CH_I, cFw_5]
    rw [x_isGreat d R' V (by omega), bI_s]
    simp only [lit32, litJ, iz_add, iz_sub, iz_mul, iz_neg, nI_iz, ix_iz, inb_iz, ifp_t, ifp_f, ifp_T, ifp_F, iz_eq, iz_lt, bI_s, bL_s, bV_s, bR_s, bZ_0, CH_5]
    refine ifp_r (fun h1 => ?_) (fun h1 => ?_)
    · rw [nxG_f h1, crN, hx, Int.add_zero]
    · rw [nxG_t (Classical.byContradiction h1), crN, hx]
  refine ifp_r (fun h1 => tail 1 (pif_t h1).symm) (fun h1 => tail 0 (pif_f h1).symm)
theorem x_undo (d : Nat) {h : Hp} (X : SX h) {o : Nat} (t : TO o) {q : Int → Int} (R : SR h o q) (V : VS q) {c : Nat} (hc : c ≤ 46) (c0 : hR h c 0 = some (c + 1)) (c1 : hN h (c + 1) = 40) {s b la cr g k : Int} {S : Nat → Int32} (hk : 0 ≤ k ∧ k < q 8) (hs : 0 ≤ s ∧ s + q (9 + k) ≤ q 0) (hb : 0 ≤ b ∧ b < 40) (hl : 0 < b → S (b - 1).toNat = iZ la) (hl0 : b = 0 → la = 0) :
    evm (d + 2) 6 [vR 0 c, vR 5 o] (CH h c (s + q (9 + k)) (b + 1) (q (9 + k)) (crN q cr (s + q (9 + k))) (nxG q g k) S) = some (none, CH h c s b la cr g S) := by
  have v1 := V.top
  have v3 := V.str hk.1 hk.2
  have kb := V.kin (s := s + q (9 + k)) (by omega) (by omega)
  have X' : ∀ {s b la cr g S}, SX (CH h c s b la cr g S) := fun {_ _ _ _ _ _} => X
  have R' : ∀ {s b la cr g S}, SR (CH h c s b la cr g S) o q := fun {_ _ _ _ _ _} => R.ch t hc
  rw [e_Climber_undo, CH_R, c0, bR_s, CH_N, c1, CH_I, cFw_1, cFw_2, cFw_4]
  simp (disch := omega) only [lit32, litJ, iz_add, iz_sub, iz_mul, iz_neg, nI_iz, ix_iz, inb_iz, ifp_t, ifp_f, ifp_T, ifp_F, iz_eq, iz_lt, bI_s, bL_s, bV_s, bR_s, X.o2 t, X.n3 t, R'.kin (s := s + q (9 + k)) (by omega) (by omega)]
  have l85 : ∀ x : Int, x = pif (Grt q (q (9 + k))) 1 0 → L_Climber_undo_85 (d + 1) c (iZ x) (iZ (nxG q g k)) c (CH h c (s + q (9 + k)) (b + 1) (q (9 + k)) cr (nxG q g k) S) = some (none, CH h c s b la cr g S) := by
    intro x hx
    have ex : nxG q g k - x = g := by
      by_cases h1 : Grt q (q (9 + k))
      · rw [hx, nxG_t h1, pif_t h1]; omega
      · rw [hx, nxG_f h1, pif_f h1]; omega
    rw [e_Climber_undo_85]
    simp only [lit32, litJ, iz_add, iz_sub, iz_mul, iz_neg, nI_iz, ix_iz, inb_iz, ifp_t, ifp_f, ifp_T, ifp_F, iz_eq, iz_lt, bI_s, bL_s, bV_s, bR_s, CH_5, CH_I, cFw_1, cFw_2, cFw_3, cFw_5, CH_1, CH_2, ex]
    rw [CH_R, c0, bR_s, CH_N, c1, show b + 1 - 1 = b by omega, show s + q (9 + k) - q (9 + k) = s by omega, CH_S]
    by_cases hb0 : 0 < b
    · simp (disch := omega) only [lit32, litJ, iz_add, iz_sub, iz_mul, iz_neg, nI_iz, ix_iz, inb_iz, ifp_t, ifp_f, ifp_T, ifp_F, iz_eq, iz_lt, bI_s, bL_s, bV_s, bR_s]
      rw [hl hb0, CH_3]
    · simp (disch := omega) only [lit32, litJ, iz_add, iz_sub, iz_mul, iz_neg, nI_iz, ix_iz, inb_iz, ifp_t, ifp_f, ifp_T, ifp_F, iz_eq, iz_lt, bI_s, bL_s, bV_s, bR_s]
      rw [CH_3, hl0 (by omega)]
  have l60 : ∀ x : Int, x = pif (q (26 + (s + q (9 + k))) = 2) 1 0 → L_Climber_undo_60 (d + 1) c o (iZ x) (iZ (crN q cr (s + q (9 + k)))) c (CH h c (s + q (9 + k)) (b + 1) (q (9 + k)) (crN q cr (s + q (9 + k))) (nxG q g k) S) = some (none, CH h c s b la cr g S) := by
    intro x hx
    rw [e_Climber_undo_60]
    simp only [lit32, litJ, iz_add, iz_sub, iz_mul, iz_neg, nI_iz, ix_iz, inb_iz, ifp_t, ifp_f, ifp_T, ifp_F, iz_eq, iz_lt, bI_s, bL_s, bV_s, bR_s, CH_4, CH_I, cFw_3, cFw_5]
    rw [x_isGreat d R' V (by omega), bI_s, show crN q cr (s + q (9 + k)) - x = cr by rw [crN, hx]; omega]
    simp only [bZ_0]
    exact ifp_r (fun h1 => l85 0 (pif_f h1).symm) (fun h1 => l85 1 (pif_t (Classical.byContradiction h1)).symm)
  exact ifp_r (fun h1 => l60 1 (pif_t h1).symm) (fun h1 => l60 0 (pif_f h1).symm)
