/-! ways, kept -/
def Nr (q : Int → Int) (s l c g t : Int) : Prop := Nd q s l c g t ∧ (0 < s → 0 < t)
theorem Nr.nx {q v : Int → Int} (V : VS q) {u : Prop} {s l c g t k : Int} (n : Nr q s l c g t) (h1 : 0 ≤ k) (h2 : k < q 8) (m : May q v u s l c g t k) : Nr q (s + q (9 + k)) (k + 1) (nxC q s c k) (nxG q g k) (t + 1) := ⟨n.1.nx V h1 h2 m, fun _ => by have := n.1.1; omega⟩
def PM (q : Int → Int) (le mo : Int) : Prop := 1 < le ∨ mo < q 0
def FM (q : Int → Int) (pu : Int) : Prop := 0 ≤ q 2 ∧ pu ≠ -3
/-- ways are begun so -/
def WB (h : Hp) (q v : Int → Int) (u : Prop) (pu le mo : Int) : Prop :=
  (hI h 8 3 = iZ pu ∧ hI h 8 4 = iZ le ∧ hI h 8 5 = iZ mo ∧ hI h 8 6 = bZ (PM q le mo) ∧ hI h 8 7 = bZ (FM q pu) ∧ hI h 8 8 = iZ (lkq q) ∧ hI h 8 9 = iZ (mxC q + 1) ∧ hI h 8 10 = iZ (mxG q + 1)) ∧
  (∀ a : Int, 0 ≤ a → a ≤ 12 → hI h 9 a.toNat = iZ (klq q a)) ∧ (-10 ≤ pu ∧ pu ≤ 40) ∧ (0 ≤ le ∧ le ≤ 40 ∧ 0 ≤ mo ∧ mo ≤ q 4) ∧ (u ↔ pu = -2) ∧ (u → ∀ s, 0 ≤ s → s ≤ 40 → hI h 10 s.toNat = iZ (v (41 + s)) ∧ 0 ≤ v (41 + s) ∧ v (41 + s) ≤ 2)
theorem WB.tr {h h' : Hp} {q v : Int → Int} {u : Prop} {pu le mo : Int} (W : WB h q v u pu le mo) (e : hI h' 8 = hI h 8) (e1 : hI h' 9 = hI h 9) (e2 : hI h' 10 = hI h 10) : WB h' q v u pu le mo := by
  unfold WB; rw [e, e1, e2]; exact W
theorem WB.ch {h : Hp} {q v : Int → Int} {u : Prop} {pu le mo : Int} (W : WB h q v u pu le mo) {A : Nat} {T : Nat → Int64} {s b la cr g : Int} {S : Nat → Int32} : WB (CH (wL h A T) 6 s b la cr g S) q v u pu le mo := W.tr (CH_n (by decide)) (CH_n (by decide)) (CH_n (by decide))
theorem x_placeOf (d : Nat) {h : Hp} (X : SX h) {q v : Int → Int} (V : VS q) {u : Prop} {pu le mo : Int} (W : WB h q v u pu le mo) {s l cr g b : Int} (hc : hI h 6 = cFw s b (stv q l) cr g) (n : Nd q s l (crC q cr) g b) (hs : s < q 0) : evm (d + 1) 97 [vR 10 8, vR 0 6] h = some (some (vI (iZ (plX q (PM q le mo) (FM q pu) s l (crC q cr) g b))), h) := by
  have c1 : hI h 6 1 = iZ s := by rw [hc]; rfl
  have c2 : hI h 6 2 = iZ b := by rw [hc]; rfl
  have c3 : hI h 6 3 = iZ (stv q l) := by rw [hc]; rfl
  have c4 : hI h 6 4 = iZ cr := by rw [hc]; rfl
  have c5 : hI h 6 5 = iZ g := by rw [hc]; rfl
  obtain ⟨⟨w1, w2, w3, w4, w5, w6, w7, w8⟩, w9, w10, w11, w12, w13⟩ := W
  have v1 := V.top
  have lb := stv_b V n.2.1
  have kb := klq_b V lb
  have lk := lkq_b V
  have mc := mxC_b V
  have mg := mxG_b V
  have pb := plX_b (pm := PM q le mo) (fm := FM q pu) V n hs
  have n0 := n.1
  have n3 := n.2.2.1
  have n4 := n.2.2.2
  have tail2 : ∀ y c : Int, c = crC q cr → L_Ways_placeOf_112 d 8 6 (iZ c) (iZ y) h = some (some (vI (iZ ((y + crC q cr) * (mxG q + 1) + g))), h) := by
    intro y c hcc
    rw [e_Ways_placeOf_112, w8, c5, hcc]
    simp (disch := omega) only [lit32, litJ, iz_add, iz_sub, iz_mul, iz_neg, nI_iz, ix_iz, inb_iz, ifp_t, ifp_f, ifp_T, ifp_F, iz_eq, iz_lt, bI_s, bL_s, bV_s, bR_s]
    refine ifp_r (fun _ => rfl) (fun y => ri_e ?_)
    rw [show g = 0 by omega]
  have tail : ∀ y : Int, y = bsX (PM q le mo) (FM q pu) s b → L_Ways_placeOf_73 d 8 6 (iZ y) h = some (some (vI (iZ (plX q (PM q le mo) (FM q pu) s l (crC q cr) g b))), h) := by
    intro y hy
    rw [e_Ways_placeOf_73, X.r 8 0 9, bR_s, X.n 9 13, c3, w6, w7, c4]
    simp (disch := omega) only [lit32, litJ, iz_add, iz_sub, iz_mul, iz_neg, nI_iz, ix_iz, inb_iz, ifp_t, ifp_f, ifp_T, ifp_F, iz_eq, iz_lt, bI_s, bL_s, bV_s, bR_s, w9 _ lb.1 lb.2]
    have e : plX q (PM q le mo) (FM q pu) s l (crC q cr) g b = ((y * lkq q + klq q (stv q l)) * (mxC q + 1) + crC q cr) * (mxG q + 1) + g := by rw [hy]; rfl
    rw [e]
    refine ifp_r (fun h1 => tail2 _ _ ?_) (fun h1 => tail2 _ _ ?_)
    · unfold crC; unfold mxC at h1
      by_cases h2 : q 1 < 0
      · rw [if_pos h2] at h1; omega
      · rw [if_neg h2]
    · omega
  rw [e_Ways_placeOf, c1, c2, c3, w4, w5]
  simp (disch := omega) only [lit32, litJ, iz_add, iz_sub, iz_mul, iz_neg, nI_iz, ix_iz, inb_iz, ifp_t, ifp_f, ifp_T, ifp_F, iz_eq, iz_lt, bI_s, bL_s, bV_s, bR_s, bZ_0]
  refine ifp_r (fun p => ifp_r (fun f => tail _ ?_) (fun f => ?_)) (fun p => ?_)
  · unfold bsX; rw [pif_f p, pif_f f]
  · rw [b_and1 b n0.1, iz_add]
    refine tail _ ?_
    unfold bsX; rw [pif_f p, pif_t (Classical.byContradiction f)]
  · have p2 : s * (s + 1) ≤ 40 * 41 := Int.mul_le_mul (by omega) (by omega) (by omega) (by omega)
    have p3 : 0 ≤ s * (s + 1) := Int.mul_nonneg (by omega) (by omega)
    rw [iz_div (by omega), iz_add]
    refine tail _ ?_
    unfold bsX; rw [pif_t (Classical.byContradiction p)]; rfl
theorem x_isEnd (d : Nat) {h : Hp} {o : Nat} {q v : Int → Int} (R : SR h o q) (V : VS q) {u : Prop} {pu le mo : Int} (W : WB h q v u pu le mo) {c : Nat} {s b la cr g : Int} (hc : hI h c = cFw s b la cr g) (hb : 0 ≤ b ∧ b ≤ 1000) : evm (d + 2) 98 [vR 10 8, vR 5 o, vR 0 c] h = some (some (vI (bZ (FtT q b ∧ le ≤ b ∧ b ≤ mo))), h) := by
  have c2 : hI h c 2 = iZ b := by rw [hc]; rfl
  obtain ⟨⟨w1, w2, w3, w4, w5, w6, w7, w8⟩, w9, w10, w11, w12, w13⟩ := W
  have v1 := V.cnt
  rw [e_Ways_isEnd, c2, w2, w3, x_footFits d R V hb, bI_s]
  simp (disch := omega) only [lit32, litJ, iz_add, iz_sub, iz_mul, iz_neg, nI_iz, ix_iz, inb_iz, ifp_t, ifp_f, ifp_T, ifp_F, iz_eq, iz_lt, bI_s, bL_s, bV_s, bR_s, bZ_0]
  exact ifp_r (fun y => rb_f (by omega)) (fun y => ifp_r (fun y' => rb_f (by omega)) (fun y' => ifp_r (fun z => rb_f (fun t => z t.1)) (fun z => rb_t ⟨Classical.byContradiction z, by omega, by omega⟩)))
theorem May_dust {q v : Int → Int} {s l c g t k : Int} : May q v True s l c g t k ↔ May q v False s l c g t k ∧ v (41 + (s + q (9 + k))) ≠ 2 ∧ ¬ ∃ j, s < j ∧ j < s + q (9 + k) ∧ v (41 + j) = 1 := by
  unfold May Shut Must
  constructor
  · rintro ⟨a1, a2, a3, a4⟩
    refine ⟨⟨a1, fun y => a2 (y.elim Or.inl (fun y => absurd y.1 id)), fun ⟨j, j1, j2, j3⟩ => a3 ⟨j, j1, j2, j3.elim Or.inl (fun y => absurd y.1 id)⟩, a4⟩, fun y => a2 (Or.inr ⟨trivial, y⟩), fun ⟨j, j1, j2, j3⟩ => a3 ⟨j, j1, j2, Or.inr ⟨trivial, j3⟩⟩⟩
  · rintro ⟨⟨a1, a2, a3, a4⟩, b1, b2⟩
    refine ⟨a1, fun y => y.elim (fun y => a2 (Or.inl y)) (fun y => b1 y.2), fun ⟨j, j1, j2, j3⟩ => j3.elim (fun y => a3 ⟨j, j1, j2, Or.inl y⟩) (fun y => b2 ⟨j, j1, j2, y.2⟩), a4⟩
theorem x_agree (d : Nat) {h : Hp} (X : SX h) {v : Int → Int} (D : ∀ s, 0 ≤ s → s ≤ 40 → hI h 10 s.toNat = iZ (v (41 + s)) ∧ 0 ≤ v (41 + s) ∧ v (41 + s) ≤ 2) {s t : Int} (hs : 0 ≤ s ∧ s < t ∧ t ≤ 40) : evm (d + 1) 100 [vR 10 8, vI (iZ s), vI (iZ t)] h = some (some (vI (bZ (v (41 + t) ≠ 2 ∧ ¬ ∃ j, s < j ∧ j < t ∧ v (41 + j) = 1))), h) := by
  have key : ∀ k : Int, s < k ∧ k ≤ t → (∀ j, s < j → j < k → v (41 + j) ≠ 1) → L_Ways_agreesWithDust_29 d 8 (iZ t) (iZ k) h = some (some (vI (bZ (¬ ∃ j, s < j ∧ j < t ∧ v (41 + j) = 1))), h) := by
    refine lpZ t (fun k hk hb hj => ?_) (fun k hk ih hb hj => ?_)
    · rw [e_Ways_agreesWithDust_29]
      simp (disch := omega) only [lit32, litJ, iz_add, iz_sub, iz_mul, iz_neg, nI_iz, ix_iz, inb_iz, ifp_t, ifp_f, ifp_T, ifp_F, iz_eq, iz_lt, bI_s, bL_s, bV_s, bR_s]
      refine rb_t ?_
      rintro ⟨j, j1, j2, j3⟩
      exact hj j j1 (by omega) j3
    · have dk := D k (by omega) (by omega)
      rw [e_Ways_agreesWithDust_29]
      simp (disch := omega) only [lit32, litJ, iz_add, iz_sub, iz_mul, iz_neg, nI_iz, ix_iz, inb_iz, ifp_t, ifp_f, ifp_T, ifp_F, iz_eq, iz_lt, bI_s, bL_s, bV_s, bR_s, X.r 8 1 10, X.n 10 41, dk.1]
      refine ifp_r (fun y => rb_f (fun z => z ⟨k, by omega, by omega, y⟩)) (fun y => ih (by omega) (fun j j1 j2 => ?_))
      by_cases e : j = k
      · subst e; exact y
      · exact hj j j1 (by omega)
  have dt := D t (by omega) (by omega)
  have k0 := key (s + 1) (by omega) (fun j j1 j2 => by omega)
  rw [e_Ways_agreesWithDust]
  simp (disch := omega) only [lit32, litJ, iz_add, iz_sub, iz_mul, iz_neg, nI_iz, ix_iz, inb_iz, ifp_t, ifp_f, ifp_T, ifp_F, iz_eq, iz_lt, bI_s, bL_s, bV_s, bR_s, X.r 8 1 10, X.n 10 41, dt.1]
  refine ifp_r (fun y => rb_f (fun z => z.1 y)) (fun y => ?_)
  rw [k0]
  congr 4
  exact bZ_c ⟨fun z => ⟨y, z⟩, fun z => z.2⟩
theorem x_isOpen (d : Nat) {h : Hp} (X : SX h) {o : Nat} (t : TO o) {q v : Int → Int} (R : SR h o q) (V : VS q) {u : Prop} {pu le mo : Int} (W : WB h q v u pu le mo) {c : Nat} {s l cr g b k : Int} (hc : hI h c = cFw s b (stv q l) cr g) (hk : 0 ≤ k ∧ k < q 8) (n : Nd q s l (crC q cr) g b) (hcr : 0 ≤ cr ∧ cr ≤ b) : evm (d + 3) 99 [vR 10 8, vR 5 o, vR 0 c, vI (iZ (q (9 + k)))] h = some (some (vI (bZ (May q v u s l (crC q cr) g b k ∧ b < mo))), h) := by
  have c1 : hI h c 1 = iZ s := by rw [hc]; rfl
  have c2 : hI h c 2 = iZ b := by rw [hc]; rfl
  have vs := V.str hk.1 hk.2
  have v1 := V.top
  have vc := V.cnt
  have mg := mxG_b V
  obtain ⟨n1, n2, n3, n4⟩ := n
  obtain ⟨⟨w1, w2, w3, w4, w5, w6, w7, w8⟩, w9, w10, w11, w12, w13⟩ := W
  have lb := stv_b V n2
  have ck := Can_k V v (s := s) (l := l) (cr := cr) (g := g) (b := b) (k := k) n2 hk
  rw [e_Ways_isOpen, c2, w3, x_can d X t R V hc (by omega) (by omega) (by omega) lb (by omega) (by omega), bI_s, c1, w1]
  simp (disch := omega) only [lit32, litJ, iz_add, iz_sub, iz_mul, iz_neg, nI_iz, ix_iz, inb_iz, ifp_t, ifp_f, ifp_T, ifp_F, iz_eq, iz_lt, bI_s, bL_s, bV_s, bR_s, bZ_0]
  refine ifp_r (fun y => ifp_r (fun z => rb_f (fun a => ?_)) (fun z => ?_)) (fun y => rb_f (fun z => y z.2))
  · refine z (ck.mpr ?_)
    by_cases hu : u
    · rw [eq_true hu] at a; exact (May_dust.mp a.1).1
    · rw [eq_false hu] at a; exact a.1
  · have m := ck.mp (Classical.byContradiction z)
    refine ifp_r (fun p => ?_) (fun p => rb_t ?_)
    · have hu : u := w12.mpr p
      rw [x_agree (d + 1) X (w13 hu) (by have := m.1; omega), bI_s]
      simp only [bZ_0]
      rw [eq_true hu]
      exact ifp_r (fun z => rb_f (fun a => z (May_dust.mp a.1).2)) (fun z => rb_t ⟨May_dust.mpr ⟨m, Classical.byContradiction z⟩, y⟩)
    · have hu : ¬ u := fun a => p (w12.mp a)
      rw [eq_false hu]
      exact ⟨m, y⟩
/-- what is kept is right -/
def Mem (q : Int → Int) (pm fm : Prop) (F : Int → Int → Int → Int → Int → Int) (T : Nat → Int64) : Prop := ∀ s l c g t, Nr q s l c g t → s < q 0 → T (plX q pm fm s l c g t).toNat = jZ (-1) ∨ T (plX q pm fm s l c g t).toNat = jZ (F s l c g t)
def Smi (q : Int → Int) (pm fm : Prop) (F : Int → Int → Int → Int → Int → Int) : Prop := ∀ s l c g t s' l' c' g' t', Nr q s l c g t → Nr q s' l' c' g' t' → s < q 0 → s' < q 0 → plX q pm fm s l c g t = plX q pm fm s' l' c' g' t' → F s l c g t = F s' l' c' g' t'
theorem Mem.up {q : Int → Int} (V : VS q) {pm fm : Prop} {F : Int → Int → Int → Int → Int → Int} (H : Smi q pm fm F) {T : Nat → Int64} (M : Mem q pm fm F T) {s l c g t : Int} (n : Nr q s l c g t) (hs : s < q 0) : Mem q pm fm F (up T (plX q pm fm s l c g t).toNat (jZ (F s l c g t))) := by
  intro s' l' c' g' t' n' hs'
  have b := plX_b (pm := pm) (fm := fm) V n.1 hs
  have b' := plX_b (pm := pm) (fm := fm) V n'.1 hs'
  by_cases e : (plX q pm fm s' l' c' g' t').toNat = (plX q pm fm s l c g t).toNat
  · rw [e, up_e]
    exact Or.inr (by rw [H _ _ _ _ _ _ _ _ _ _ n n' hs hs' (by omega)])
  · rw [up_n _ _ e]
    exact M _ _ _ _ _ n' hs'
theorem Smi_W {q v : Int → Int} (V : VS q) {u : Prop} {e : Int → Prop} {pu le mo : Int} (he : ∀ t, e t ↔ FtT q t ∧ le ≤ t ∧ t ≤ mo) (hm : mo ≤ q 4) (hp : pu ≠ -3) : Smi q (PM q le mo) (FM q pu) (Wy q v u e) := by
  intro s l c g t s' l' c' g' t' n n' hs hs' ep
  obtain ⟨e1, e2, e3, e4, e5, e6⟩ := plX_i V n.1 n'.1 ep
  subst e1 e3 e4
  have a := n.1.1
  have a' := n'.1.1
  refine Wy_sim V he hm 41 _ _ _ _ _ _ _ (by have := V.top; omega) (by omega) ⟨a.1, a.2.1, n.2⟩ ⟨a'.1, a'.2.1, n'.2⟩ e2 e5 (fun f => ?_)
  by_cases p : PM q le mo
  · rw [e5 p]
  · exact e6 p ⟨f, hp⟩
theorem Smi_G {q v : Int → Int} (V : VS q) {u : Prop} : Smi q (PM q 0 (q 4)) (FM q (-3)) (Gv q v u) := by
  intro s l c g t s' l' c' g' t' n n' hs hs' ep
  obtain ⟨e1, e2, e3, e4, e5, e6⟩ := plX_i V n.1 n'.1 ep
  subst e1 e3 e4
  have a := n.1.1
  have a' := n'.1.1
  exact Gv_sim V (by omega) (by omega) (by omega) e2 (fun p => e5 (Or.inr p))
theorem stv_k (q : Int → Int) {k : Int} (h : 0 ≤ k) : stv q (k + 1) = q (9 + k) := by
  unfold stv; rw [if_neg (by omega), show k + 1 - 1 = k by omega]
theorem crN_b {q : Int → Int} {cr s b : Int} (h : 0 ≤ cr ∧ cr ≤ b) : 0 ≤ crN q cr s ∧ crN q cr s ≤ b + 1 := by
  unfold crN
  have := p01 (q (26 + s) = 2)
  omega
