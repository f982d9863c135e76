/-! ways from where one is -/
theorem cmp_lt {a b : Int} (h1 : -9223372036854775808 ≤ a ∧ a < 9223372036854775808 ∧ -9223372036854775808 ≤ b ∧ b < 9223372036854775808) : lg_cmp (jZ a) (jZ b) < iZ 0 ↔ a < b := by
  rw [cmp_jz h1]
  by_cases q1 : a < b
  · rw [if_pos q1]; exact ⟨fun _ => q1, fun _ => by decide⟩
  · rw [if_neg q1]
    refine ⟨fun y => ?_, fun y => absurd y q1⟩
    split at y <;> exact absurd y (by decide)
theorem cmp_eq {a b : Int} (h1 : -9223372036854775808 ≤ a ∧ a < 9223372036854775808 ∧ -9223372036854775808 ≤ b ∧ b < 9223372036854775808) : lg_cmp (jZ a) (jZ b) = iZ 0 ↔ a = b := by
  rw [cmp_jz h1]
  by_cases q1 : a < b
  · rw [if_pos q1]; exact ⟨fun y => absurd y (by decide), fun y => by omega⟩
  · rw [if_neg q1]
    by_cases q2 : a = b
    · rw [if_pos q2]; exact ⟨fun _ => q2, fun _ => rfl⟩
    · rw [if_neg q2]; exact ⟨fun y => absurd y (by decide), fun y => absurd y q2⟩
theorem cmp_gt {a b : Int} (h1 : -9223372036854775808 ≤ a ∧ a < 9223372036854775808 ∧ -9223372036854775808 ≤ b ∧ b < 9223372036854775808) : iZ 0 < lg_cmp (jZ a) (jZ b) ↔ b < a := by
  rw [cmp_jz h1]
  by_cases q1 : a < b
  · rw [if_pos q1]; exact ⟨fun y => absurd y (by decide), fun y => by omega⟩
  · rw [if_neg q1]
    by_cases q2 : a = b
    · rw [if_pos q2]; exact ⟨fun y => absurd y (by decide), fun y => by omega⟩
    · rw [if_neg q2]; exact ⟨fun y => by omega, fun _ => by decide⟩
def FrP (h : Hp) (o : Nat) (q v : Int → Int) (u : Prop) (e : Int → Prop) (pm fm : Prop) (A m : Nat) : Prop := ∀ (d : Nat) (s l cr g b dp : Int) (S : Nat → Int32) (T : Nat → Int64), q 0 - s ≤ m → Nr q s l (crC q cr) g b → (0 ≤ cr ∧ cr ≤ b) → (0 ≤ dp ∧ dp ≤ s) → (0 < b → S (b - 1).toNat = iZ (stv q l)) → (b = 0 → l = 0) → Mem q pm fm (Wy q v u e) T →
  ∃ T' S', evm (2 * m + d + 5) 90 [vR 10 8, vR 5 o, vR 0 6, vI (iZ dp)] (CH (wL h A T) 6 s b (stv q l) cr g S) = some (some (vL (jZ (Wy q v u e s l (crC q cr) g b))), CH (wL h A T') 6 s b (stv q l) cr g S') ∧ Mem q pm fm (Wy q v u e) T' ∧ ∀ j, j < b.toNat → S' j = S j
theorem x_behind {h : Hp} (X : SX h) {o : Nat} (t : TO o) {q v : Int → Int} (R : SR h o q) (V : VS q) {u : Prop} {pu le mo : Int} (W : WB h q v u pu le mo) {e : Int → Prop} {A m : Nat} {pm fm : Prop} (F : FrP h o q v u e pm fm A m) (d : Nat) {s l cr g b dp k : Int} {S : Nat → Int32} {T : Nat → Int64} (hm : q 0 - s ≤ m + 1) (n : Nr q s l (crC q cr) g b) (hcr : 0 ≤ cr ∧ cr ≤ b) (hdp : 0 ≤ dp ∧ dp ≤ s + 1) (hS : 0 < b → S (b - 1).toNat = iZ (stv q l)) (hl : b = 0 → l = 0) (M : Mem q pm fm (Wy q v u e) T) (hk : 0 ≤ k ∧ k < q 8) :
    ∃ T' S', evm (2 * m + d + 6) 91 [vR 10 8, vR 5 o, vR 0 6, vI (iZ (q (9 + k))), vI (iZ dp)] (CH (wL h A T) 6 s b (stv q l) cr g S) = some (some (vL (jZ (pif (May q v u s l (crC q cr) g b k ∧ b < mo) (Wy q v u e (s + q (9 + k)) (k + 1) (nxC q s (crC q cr) k) (nxG q g k) (b + 1)) 0))), CH (wL h A T') 6 s b (stv q l) cr g S') ∧ Mem q pm fm (Wy q v u e) T' ∧ ∀ j, j < b.toNat → S' j = S j := by
  have X' : ∀ {T}, SX (wL h A T) := fun {_} => X
  have R' : ∀ {T}, SR (wL h A T) o q := fun {_} => R
  have v1 := V.top
  have vs := V.str hk.1 hk.2
  have n0 := n.1.1
  rw [e_Ways_behind, x_isOpen (2 * m + d + 2) (h := CH (wL h A T) 6 s b (stv q l) cr g S) X t (R'.ch t (by decide)) V W.ch CH_I hk n.1 hcr, bI_s]
  simp only [lit32, bZ_0]
  by_cases hM : May q v u s l (crC q cr) g b k ∧ b < mo
  · have m1 := hM.1.1
    have c0 : ∀ {T}, hR (wL h A T) 6 0 = some (6 + 1) := fun {_} => X.r 6 0 7
    have c1 : ∀ {T}, hN (wL h A T) (6 + 1) = 40 := fun {_} => X.n 7 40
    have nx := n.nx V hk.1 hk.2 hM.1
    rw [← crC_n] at nx
    obtain ⟨T', S', e1, e2, e3⟩ := F d (s + q (9 + k)) (k + 1) (crN q cr (s + q (9 + k))) (nxG q g k) (b + 1) dp (up S b.toNat (iZ (q (9 + k)))) T (by omega) nx (crN_b hcr) (by omega) (fun _ => by rw [show b + 1 - 1 = b by omega, up_e, stv_k q hk.1]) (fun y => by omega) M
    rw [stv_k q hk.1, crC_n] at e1
    have e4 : ∀ j, j < b.toNat → S' j = S j := fun j hj => by rw [e3 j (by omega), up_n _ _ (by omega)]
    refine ⟨T', S', ?_, e2, e4⟩
    rw [ifp_f (fun y => y hM), x_go (2 * m + d + 3) X' t R' V (by decide) c0 c1 hk (by omega) (by omega), bV_s, e1, bL_s, x_undo (2 * m + d + 3) X' t R' V (by decide) c0 c1 (la := stv q l) (cr := cr) (g := g) hk (by omega) (by omega) (fun y => by rw [e4 _ (by omega), hS y]) (fun y => by rw [hl y]; rfl), bV_s, pif_t hM]
  · refine ⟨T, S, ?_, M, fun _ _ => rfl⟩
    rw [ifp_t hM, pif_f hM]
    rfl
theorem x_from {h : Hp} (X : SX h) {o : Nat} (t : TO o) {q v : Int → Int} (R : SR h o q) (V : VS q) {u : Prop} {pu le mo : Int} (W : WB h q v u pu le mo) (hp : pu ≠ -3) {e : Int → Prop} (he : ∀ t, e t ↔ FtT q t ∧ le ≤ t ∧ t ≤ mo) {A : Nat} (hA : hR h 8 2 = some A) (hn : szX q (PM q le mo) (FM q pu) ≤ hN h A) (hn2 : hN h A ≤ 1000000) : ∀ m : Nat, FrP h o q v u e (PM q le mo) (FM q pu) A m := by
  have v1 := V.top
  have vn := V.n
  have hmo := W.2.2.2.1
  have sim := Smi_W (v := v) V (u := u) he hmo.2.2.2 hp
  have X' : ∀ {T}, SX (wL h A T) := fun {_} => X
  have R' : ∀ {T}, SR (wL h A T) o q := fun {_} => R
  have top : ∀ (m d : Nat) (s l cr g b dp : Int) (S : Nat → Int32) (T : Nat → Int64), s = q 0 → Nr q s l (crC q cr) g b → (0 ≤ dp ∧ dp ≤ s) → evm (m + d + 5) 90 [vR 10 8, vR 5 o, vR 0 6, vI (iZ dp)] (CH (wL h A T) 6 s b (stv q l) cr g S) = some (some (vL (jZ (Wy q v u e s l (crC q cr) g b))), CH (wL h A T) 6 s b (stv q l) cr g S) := by
    intro m d s l cr g b dp S T hs n hdp
    have n0 := n.1.1
    have W' : WB (CH (wL h A T) 6 s b (stv q l) cr g S) q v u pu le mo := W.ch
    rw [e_Ways_from]
    simp (disch := omega) only [lit32, litJ, iz_add, iz_sub, iz_mul, iz_neg, nI_iz, ix_iz, inb_iz, ifp_t, ifp_f, ifp_T, ifp_F, iz_eq, iz_lt, bI_s, bL_s, bV_s, bR_s]
    rw [e_Ways_from_8, CH_I, cFw_1, (R'.ch t (by decide)).top, x_isEnd (m + d + 2) (R'.ch t (by decide)) V W' CH_I (by omega), bI_s]
    simp (disch := omega) only [lit32, litJ, iz_add, iz_sub, iz_mul, iz_neg, nI_iz, ix_iz, inb_iz, ifp_t, ifp_f, ifp_T, ifp_F, iz_eq, iz_lt, bI_s, bL_s, bV_s, bR_s, bZ_0]
    rw [Wy_e V (by omega) (by omega), pif_t hs]
    refine ifp_r (fun y => rj_e ?_) (fun y => rj_e ?_)
    · rw [pif_f (fun z => y ((he b).mp z))]
    · rw [pif_t ((he b).mpr (Classical.byContradiction y))]
  intro m
  induction m with
  | zero =>
    intro d s l cr g b dp S T h1 n hcr hdp hS hl M
    have n0 := n.1.1
    exact ⟨T, S, top _ d s l cr g b dp S T (by omega) n hdp, M, fun _ _ => rfl⟩
  | succ m ih =>
    intro d s l cr g b dp S T h1 n hcr hdp hS hl M
    have n0 := n.1.1
    by_cases hs : s = q 0
    · exact ⟨T, S, top _ d s l cr g b dp S T hs n hdp, M, fun _ _ => rfl⟩
    · have pb := plX_b (pm := PM q le mo) (fm := FM q pu) V n.1 (by omega)
      have sb := szX_b (pm := PM q le mo) (fm := FM q pu) V
      have wb := Wy_b (v := v) V (u := u) (e := e) (s := s) (l := l) (c := crC q cr) (g := g) (t := b) (by omega) (by omega)
      have eW := Wy_X (v := v) V (u := u) (e := e) (mo := mo) (fun t y => ((he t).mp y).2.2) (s := s) (l := l) (c := crC q cr) (g := g) (t := b) (by omega) (by omega)
      have loop : ∀ k : Int, 0 ≤ k ∧ k ≤ q 8 → ∀ (T : Nat → Int64) (S : Nat → Int32), Mem q (PM q le mo) (FM q pu) (Wy q v u e) T → (0 < b → S (b - 1).toNat = iZ (stv q l)) → ∃ T' S', L_Ways_from_84 (2 * m + d + 6) 8 o 6 (iZ dp) (iZ (plX q (PM q le mo) (FM q pu) s l (crC q cr) g b)) (jZ (sZ (fun k => pif (May q v u s l (crC q cr) g b k ∧ b < mo) (Wy q v u e (s + q (9 + k)) (k + 1) (nxC q s (crC q cr) k) (nxG q g k) (b + 1)) 0) k)) (iZ k) (CH (wL h A T) 6 s b (stv q l) cr g S) = some (some (vL (jZ (Wy q v u e s l (crC q cr) g b))), CH (wL h A T') 6 s b (stv q l) cr g S') ∧ Mem q (PM q le mo) (FM q pu) (Wy q v u e) T' ∧ ∀ j, j < b.toNat → S' j = S j := by
        refine lpZ (q 8) (fun k hk hb T S M hS => ?_) (fun k hk ihk hb T S M hS => ?_)
        · rw [e_Ways_from_84, (SR.ch (R' (T := T)) t (by decide)).n]
          simp (disch := omega) only [lit32, litJ, iz_add, iz_sub, iz_mul, iz_neg, nI_iz, ix_iz, inb_iz, ifp_t, ifp_f, ifp_T, ifp_F, iz_eq, iz_lt, bI_s, bL_s, bV_s, bR_s, CH_R, wL_R, hA, CH_N, wL_N]
          rw [show k = q 8 by omega, ← eW, CH_sL, sL_wL]
          exact ⟨_, S, rfl, M.up V sim n (by omega), fun _ _ => rfl⟩
        · obtain ⟨T1, S1, e1, e2, e3⟩ := x_behind X t R V W ih d (dp := dp + 1) (by omega) n hcr (by omega) hS hl M ⟨hb.1, hk⟩
          have r1 := (SR.ch (R' (T := T)) t (show 6 ≤ 46 by decide) (s := s) (b := b) (la := stv q l) (cr := cr) (g := g) (S := S)).str hb.1 hk
          rw [e_Ways_from_84, (SR.ch (R' (T := T)) t (by decide)).n]
          simp (disch := omega) only [lit32, litJ, iz_add, iz_sub, iz_mul, iz_neg, nI_iz, ix_iz, inb_iz, ifp_t, ifp_f, ifp_T, ifp_F, iz_eq, iz_lt, bI_s, bL_s, bV_s, bR_s, CH_R, wL_R, X.o0 t, CH_N, wL_N, X.n1 t, r1, e1]
          rw [jz_add, ← sZ_s _ hb.1]
          obtain ⟨T2, S2, f1, f2, f3⟩ := ihk (by omega) T1 S1 e2 (fun y => by rw [e3 _ (by omega), hS y])
          exact ⟨T2, S2, f1, f2, fun j hj => by rw [f3 j hj, e3 j hj]⟩
      have X2 : SX (CH (wL h A T) 6 s b (stv q l) cr g S) := X
      have W' : WB (CH (wL h A T) 6 s b (stv q l) cr g S) q v u pu le mo := W.ch
      rw [show 2 * (m + 1) + d + 5 = 2 * m + d + 7 by omega, e_Ways_from]
      simp (disch := omega) only [lit32, litJ, iz_add, iz_sub, iz_mul, iz_neg, nI_iz, ix_iz, inb_iz, ifp_t, ifp_f, ifp_T, ifp_F, iz_eq, iz_lt, bI_s, bL_s, bV_s, bR_s]
      rw [e_Ways_from_8, CH_I, cFw_1, (SR.ch (R' (T := T)) t (by decide)).top, x_placeOf (2 * m + d + 5) X2 V W' CH_I n.1 (by omega), bI_s]
      simp (disch := omega) only [lit32, litJ, iz_add, iz_sub, iz_mul, iz_neg, nI_iz, ix_iz, inb_iz, ifp_t, ifp_f, ifp_T, ifp_F, iz_eq, iz_lt, bI_s, bL_s, bV_s, bR_s, CH_R, wL_R, hA, CH_N, wL_N, CH_L, wL_L]
      rcases M _ _ _ _ _ n (by omega) with hT | hT
      · rw [hT, ifp_t ((cmp_lt (by omega)).mpr (by omega))]
        have := loop 0 (by omega) T S M hS
        rw [sZ_0 _ (by omega)] at this
        exact this
      · rw [hT, ifp_f (fun y => by have := (cmp_lt (by omega)).mp y; omega)]
        exact ⟨T, S, rfl, M, fun _ _ => rfl⟩
