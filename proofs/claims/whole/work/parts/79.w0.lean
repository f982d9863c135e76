/-! the class: ways begun, and kept -/
theorem eAll_A {q : Int → Int} (t : Int) : eAll q (-1) t ↔ FtT q t ∧ q 3 ≤ t ∧ t ≤ q 4 := ⟨fun y => y.1, fun y => ⟨y, Or.inl (by omega)⟩⟩
def WMe (h : Hp) (q : Int → Int) (pu le mo : Int) (F : Int → Int → Int → Int → Int → Int) (A : Nat) : Prop := WBc h q pu le mo ∧ szX q (PM q le mo) (FM q pu) ≤ hN h A ∧ Mem q (PM q le mo) (FM q pu) F (hL h A)
def mxI (a b : Int) : Int := if a < b then b else a
def mnI (a b : Int) : Int := if b < a then b else a
theorem eAll_X {q : Int → Int} {z : Int} (hz : 0 ≤ z) (t : Int) : eAll q z t ↔ FtT q t ∧ mxI (q 3) z ≤ t ∧ t ≤ mnI (q 4) z := by
  have e1 : mxI (q 3) z ≤ t ↔ q 3 ≤ t ∧ z ≤ t := by unfold mxI; split <;> omega
  have e2 : t ≤ mnI (q 4) z ↔ t ≤ q 4 ∧ t ≤ z := by unfold mnI; split <;> omega
  rw [e1, e2]
  constructor
  · rintro ⟨⟨a, b, c⟩, f⟩
    exact ⟨a, by omega, by omega⟩
  · rintro ⟨a, b, c⟩
    exact ⟨⟨a, b.1, c.1⟩, Or.inr (by omega)⟩
/-- what the ways keep -/
def WC (h : Hp) (q : Int → Int) (A : Nat) : Prop := ∃ pu : Int, hI h 8 3 = iZ pu ∧ (pu = -4 ∨ pu = -2 ∨ (pu = -1 ∧ WMe h q (-1) (q 3) (q 4) (Wy q z0 False (eAll q (-1))) A) ∨ ((0 ≤ pu ∧ pu ≤ 40) ∧ WMe h q pu (mxI (q 3) pu) (mnI (q 4) pu) (Wy q z0 False (eAll q pu)) A) ∨ (pu = -3 ∧ WMe h q (-3) 0 (q 4) (Gv q z0 False) A))
/-- what a beginning leaves alone -/
def Wfr (h h' : Hp) (A A' : Nat) : Prop := (∀ r, Dm h r → r ≠ 8 → r ≠ 9 → r ≠ 10 → hI h' r = hI h r) ∧ (∀ r, Dm h r → r ≠ A' → hL h' r = hL h r) ∧ (∀ r k, Dm h r → ¬ (r = 8 ∧ k = 2) → hR h' r k = hR h r k) ∧ (∀ r, Dm h r → hN h' r = hN h r) ∧ hR h' 8 2 = some A' ∧ (64 ≤ hN h' A' ∧ hN h' A' ≤ 143500) ∧ ((A' = A ∧ hC h' = hC h ∧ hS h' = hS h) ∨ (A' = hC h ∧ hC h' = hC h + 1 ∧ hS h' = hS h + hN h' A' ∧ (2 * hN h A ≤ hN h' A' ∨ hN h' A' = 143500) ∧ hN h A < hN h' A'))
theorem Wfr.rf {h : Hp} {A : Nat} (hA : hR h 8 2 = some A) (hln : 64 ≤ hN h A ∧ hN h A ≤ 143500) : Wfr h h A A := ⟨fun _ _ _ _ _ => rfl, fun _ _ _ => rfl, fun _ _ _ _ => rfl, fun _ _ => rfl, hA, hln, Or.inl ⟨rfl, rfl, rfl⟩⟩
theorem Bgn.w {h h' : Hp} {q : Int → Int} {pu le mo : Int} {A A' : Nat} (B : Bgn h h' q pu le mo A A') : Wfr h h' A A' := by
  obtain ⟨b1, ⟨g, g1, g2, g3, g4, g5, a1, a2, a3, a4, a5, a6, a7⟩, _⟩ := B
  have dm : ∀ r, Dm h r → Dm g r := fun r y => by unfold Dm at *; rw [g1]; exact y
  refine ⟨fun r y r1 r2 _ => b1 r y r1 r2, fun r y r1 => by rw [a2 r (dm r y) r1, g3], fun r k y r1 => by rw [a3 r k (dm r y) r1, g4], fun r y => by rw [a4 r (dm r y), g5], a5, a6, ?_⟩
  rw [g1, g2, g5] at a7
  exact a7
theorem Mem_e {q : Int → Int} (V : VS q) {pm fm : Prop} (F : Int → Int → Int → Int → Int → Int) {T : Nat → Int64} (h : ∀ i : Nat, (i : Int) < szX q pm fm → T i = jZ (-1)) : Mem q pm fm F T := fun s l c g t n hs => by
  have := plX_b V (pm := pm) (fm := fm) n.1 hs
  exact Or.inl (h _ (by omega))
theorem Bgn.m {h h' : Hp} {q : Int → Int} (V : VS q) {pu le mo : Int} {A A' : Nat} (B : Bgn h h' q pu le mo A A') (F : Int → Int → Int → Int → Int → Int) : WMe h' q pu le mo F A' := ⟨B.2.2.1, B.2.2.2.1, Mem_e V F B.2.2.2.2⟩
theorem WBc.f {h : Hp} {q : Int → Int} {pu le mo : Int} (W : WBc h q pu le mo) (v : Int → Int) (hp : -10 ≤ pu ∧ pu ≤ 40 ∧ pu ≠ -2) (hb : 0 ≤ le ∧ le ≤ 40 ∧ 0 ≤ mo ∧ mo ≤ q 4) : WB h q v False pu le mo := ⟨W.1, W.2, ⟨hp.1, hp.2.1⟩, hb, ⟨fun y => y.elim, fun y => absurd y hp.2.2⟩, fun y => y.elim⟩
theorem x_beginAll (d : Nat) {h : Hp} (X : SX h) {o : Nat} (t : TO o) {q : Int → Int} (R : SR h o q) (V : VS q) {A : Nat} (hA : hR h 8 2 = some A) (hln : 64 ≤ hN h A ∧ hN h A ≤ 143500) (hc : A < hC h ∧ 92 < hC h ∧ hC h < 999999) (C : WC h q A) : ∃ h' A', evm (d + 5) 86 [vR 10 8, vR 5 o] h = some (none, h') ∧ Wfr h h' A A' ∧ WMe h' q (-1) (q 3) (q 4) (Wy q z0 False (eAll q (-1))) A' := by
  have vc := V.cnt
  obtain ⟨pu, c1, c2⟩ := C
  by_cases e : pu = -1
  · refine ⟨h, A, ?_, Wfr.rf hA hln, ?_⟩
    · rw [e_Ways_beginAll, c1, e, show (-1 : Int32) = iZ (-1) from rfl, ifp_t rfl]
    · rcases c2 with c2 | c2 | c2 | c2 | c2
      · omega
      · omega
      · exact c2.2
      · omega
      · omega
  · obtain ⟨h', A', g1, g2⟩ := x_begin d X t R V (pu := -1) (le := q 3) (mo := q 4) (by omega) (by omega) hA hln hc
    refine ⟨h', A', ?_, g2.w, g2.m V _⟩
    rw [e_Ways_beginAll, c1, show (-1 : Int32) = iZ (-1) from rfl, ifp_f (fun y => e ((iz_eq (by omega)).mp y)), R.lea, R.mos, g1, bV_s]
theorem x_beginEx (d : Nat) {h : Hp} (X : SX h) {o : Nat} (t : TO o) {q : Int → Int} (R : SR h o q) (V : VS q) {A : Nat} (hA : hR h 8 2 = some A) (hln : 64 ≤ hN h A ∧ hN h A ≤ 143500) (hc : A < hC h ∧ 92 < hC h ∧ hC h < 999999) (C : WC h q A) {z : Int} (hz : 0 ≤ z ∧ z ≤ 40) : ∃ h' A', evm (d + 5) 87 [vR 10 8, vR 5 o, vI (iZ z)] h = some (none, h') ∧ Wfr h h' A A' ∧ WMe h' q z (mxI (q 3) z) (mnI (q 4) z) (Wy q z0 False (eAll q z)) A' := by
  have vc := V.cnt
  obtain ⟨pu, c1, c2⟩ := C
  by_cases e : pu = z
  · refine ⟨h, A, ?_, Wfr.rf hA hln, ?_⟩
    · rw [e_Ways_beginExactly, c1, e, ifp_t rfl]
    · rcases c2 with c2 | c2 | c2 | c2 | c2
      · omega
      · omega
      · omega
      · rw [← e]; exact c2.2
      · omega
  · obtain ⟨h', A', g1, g2⟩ := x_begin d X t R V (pu := z) (le := mxI (q 3) z) (mo := mnI (q 4) z) (by omega) (by unfold mxI mnI; split <;> split <;> omega) hA hln hc
    refine ⟨h', A', ?_, g2.w, g2.m V _⟩
    rw [e_Ways_beginExactly, c1, ifp_f (fun y => e ((iz_eq (by omega)).mp y)), R.lea, j_max (d + 3) (by omega) (by omega), bI_s, R.mos, j_min (d + 3) (by omega) (by omega), bI_s]
    have g1' : evm (d + 4) 95 [vR 10 8, vR 5 o, vI (iZ z), vI (iZ (if q 3 < z then z else q 3)), vI (iZ (if z < q 4 then z else q 4))] h = _ := g1
    rw [g1', bV_s]
theorem x_beginGame (d : Nat) {h : Hp} (X : SX h) {o : Nat} (t : TO o) {q : Int → Int} (R : SR h o q) (V : VS q) {A : Nat} (hA : hR h 8 2 = some A) (hln : 64 ≤ hN h A ∧ hN h A ≤ 143500) (hc : A < hC h ∧ 92 < hC h ∧ hC h < 999999) (C : WC h q A) : ∃ h' A', evm (d + 5) 88 [vR 10 8, vR 5 o] h = some (none, h') ∧ Wfr h h' A A' ∧ WMe h' q (-3) 0 (q 4) (Gv q z0 False) A' := by
  have vc := V.cnt
  obtain ⟨pu, c1, c2⟩ := C
  by_cases e : pu = -3
  · refine ⟨h, A, ?_, Wfr.rf hA hln, ?_⟩
    · rw [e_Ways_beginGame, c1, e, show (-3 : Int32) = iZ (-3) from rfl, ifp_t rfl]
    · rcases c2 with c2 | c2 | c2 | c2 | c2
      · omega
      · omega
      · omega
      · omega
      · exact c2.2
  · obtain ⟨h', A', g1, g2⟩ := x_begin d X t R V (pu := -3) (le := 0) (mo := q 4) (by omega) (by omega) hA hln hc
    refine ⟨h', A', ?_, g2.w, g2.m V _⟩
    rw [e_Ways_beginGame, c1, show (-3 : Int32) = iZ (-3) from rfl, ifp_f (fun y => e ((iz_eq (by omega)).mp y)), show (0 : Int32) = iZ 0 from rfl, R.mos, g1, bV_s]
theorem x_beginDusty (d : Nat) {h : Hp} (X : SX h) {o : Nat} (t : TO o) {q v : Int → Int} (R : SR h o q) (V : VS q) (D : ∀ s, 0 ≤ s → s ≤ 40 → hI h 46 s.toNat = iZ (v (41 + s)) ∧ 0 ≤ v (41 + s) ∧ v (41 + s) ≤ 2) {A : Nat} (hA : hR h 8 2 = some A) (hln : 64 ≤ hN h A ∧ hN h A ≤ 143500) (hc : A < hC h ∧ 92 < hC h ∧ hC h < 999999) : ∃ h' A', evm (d + 5) 89 [vR 10 8, vR 5 o, vR 20 46] h = some (none, h') ∧ Wfr h h' A A' ∧ WMe h' q (-2) (q 3) (q 4) (Wy q v True (eAll q (-1))) A' ∧ WB h' q v True (-2) (q 3) (q 4) := by
  have tt := t
  unfold TO at tt
  have vc := V.cnt
  have X' : ∀ {f}, SX (wI h 10 f) := fun {_} => X
  have R' : ∀ {f}, SR (wI h 10 f) o q := fun {f} => R.tr (fun r r1 r2 => wI_n _ _ (by omega))
  have i46 : ∀ {f}, hI (wI h 10 f) 46 = hI h 46 := fun {f} => wI_n _ _ (by decide)
  have loop : ∀ i : Int, (0 ≤ i ∧ i ≤ 41) → ∀ F : Nat → Int32, (∀ u : Int, 0 ≤ u → u < i → F u.toNat = iZ (v (41 + u))) → ∃ h' A', L_Ways_beginDusty_2 (d + 4) 8 o 46 (iZ i) (wI h 10 F) = some (none, h') ∧ Wfr h h' A A' ∧ WMe h' q (-2) (q 3) (q 4) (Wy q v True (eAll q (-1))) A' ∧ WB h' q v True (-2) (q 3) (q 4) := by
    refine lpZ 41 (fun i hi hib F H => ?_) (fun i hi ih hib F H => ?_)
    · obtain ⟨h', A', g1, g2⟩ := x_begin d (X' (f := F)) t R' V (pu := -2) (le := q 3) (mo := q 4) (by omega) (by omega) (A := A) hA hln hc
      have w := g2.w
      have i10 : hI h' 10 = F := by rw [g2.1 10 (Or.inl (by show 10 < hC h; omega)) (by decide) (by decide), wI_I]
      refine ⟨h', A', ?_, ⟨fun r y r1 r2 r3 => by rw [w.1 r y r1 r2 r3, wI_n _ _ r3], w.2⟩, g2.m V _, ⟨g2.2.2.1.1, g2.2.2.1.2, by omega, by omega, ⟨fun _ => rfl, fun _ => trivial⟩, fun _ s s1 s2 => ?_⟩⟩
      · rw [e_Ways_beginDusty_2]
        simp (disch := omega) only [lit32, litJ, iz_add, iz_sub, iz_mul, iz_neg, nI_iz, ix_iz, inb_iz, ifp_t, ifp_f, ifp_T, ifp_F, iz_eq, iz_lt, bI_s, bL_s, bV_s, bR_s, X'.r 8 1 10, X'.n 10 41]
        rw [e_Ways_beginDusty_32, R'.lea, R'.mos, show (-2 : Int32) = iZ (-2) from rfl, g1, bV_s]
      · rw [i10]
        exact ⟨H s s1 (by omega), (D s s1 s2).2⟩
    · have di := D i hib.1 (by omega)
      obtain ⟨h', A', g1, g2⟩ := ih (by omega) (up F i.toNat (iZ (v (41 + i)))) (fun u u1 u2 => by
        by_cases e : u = i
        · rw [e, up_e]
        · rw [up_n _ _ (by omega)]; exact H u u1 (by omega))
      refine ⟨h', A', ?_, g2⟩
      rw [← g1, e_Ways_beginDusty_2]
      simp (disch := omega) only [lit32, litJ, iz_add, iz_sub, iz_mul, iz_neg, nI_iz, ix_iz, inb_iz, ifp_t, ifp_f, ifp_T, ifp_F, iz_eq, iz_lt, bI_s, bL_s, bV_s, bR_s, X'.r 8 1 10, X'.n 10 41, X'.n 46 41, i46, di.1, sI_wI]
  obtain ⟨h', A', g1, g2⟩ := loop 0 (by omega) (hI h 10) (fun u u1 u2 => by omega)
  refine ⟨h', A', ?_, g2⟩
  rw [wI_self] at g1
  rw [e_Ways_beginDusty]
  simp only [lit32]
  exact g1
theorem WBc.tr {h h' : Hp} {q : Int → Int} {pu le mo : Int} (W : WBc h q pu le mo) (e : hI h' 8 = hI h 8) (e1 : hI h' 9 = hI h 9) : WBc h' q pu le mo := by
  unfold WBc; rw [e, e1]; exact W
/-- how many from where the ghost is -/
theorem x_fromG (d : Nat) {h : Hp} (X : SX h) {o : Nat} (t : TO o) {q v : Int → Int} (R : SR h o q) (V : VS q) {u : Prop} {pu le mo : Int} (W : WB h q v u pu le mo) (hp : pu ≠ -3) {e : Int → Prop} (he : ∀ t, e t ↔ FtT q t ∧ le ≤ t ∧ t ≤ mo) {A : Nat} (hA : hR h 8 2 = some A) (hln : hN h A ≤ 143500) (M : WMe h q pu le mo (Wy q v u e) A) {s l cr g b : Int} (hc : hI h 6 = cFw s b (stv q l) cr g) (n : Nr q s l (crC q cr) g b) (hcr : 0 ≤ cr ∧ cr ≤ b) (hS : 0 < b → hI h 7 (b - 1).toNat = iZ (stv q l)) (hl : b = 0 → l = 0) :
    ∃ T' S', evm (d + 85) 90 [vR 10 8, vR 5 o, vR 0 6, vI (iZ 0)] h = some (some (vL (jZ (Wy q v u e s l (crC q cr) g b))), CH (wL h A T') 6 s b (stv q l) cr g S') ∧ WMe (CH (wL h A T') 6 s b (stv q l) cr g S') q pu le mo (Wy q v u e) A ∧ ∀ j, j < b.toNat → S' j = hI h 7 j := by
  have v1 := V.top
  have n0 := n.1.1
  obtain ⟨T', S', g1, g2, g3⟩ := x_from X t R V W hp he hA M.2.1 (by omega) 40 d s l cr g b 0 (hI h 7) (hL h A) (by omega) n hcr (by omega) hS hl M.2.2
  have e0 : CH (wL h A (hL h A)) 6 s b (stv q l) cr g (hI h 7) = h := by rw [wL_self]; exact CH_self hc rfl
  rw [e0, show 2 * 40 + d + 5 = d + 85 by omega] at g1
  refine ⟨T', S', g1, ⟨M.1.tr (CH_n (by decide)) (CH_n (by decide)), M.2.1, ?_⟩, g3⟩
  rw [CH_L, wL_L]
  exact g2
