/-! fewest: both do the same -/
noncomputable def ucn (q : Int → Int) (tr : Int → Prop) : Int := sZ (fun t => pif (tr t) 0 1) (q 0)
def Vnx (q v : Int → Int) (nx : Int → Int) : Prop := ∀ t, 1 ≤ t → t < q 0 → nx t = -1 ∨ (1 ≤ nx t ∧ nx t < t ∧ Opn q v (nx t))
def RpM (q nx : Int → Int) (tr : Int → Prop) (F G : Nat → Int32) : Prop := (∀ t, 1 ≤ t → t < q 0 → F t.toNat = iZ (nx t)) ∧ ∀ t, 0 ≤ t → t ≤ 40 → G t.toNat = bZ (tr t)
def RpX (q nx : Int → Int) (tr : Int → Prop) (F : Nat → Int32) (L : Nat → Int64) : Prop := (∀ t, 1 ≤ t → t < q 0 → F t.toNat = iZ (nx t)) ∧ ∃ B : Nat, B < 2 ^ 41 ∧ L 2 = jZ B ∧ ∀ t : Nat, t < 41 → (B.testBit t = true ↔ tr t)
def upv (nx : Int → Int) (t x : Int) : Int → Int := fun j => if j = t then x else nx j
def upt (tr : Int → Prop) (t : Int) : Int → Prop := fun j => tr j ∨ j = t
theorem ucn_t {q : Int → Int} {tr : Int → Prop} {t : Int} (h0 : 0 ≤ t ∧ t < q 0) (h : ¬ tr t) : ucn q tr = ucn q (upt tr t) + 1 := by
  unfold ucn
  refine sZ_up (i := t) h0 ?_ ?_
  · rw [pif_f h, pif_t (show upt tr t t from Or.inr rfl)]; rfl
  · intro k _ _ hk
    exact pif_c ⟨Or.inl, fun y => y.elim id (fun z => absurd z hk)⟩ (fun _ => rfl) (fun _ => rfl)
theorem ucn_0 {q : Int → Int} {tr : Int → Prop} : 0 ≤ ucn q tr := sZ_nn fun k _ _ => by
  by_cases h : tr k
  · rw [pif_t h]; omega
  · rw [pif_f h]; omega
theorem RpM_t {q nx : Int → Int} {tr : Int → Prop} {F G : Nat → Int32} (h : RpM q nx tr F G) {t : Int} (ht : 0 ≤ t ∧ t ≤ 40) : RpM q nx (upt tr t) F (up G t.toNat (iZ 1)) := by
  refine ⟨h.1, fun j j1 j2 => ?_⟩
  by_cases e : j = t
  · rw [e, up_e, bZ_t (show upt tr t t from Or.inr rfl)]
  · rw [up_n _ _ (by omega), h.2 j j1 j2]
    exact bZ_c ⟨Or.inl, fun y => y.elim id (fun z => absurd z e)⟩
theorem RpM_n {q nx : Int → Int} {tr : Int → Prop} {F G : Nat → Int32} (h : RpM q nx tr F G) {t x : Int} (ht : 0 ≤ t) : RpM q (upv nx t x) tr (up F t.toNat (iZ x)) G := by
  refine ⟨fun j j1 j2 => ?_, h.2⟩
  unfold upv
  by_cases e : j = t
  · rw [e, up_e, if_pos rfl]
  · rw [up_n _ _ (by omega), if_neg e]; exact h.1 j j1 j2
theorem RpX_n {q nx : Int → Int} {tr : Int → Prop} {F : Nat → Int32} {L : Nat → Int64} (h : RpX q nx tr F L) {t x : Int} (ht : 0 ≤ t) : RpX q (upv nx t x) tr (up F t.toNat (iZ x)) L := by
  refine ⟨fun j j1 j2 => ?_, h.2⟩
  unfold upv
  by_cases e : j = t
  · rw [e, up_e, if_pos rfl]
  · rw [up_n _ _ (by omega), if_neg e]; exact h.1 j j1 j2
theorem Vnx_n {q v nx : Int → Int} (h : Vnx q v nx) {t x : Int} (hx : 1 ≤ x ∧ x < t ∧ Opn q v x) : Vnx q v (upv nx t x) := by
  intro j j1 j2
  unfold upv
  by_cases e : j = t
  · rw [if_pos e, e]; exact Or.inr hx
  · rw [if_neg e]; exact h j j1 j2
theorem f_join {hm hx : Hp} {q v : Int → Int} (hq : q = rz hm 74) (hv : v = rz hm 79) (S : SM hm) (V : VS q) (Lm : ∀ s t, 0 ≤ s → s ≤ q 0 → 0 ≤ t → t ≤ q 0 → hI hm 89 (41 * s + t).toNat = bZ (LdM q v s t)) (X : SX hx) {o : Nat} (to' : TO o) (R : SR hx o q) (D : ∀ s, 0 ≤ s → s ≤ 40 → hI hx 46 s.toNat = iZ (v (41 + s)) ∧ 0 ≤ v (41 + s) ∧ v (41 + s) ≤ 2) (Rx : ∀ s, 0 ≤ s → s ≤ q 0 → ∃ B : Nat, B < 2 ^ 41 ∧ hL hx 21 s.toNat = jZ B ∧ ∀ z : Nat, B.testBit z = true ↔ Ld q v s z) :
    ∀ (n : Nat) (s : Int) (nx : Int → Int) (tr : Int → Prop), (1 ≤ s ∧ s < q 0) → Opn q v s → Vnx q v nx → ucn q tr ≤ n → ∃ (b : Prop) (nx' : Int → Int) (tr' : Int → Prop), Vnx q v nx' ∧ ucn q tr' ≤ ucn q tr ∧
      (∀ d F G, RpM q nx tr F G → ∃ F' G', evm (n + d + 2) 232 [vR 12 68, vI (iZ s)] (wI (wI hm 90 F) 91 G) = some (some (vI (bZ b)), wI (wI hm 90 F') 91 G') ∧ RpM q nx' tr' F' G') ∧
      (∀ d (dp : Int) F L, (0 ≤ dp ∧ dp + n ≤ 40) → RpX q nx tr F L → ∃ F' L', evm (n + d + 2) 65 [vR 7 20, vR 5 o, vR 20 46, vI (iZ s), vI (iZ dp)] (wL (wI hx 22 F) 20 L) = some (some (vI (bZ b)), wL (wI hx 22 F') 20 L') ∧ RpX q nx' tr' F' L') := by
  have tt := to'
  unfold TO at tt
  have v1 := V.top
  have SM' : ∀ {F G}, SM (wI (wI hm 90 F) 91 G) := fun {_ _} => S
  have c74 : ∀ {F G}, rz (wI (wI hm 90 F) 91 G) 74 = q := fun {F G} => by rw [wI_rz _ _ (by decide), wI_rz _ _ (by decide), hq]
  have c79 : ∀ {F G}, rz (wI (wI hm 90 F) 91 G) 79 = v := fun {F G} => by rw [wI_rz _ _ (by decide), wI_rz _ _ (by decide), hv]
  have XX : ∀ {F L}, SX (wL (wI hx 22 F) 20 L) := fun {_ _} => X
  have RX : ∀ {F L}, SR (wL (wI hx 22 F) 20 L) o q := fun {F L} => R.tr (fun r r1 r2 => by
    show hI (wI hx 22 F) r = _
    rw [wI_n _ _ (by omega)])
  have I46 : ∀ {F L}, hI (wL (wI hx 22 F) 20 L) 46 = hI hx 46 := fun {F L} => by
    show hI (wI hx 22 F) 46 = _
    rw [wI_n _ _ (by decide)]
  have I22 : ∀ {F L}, hI (wL (wI hx 22 F) 20 L) 22 = F := fun {F L} => wI_I hx 22 F
  have L21 : ∀ {F L}, hL (wL (wI hx 22 F) 20 L) 21 = hL hx 21 := fun {F L} => by rw [wL_n _ _ (by decide)]; rfl
  have sI22 : ∀ {F L} (k : Nat) (x : Int32), sI (wL (wI hx 22 F) 20 L) 22 k x = wL (wI hx 22 (up F k x)) 20 L := fun {F L} k x => by
    show wL (sI (wI hx 22 F) 22 k x) 20 L = _
    rw [sI_wI]
  have M90 : ∀ {F G}, hI (wI (wI hm 90 F) 91 G) 90 = F := fun {_ _} => by rw [wI_n _ _ (by decide), wI_I]
  have sI90 : ∀ {F G} (k : Nat) (x : Int32), sI (wI (wI hm 90 F) 91 G) 90 k x = wI (wI hm 90 (up F k x)) 91 G := fun {_ _} k x => CH_x (c := 90) k x
  have M89 : ∀ {F G}, hI (wI (wI hm 90 F) 91 G) 89 = hI hm 89 := fun {_ _} => by rw [wI_n _ _ (by decide), wI_n _ _ (by decide)]
  have trod : ∀ (d : Nat) (F G : Nat → Int32) (z : Int), (0 ≤ z ∧ z ≤ 41) → evm (d + 1) 231 [vR 12 68, vI (iZ z)] (wI (wI hm 90 F) 91 G) = some (some (vI (bZ (v (41 + z) = 1))), wI (wI hm 90 F) 91 G) := by
    intro d F G z hz
    have := m_isTrodden d (SM' (F := F) (G := G)) hz
    rw [c79] at this
    exact this
  have xleads : ∀ (d : Nat) (F : Nat → Int32) (L : Nat → Int64) (s z : Int), (0 ≤ s ∧ s ≤ q 0) → (0 ≤ z ∧ z ≤ 40) → evm (d + 1) 64 [vR 7 20, vI (iZ s), vI (iZ z)] (wL (wI hx 22 F) 20 L) = some (some (vI (bZ (Ld q v s z))), wL (wI hx 22 F) 20 L) := by
    intro d F L s z hs hz
    obtain ⟨B, b1, b2, b3⟩ := Rx s hs.1 hs.2
    have b1' : B < 2199023255552 := b1
    rw [e_Sweep_leads]
    simp (disch := omega) only [lit32, litJ, iz_add, iz_sub, iz_mul, iz_neg, nI_iz, ix_iz, inb_iz, ifp_t, ifp_f, ifp_T, ifp_F, iz_eq, iz_lt, bI_s, bL_s, bV_s, bR_s, XX.r 20 0 21, XX.n 21 41, L21, b2]
    have ez : iZ z = iZ ((z.toNat : Nat) : Int) := by congr 1; omega
    rw [ez, ifp_n (w_tst (by omega) (by omega))]
    have := b3 z.toNat
    rw [show ((z.toNat : Nat) : Int) = z by omega] at this
    refine ifp_r (fun y => rb_f (fun w => ?_)) (fun y => rb_t (this.mp (by simpa using y)))
    rw [this.mpr w] at y; cases y
  intro n
  induction n with
  | zero =>
    intro s nx tr hs ho hV hu
    -- nothing is left untried
    have all : ∀ t, 0 ≤ t → t < q 0 → tr t := fun t t1 t2 => Classical.byContradiction fun y => by
      have := ucn_t ⟨t1, t2⟩ y
      have := ucn_0 (q := q) (tr := upt tr t)
      omega
    refine ⟨False, nx, tr, hV, Int.le_refl _, ?_, ?_⟩
    · intro d F G hR
      have loop : ∀ to : Int, s < to ∧ to ≤ q 0 → L_M_finds_4 (0 + d + 1) 68 (iZ s) (iZ to) (wI (wI hm 90 F) 91 G) = some (some (vI (bZ False)), wI (wI hm 90 F) 91 G) := by
        refine lpZ (q 0) (fun to hto hb => ?_) (fun to hto ih hb => ?_)
        · rw [e_M_finds_4, m_steps (0 + d) SM', bI_s, c74]
          simp (disch := omega) only [lit32, litJ, iz_add, iz_sub, iz_mul, iz_neg, nI_iz, ix_iz, inb_iz, ifp_t, ifp_f, ifp_T, ifp_F, iz_eq, iz_lt, bI_s, bL_s, bV_s, bR_s]
          rw [bZ_f id]
        · rw [e_M_finds_4, m_steps (0 + d) SM', bI_s, c74]
          simp (disch := omega) only [lit32, litJ, iz_add, iz_sub, iz_mul, iz_neg, nI_iz, ix_iz, inb_iz, ifp_t, ifp_f, ifp_T, ifp_F, iz_eq, iz_lt, bI_s, bL_s, bV_s, bR_s]
          rw [trod (0 + d) F G to (by omega), bI_s]
          simp only [bZ_0]
          refine ifp_r (fun y => ih (by omega)) (fun y => ?_)
          rw [e_M_finds_20]
          simp (disch := omega) only [lit32, litJ, iz_add, iz_sub, iz_mul, iz_neg, nI_iz, ix_iz, inb_iz, ifp_t, ifp_f, ifp_T, ifp_F, iz_eq, iz_lt, bI_s, bL_s, bV_s, bR_s, SM'.r 33 89, SM'.n 89 1681, SM'.r 35 91, SM'.n 91 41, M89, Lm s to (by omega) (by omega) (by omega) (by omega), bZ_0, wI_I, hR.2 to (by omega) (by omega)]
          refine ifp_r (fun z => ih (by omega)) (fun z => ?_)
          rw [ifp_f (fun w => w (all to (by omega) (by omega)))]
          exact ih (by omega)
      refine ⟨F, G, ?_, hR⟩
      rw [e_M_finds]
      simp only [lit32, iz_add]
      exact loop (s + 1) (by omega)
    · intro d dp F L hdp hR
      obtain ⟨B, b1, b2, b3⟩ := hR.2
      have b1' : B < 2199023255552 := b1
      have loop : ∀ to : Int, s < to ∧ to ≤ q 0 → L_Sweep_joins_14 (0 + d + 1) 20 o 46 (iZ s) (iZ dp) (iZ to) (wL (wI hx 22 F) 20 L) = some (some (vI (bZ False)), wL (wI hx 22 F) 20 L) := by
        refine lpZ (q 0) (fun to hto hb => ?_) (fun to hto ih hb => ?_)
        · rw [e_Sweep_joins_14, RX.top]
          simp (disch := omega) only [lit32, litJ, iz_add, iz_sub, iz_mul, iz_neg, nI_iz, ix_iz, inb_iz, ifp_t, ifp_f, ifp_T, ifp_F, iz_eq, iz_lt, bI_s, bL_s, bV_s, bR_s]
          rw [bZ_f id]
        · have dk := D to (by omega) (by omega)
          rw [e_Sweep_joins_14, RX.top]
          simp (disch := omega) only [lit32, litJ, iz_add, iz_sub, iz_mul, iz_neg, nI_iz, ix_iz, inb_iz, ifp_t, ifp_f, ifp_T, ifp_F, iz_eq, iz_lt, bI_s, bL_s, bV_s, bR_s, XX.n 46 41, I46, dk.1]
          refine ifp_r (fun y => ?_) (fun y => ih (by omega))
          rw [xleads (0 + d) F L s to (by omega) (by omega), bI_s]
          simp (disch := omega) only [lit32, litJ, iz_add, iz_sub, iz_mul, iz_neg, nI_iz, ix_iz, inb_iz, ifp_t, ifp_f, ifp_T, ifp_F, iz_eq, iz_lt, bI_s, bL_s, bV_s, bR_s, bZ_0, wL_L, b2]
          refine ifp_r (fun z => ih (by omega)) (fun z => ?_)
          have ez : iZ to = iZ ((to.toNat : Nat) : Int) := by congr 1; omega
          have bt := (b3 to.toNat (by omega)).mpr (by rw [show ((to.toNat : Nat) : Int) = to by omega]; exact all to (by omega) (by omega))
          rw [ez, ifp_n (w_tst (by omega) (by omega)), ifp_f (by rw [bt]; decide)]
          exact ih (by omega)
      refine ⟨F, L, ?_, hR⟩
      rw [e_Sweep_joins]
      simp (disch := omega) only [lit32, litJ, iz_add, iz_sub, iz_mul, iz_neg, nI_iz, ix_iz, inb_iz, ifp_t, ifp_f, ifp_T, ifp_F, iz_eq, iz_lt, bI_s, bL_s, bV_s, bR_s]
      exact loop (s + 1) (by omega)
  | succ n ih =>
    have loop : ∀ (s : Int), (1 ≤ s ∧ s < q 0) → Opn q v s → ∀ to : Int, s < to ∧ to ≤ q 0 → ∀ (nx : Int → Int) (tr : Int → Prop), Vnx q v nx → ucn q tr ≤ n + 1 → ∃ (b : Prop) (nx' : Int → Int) (tr' : Int → Prop), Vnx q v nx' ∧ ucn q tr' ≤ ucn q tr ∧
      (∀ d F G, RpM q nx tr F G → ∃ F' G', L_M_finds_4 (n + d + 2) 68 (iZ s) (iZ to) (wI (wI hm 90 F) 91 G) = some (some (vI (bZ b)), wI (wI hm 90 F') 91 G') ∧ RpM q nx' tr' F' G') ∧
      (∀ d (dp : Int) F L, (0 ≤ dp ∧ dp + (n + 1) ≤ 40) → RpX q nx tr F L → ∃ F' L', L_Sweep_joins_14 (n + d + 2) 20 o 46 (iZ s) (iZ dp) (iZ to) (wL (wI hx 22 F) 20 L) = some (some (vI (bZ b)), wL (wI hx 22 F') 20 L') ∧ RpX q nx' tr' F' L') := by
      intro s hs ho
      refine lpZ (q 0) (fun to hto hb nx tr hV hu => ?_) (fun to hto ihl hb nx tr hV hu => ?_)
      · refine ⟨False, nx, tr, hV, Int.le_refl _, fun d F G hR => ⟨F, G, ?_, hR⟩, fun d dp F L hdp hR => ⟨F, L, ?_, hR⟩⟩
        · rw [e_M_finds_4, m_steps (n + d + 1) SM', bI_s, c74]
          simp (disch := omega) only [lit32, litJ, iz_add, iz_sub, iz_mul, iz_neg, nI_iz, ix_iz, inb_iz, ifp_t, ifp_f, ifp_T, ifp_F, iz_eq, iz_lt, bI_s, bL_s, bV_s, bR_s]
          rw [bZ_f id]
        · rw [e_Sweep_joins_14, RX.top]
          simp (disch := omega) only [lit32, litJ, iz_add, iz_sub, iz_mul, iz_neg, nI_iz, ix_iz, inb_iz, ifp_t, ifp_f, ifp_T, ifp_F, iz_eq, iz_lt, bI_s, bL_s, bV_s, bR_s]
          rw [bZ_f id]
      · have dk := D to (by omega) (by omega)
        have skip : ¬ (v (41 + to) = 1 ∧ Ld q v s to ∧ ¬ tr to) → ∃ (b : Prop) (nx' : Int → Int) (tr' : Int → Prop), Vnx q v nx' ∧ ucn q tr' ≤ ucn q tr ∧
            (∀ d F G, RpM q nx tr F G → ∃ F' G', L_M_finds_4 (n + d + 2) 68 (iZ s) (iZ to) (wI (wI hm 90 F) 91 G) = some (some (vI (bZ b)), wI (wI hm 90 F') 91 G') ∧ RpM q nx' tr' F' G') ∧
            (∀ d (dp : Int) F L, (0 ≤ dp ∧ dp + (n + 1) ≤ 40) → RpX q nx tr F L → ∃ F' L', L_Sweep_joins_14 (n + d + 2) 20 o 46 (iZ s) (iZ dp) (iZ to) (wL (wI hx 22 F) 20 L) = some (some (vI (bZ b)), wL (wI hx 22 F') 20 L') ∧ RpX q nx' tr' F' L') := by
          intro hno
          obtain ⟨b, nx', tr', r1, r2, r3, r4⟩ := ihl (by omega) nx tr hV hu
          refine ⟨b, nx', tr', r1, r2, fun d F G hR => ?_, fun d dp F L hdp hR => ?_⟩
          · obtain ⟨F', G', e1, e2⟩ := r3 d F G hR
            refine ⟨F', G', ?_, e2⟩
            rw [e_M_finds_4, m_steps (n + d + 1) SM', bI_s, c74]
            simp (disch := omega) only [lit32, litJ, iz_add, iz_sub, iz_mul, iz_neg, nI_iz, ix_iz, inb_iz, ifp_t, ifp_f, ifp_T, ifp_F, iz_eq, iz_lt, bI_s, bL_s, bV_s, bR_s]
            rw [trod (n + d + 1) F G to (by omega), bI_s]
            simp only [bZ_0]
            refine ifp_r (fun y => e1) (fun y => ?_)
            rw [e_M_finds_20]
            simp (disch := omega) only [lit32, litJ, iz_add, iz_sub, iz_mul, iz_neg, nI_iz, ix_iz, inb_iz, ifp_t, ifp_f, ifp_T, ifp_F, iz_eq, iz_lt, bI_s, bL_s, bV_s, bR_s, SM'.r 33 89, SM'.n 89 1681, SM'.r 35 91, SM'.n 91 41, M89, Lm s to (by omega) (by omega) (by omega) (by omega), bZ_0, wI_I, hR.2 to (by omega) (by omega)]
            refine ifp_r (fun z => e1) (fun z => ?_)
            have hl : Ld q v s to := by
              have := (Classical.not_not.mp z).2
              rcases this with h | h
              · omega
              · exact h
            rw [ifp_f (fun w => hno ⟨Classical.not_not.mp y, hl, w⟩)]
            exact e1
          · obtain ⟨F', L', e1, e2⟩ := r4 d dp F L hdp hR
            refine ⟨F', L', ?_, e2⟩
            obtain ⟨B, b1, b2, b3⟩ := hR.2
            have b1' : B < 2199023255552 := b1
            rw [e_Sweep_joins_14, RX.top]
            simp (disch := omega) only [lit32, litJ, iz_add, iz_sub, iz_mul, iz_neg, nI_iz, ix_iz, inb_iz, ifp_t, ifp_f, ifp_T, ifp_F, iz_eq, iz_lt, bI_s, bL_s, bV_s, bR_s, XX.n 46 41, I46, dk.1]
            refine ifp_r (fun y => ?_) (fun y => e1)
            rw [xleads (n + d + 1) F L s to (by omega) (by omega), bI_s]
            simp (disch := omega) only [lit32, litJ, iz_add, iz_sub, iz_mul, iz_neg, nI_iz, ix_iz, inb_iz, ifp_t, ifp_f, ifp_T, ifp_F, iz_eq, iz_lt, bI_s, bL_s, bV_s, bR_s, bZ_0, wL_L, b2]
            refine ifp_r (fun z => e1) (fun z => ?_)
            have ez : iZ to = iZ ((to.toNat : Nat) : Int) := by congr 1; omega
            have tt : tr to := Classical.byContradiction fun w => hno ⟨y, Classical.not_not.mp z, w⟩
            have bt := (b3 to.toNat (by omega)).mpr (by rw [show ((to.toNat : Nat) : Int) = to by omega]; exact tt)
            rw [ez, ifp_n (w_tst (by omega) (by omega)), ifp_f (by rw [bt]; decide)]
            exact e1
        by_cases hyes : v (41 + to) = 1 ∧ Ld q v s to ∧ ¬ tr to
        · obtain ⟨y1, y2, y3⟩ := hyes
          have uc := ucn_t (q := q) (tr := tr) (t := to) (by omega) y3
          have nxb := hV to (by omega) (by omega)
          have ldm : LdM q v s to := ⟨ho, Or.inr y2⟩
          -- common walk up to the place where a step is tried
          have mwalk : ∀ (d : Nat) (F G : Nat → Int32), RpM q nx tr F G → L_M_finds_4 (n + d + 2) 68 (iZ s) (iZ to) (wI (wI hm 90 F) 91 G) = ifp (nx to < 0) (some (some (vI (iZ 1)), wI (wI hm 90 (up F to.toNat (iZ s))) 91 (up G to.toNat (iZ 1)))) (bI (evm (n + d + 2) 232 [vR 12 68, vI (iZ (nx to))] (wI (wI hm 90 F) 91 (up G to.toNat (iZ 1)))) fun x8 h7 => ifp (x8 = iZ 0) (L_M_finds_4 (n + d + 2) 68 (iZ s) (iZ (to + 1)) h7) (bR (hR h7 68 34) fun r9 => ifp (0 ≤ to ∧ to < hN h7 r9) (some (some (vI (iZ 1)), sI h7 r9 to.toNat (iZ s))) none)) := by
            intro d F G hRp
            rw [e_M_finds_4, m_steps (n + d + 1) SM', bI_s, c74]
            simp (disch := omega) only [lit32, litJ, iz_add, iz_sub, iz_mul, iz_neg, nI_iz, ix_iz, inb_iz, ifp_t, ifp_f, ifp_T, ifp_F, iz_eq, iz_lt, bI_s, bL_s, bV_s, bR_s]
            rw [trod (n + d + 1) F G to (by omega), bI_s]
            simp only [bZ_0]
            rw [ifp_f (fun z => z y1), e_M_finds_20]
            simp (disch := omega) only [lit32, litJ, iz_add, iz_sub, iz_mul, iz_neg, nI_iz, ix_iz, inb_iz, ifp_t, ifp_f, ifp_T, ifp_F, iz_eq, iz_lt, bI_s, bL_s, bV_s, bR_s, SM'.r 33 89, SM'.n 89 1681, SM'.r 35 91, SM'.n 91 41, M89, Lm s to (by omega) (by omega) (by omega) (by omega), bZ_0, wI_I, hRp.2 to (by omega) (by omega)]
            rw [ifp_f (fun z => z ldm)]
            try rw [ifp_t y3]
            simp (disch := omega) only [lit32, litJ, iz_add, iz_sub, iz_mul, iz_neg, nI_iz, ix_iz, inb_iz, ifp_t, ifp_f, ifp_T, ifp_F, iz_eq, iz_lt, bI_s, bL_s, bV_s, bR_s, sI_wI, SM'.r 34 90, SM'.n 90 41, M90, hRp.1 to (by omega) (by omega), sI90]
          have xwalk : ∀ (d : Nat) (dp : Int) (F : Nat → Int32) (L : Nat → Int64), (0 ≤ dp ∧ dp ≤ 40) → RpX q nx tr F L → ∃ L1, RpX q nx (upt tr to) F L1 ∧ L_Sweep_joins_14 (n + d + 2) 20 o 46 (iZ s) (iZ dp) (iZ to) (wL (wI hx 22 F) 20 L) = ifp (nx to = -1) (some (some (vI (iZ 1)), wL (wI hx 22 (up F to.toNat (iZ s))) 20 L1)) (bI (evm (n + d + 2) 65 [vR 7 20, vR 5 o, vR 20 46, vI (iZ (nx to)), vI (iZ (dp + 1))] (wL (wI hx 22 F) 20 L1)) fun x5 h4 => ifp (x5 = iZ 0) (L_Sweep_joins_14 (n + d + 2) 20 o 46 (iZ s) (iZ dp) (iZ (to + 1)) h4) (bR (hR h4 20 1) fun r6 => ifp (0 ≤ to ∧ to < hN h4 r6) (some (some (vI (iZ 1)), sI h4 r6 to.toNat (iZ s))) none)) := by
            intro d dp F L hdp hRp
            obtain ⟨B, b1, b2, b3⟩ := hRp.2
            have b1' : B < 2199023255552 := b1
            have ez : iZ to = iZ ((to.toNat : Nat) : Int) := by congr 1; omega
            have bt : B.testBit to.toNat = false := by
              cases e : B.testBit to.toNat with
              | false => rfl
              | true => exact absurd ((b3 to.toNat (by omega)).mp e) (by rw [show ((to.toNat : Nat) : Int) = to by omega]; exact y3)
            have hR1 : RpX q nx (upt tr to) F (up L 2 (jZ ((B ||| 2 ^ to.toNat : Nat) : Int))) := by
              refine ⟨hRp.1, B ||| 2 ^ to.toNat, or_lt b1 (by omega), up_e _ _ _, fun j hj => ?_⟩
              rw [tb_or, b3 j hj]
              exact ⟨fun z => z.elim Or.inl (fun w => Or.inr (by omega)), fun z => z.elim Or.inl (fun w => Or.inr (by omega))⟩
            refine ⟨_, hR1, ?_⟩
            rw [e_Sweep_joins_14, RX.top]
            simp (disch := omega) only [lit32, litJ, iz_add, iz_sub, iz_mul, iz_neg, nI_iz, ix_iz, inb_iz, ifp_t, ifp_f, ifp_T, ifp_F, iz_eq, iz_lt, bI_s, bL_s, bV_s, bR_s, XX.n 46 41, I46, dk.1]
            try rw [ifp_t y1]
            rw [xleads (n + d + 1) F L s to (by omega) (by omega), bI_s]
            simp (disch := omega) only [lit32, litJ, iz_add, iz_sub, iz_mul, iz_neg, nI_iz, ix_iz, inb_iz, ifp_t, ifp_f, ifp_T, ifp_F, iz_eq, iz_lt, bI_s, bL_s, bV_s, bR_s, bZ_0, wL_L, b2]
            rw [ifp_f (fun z => z y2)]
            have wt := w_tst (n := B) (k := to.toNat) (by omega) (by omega)
            rw [← ez] at wt
            rw [ifp_n wt, ifp_t bt, e_Sweep_joins_58, wL_L, b2]
            have wo := w_one (k := to.toNat) (by omega)
            rw [← ez] at wo
            simp only [litJ]
            rw [wo, w_or, sL_wL]
            simp (disch := omega) only [lit32, litJ, iz_add, iz_sub, iz_mul, iz_neg, nI_iz, ix_iz, inb_iz, ifp_t, ifp_f, ifp_T, ifp_F, iz_eq, iz_lt, bI_s, bL_s, bV_s, bR_s, XX.r 20 1 22, XX.n 22 41, I22, hRp.1 to (by omega) (by omega), sI22]
          rcases nxb with e0 | e0
          · refine ⟨True, upv nx to s, upt tr to, Vnx_n hV ⟨hs.1, by omega, ho⟩, by omega, fun d F G hRp => ?_, fun d dp F L hdp hRp => ?_⟩
            · refine ⟨up F to.toNat (iZ s), up G to.toNat (iZ 1), ?_, RpM_n (RpM_t hRp (by omega)) (by omega)⟩
              rw [mwalk d F G hRp, e0, ifp_t (by omega), bZ_t trivial]
            · obtain ⟨L1, w2, w1⟩ := xwalk d dp F L (by omega) hRp
              refine ⟨up F to.toNat (iZ s), L1, ?_, RpX_n w2 (by omega)⟩
              rw [w1, e0, ifp_t rfl, bZ_t trivial]
          · obtain ⟨b2, nx2, tr2, j1, j2, j3, j4⟩ := ih (nx to) nx (upt tr to) (by omega) e0.2.2 hV (by omega)
            by_cases hb2 : b2
            · refine ⟨True, upv nx2 to s, tr2, Vnx_n j1 ⟨hs.1, by omega, ho⟩, by omega, fun d F G hRp => ?_, fun d dp F L hdp hRp => ?_⟩
              · obtain ⟨F2, G2, k1, k2⟩ := j3 d F (up G to.toNat (iZ 1)) (RpM_t hRp (by omega))
                refine ⟨up F2 to.toNat (iZ s), G2, ?_, RpM_n k2 (by omega)⟩
                rw [mwalk d F G hRp, ifp_f (by omega), k1, bI_s, ifp_f (fun z => (bZ_0.mp z) hb2)]
                simp (disch := omega) only [lit32, litJ, iz_add, iz_sub, iz_mul, iz_neg, nI_iz, ix_iz, inb_iz, ifp_t, ifp_f, ifp_T, ifp_F, iz_eq, iz_lt, bI_s, bL_s, bV_s, bR_s, SM'.r 34 90, SM'.n 90 41, sI90]
                rw [bZ_t trivial]
              · obtain ⟨L1, w2, w1⟩ := xwalk d dp F L (by omega) hRp
                obtain ⟨F2, L2, k1, k2⟩ := j4 d (dp + 1) F L1 (by omega) w2
                refine ⟨up F2 to.toNat (iZ s), L2, ?_, RpX_n k2 (by omega)⟩
                rw [w1, ifp_f (by omega), k1, bI_s, ifp_f (fun z => (bZ_0.mp z) hb2)]
                simp (disch := omega) only [lit32, litJ, iz_add, iz_sub, iz_mul, iz_neg, nI_iz, ix_iz, inb_iz, ifp_t, ifp_f, ifp_T, ifp_F, iz_eq, iz_lt, bI_s, bL_s, bV_s, bR_s, XX.r 20 1 22, XX.n 22 41, sI22]
                rw [bZ_t trivial]
            · obtain ⟨b, nx', tr', r1, r2, r3, r4⟩ := ihl (by omega) nx2 tr2 j1 (by omega)
              refine ⟨b, nx', tr', r1, by omega, fun d F G hRp => ?_, fun d dp F L hdp hRp => ?_⟩
              · obtain ⟨F2, G2, k1, k2⟩ := j3 d F (up G to.toNat (iZ 1)) (RpM_t hRp (by omega))
                obtain ⟨F3, G3, m1, m2⟩ := r3 d F2 G2 k2
                refine ⟨F3, G3, ?_, m2⟩
                rw [mwalk d F G hRp, ifp_f (by omega), k1, bI_s, ifp_t (bZ_0.mpr hb2)]
                exact m1
              · obtain ⟨L1, w2, w1⟩ := xwalk d dp F L (by omega) hRp
                obtain ⟨F2, L2, k1, k2⟩ := j4 d (dp + 1) F L1 (by omega) w2
                obtain ⟨F3, L3, m1, m2⟩ := r4 d dp F2 L2 (by omega) k2
                refine ⟨F3, L3, ?_, m2⟩
                rw [w1, ifp_f (by omega), k1, bI_s, ifp_t (bZ_0.mpr hb2)]
                exact m1
        · exact skip hyes
    intro s nx tr hs ho hV hu
    obtain ⟨b, nx', tr', r1, r2, r3, r4⟩ := loop s hs ho (s + 1) (by omega) nx tr hV (by omega)
    refine ⟨b, nx', tr', r1, r2, fun d F G hR => ?_, fun d dp F L hdp hR => ?_⟩
    · obtain ⟨F', G', e1, e2⟩ := r3 d F G hR
      refine ⟨F', G', ?_, e2⟩
      rw [show n + 1 + d + 2 = n + d + 3 by omega, e_M_finds]
      simp only [lit32, iz_add]
      exact e1
    · obtain ⟨F', L', e1, e2⟩ := r4 d dp F L (by omega) hR
      refine ⟨F', L', ?_, e2⟩
      rw [show n + 1 + d + 2 = n + d + 3 by omega, e_Sweep_joins]
      simp (disch := omega) only [lit32, litJ, iz_add, iz_sub, iz_mul, iz_neg, nI_iz, ix_iz, inb_iz, ifp_t, ifp_f, ifp_T, ifp_F, iz_eq, iz_lt, bI_s, bL_s, bV_s, bR_s]
      exact e1
