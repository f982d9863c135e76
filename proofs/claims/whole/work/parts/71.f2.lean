/-! fewest, whole -/
def Bad (q v : Int → Int) (s : Int) : Prop := v (41 + s) = 1 ∧ ¬ (Ld q v 0 s ∧ Ld q v s (q 0))
theorem ucn_q {q : Int → Int} (h0 : 0 ≤ q 0) (tr : Int → Prop) : ucn q tr ≤ q 0 := by
  have : ∀ m, 0 ≤ m → sZ (fun t => pif (tr t) 0 1) m ≤ m := by
    refine upZ ?_ (fun k hk ih => ?_)
    · rw [sZ_0 _ (Int.le_refl 0)]; omega
    · rw [sZ_s _ hk]
      by_cases h : tr k
      · rw [pif_t h]; omega
      · rw [pif_f h]; omega
  exact this (q 0) h0
noncomputable def nTr (v : Int → Int) (s : Int) : Int := sZ (fun t => pif (v (41 + (t + 1)) = 1) 1 0) (s - 1)
theorem nTr_s (v : Int → Int) {s : Int} (h : 1 ≤ s) : nTr v (s + 1) = nTr v s + pif (v (41 + s) = 1) 1 0 := by
  unfold nTr
  rw [show s + 1 - 1 = (s - 1) + 1 by omega, sZ_s _ (by omega), show s - 1 + 1 = s by omega]
theorem nTr_b (v : Int → Int) {s : Int} (h : 1 ≤ s) : 0 ≤ nTr v s ∧ nTr v s ≤ s := by
  have : ∀ m, 0 ≤ m → 0 ≤ sZ (fun t => pif (v (41 + (t + 1)) = 1) 1 0) m ∧ sZ (fun t => pif (v (41 + (t + 1)) = 1) 1 0) m ≤ m := by
    refine upZ ?_ (fun k hk ih => ?_)
    · rw [sZ_0 _ (Int.le_refl 0)]; omega
    · rw [sZ_s _ hk]; have := p01 (v (41 + (k + 1)) = 1); omega
  have := this (s - 1) (by omega)
  unfold nTr
  omega
theorem f_few (d dm : Nat) {hm hx : Hp} {q v : Int → Int} (hq : q = rz hm 74) (hv : v = rz hm 79) (M : MV hm) (h41 : v 41 ≠ 2) (X : SX hx) {o : Nat} (to' : TO o) (R : SR hx o q) (D : ∀ s, 0 ≤ s → s ≤ 40 → hI hx 46 s.toNat = iZ (v (41 + s)) ∧ 0 ≤ v (41 + s) ∧ v (41 + s) ≤ 2) :
    ∃ c : Int, (∃ F T L, evm (d + 50) 62 [vR 7 20, vR 5 o, vR 20 46] hx = some (some (vI (iZ c)), wL (wL (wI hx 22 F) 21 T) 20 L)) ∧ ∃ h', evm (dm + 50) 233 [vR 12 68] hm = some (some (vI (iZ c)), h') ∧ Ms hm h' (rz hm 79) (rz hm 80) := by
  have V : VS q := by rw [hq]; exact M.2.1
  have v1 := V.top
  have tt := to'
  unfold TO at tt
  obtain ⟨F0, T0, x1, x2, x3⟩ := x_reached (d + 48) X to' R V D
  have a0 : Sc hm (sI hm 68 0 (iZ 0)) := Sc.s hm _ (by decide)
  have M0 := M.sc a0
  obtain ⟨F89, m1, m2⟩ := m_findLeads (dm + 46) M0.1 M0.2.1
  have z74 : rz (sI hm 68 0 (iZ 0)) 74 = q := by rw [a0.z (r := 74) (by decide), hq]
  have z79 : rz (sI hm 68 0 (iZ 0)) 79 = v := by rw [a0.z (r := 79) (by decide), hv]
  rw [z74, z79] at m2
  obtain ⟨km, hkm⟩ : ∃ km, km = wI (sI hm 68 0 (iZ 0)) 89 F89 := ⟨_, rfl⟩
  obtain ⟨kx, hkx⟩ : ∃ kx, kx = wL (wI hx 22 F0) 21 T0 := ⟨_, rfl⟩
  rw [← hkm] at m1
  rw [← hkx] at x1
  have am : Sc hm km := by rw [hkm]; exact a0.tr (Sc.i _ F89 (by decide))
  have q74 : q = rz km 74 := by rw [am.z (r := 74) (by decide), hq]
  have q79 : v = rz km 79 := by rw [am.z (r := 79) (by decide), hv]
  have Skm : SM km := am.m M.1
  have Lm : ∀ s t, 0 ≤ s → s ≤ q 0 → 0 ≤ t → t ≤ q 0 → hI km 89 (41 * s + t).toNat = bZ (LdM q v s t) := by
    intro s t h1 h2 h3 h4
    rw [hkm, wI_I]; exact m2 s t h1 h2 h3 h4
  have Xk : SX kx := by rw [hkx]; exact X
  have kI : ∀ r, r ≠ 22 → hI kx r = hI hx r := fun r hr => by rw [hkx]; show hI (wI hx 22 F0) r = _; rw [wI_n _ _ hr]
  have Rk : SR kx o q := R.tr (fun r r1 r2 => kI r (by omega))
  have Dk : ∀ s, 0 ≤ s → s ≤ 40 → hI kx 46 s.toNat = iZ (v (41 + s)) ∧ 0 ≤ v (41 + s) ∧ v (41 + s) ≤ 2 := fun s s1 s2 => by rw [kI 46 (by decide)]; exact D s s1 s2
  have Rx : ∀ s, 0 ≤ s → s ≤ q 0 → ∃ B : Nat, B < 2 ^ 41 ∧ hL kx 21 s.toNat = jZ B ∧ ∀ z : Nat, B.testBit z = true ↔ Ld q v s z := by
    intro s s1 s2
    rw [hkx, wL_L]; exact x3 s s1 s2
  have k22 : hI kx 22 = F0 := by rw [hkx]; exact wI_I hx 22 F0
  have J := f_join q74 q79 Skm V Lm Xk to' Rk Dk Rx (q 0).toNat
  have XX : ∀ {F L}, SX (wL (wI kx 22 F) 20 L) := fun {_ _} => Xk
  have RX : ∀ {F L}, SR (wL (wI kx 22 F) 20 L) o q := fun {F L} => Rk.tr (fun r r1 r2 => by
    show hI (wI kx 22 F) r = _
    rw [wI_n _ _ (by omega)])
  have I46 : ∀ {F L}, hI (wL (wI kx 22 F) 20 L) 46 = hI kx 46 := fun {F L} => by
    show hI (wI kx 22 F) 46 = _
    rw [wI_n _ _ (by decide)]
  have L21 : ∀ {F L}, hL (wL (wI kx 22 F) 20 L) 21 = hL kx 21 := fun {F L} => by rw [wL_n _ _ (by decide)]; rfl
  have xleads : ∀ (d : Nat) (F : Nat → Int32) (L : Nat → Int64) (s z : Int), (0 ≤ s ∧ s ≤ q 0) → (0 ≤ z ∧ z ≤ 40) → evm (d + 1) 64 [vR 7 20, vI (iZ s), vI (iZ z)] (wL (wI kx 22 F) 20 L) = some (some (vI (bZ (Ld q v s z))), wL (wI kx 22 F) 20 L) := by
    intro d F L s z hs hz
    obtain ⟨B, b1, b2, b3⟩ := Rx s hs.1 hs.2
    have b1' : B < 2199023255552 := b1
    rw [e_Sweep_leads]
    simp (disch := omega) only [lit32, litJ, iz_add, iz_sub, iz_mul, iz_neg, nI_iz, ix_iz, inb_iz, ifp_t, ifp_f, ifp_T, ifp_F, iz_eq, iz_lt, bI_s, bL_s, bV_s, bR_s, XX.r 20 0 21, XX.n 21 41, L21, b2]
    have ez : iZ z = iZ ((z.toNat : Nat) : Int) := by congr 1; omega
    rw [ez, ifp_n (w_tst (by omega) (by omega))]
    have := b3 z.toNat
    rw [show ((z.toNat : Nat) : Int) = z by omega] at this
    refine ifp_r (fun y => rb_f (fun w => ?_)) (fun y => rb_t (this.mp (by simpa using y)))
    rw [this.mpr w] at y; cases y
  have en : (q 0).toNat + (d + 49 - (q 0).toNat - 2) + 2 = d + 49 := by omega
  have enM : (q 0).toNat + (dm + 49 - (q 0).toNat - 2) + 2 = dm + 49 := by omega
  -- one step of the class's loop
  have xstep : ∀ (s c : Int) (F : Nat → Int32) (L : Nat → Int64), (1 ≤ s ∧ s < q 0) → (0 ≤ c ∧ c ≤ 100) → v (41 + s) = 1 → ¬ Bad q v s → L_Sweep_fewestClimbers_22 (d + 49) 20 o 46 (iZ c) (iZ s) (wL (wI kx 22 F) 20 L) = bI (evm (d + 49) 65 [vR 7 20, vR 5 o, vR 20 46, vI (iZ s), vI (iZ 0)] (wL (wI kx 22 F) 20 (up L 2 (jZ 0)))) fun x6 h5 => ifp (x6 = iZ 0) (L_Sweep_fewestClimbers_22 (d + 49) 20 o 46 (iZ (c + 1)) (iZ (s + 1)) h5) (L_Sweep_fewestClimbers_22 (d + 49) 20 o 46 (iZ (c + 0)) (iZ (s + 1)) h5) := by
    intro s c F L hs hc h1 hnb
    have ok : Ld q v 0 s ∧ Ld q v s (q 0) := Classical.byContradiction fun y => hnb ⟨h1, y⟩
    have dk := Dk s (by omega) (by omega)
    rw [e_Sweep_fewestClimbers_22, RX.top]
    simp (disch := omega) only [lit32, litJ, iz_add, iz_sub, iz_mul, iz_neg, nI_iz, ix_iz, inb_iz, ifp_t, ifp_f, ifp_T, ifp_F, iz_eq, iz_lt, bI_s, bL_s, bV_s, bR_s]
    rw [e_Sweep_fewestClimbers_31]
    simp (disch := omega) only [lit32, litJ, iz_add, iz_sub, iz_mul, iz_neg, nI_iz, ix_iz, inb_iz, ifp_t, ifp_f, ifp_T, ifp_F, iz_eq, iz_lt, bI_s, bL_s, bV_s, bR_s, XX.n 46 41, I46, dk.1]
    try rw [ifp_t h1]
    rw [xleads (d + 48) F L 0 s (by omega) (by omega), bI_s]
    simp only [bZ_0]
    rw [ifp_f (fun z => z ok.1), RX.top, xleads (d + 48) F L s (q 0) (by omega) (by omega), bI_s]
    simp only [bZ_0]
    rw [ifp_f (fun z => z ok.2), sL_wL]
  have rp0 : ∀ (nx : Int → Int) (F : Nat → Int32) (L : Nat → Int64), (∀ t, 1 ≤ t → t < q 0 → F t.toNat = iZ (nx t)) → RpX q nx (fun _ => False) F (up L 2 (jZ 0)) := by
    intro nx F L hF
    refine ⟨hF, 0, by decide, up_e _ _ _, fun t _ => ?_⟩
    rw [Nat.zero_testBit]
    exact ⟨fun y => (by cases y), fun y => absurd y id⟩
  have opn : ∀ s, (1 ≤ s ∧ s < q 0) → v (41 + s) = 1 → ¬ Bad q v s → Opn q v s := fun s _ h1 hnb => by
    have ok : Ld q v 0 s ∧ Ld q v s (q 0) := Classical.byContradiction fun y => hnb ⟨h1, y⟩
    exact (Ld_o V ok.1).1
  have wrapX : ∀ c : Int, (∃ F L, L_Sweep_fewestClimbers_22 (d + 49) 20 o 46 (iZ 0) (iZ 1) kx = some (some (vI (iZ c)), wL (wI kx 22 F) 20 L)) → ∃ F T L, evm (d + 50) 62 [vR 7 20, vR 5 o, vR 20 46] hx = some (some (vI (iZ c)), wL (wL (wI hx 22 F) 21 T) 20 L) := by
    rintro c ⟨F, L, e⟩
    refine ⟨F, T0, L, ?_⟩
    rw [e_Sweep_fewestClimbers, R.top, X.n 46 41]
    simp (disch := omega) only [lit32, litJ, iz_add, iz_sub, iz_mul, iz_neg, nI_iz, ix_iz, inb_iz, ifp_t, ifp_f, ifp_T, ifp_F, iz_eq, iz_lt, bI_s, bL_s, bV_s, bR_s]
    rw [x1, bV_s, e, hkx]
    congr 2
    show wL (wL (wI (wI hx 22 F0) 22 F) 21 T0) 20 L = _
    rw [wI_wI]
  have s0 : kx = wL (wI kx 22 F0) 20 (hL kx 20) := by
    have e1 : wI kx 22 F0 = kx := by rw [← k22, wI_self]
    have e2 : wL (wI kx 22 F0) 20 (hL kx 20) = wL kx 20 (hL kx 20) := by rw [e1]
    rw [e2, wL_self]
  -- the model's side
  have SM' : ∀ {F G}, SM (wI (wI km 90 F) 91 G) := fun {_ _} => Skm
  have c74 : ∀ {F G}, rz (wI (wI km 90 F) 91 G) 74 = q := fun {F G} => by rw [wI_rz _ _ (by decide), wI_rz _ _ (by decide), q74]
  have c79 : ∀ {F G}, rz (wI (wI km 90 F) 91 G) 79 = v := fun {F G} => by rw [wI_rz _ _ (by decide), wI_rz _ _ (by decide), q79]
  have sI90 : ∀ {F G} (k : Nat) (x : Int32), sI (wI (wI km 90 F) 91 G) 90 k x = wI (wI km 90 (up F k x)) 91 G := fun {_ _} k x => CH_x (c := 90) k x
  have M89 : ∀ {F G}, hI (wI (wI km 90 F) 91 G) 89 = hI km 89 := fun {_ _} => by rw [wI_n _ _ (by decide), wI_n _ _ (by decide)]
  have trod : ∀ (d : Nat) (F G : Nat → Int32) (z : Int), (0 ≤ z ∧ z ≤ 41) → evm (d + 1) 231 [vR 12 68, vI (iZ z)] (wI (wI km 90 F) 91 G) = some (some (vI (bZ (v (41 + z) = 1))), wI (wI km 90 F) 91 G) := by
    intro d F G z hz
    have := m_isTrodden d (SM' (F := F) (G := G)) hz
    rw [c79] at this
    exact this
  have msM : ∀ F G, Ms hm (wI (wI km 90 F) 91 G) (rz hm 79) (rz hm 80) := fun F G => ((am.tr (Sc.i _ F (by decide))).tr (Sc.i _ G (by decide))).ms
  have wrapM : ∀ c : Int, (∃ F G, L_M_fewest_13 (dm + 49) 68 (iZ 0) (iZ 1) km = some (some (vI (iZ c)), wI (wI km 90 F) 91 G)) → ∃ h', evm (dm + 50) 233 [vR 12 68] hm = some (some (vI (iZ c)), h') ∧ Ms hm h' (rz hm 79) (rz hm 80) := by
    rintro c ⟨F, G, e⟩
    refine ⟨_, ?_, msM F G⟩
    rw [e_M_fewest]
    simp only [lit32]
    rw [m1, bV_s]
    exact e
  have t0 : km = wI (wI km 90 (hI km 90)) 91 (hI km 91) := by rw [wI_self, wI_self]
  have Op0 : Opn q v 0 := ⟨by have : q 26 = 0 := V.2.2.2.2.2.2.2.2.2.2.2.2.2.1; show q 26 ≠ 1; omega, h41⟩
  have lm0 : ∀ s, 1 ≤ s → (LdM q v 0 s ↔ Ld q v 0 s) := fun s hs => ⟨fun y => y.2.elim (fun z => by omega) id, fun y => ⟨Op0, Or.inr y⟩⟩
  have l57 : ∀ (s c : Int) (F G : Nat → Int32), (1 ≤ s ∧ s < q 0) → L_M_fewest_57 (dm + 49) 68 (iZ c) (iZ s) (wI (wI km 90 F) 91 G) = L_M_fewest_13 (dm + 49) 68 (iZ (c + pif (v (41 + s) = 1) 1 0)) (iZ (s + 1)) (wI (wI km 90 (up F s.toNat (iZ (-1)))) 91 G) := by
    intro s c F G hs
    rw [e_M_fewest_57, trod (dm + 48) F G s (by omega), bI_s]
    simp only [lit32, bZ_0]
    refine ifp_r (fun y => ?_) (fun y => ?_)
    · rw [pif_f y, e_M_fewest_71]
      simp (disch := omega) only [lit32, litJ, iz_add, iz_sub, iz_mul, iz_neg, nI_iz, ix_iz, inb_iz, ifp_t, ifp_f, ifp_T, ifp_F, iz_eq, iz_lt, bI_s, bL_s, bV_s, bR_s, SM'.r 34 90, SM'.n 90 41, sI90]
    · rw [pif_t (Classical.not_not.mp y), e_M_fewest_71]
      simp (disch := omega) only [lit32, litJ, iz_add, iz_sub, iz_mul, iz_neg, nI_iz, ix_iz, inb_iz, ifp_t, ifp_f, ifp_T, ifp_F, iz_eq, iz_lt, bI_s, bL_s, bV_s, bR_s, SM'.r 34 90, SM'.n 90 41, sI90]
  by_cases hbad : ∃ s, (1 ≤ s ∧ s < q 0) ∧ Bad q v s
  · refine ⟨-1, wrapX _ ?_, wrapM _ ?_⟩
    · have loop : ∀ s, (1 ≤ s ∧ s ≤ q 0) → (∃ s', s ≤ s' ∧ s' < q 0 ∧ Bad q v s') → ∀ (c : Int) (nx : Int → Int) (F : Nat → Int32) (L : Nat → Int64), (0 ≤ c ∧ c ≤ s) → Vnx q v nx → (∀ t, 1 ≤ t → t < q 0 → F t.toNat = iZ (nx t)) → ∃ F' L', L_Sweep_fewestClimbers_22 (d + 49) 20 o 46 (iZ c) (iZ s) (wL (wI kx 22 F) 20 L) = some (some (vI (iZ (-1))), wL (wI kx 22 F') 20 L') := by
        refine lpZ (q 0) (fun s hs hb hex => ?_) (fun s hs ih hb hex c nx F L hc hV hF => ?_)
        · obtain ⟨s', a1, a2, _⟩ := hex; omega
        · have dk := Dk s (by omega) (by omega)
          by_cases hb2 : Bad q v s
          · refine ⟨F, L, ?_⟩
            rw [e_Sweep_fewestClimbers_22, RX.top]
            simp (disch := omega) only [lit32, litJ, iz_add, iz_sub, iz_mul, iz_neg, nI_iz, ix_iz, inb_iz, ifp_t, ifp_f, ifp_T, ifp_F, iz_eq, iz_lt, bI_s, bL_s, bV_s, bR_s]
            rw [e_Sweep_fewestClimbers_31]
            have b1 := hb2.1
            simp (disch := omega) only [lit32, litJ, iz_add, iz_sub, iz_mul, iz_neg, nI_iz, ix_iz, inb_iz, ifp_t, ifp_f, ifp_T, ifp_F, iz_eq, iz_lt, bI_s, bL_s, bV_s, bR_s, XX.n 46 41, I46, dk.1]
            try rw [ifp_t b1]
            rw [xleads (d + 48) F L 0 s (by omega) (by omega), bI_s]
            simp only [bZ_0]
            refine ifp_r (fun _ => rfl) (fun y => ?_)
            rw [RX.top, xleads (d + 48) F L s (q 0) (by omega) (by omega), bI_s]
            simp only [bZ_0]
            refine ifp_r (fun _ => rfl) (fun z => ?_)
            exact absurd ⟨Classical.not_not.mp y, Classical.not_not.mp z⟩ hb2.2
          · have hex' : ∃ s', s + 1 ≤ s' ∧ s' < q 0 ∧ Bad q v s' := by
              obtain ⟨s', a1, a2, a3⟩ := hex
              refine ⟨s', ?_, a2, a3⟩
              by_cases e : s' = s
              · rw [e] at a3; exact absurd a3 hb2
              · omega
            by_cases h1 : v (41 + s) = 1
            · obtain ⟨b, nx', tr', j1, _, _, j4⟩ := J s nx (fun _ => False) (by omega) (opn s (by omega) h1 hb2) hV (by have := ucn_q (q := q) (by omega) (fun _ => False); omega)
              obtain ⟨F1, L1, k1, k2⟩ := j4 (d + 49 - (q 0).toNat - 2) 0 F (up L 2 (jZ 0)) (by omega) (rp0 nx F L hF)
              rw [en] at k1
              rw [xstep s c F L (by omega) (by omega) h1 hb2, k1, bI_s]
              by_cases hbv : b
              · rw [ifp_f (fun z => (bZ_0.mp z) hbv)]
                exact ih (by omega) hex' (c + 0) nx' F1 L1 (by omega) j1 k2.1
              · rw [ifp_t (bZ_0.mpr hbv)]
                exact ih (by omega) hex' (c + 1) nx' F1 L1 (by omega) j1 k2.1
            · rw [e_Sweep_fewestClimbers_22, RX.top]
              simp (disch := omega) only [lit32, litJ, iz_add, iz_sub, iz_mul, iz_neg, nI_iz, ix_iz, inb_iz, ifp_t, ifp_f, ifp_T, ifp_F, iz_eq, iz_lt, bI_s, bL_s, bV_s, bR_s]
              rw [e_Sweep_fewestClimbers_31]
              simp (disch := omega) only [lit32, litJ, iz_add, iz_sub, iz_mul, iz_neg, nI_iz, ix_iz, inb_iz, ifp_t, ifp_f, ifp_T, ifp_F, iz_eq, iz_lt, bI_s, bL_s, bV_s, bR_s, XX.n 46 41, I46, dk.1]
              try rw [ifp_f h1]
              exact ih (by omega) hex' c nx F L (by omega) hV hF
      obtain ⟨s, hs, hb⟩ := hbad
      have := loop 1 (by omega) ⟨s, by omega, by omega, hb⟩ 0 (fun _ => -1) F0 (hL kx 20) (by omega) (fun t _ _ => Or.inl rfl) (fun t t1 t2 => x2 t (by omega) (by omega))
      rw [← s0] at this
      exact this
    · have loop : ∀ s, (1 ≤ s ∧ s ≤ q 0) → (∃ s', s ≤ s' ∧ s' < q 0 ∧ Bad q v s') → ∀ (c : Int) (F G : Nat → Int32), (0 ≤ c ∧ c ≤ s) → ∃ F' G', L_M_fewest_13 (dm + 49) 68 (iZ c) (iZ s) (wI (wI km 90 F) 91 G) = some (some (vI (iZ (-1))), wI (wI km 90 F') 91 G') := by
        refine lpZ (q 0) (fun s hs hb hex => ?_) (fun s hs ih hb hex c F G hc => ?_)
        · obtain ⟨s', a1, a2, _⟩ := hex; omega
        · have pb := p01 (v (41 + s) = 1)
          rw [e_M_fewest_13, m_steps (dm + 48) SM', bI_s, c74]
          simp (disch := omega) only [lit32, litJ, iz_add, iz_sub, iz_mul, iz_neg, nI_iz, ix_iz, inb_iz, ifp_t, ifp_f, ifp_T, ifp_F, iz_eq, iz_lt, bI_s, bL_s, bV_s, bR_s]
          rw [trod (dm + 48) F G s (by omega), bI_s]
          simp only [bZ_0]
          by_cases h1 : v (41 + s) = 1
          · rw [ifp_f (fun z => z h1)]
            have i0 := Lm 0 s (by omega) (by omega) (by omega) (by omega)
            rw [show 41 * (0 : Int) + s = s by omega] at i0
            simp (disch := omega) only [lit32, litJ, iz_add, iz_sub, iz_mul, iz_neg, nI_iz, ix_iz, inb_iz, ifp_t, ifp_f, ifp_T, ifp_F, iz_eq, iz_lt, bI_s, bL_s, bV_s, bR_s, SM'.r 33 89, SM'.n 89 1681, M89, i0, bZ_0]
            by_cases c1 : LdM q v 0 s
            · rw [ifp_f (fun z => z c1), m_steps (dm + 48) SM', bI_s, c74]
              simp (disch := omega) only [lit32, litJ, iz_add, iz_sub, iz_mul, iz_neg, nI_iz, ix_iz, inb_iz, ifp_t, ifp_f, ifp_T, ifp_F, iz_eq, iz_lt, bI_s, bL_s, bV_s, bR_s, SM'.n 89 1681, M89, Lm s (q 0) (by omega) (by omega) (by omega) (by omega), bZ_0]
              by_cases c2 : LdM q v s (q 0)
              · rw [ifp_f (fun z => z c2), l57 s c F G (by omega)]
                have hnb : ¬ Bad q v s := fun z => z.2 ⟨(lm0 s (by omega)).mp c1, c2.2.elim (fun w => by omega) id⟩
                obtain ⟨s', a1, a2, a3⟩ := hex
                refine ih (by omega) ⟨s', ?_, a2, a3⟩ _ _ _ (by omega)
                by_cases e : s' = s
                · rw [e] at a3; exact absurd a3 hnb
                · omega
              · rw [ifp_t c2]
                exact ⟨F, G, rfl⟩
            · rw [ifp_t c1]
              exact ⟨F, G, rfl⟩
          · rw [ifp_t h1, l57 s c F G (by omega)]
            obtain ⟨s', a1, a2, a3⟩ := hex
            refine ih (by omega) ⟨s', ?_, a2, a3⟩ _ _ _ (by omega)
            by_cases e : s' = s
            · rw [e] at a3; exact absurd a3.1 h1
            · omega
      obtain ⟨s, hs, hb⟩ := hbad
      have := loop 1 (by omega) ⟨s, by omega, by omega, hb⟩ 0 (hI km 90) (hI km 91) (by omega)
      rw [← t0] at this
      exact this
  · have nb : ∀ s, (1 ≤ s ∧ s < q 0) → ¬ Bad q v s := fun s hs y => hbad ⟨s, hs, y⟩
    -- both loops, joined
    have loop : ∀ s, (1 ≤ s ∧ s ≤ q 0) → ∀ (j : Int) (nx : Int → Int), (0 ≤ j ∧ j ≤ nTr v s) → Vnx q v nx → ∃ jf : Int, (0 ≤ jf ∧ jf ≤ nTr v (q 0)) ∧ (∀ F L, (∀ t, 1 ≤ t → t < q 0 → F t.toNat = iZ (nx t)) → ∃ F' L', L_Sweep_fewestClimbers_22 (d + 49) 20 o 46 (iZ (nTr v s - j)) (iZ s) (wL (wI kx 22 F) 20 L) = some (some (vI (iZ (nTr v (q 0) - jf))), wL (wI kx 22 F') 20 L')) ∧ (∀ F G, (∀ t, 1 ≤ t → t < q 0 → F t.toNat = iZ (nx t)) → ∃ F' G', L_M_fewest_88 (dm + 49) 68 (iZ (nTr v (q 0) - j)) (iZ s) (wI (wI km 90 F) 91 G) = some (some (vI (iZ (nTr v (q 0) - jf))), wI (wI km 90 F') 91 G')) := by
      refine lpZ (q 0) (fun s hs hb j nx hj hV => ?_) (fun s hs ih hb j nx hj hV => ?_)
      · have es : s = q 0 := by omega
        rw [es] at hj
        refine ⟨j, hj, fun F L hF => ⟨F, L, ?_⟩, fun F G hF => ⟨F, G, ?_⟩⟩
        · rw [e_Sweep_fewestClimbers_22, RX.top, es]
          simp (disch := omega) only [lit32, litJ, iz_add, iz_sub, iz_mul, iz_neg, nI_iz, ix_iz, inb_iz, ifp_t, ifp_f, ifp_T, ifp_F, iz_eq, iz_lt, bI_s, bL_s, bV_s, bR_s]
        · rw [e_M_fewest_88, m_steps (dm + 48) SM', bI_s, c74]
          simp (disch := omega) only [lit32, litJ, iz_add, iz_sub, iz_mul, iz_neg, nI_iz, ix_iz, inb_iz, ifp_t, ifp_f, ifp_T, ifp_F, iz_eq, iz_lt, bI_s, bL_s, bV_s, bR_s]
      · have dk := Dk s (by omega) (by omega)
        have ns := nTr_s v hb.1
        have nb1 := nTr_b v (s := s) hb.1
        have nbq := nTr_b v (s := q 0) v1.1
        have clear : ∀ (c : Int) (F G : Nat → Int32), (0 ≤ c ∧ c ≤ 100) → ∃ G0 : Nat → Int32, (∀ t : Int, 0 ≤ t → t ≤ 40 → G0 t.toNat = iZ 0) ∧ L_M_fewest_88 (dm + 49) 68 (iZ c) (iZ s) (wI (wI km 90 F) 91 G) = bI (evm (dm + 49) 231 [vR 12 68, vI (iZ s)] (wI (wI km 90 F) 91 G0)) fun x2 h1 => ifp (x2 = iZ 0) (L_M_fewest_88 (dm + 49) 68 (iZ (c - 0)) (iZ (s + 1)) h1) (bI (evm (dm + 49) 232 [vR 12 68, vI (iZ s)] h1) fun x4 h3 => ifp (x4 = iZ 0) (L_M_fewest_88 (dm + 49) 68 (iZ (c - 0)) (iZ (s + 1)) h3) (L_M_fewest_88 (dm + 49) 68 (iZ (c - 1)) (iZ (s + 1)) h3)) := by
          intro c F G hc
          have l98 : ∀ k : Int, (0 ≤ k ∧ k ≤ 41) → ∀ G : Nat → Int32, (∀ t : Int, 0 ≤ t → t < k → G t.toNat = iZ 0) → ∃ G0 : Nat → Int32, (∀ t : Int, 0 ≤ t → t ≤ 40 → G0 t.toNat = iZ 0) ∧ L_M_fewest_98 (dm + 49) 68 (iZ c) (iZ s) (iZ k) (wI (wI km 90 F) 91 G) = bI (evm (dm + 49) 231 [vR 12 68, vI (iZ s)] (wI (wI km 90 F) 91 G0)) fun x2 h1 => ifp (x2 = iZ 0) (L_M_fewest_88 (dm + 49) 68 (iZ (c - 0)) (iZ (s + 1)) h1) (bI (evm (dm + 49) 232 [vR 12 68, vI (iZ s)] h1) fun x4 h3 => ifp (x4 = iZ 0) (L_M_fewest_88 (dm + 49) 68 (iZ (c - 0)) (iZ (s + 1)) h3) (L_M_fewest_88 (dm + 49) 68 (iZ (c - 1)) (iZ (s + 1)) h3)) := by
            refine lpZ 41 (fun k hk hkb G hG => ?_) (fun k hk ihk hkb G hG => ?_)
            · refine ⟨G, fun t t1 t2 => hG t t1 (by omega), ?_⟩
              rw [e_M_fewest_98]
              simp (disch := omega) only [lit32, litJ, iz_add, iz_sub, iz_mul, iz_neg, nI_iz, ix_iz, inb_iz, ifp_t, ifp_f, ifp_T, ifp_F, iz_eq, iz_lt, bI_s, bL_s, bV_s, bR_s]
            · obtain ⟨G0, g1, g2⟩ := ihk (by omega) (up G k.toNat (iZ 0)) (fun t t1 t2 => by
                by_cases e : t = k
                · rw [e, up_e]
                · rw [up_n _ _ (by omega)]; exact hG t t1 (by omega))
              refine ⟨G0, g1, ?_⟩
              rw [← g2, e_M_fewest_98]
              simp (disch := omega) only [lit32, litJ, iz_add, iz_sub, iz_mul, iz_neg, nI_iz, ix_iz, inb_iz, ifp_t, ifp_f, ifp_T, ifp_F, iz_eq, iz_lt, bI_s, bL_s, bV_s, bR_s, SM'.r 35 91, SM'.n 91 41, sI_wI]
          obtain ⟨G0, g1, g2⟩ := l98 0 (by omega) G (fun t t1 t2 => by omega)
          refine ⟨G0, g1, ?_⟩
          rw [← g2, e_M_fewest_88, m_steps (dm + 48) SM', bI_s, c74]
          simp (disch := omega) only [lit32, litJ, iz_add, iz_sub, iz_mul, iz_neg, nI_iz, ix_iz, inb_iz, ifp_t, ifp_f, ifp_T, ifp_F, iz_eq, iz_lt, bI_s, bL_s, bV_s, bR_s]
        have mono : nTr v (s + 1) ≤ nTr v (q 0) := by
          unfold nTr
          exact sZ_m (n := q 0 - 1) (fun k _ _ => (p01 _).1) (by omega) (by omega) (by omega)
        by_cases h1 : v (41 + s) = 1
        · rw [pif_t h1] at ns
          obtain ⟨b, nx', tr', j1, _, j3, j4⟩ := J s nx (fun _ => False) (by omega) (opn s (by omega) h1 (nb s (by omega))) hV (by have := ucn_q (q := q) (by omega) (fun _ => False); omega)
          have mgo : ∀ (F G : Nat → Int32), (∀ t, 1 ≤ t → t < q 0 → F t.toNat = iZ (nx t)) → ∃ F1 G1, (∀ t, 1 ≤ t → t < q 0 → F1 t.toNat = iZ (nx' t)) ∧ L_M_fewest_88 (dm + 49) 68 (iZ (nTr v (q 0) - j)) (iZ s) (wI (wI km 90 F) 91 G) = ifp (bZ b = iZ 0) (L_M_fewest_88 (dm + 49) 68 (iZ (nTr v (q 0) - j - 0)) (iZ (s + 1)) (wI (wI km 90 F1) 91 G1)) (L_M_fewest_88 (dm + 49) 68 (iZ (nTr v (q 0) - j - 1)) (iZ (s + 1)) (wI (wI km 90 F1) 91 G1)) := by
            intro F G hF
            obtain ⟨G0, g1, g2⟩ := clear (nTr v (q 0) - j) F G (by omega)
            obtain ⟨F1, G1, k1, k2⟩ := j3 (dm + 49 - (q 0).toNat - 2) F G0 ⟨hF, fun t t1 t2 => by rw [g1 t t1 t2, bZ_f id]⟩
            rw [enM] at k1
            refine ⟨F1, G1, k2.1, ?_⟩
            rw [g2, trod (dm + 48) F G0 s (by omega), bI_s, ifp_f (fun z => (bZ_0.mp z) h1), k1, bI_s]
          have xgo : ∀ (F : Nat → Int32) (L : Nat → Int64), (∀ t, 1 ≤ t → t < q 0 → F t.toNat = iZ (nx t)) → ∃ F1 L1, (∀ t, 1 ≤ t → t < q 0 → F1 t.toNat = iZ (nx' t)) ∧ L_Sweep_fewestClimbers_22 (d + 49) 20 o 46 (iZ (nTr v s - j)) (iZ s) (wL (wI kx 22 F) 20 L) = ifp (bZ b = iZ 0) (L_Sweep_fewestClimbers_22 (d + 49) 20 o 46 (iZ (nTr v s - j + 1)) (iZ (s + 1)) (wL (wI kx 22 F1) 20 L1)) (L_Sweep_fewestClimbers_22 (d + 49) 20 o 46 (iZ (nTr v s - j + 0)) (iZ (s + 1)) (wL (wI kx 22 F1) 20 L1)) := by
            intro F L hF
            obtain ⟨F1, L1, k1, k2⟩ := j4 (d + 49 - (q 0).toNat - 2) 0 F (up L 2 (jZ 0)) (by omega) (rp0 nx F L hF)
            rw [en] at k1
            refine ⟨F1, L1, k2.1, ?_⟩
            rw [xstep s _ F L (by omega) (by omega) h1 (nb s (by omega)), k1, bI_s]
          by_cases hbv : b
          · obtain ⟨jf, f1, f2, f3⟩ := ih (by omega) (j + 1) nx' (by omega) j1
            refine ⟨jf, f1, fun F L hF => ?_, fun F G hF => ?_⟩
            · obtain ⟨F1, L1, k1, k2⟩ := xgo F L hF
              obtain ⟨F2, L2, g1⟩ := f2 F1 L1 k1
              refine ⟨F2, L2, ?_⟩
              rw [k2, ifp_f (fun z => (bZ_0.mp z) hbv), show nTr v s - j + 0 = nTr v (s + 1) - (j + 1) by omega]
              exact g1
            · obtain ⟨F1, G1, k1, k2⟩ := mgo F G hF
              obtain ⟨F2, G2, g1⟩ := f3 F1 G1 k1
              refine ⟨F2, G2, ?_⟩
              rw [k2, ifp_f (fun z => (bZ_0.mp z) hbv), show nTr v (q 0) - j - 1 = nTr v (q 0) - (j + 1) by omega]
              exact g1
          · obtain ⟨jf, f1, f2, f3⟩ := ih (by omega) j nx' (by omega) j1
            refine ⟨jf, f1, fun F L hF => ?_, fun F G hF => ?_⟩
            · obtain ⟨F1, L1, k1, k2⟩ := xgo F L hF
              obtain ⟨F2, L2, g1⟩ := f2 F1 L1 k1
              refine ⟨F2, L2, ?_⟩
              rw [k2, ifp_t (bZ_0.mpr hbv), show nTr v s - j + 1 = nTr v (s + 1) - j by omega]
              exact g1
            · obtain ⟨F1, G1, k1, k2⟩ := mgo F G hF
              obtain ⟨F2, G2, g1⟩ := f3 F1 G1 k1
              refine ⟨F2, G2, ?_⟩
              rw [k2, ifp_t (bZ_0.mpr hbv), show nTr v (q 0) - j - 0 = nTr v (q 0) - j by omega]
              exact g1
        · rw [pif_f h1] at ns
          obtain ⟨jf, f1, f2, f3⟩ := ih (by omega) j nx (by omega) hV
          refine ⟨jf, f1, fun F L hF => ?_, fun F G hF => ?_⟩
          · obtain ⟨F2, L2, g1⟩ := f2 F L hF
            refine ⟨F2, L2, ?_⟩
            rw [e_Sweep_fewestClimbers_22, RX.top]
            simp (disch := omega) only [lit32, litJ, iz_add, iz_sub, iz_mul, iz_neg, nI_iz, ix_iz, inb_iz, ifp_t, ifp_f, ifp_T, ifp_F, iz_eq, iz_lt, bI_s, bL_s, bV_s, bR_s]
            rw [e_Sweep_fewestClimbers_31]
            simp (disch := omega) only [lit32, litJ, iz_add, iz_sub, iz_mul, iz_neg, nI_iz, ix_iz, inb_iz, ifp_t, ifp_f, ifp_T, ifp_F, iz_eq, iz_lt, bI_s, bL_s, bV_s, bR_s, XX.n 46 41, I46, dk.1]
            try rw [ifp_f h1]
            rw [show nTr v s - j = nTr v (s + 1) - j by omega]
            exact g1
          · obtain ⟨G0, g1, g2⟩ := clear (nTr v (q 0) - j) F G (by omega)
            obtain ⟨F2, G2, g3⟩ := f3 F G0 hF
            refine ⟨F2, G2, ?_⟩
            rw [g2, trod (dm + 48) F G0 s (by omega), bI_s, ifp_t (bZ_0.mpr h1), show nTr v (q 0) - j - 0 = nTr v (q 0) - j by omega]
            exact g3
    have n1 : nTr v 1 = 0 := by unfold nTr; exact sZ_0 _ (by omega)
    have nbq := nTr_b v (s := q 0) v1.1
    obtain ⟨jf, f1, f2, f3⟩ := loop 1 (by omega) 0 (fun _ => -1) (by omega) (fun t _ _ => Or.inl rfl)
    refine ⟨nTr v (q 0) - jf, wrapX _ ?_, wrapM _ ?_⟩
    · have := f2 F0 (hL kx 20) (fun t t1 t2 => x2 t (by omega) (by omega))
      rw [← s0, n1] at this
      exact this
    · have first : ∀ s, (1 ≤ s ∧ s ≤ q 0) → ∀ (F G : Nat → Int32), (∀ t : Int, 1 ≤ t → t < s → F t.toNat = iZ (-1)) → ∃ F' G', L_M_fewest_13 (dm + 49) 68 (iZ (nTr v s)) (iZ s) (wI (wI km 90 F) 91 G) = some (some (vI (iZ (nTr v (q 0) - jf))), wI (wI km 90 F') 91 G') := by
        refine lpZ (q 0) (fun s hs hb F G hF => ?_) (fun s hs ih hb F G hF => ?_)
        · have es : s = q 0 := by omega
          rw [es] at hF
          obtain ⟨F', G', g⟩ := f3 F G (fun t t1 t2 => hF t t1 t2)
          refine ⟨F', G', ?_⟩
          rw [e_M_fewest_13, m_steps (dm + 48) SM', bI_s, c74, es]
          simp (disch := omega) only [lit32, litJ, iz_add, iz_sub, iz_mul, iz_neg, nI_iz, ix_iz, inb_iz, ifp_t, ifp_f, ifp_T, ifp_F, iz_eq, iz_lt, bI_s, bL_s, bV_s, bR_s]
          rw [show nTr v (q 0) - 0 = nTr v (q 0) by omega] at g
          exact g
        · have pb := p01 (v (41 + s) = 1)
          have ns := nTr_s v hb.1
          have nbs := nTr_b v (s := s) hb.1
          obtain ⟨F', G', g⟩ := ih (by omega) (up F s.toNat (iZ (-1))) G (fun t t1 t2 => by
            by_cases e : t = s
            · rw [e, up_e]
            · rw [up_n _ _ (by omega)]; exact hF t t1 (by omega))
          rw [ns] at g
          refine ⟨F', G', ?_⟩
          rw [e_M_fewest_13, m_steps (dm + 48) SM', bI_s, c74]
          simp (disch := omega) only [lit32, litJ, iz_add, iz_sub, iz_mul, iz_neg, nI_iz, ix_iz, inb_iz, ifp_t, ifp_f, ifp_T, ifp_F, iz_eq, iz_lt, bI_s, bL_s, bV_s, bR_s]
          rw [trod (dm + 48) F G s (by omega), bI_s]
          simp only [bZ_0]
          by_cases h1 : v (41 + s) = 1
          · rw [ifp_f (fun z => z h1)]
            have ok : Ld q v 0 s ∧ Ld q v s (q 0) := Classical.byContradiction fun y => nb s (by omega) ⟨h1, y⟩
            have i0 := Lm 0 s (by omega) (by omega) (by omega) (by omega)
            rw [show 41 * (0 : Int) + s = s by omega] at i0
            simp (disch := omega) only [lit32, litJ, iz_add, iz_sub, iz_mul, iz_neg, nI_iz, ix_iz, inb_iz, ifp_t, ifp_f, ifp_T, ifp_F, iz_eq, iz_lt, bI_s, bL_s, bV_s, bR_s, SM'.r 33 89, SM'.n 89 1681, M89, i0, bZ_0]
            rw [ifp_f (fun z => z ((lm0 s (by omega)).mpr ok.1)), m_steps (dm + 48) SM', bI_s, c74]
            simp (disch := omega) only [lit32, litJ, iz_add, iz_sub, iz_mul, iz_neg, nI_iz, ix_iz, inb_iz, ifp_t, ifp_f, ifp_T, ifp_F, iz_eq, iz_lt, bI_s, bL_s, bV_s, bR_s, SM'.n 89 1681, M89, Lm s (q 0) (by omega) (by omega) (by omega) (by omega), bZ_0]
            rw [ifp_f (fun z => z ⟨opn s (by omega) h1 (nb s (by omega)), Or.inr ok.2⟩), l57 s _ F G (by omega)]
            exact g
          · rw [ifp_t h1, l57 s _ F G (by omega)]
            exact g
      have := first 1 (by omega) (hI km 90) (hI km 91) (fun t t1 t2 => by omega)
      rw [← t0, n1] at this
      exact this
