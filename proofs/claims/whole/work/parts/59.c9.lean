/-! the class's crowd goes -/
theorem crC_id {q : Int → Int} {c : Int} (hc : 0 ≤ c ∧ c ≤ mxC q) : crC q c = c := by
  unfold crC
  unfold mxC at hc
  by_cases h : q 1 < 0
  · rw [if_pos h] at hc; rw [if_pos h]; omega
  · rw [if_neg h]
def PX (h : Hp) (o G : Nat) (q co ca : Int → Int) (x : Int) (Pr : Int → Int → Int → Int → Int → Prop) (τ : Nat) (k7 : Int64) (H : Hp) : Prop := ∃ mo we pi pa kn tr gr s b la cr g S, H = QH (PB h o mo we pi pa) G kn tr gr s b la cr g S ∧ JI q co ca x Pr τ kn tr gr ∧ kn 7 = k7
theorem PX.c {h : Hp} {o G : Nat} {q co ca : Int → Int} (V : VS q) {x : Int} {Pr Pr' : Int → Int → Int → Int → Int → Prop} {τ : Nat} {k7 : Int64} {H : Hp} (p : PX h o G q co ca x Pr τ k7 H) (e : ∀ s l c g (t : Nat), Nn q co ca x t s l c g ≠ 0 → s < q 0 → (Pr s l c g t ↔ Pr' s l c g t)) : PX h o G q co ca x Pr' τ k7 H := by
  obtain ⟨mo, we, pi, pa, kn, tr, gr, s, b, la, cr, g, S, a1, a2, a3⟩ := p
  exact ⟨mo, we, pi, pa, kn, tr, gr, s, b, la, cr, g, S, a1, JI_c V e a2, a3⟩
theorem x_pass (d : Nat) {h : Hp} (X : SX h) {o : Nat} (t : TO o) {q co ca : Int → Int} (R : SR h o q) (V : VS q) (Lw : LX h o q co ca) (B : TB h q) {G : Nat} (eG : GT G) (hG : hR h 12 6 = some G) (hn : szT q ≤ hN h G) (hn2 : hN h G ≤ 1000000) {x : Int} (hx : 0 ≤ x ∧ x ≤ 1000000000000) {τ : Nat} {k7 : Int64} {s0 : Int} (hs : (τ : Int) ≤ s0 ∧ s0 < q 0) {H : Hp} (hP : PX h o G q co ca x (px τ s0 0 0 0) τ k7 H) :
    ∃ H', evm (d + 5) 80 [vR 9 12, vR 5 o, vI (iZ s0), vI (iZ τ)] H = some (none, H') ∧ PX h o G q co ca x (px τ (s0 - 1) 0 0 0) τ k7 H' := by
  have tt := t
  unfold TO at tt
  have eG2 := eG
  unfold GT at eG2
  have v1 := V.top
  have vn := V.n
  have vc := mxC_b V
  have vg := mxG_b V
  have XB : ∀ {mo we pi pa}, SX (PB h o mo we pi pa) := fun {_ _ _ _} => X
  have RB : ∀ {mo we pi pa}, SR (PB h o mo we pi pa) o q := fun {mo we pi pa} => R.tr (fun r r1 r2 => by
    show hI (wI (wI (wI h 16 mo) 17 we) (o + 9) pi) r = _
    rw [wI_n _ _ (by omega), wI_n _ _ (by omega), wI_n _ _ (by omega)])
  have LB : ∀ {mo we pi pa}, LX (PB h o mo we pi pa) o q co ca := fun {mo we pi pa} => Lw.tr (by
    show hI (wI (wI (wI h 16 mo) 17 we) (o + 9) pi) (o + 7) = _
    rw [wI_n _ _ (by omega), wI_n _ _ (by omega), wI_n _ _ (by omega)]) (by
    show hI (wI (wI (wI h 16 mo) 17 we) (o + 9) pi) (o + 8) = _
    rw [wI_n _ _ (by omega), wI_n _ _ (by omega), wI_n _ _ (by omega)])
  have TBB : ∀ {mo we pi pa}, TB (PB h o mo we pi pa) q := fun {mo we pi pa} => by
    unfold TB
    have : hI (PB h o mo we pi pa) 12 = hI h 12 := by
      show hI (wI (wI (wI h 16 mo) 17 we) (o + 9) pi) 12 = _
      rw [wI_n _ _ (by omega), wI_n _ _ (by decide), wI_n _ _ (by decide)]
    rw [this]; exact B
  have IB : ∀ {mo we pi pa}, hI (PB h o mo we pi pa) 16 = mo := fun {mo we pi pa} => by
    show hI (wI (wI (wI h 16 mo) 17 we) (o + 9) pi) 16 = _
    rw [wI_n _ _ (by omega), wI_n _ _ (by decide), wI_I]
  have XQ : ∀ {mo we pi pa kn tr gr s b la cr g S}, SX (QH (PB h o mo we pi pa) G kn tr gr s b la cr g S) := fun {_ _ _ _ _ _ _ _ _ _ _ _ _} => X
  have RQ : ∀ {mo we pi pa kn tr gr s b la cr g S}, SR (QH (PB h o mo we pi pa) G kn tr gr s b la cr g S) o q := fun {mo we pi pa kn tr gr s b la cr g S} => SR.ch (h := wL (wL (wL (PB h o mo we pi pa) 12 kn) 13 tr) G gr) (RB (mo := mo) (we := we) (pi := pi) (pa := pa)) t (by decide)
  have LQ : ∀ {mo we pi pa kn tr gr s b la cr g S}, LX (QH (PB h o mo we pi pa) G kn tr gr s b la cr g S) o q co ca := fun {mo we pi pa kn tr gr s b la cr g S} => LX.tr (LB (mo := mo) (we := we) (pi := pi) (pa := pa)) (CH_n (by omega)) (CH_n (by omega))
  have BQ : ∀ {mo we pi pa kn tr gr s b la cr g S}, TB (QH (PB h o mo we pi pa) G kn tr gr s b la cr g S) q := fun {mo we pi pa kn tr gr s b la cr g S} => by
    have := TBB (mo := mo) (we := we) (pi := pi) (pa := pa)
    unfold TB QH; rw [CH_n (by decide)]; exact this
  have GQ : ∀ {mo we pi pa kn tr gr s b la cr g S}, hR (QH (PB h o mo we pi pa) G kn tr gr s b la cr g S) 12 6 = some G := fun {_ _ _ _ _ _ _ _ _ _ _ _ _} => hG
  have NQ : ∀ {mo we pi pa kn tr gr s b la cr g S}, hN (QH (PB h o mo we pi pa) G kn tr gr s b la cr g S) G = hN h G := fun {_ _ _ _ _ _ _ _ _ _ _ _ _} => rfl
  have szb := szT_b V
  have l3 : ∀ l : Int, 0 ≤ l ∧ l ≤ q 8 + 1 → ∀ H, PX h o G q co ca x (px τ s0 l 0 0) τ k7 H → ∃ H', L_Throng_passStep_3 (d + 4) 12 o (iZ s0) (iZ τ) (iZ l) H = some (none, H') ∧ PX h o G q co ca x (px τ (s0 - 1) 0 0 0) τ k7 H' := by
    refine lpZ (q 8 + 1) (fun l hl hlb H hP => ?_) (fun l hl ihl hlb H hP => ?_)
    · obtain ⟨mo, we, pi, pa, kn, tr, gr, s, b, la, cr, g, S, rfl, J, hk7⟩ := hP
      rw [e_Throng_passStep_3, BQ.1]
      simp (disch := omega) only [lit32, litJ, iz_add, iz_sub, iz_mul, iz_neg, nI_iz, ix_iz, inb_iz, ifp_t, ifp_f, ifp_T, ifp_F, iz_eq, iz_lt, bI_s, bL_s, bV_s, bR_s]
      refine ⟨_, rfl, PX.c V ⟨mo, we, pi, pa, kn, tr, gr, s, b, la, cr, g, S, rfl, J, hk7⟩ (fun s' l' c' g' t' n _ => ?_)⟩
      have := (Nn_o V _ _ _ _ _ n).1
      obtain ⟨_, _, _, _⟩ := this
      unfold px; omega
    · have l47 : ∀ c : Int, 0 ≤ c ∧ c ≤ mxC q + 1 → ∀ (fe : Prop) (H : Hp), PX h o G q co ca x (px τ s0 l c 0) τ k7 H → (fe → ∀ k, 0 ≤ k → k < q 8 → hI H 16 k.toNat = iZ (wgt q co ca (q (9 + k)) (stv q l) s0 τ)) → ∃ H', L_Throng_passStep_47 (d + 4) 12 o (iZ s0) (iZ τ) (iZ l) (iZ (stv q l)) (bZ fe) (iZ c) H = some (none, H') ∧ PX h o G q co ca x (px τ (s0 - 1) 0 0 0) τ k7 H' := by
        refine lpZ (mxC q + 1) (fun c hc hcb fe H hP hfe => ?_) (fun c hc ihc hcb fe H hP hfe => ?_)
        · obtain ⟨mo, we, pi, pa, kn, tr, gr, s, b, la, cr, g, S, rfl, J, hk7⟩ := hP
          rw [e_Throng_passStep_47, BQ.2.1]
          simp (disch := omega) only [lit32, litJ, iz_add, iz_sub, iz_mul, iz_neg, nI_iz, ix_iz, inb_iz, ifp_t, ifp_f, ifp_T, ifp_F, iz_eq, iz_lt, bI_s, bL_s, bV_s, bR_s]
          refine ihl (by omega) _ (PX.c V ⟨mo, we, pi, pa, kn, tr, gr, s, b, la, cr, g, S, rfl, J, hk7⟩ (fun s' l' c' g' t' n _ => ?_))
          have := (Nn_o V _ _ _ _ _ n).1
          obtain ⟨_, _, _, _⟩ := this
          unfold px; omega
        · have l59 : ∀ g : Int, 0 ≤ g ∧ g ≤ mxG q + 1 → ∀ (fe : Prop) (H : Hp), PX h o G q co ca x (px τ s0 l c g) τ k7 H → (fe → ∀ k, 0 ≤ k → k < q 8 → hI H 16 k.toNat = iZ (wgt q co ca (q (9 + k)) (stv q l) s0 τ)) → ∃ H', L_Throng_passStep_59 (d + 4) 12 o (iZ s0) (iZ τ) (iZ l) (iZ (stv q l)) (bZ fe) (iZ c) (iZ g) H = some (none, H') ∧ PX h o G q co ca x (px τ (s0 - 1) 0 0 0) τ k7 H' := by
            refine lpZ (mxG q + 1) (fun g hg hgb fe H hP hfe => ?_) (fun g hg ihg hgb fe H hP hfe => ?_)
            · obtain ⟨mo, we, pi, pa, kn, tr, gr, s, b, la, cr, g', S, rfl, J, hk7⟩ := hP
              rw [e_Throng_passStep_59, BQ.2.2]
              simp (disch := omega) only [lit32, litJ, iz_add, iz_sub, iz_mul, iz_neg, nI_iz, ix_iz, inb_iz, ifp_t, ifp_f, ifp_T, ifp_F, iz_eq, iz_lt, bI_s, bL_s, bV_s, bR_s]
              refine ihc (by omega) _ _ (PX.c V ⟨mo, we, pi, pa, kn, tr, gr, s, b, la, cr, g', S, rfl, J, hk7⟩ (fun s' l' c' g' t' n _ => ?_)) hfe
              have := (Nn_o V _ _ _ _ _ n).1
              obtain ⟨_, _, _, _⟩ := this
              unfold px; omega
            · obtain ⟨mo, we, pi, pa, kn, tr, gr, s, b, la, cr, g', S, rfl, J, hk7⟩ := hP
              have ec : crC q c = c := crC_id (by omega)
              have put : evm (d + 4) 2 [vR 0 14, vI (iZ s0), vI (iZ τ), vI (iZ (stv q l)), vI (iZ c), vI (iZ g)] (QH (PB h o mo we pi pa) G kn tr gr s b la cr g' S) = some (none, QH (PB h o mo we pi pa) G kn tr gr s0 τ (stv q l) c g S) := x_put (d + 3)
              have hfe' : fe → ∀ k, 0 ≤ k → k < q 8 → hI (QH (PB h o mo we pi pa) G kn tr gr s0 τ (stv q l) c g S) 16 k.toNat = iZ (wgt q co ca (q (9 + k)) (stv q l) s0 τ) := by
                intro y k k1 k2
                have := hfe y k k1 k2
                unfold QH at this ⊢
                rw [CH_n (by decide)] at this ⊢
                exact this
              have pb := plT_b (q := q) (s := s0) (l := l) (c := c) (g := g) (by omega) (by omega) (by omega) (by omega)
              have gv := J.1 s0 l c g (by omega) (by omega) (by omega) (by omega)
              have hz : NP q co ca x (px τ s0 l c g) (τ + 1) s0 l c g = 0 := NP_z V (fun s' l' c' g' h1 => by unfold px; omega)
              have np : ¬ px τ s0 l c g s0 l c g τ := by unfold px; omega
              rw [hz, pif_f np, Int.add_zero] at gv
              have nb := Nn_b (co := co) (ca := ca) V hx.1 τ s0 l c g
              rw [e_Throng_passStep_59, BQ.2.2]
              simp (disch := omega) only [lit32, litJ, iz_add, iz_sub, iz_mul, iz_neg, nI_iz, ix_iz, inb_iz, ifp_t, ifp_f, ifp_T, ifp_F, iz_eq, iz_lt, bI_s, bL_s, bV_s, bR_s]
              rw [e_Throng_passStep_68, XQ.r 12 2 14, bR_s, put, bV_s, XQ.r 12 2 14, bR_s, x_placeT (d + 3) XQ t RQ V BQ (l := l) (cr := c) CH_I (by omega) (by rw [ec]; omega) (by omega), bI_s, ec]
              simp (disch := omega) only [lit32, litJ, iz_add, iz_sub, iz_mul, iz_neg, nI_iz, ix_iz, inb_iz, ifp_t, ifp_f, ifp_T, ifp_F, iz_eq, iz_lt, bI_s, bL_s, bV_s, bR_s, GQ, NQ, QH_g]
              rw [gv]
              by_cases h0 : Nn q co ca x τ s0 l c g = 0
              · rw [ifp_t ((cmp_eq (by omega)).mpr h0)]
                refine ihg (by omega) fe _ (PX.c V ⟨mo, we, pi, pa, kn, tr, gr, _, _, _, _, _, S, rfl, J, hk7⟩ (fun s' l' c' g' t' n _ => ?_)) hfe'
                have ne : ¬ (s' = s0 ∧ l' = l ∧ c' = c ∧ g' = g ∧ t' = τ) := fun ⟨a1, a2, a3, a4, a5⟩ => n (by rw [a1, a2, a3, a4, a5]; exact h0)
                have tz : (t' : Int) = τ ↔ t' = τ := by omega
                unfold px
                omega
              · rw [ifp_f (fun y => h0 ((cmp_eq (by omega)).mp y))]
                have nr := Nn_o V _ _ _ _ _ h0
                have J2 := JI_u V nr hs.2 np hz J
                have l144 : ∀ mo pi, (∀ k, 0 ≤ k → k < q 8 → mo k.toNat = iZ (wgt q co ca (q (9 + k)) (stv q l) s0 τ)) → ∃ H', L_Throng_passStep_144 (d + 4) 12 o (iZ s0) (iZ τ) (iZ l) (iZ (stv q l)) (bZ True) (iZ c) (iZ g) (iZ (plT q s0 l c g)) (QH (PB h o mo we pi pa) G kn tr gr s0 τ (stv q l) c g S) = some (none, H') ∧ PX h o G q co ca x (px τ (s0 - 1) 0 0 0) τ k7 H' := by
                  intro mo pi hmo
                  obtain ⟨we1, pa1, S1, e1⟩ := x_partT d (XB (mo := mo) (we := we) (pi := pi) (pa := pa)) t RB V (co := co) (ca := ca) TBB eG hG hn hn2 (kn := kn) (tr := tr) (gr := up gr (plT q s0 l c g).toNat (jZ 0)) (S := S) nr.1 ec (x := Nn q co ca x τ s0 l c g) (by omega) (fun k k1 k2 => by rw [IB]; exact hmo k k1 k2)
                  rw [PB_w t] at e1
                  rw [e_Throng_passStep_144]
                  simp (disch := omega) only [lit32, litJ, iz_add, iz_sub, iz_mul, iz_neg, nI_iz, ix_iz, inb_iz, ifp_t, ifp_f, ifp_T, ifp_F, iz_eq, iz_lt, bI_s, bL_s, bV_s, bR_s, GQ, NQ, QH_g, QH_sg]
                  rw [gv, e1, bV_s]
                  refine ihg (by omega) True _ (PX.c V ⟨mo, we1, pi, pa1, _, _, _, _, _, _, _, _, S1, rfl, J2, ?_⟩ (fun s' l' c' g' t' n _ => ?_)) (fun _ k k1 k2 => ?_)
                  · rw [up_n _ _ (by decide)]; exact hk7
                  · have tz : (t' : Int) = τ ↔ t' = τ := by omega
                    unfold px
                    omega
                  · unfold QH
                    rw [CH_n (by decide)]
                    show hI (PB h o mo we1 pi pa1) 16 k.toNat = _
                    rw [IB]; exact hmo k k1 k2
                by_cases hf : fe
                · rw [ifp_f (fun y => (bZ_0.mp y) hf), eq_true hf]
                  refine l144 mo pi (fun k k1 k2 => ?_)
                  have := hfe' hf k k1 k2
                  unfold QH at this
                  rw [CH_n (by decide)] at this
                  have h2 : hI (PB h o mo we pi pa) 16 k.toNat = _ := this
                  rw [IB] at h2
                  exact h2
                · rw [ifp_t (bZ_0.mpr hf)]
                  obtain ⟨P1, M1, f1, f2⟩ := x_feel (d) (XQ (mo := mo) (we := we) (pi := pi) (pa := pa) (kn := kn) (tr := tr) (gr := gr) (s := s0) (b := τ) (la := stv q l) (cr := c) (g := g) (S := S)) t RQ V LQ (c := 14) (by decide) CH_I (r := 16) (Or.inl rfl) (by decide)
                  rw [PB_f t] at f1
                  simp only [XQ.r 12 2 14, XQ.r 12 3 16, bR_s, f1, bV_s]
                  have := l144 M1 P1 f2
                  rw [bZ_t trivial] at this
                  exact this
          have hB := hP
          obtain ⟨mo, we, pi, pa, kn, tr, gr, s, b, la, cr, g', S, hH, J, hk7⟩ := hB
          have b2 : hI H 12 9 = iZ (mxC q + 1) := by rw [hH]; exact BQ.2.1
          rw [e_Throng_passStep_47, b2]
          simp (disch := omega) only [lit32, litJ, iz_add, iz_sub, iz_mul, iz_neg, nI_iz, ix_iz, inb_iz, ifp_t, ifp_f, ifp_T, ifp_F, iz_eq, iz_lt, bI_s, bL_s, bV_s, bR_s]
          exact l59 0 (by omega) fe H hP hfe
      have hB := hP
      obtain ⟨mo, we, pi, pa, kn, tr, gr, s, b, la, cr, g', S, hH, J, hk7⟩ := hB
      have b1 : hI H 12 8 = iZ (q 8 + 1) := by rw [hH]; exact BQ.1
      have b2 : hI H o 8 = iZ (q 8) := by rw [hH]; exact RQ.n
      have b3 : hR H o 0 = some (o + 1) := by rw [hH]; exact XQ.o0 t
      have b4 : hN H (o + 1) = 6 := by rw [hH]; exact XQ.n1 t
      rw [e_Throng_passStep_3, b1, b2]
      simp (disch := omega) only [lit32, litJ, iz_add, iz_sub, iz_mul, iz_neg, nI_iz, ix_iz, inb_iz, ifp_t, ifp_f, ifp_T, ifp_F, iz_eq, iz_lt, bI_s, bL_s, bV_s, bR_s, b3, b4]
      have go := fun (y : Int32) (hy : y = iZ (stv q l)) => by
        have := l47 0 (by omega) False H hP (fun y => absurd y id)
        rw [bZ_f (fun y => y), ← hy] at this
        exact this
      by_cases h0 : l = 0
      · rw [ifp_t h0]
        exact go _ (by rw [h0]; rfl)
      · rw [ifp_f h0]
        have rs : hI H (o + 1) (l - 1).toNat = iZ (q (9 + (l - 1))) := by rw [hH]; exact RQ.str (by omega) (by omega)
        simp (disch := omega) only [lit32, litJ, iz_add, iz_sub, iz_mul, iz_neg, nI_iz, ix_iz, inb_iz, ifp_t, ifp_f, ifp_T, ifp_F, iz_eq, iz_lt, bI_s, bL_s, bV_s, bR_s, rs]
        exact go _ (by unfold stv; rw [if_neg (by omega)])
  rw [e_Throng_passStep]
  exact l3 0 (by omega) H hP
