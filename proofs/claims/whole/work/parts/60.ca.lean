/-! the class's crowd, whole -/
theorem x_begin98 (d : Nat) {g : Hp} (X : SX g) {G : Nat} (eG : GT G) {gr : Nat → Int64} : ∀ i : Int, 0 ≤ i ∧ i ≤ 41 → ∀ T : Nat → Int64, (∀ j : Nat, (j : Int) < i → T j = jZ 0) → ∃ T', L_Throng_begin_98 d 12 (iZ i) (wL (wL g G gr) 13 T) = some (none, sL (wL (wL g G gr) 13 T') 12 1 (jZ 0)) ∧ ∀ j : Nat, j < 41 → T' j = jZ 0 := by
  have X' : ∀ {T}, SX (wL (wL g G gr) 13 T) := fun {_} => X
  refine lpZ 41 (fun i hi hb T hT => ?_) (fun i hi ih hb T hT => ?_)
  · rw [e_Throng_begin_98]
    simp (disch := omega) only [lit32, litJ, iz_add, iz_sub, iz_mul, iz_neg, nI_iz, ix_iz, inb_iz, ifp_t, ifp_f, ifp_T, ifp_F, iz_eq, iz_lt, bI_s, bL_s, bV_s, bR_s, X'.r 12 0 13, X'.n 13 41]
    exact ⟨T, rfl, fun j hj => hT j (by omega)⟩
  · rw [e_Throng_begin_98]
    simp (disch := omega) only [lit32, litJ, iz_add, iz_sub, iz_mul, iz_neg, nI_iz, ix_iz, inb_iz, ifp_t, ifp_f, ifp_T, ifp_F, iz_eq, iz_lt, bI_s, bL_s, bV_s, bR_s, X'.r 12 0 13, X'.n 13 41, sL_wL]
    refine ih (by omega) _ (fun j hj => ?_)
    by_cases e : j = i.toNat
    · rw [e, up_e]
    · rw [up_n _ _ e]; exact hT j (by omega)
theorem x_begin74 (d : Nat) {g : Hp} (X : SX g) {G : Nat} (eG : GT G) (hG : hR g 12 6 = some G) (hn2 : hN g G ≤ 1000000) : ∀ i : Int, 0 ≤ i ∧ i ≤ hN g G → ∀ gr : Nat → Int64, (∀ j : Nat, (j : Int) < i → gr j = jZ 0) → ∃ gr' T', L_Throng_begin_74 d 12 (iZ i) (wL g G gr) = some (none, sL (wL (wL g G gr') 13 T') 12 1 (jZ 0)) ∧ (∀ j : Nat, j < hN g G → gr' j = jZ 0) ∧ ∀ j : Nat, j < 41 → T' j = jZ 0 := by
  unfold GT at eG
  refine lpZ (hN g G : Nat) (fun i hi hb gr hgr => ?_) (fun i hi ih hb gr hgr => ?_)
  · rw [e_Throng_begin_74]
    simp (disch := omega) only [lit32, litJ, iz_add, iz_sub, iz_mul, iz_neg, nI_iz, ix_iz, inb_iz, ifp_t, ifp_f, ifp_T, ifp_F, iz_eq, iz_lt, bI_s, bL_s, bV_s, bR_s, wL_R, hG, wL_N]
    obtain ⟨T', t1, t2⟩ := x_begin98 d X eG (gr := gr) 0 (by omega) (hL g 13) (fun j hj => by omega)
    have e : wL (wL g G gr) 13 (hL g 13) = wL g G gr := by
      have : hL g 13 = hL (wL g G gr) 13 := (wL_n _ _ (by omega)).symm
      rw [this, wL_self]
    rw [e] at t1
    exact ⟨gr, T', t1, fun j hj => hgr j (by omega), t2⟩
  · rw [e_Throng_begin_74]
    simp (disch := omega) only [lit32, litJ, iz_add, iz_sub, iz_mul, iz_neg, nI_iz, ix_iz, inb_iz, ifp_t, ifp_f, ifp_T, ifp_F, iz_eq, iz_lt, bI_s, bL_s, bV_s, bR_s, wL_R, hG, wL_N, sL_wL]
    refine ih (by omega) _ (fun j hj => ?_)
    by_cases e : j = i.toNat
    · rw [e, up_e]
    · rw [up_n _ _ e]; exact hgr j (by omega)
theorem x_beginT (d : Nat) {h : Hp} (X : SX h) {o : Nat} (t : TO o) {q : Int → Int} (R : SR h o q) (V : VS q) {G : Nat} (eG : GT G) (hG : hR h 12 6 = some G) (hln : 64 ≤ hN h G ∧ hN h G ≤ 14000) (hc : G < hC h ∧ 92 < hC h ∧ hC h < 999999) :
    ∃ F g' G' gr T', evm (d + 2) 79 [vR 9 12, vR 5 o] h = some (none, sL (wL (wL g' G' gr) 13 T') 12 1 (jZ 0)) ∧ TB (wI h 12 F) q ∧ AN 12 6 64 14000 (wI h 12 F) g' G G' ∧ GT G' ∧ szT q ≤ hN g' G' ∧ SX g' ∧ (∀ j : Nat, j < hN g' G' → gr j = jZ 0) ∧ ∀ j : Nat, j < 41 → T' j = jZ 0 := by
  have tt := t
  unfold TO at tt
  have eG2 := eG
  unfold GT at eG2
  have szb := szT_b V
  have v1 := V.top
  have vn := V.n
  have vc := mxC_b V
  have vg := mxG_b V
  have R' : ∀ {f}, SR (wI h 12 f) o q := fun {f} => R.tr (fun r r1 r2 => wI_n _ _ (by omega))
  have X' : ∀ {f}, SX (wI h 12 f) := fun {_} => X
  rw [e_Throng_begin, R.n]
  simp only [lit32, iz_add]
  rw [sI_w h, x_creakKinds d R' V, bI_s, sI_wI, x_greatKinds d R' V, bI_s, sI_wI]
  obtain ⟨F, hF⟩ : ∃ F, F = up (up (up (hI h 12) 8 (iZ (q 8 + 1))) 9 (iZ (mxC q + 1))) 10 (iZ (mxG q + 1)) := ⟨_, rfl⟩
  rw [← hF]
  have f8 : F 8 = iZ (q 8 + 1) := by rw [hF]; rfl
  have f9 : F 9 = iZ (mxC q + 1) := by rw [hF]; rfl
  have f10 : F 10 = iZ (mxG q + 1) := by rw [hF]; rfl
  have tb : TB (wI h 12 F) q := by unfold TB; rw [wI_I]; exact ⟨f8, f9, f10⟩
  have hG' : hR (wI h 12 F) 12 6 = some G := hG
  have nG : hN (wI h 12 F) G = hN h G := rfl
  have esz : q 0 * (q 8 + 1) * (mxC q + 1) * (mxG q + 1) = szT q := rfl
  rw [hG', bR_s, wI_I, f8, f9, f10, R'.top, nG]
  simp only [nI_iz, iz_mul, esz, bR_s]
  by_cases h1 : (hN h G : Int) < szT q
  · rw [ifp_t ((iz_lt (by omega)).mpr h1), nG]
    rw [j_max d (by omega) (by omega), bI_s]
    obtain ⟨n, hn⟩ : ∃ n : Nat, (if szT q < 2 * (hN h G : Int) then 2 * (hN h G : Int) else szT q) = (n : Int) := ⟨_, (Int.toNat_of_nonneg (by split <;> omega)).symm⟩
    have nb : szT q ≤ n ∧ n ≤ 14000 ∧ 2 * hN h G ≤ n := by
      split at hn <;> omega
    rw [hn]
    have ei : inb (iZ (n : Int)) 1000000 = true := (inb_iz (by omega)).mpr (by omega)
    rw [ifp_t ei, ix_iz (by omega), Int.toNat_natCast]
    unfold alc
    have hcF : hC (wI h 12 F) = hC h := rfl
    rw [ifp_t (show hC (wI h 12 F) < 1000000 by omega)]
    have hA2 : hR (sR (sN (wI h 12 F) 21 n n) 12 6 (hC (wI h 12 F))) 12 6 = some (hC h) := sR_e
    have hN2 : hN (sR (sN (wI h 12 F) 21 n n) 12 6 (hC (wI h 12 F))) (hC h) = n := sN_Ne (h := wI h 12 F)
    have eG' : GT (hC h) := Or.inr (by omega)
    have SX2 : SX (sR (sN (wI h 12 F) 21 n n) 12 6 (hC (wI h 12 F))) := by
      have lt : ∀ q ∈ sxR, q.1 < 93 ∧ ¬ (q.1 = 12 ∧ q.2.1 = 6) := by decide
      have lt2 : ∀ q ∈ sxN, q.1 < 93 := by decide
      refine ⟨fun q hq => ?_, fun q hq => ?_⟩
      · rw [sR_n (lt q hq).2]
        have := sN_R (h := wI h 12 F) (kd := 21) (len := n) (n := n) (r := q.1) (by have := (lt q hq).1; omega)
        rw [this]; exact X.1 q hq
      · have : hN (sR (sN (wI h 12 F) 21 n n) 12 6 (hC (wI h 12 F))) q.1 = hN (wI h 12 F) q.1 := sN_N (kd := 21) (len := n) (n := n) (by have := lt2 q hq; omega)
        rw [this]; exact X.2 q hq
    obtain ⟨gr, T', t1, t2, t3⟩ := x_begin74 (d + 1) SX2 eG' hA2 (by rw [hN2]; omega) 0 (by omega) (hL (sR (sN (wI h 12 F) 21 n n) 12 6 (hC (wI h 12 F))) (hC h)) (fun j hj => by omega)
    rw [wL_self] at t1
    refine ⟨F, _, hC h, gr, T', t1, tb, ⟨?_, ?_, ?_, ?_, ?_, ?_, Or.inr ⟨rfl, rfl, ?_, ?_, ?_⟩⟩, eG', ?_, SX2, t2, t3⟩
    · intro r hr; exact sN_I (h := wI h 12 F) (kd := 21) (len := n) (n := n) (by unfold Dm at hr; omega)
    · intro r hr hr2
      exact sN_L (h := wI h 12 F) (kd := 21) (len := n) (n := n) hr2
    · intro r k hr hk
      rw [sR_n hk]
      exact congrFun (sN_R (h := wI h 12 F) (kd := 21) (len := n) (n := n) (by unfold Dm at hr; omega)) k
    · intro r hr
      exact sN_N (h := wI h 12 F) (kd := 21) (len := n) (n := n) (by unfold Dm at hr; omega)
    · exact hA2
    · rw [hN2]; omega
    · rw [hN2]; rfl
    · rw [hN2]; rw [nG]; omega
    · rw [hN2, nG]; omega
    · rw [hN2]; omega
  · rw [ifp_f (fun y => h1 ((iz_lt (by omega)).mp y))]
    obtain ⟨gr, T', t1, t2, t3⟩ := x_begin74 (d + 1) (X' (f := F)) eG hG' (by rw [nG]; omega) 0 (by omega) (hL (wI h 12 F) G) (fun j hj => by omega)
    rw [wL_self] at t1
    refine ⟨F, wI h 12 F, G, gr, T', t1, tb, ⟨fun r _ => rfl, fun r _ _ => rfl, fun r k _ _ => rfl, fun r _ => rfl, hG, hln, Or.inl ⟨rfl, rfl, rfl⟩⟩, eG, ?_, X', t2, t3⟩
    rw [nG]; omega
def TCh (h : Hp) (q co ca : Int → Int) : Prop := ∃ kn : Int, (0 ≤ kn ∧ kn ≤ 1000000000000) ∧ hL h 12 7 = jZ kn ∧ (kn = 0 ∨ ((∀ s : Int, 0 ≤ s → s ≤ 40 → hL h 13 s.toNat = jZ (Trd q co ca kn s)) ∧ hL h 12 1 = jZ (Prc q co ca kn)))
/-- what a crowd's going leaves -/
def Gup (h h' : Hp) (o G G' : Nat) : Prop := (∀ r, Dm h r → r ≠ 12 → r ≠ 14 → r ≠ 15 → r ≠ 16 → r ≠ 17 → r ≠ o + 9 → hI h' r = hI h r) ∧ (∀ r, Dm h r → r ≠ 12 → r ≠ 13 → r ≠ 18 → r ≠ G' → hL h' r = hL h r) ∧ (∀ r k, Dm h r → ¬ (r = 12 ∧ k = 6) → hR h' r k = hR h r k) ∧ (∀ r, Dm h r → hN h' r = hN h r) ∧ hR h' 12 6 = some G' ∧ (64 ≤ hN h' G' ∧ hN h' G' ≤ 14000) ∧ ((G' = G ∧ hC h' = hC h ∧ hS h' = hS h) ∨ (G' = hC h ∧ hC h' = hC h + 1 ∧ hS h' = hS h + hN h' G' ∧ (2 * hN h G ≤ hN h' G' ∨ hN h' G' = 14000) ∧ hN h G < hN h' G')) ∧ ∃ s b la cr g, hI h' 14 = cFw s b la cr g
theorem x_goUp (d : Nat) {h : Hp} (X : SX h) {o : Nat} (t : TO o) {q co ca : Int → Int} (R : SR h o q) (V : VS q) (Lw : LX h o q co ca) {G : Nat} (eG : GT G) (hG : hR h 12 6 = some G) (hln : 64 ≤ hN h G ∧ hN h G ≤ 14000) (hc : G < hC h ∧ 92 < hC h ∧ hC h < 999999) (h14 : ∃ s b la cr g, hI h 14 = cFw s b la cr g) (TC : TCh h q co ca) {x : Int} (hx : 1 ≤ x ∧ x ≤ 1000000000000) :
    ∃ h' G', evm (d + 7) 78 [vR 9 12, vR 5 o, vL (jZ x)] h = some (none, h') ∧ Gup h h' o G G' ∧ (hL h' 12 7 = jZ x ∧ (∀ s : Int, 0 ≤ s → s ≤ 40 → hL h' 13 s.toNat = jZ (Trd q co ca x s)) ∧ hL h' 12 1 = jZ (Prc q co ca x)) := by
  have tt := t
  unfold TO at tt
  have eG2 := eG
  unfold GT at eG2
  have v1 := V.top
  have vn := V.n
  obtain ⟨kn0, hk0, hk1, hk2⟩ := TC
  have ck : (lg_cmp (jZ kn0) (jZ x) = 0) ↔ kn0 = x := cmp_eq (by omega)
  rw [e_Throng_goUp, hk1, ifp_n ck]
  by_cases hkx : kn0 = x
  · rw [ifp_t hkx]
    rcases hk2 with hk2 | hk2
    · omega
    · rw [hkx] at hk1 hk2
      exact ⟨h, G, rfl, ⟨fun _ _ _ _ _ _ _ _ => rfl, fun _ _ _ _ _ _ => rfl, fun _ _ _ _ => rfl, fun _ _ => rfl, hG, hln, Or.inl ⟨rfl, rfl, rfl⟩, h14⟩, hk1, hk2⟩
  · rw [ifp_f hkx]
    have X0 : SX (sL h 12 7 (jZ x)) := X
    have R0 : SR (sL h 12 7 (jZ x)) o q := R
    obtain ⟨F, g', G', gr, T', e1, tb, an, eG', hsz, SX2, z1, z2⟩ := x_beginT (d + 4) X0 t R0 V eG hG hln hc
    obtain ⟨a1, a2, a3, a4, a5, a6, a7⟩ := an
    have eG3 := eG'
    unfold GT at eG3
    have dm : ∀ r, r < 93 → Dm (wI (sL h 12 7 (jZ x)) 12 F) r := fun r hr => Or.inl (by show r < hC h; omega)
    have hG2 : ∀ {K : Hp}, hR (sL K 12 1 (jZ 0)) = hR K := fun {_} => rfl
    rw [e1, bV_s]
    have n13 : hN (sL (wL (wL g' G' gr) 13 T') 12 1 (jZ 0)) 13 = 41 := SX2.n 13 41
    have r13 : hR (sL (wL (wL g' G' gr) 13 T') 12 1 (jZ 0)) 12 0 = some 13 := SX2.r 12 0 13
    have rG : ∀ v, hR (sL (sL (wL (wL g' G' gr) 13 T') 12 1 (jZ 0)) 13 (ix 0) v) 12 6 = some G' := fun _ => a5
    have nG : ∀ v, hN (sL (sL (wL (wL g' G' gr) 13 T') 12 1 (jZ 0)) 13 (ix 0) v) G' = hN g' G' := fun _ => rfl
    rw [r13, bR_s, n13, ifp_t (by decide), rG, bR_s, nG]
    have szb := szT_b V
    have i0 : inb (0 : Int32) (hN g' G') = true := (inb_iz (a := 0) (by omega)).mpr (by omega)
    rw [ifp_t i0]
    obtain ⟨K, hK⟩ : ∃ K, K = sL (sL (sL (wL (wL g' G' gr) 13 T') 12 1 (jZ 0)) 13 (ix 0) (jZ x)) G' (ix 0) (jZ x) := ⟨_, rfl⟩
    rw [← hK]
    have KI : hI K = hI g' := by rw [hK]; rfl
    have KR : hR K = hR g' := by rw [hK]; rfl
    have KN : hN K = hN g' := by rw [hK]; rfl
    have KC : hC K = hC g' := by rw [hK]; rfl
    have KS : hS K = hS g' := by rw [hK]; rfl
    have KG : hL K G' = up gr 0 (jZ x) := by
      have ne1 : G' ≠ 13 := by omega
      have ne2 : G' ≠ 12 := by omega
      rw [hK, sL_w, wL_L, sL_w, wL_n _ _ ne1, sL_w, wL_n _ _ ne2, wL_n _ _ ne1, wL_L]
      rfl
    have K13 : hL K 13 = up T' 0 (jZ x) := by
      have ne1 : 13 ≠ G' := by omega
      rw [hK, sL_w, wL_n _ _ ne1, sL_w, wL_L, sL_w, wL_n _ _ (by decide), wL_L]
      rfl
    have g12 : hL g' 12 = up (hL h 12) 7 (jZ x) := by
      rw [a2 12 (dm 12 (by decide)) (by omega)]
      show hL (sL h 12 7 (jZ x)) 12 = _
      rw [sL_w, wL_L]
    have K12 : hL K 12 = up (up (hL h 12) 7 (jZ x)) 1 (jZ 0) := by
      have ne1 : 12 ≠ G' := by omega
      rw [hK, sL_w, wL_n _ _ ne1, sL_w, wL_n _ _ (by decide), sL_w, wL_L, wL_n _ _ (by decide), wL_n _ _ ne1, g12]
    have Kn : ∀ r, r ≠ 12 → r ≠ 13 → r ≠ G' → hL K r = hL g' r := by
      intro r h1 h2 h3
      rw [hK, sL_w, wL_n _ _ h3, sL_w, wL_n _ _ h2, sL_w, wL_n _ _ h1, wL_n _ _ h2, wL_n _ _ h3]
    have gI : ∀ r, r < 93 → r ≠ 12 → hI g' r = hI h r := by
      intro r hr h12
      rw [a1 r (dm r hr), wI_n _ _ h12]; rfl
    have XK : SX K := by unfold SX; rw [KR, KN]; exact SX2
    have RK : SR K o q := R.tr (fun r r1 r2 => by rw [KI]; exact gI r (by omega) (by omega))
    have LK : LX K o q co ca := Lw.tr (by rw [KI]; exact gI _ (by omega) (by omega)) (by rw [KI]; exact gI _ (by omega) (by omega))
    have BK : TB K q := by
      unfold TB
      rw [KI, a1 12 (dm 12 (by decide))]
      exact tb
    have GK : hR K 12 6 = some G' := by rw [KR]; exact a5
    have NK : szT q ≤ hN K G' := by rw [KN]; exact hsz
    have NK2 : hN K G' ≤ 1000000 := by rw [KN]; omega
    obtain ⟨s14, b14, la14, cr14, g14, e14⟩ := h14
    have K14 : hI K 14 = cFw s14 b14 la14 cr14 g14 := by rw [KI, gI 14 (by decide) (by decide)]; exact e14
    have selfK : K = QH (PB K o (hI K 16) (hI K 17) (hI K (o + 9)) (hL K 18)) G' (hL K 12) (hL K 13) (hL K G') s14 b14 la14 cr14 g14 (hI K 15) := by
      have e1 : PB K o (hI K 16) (hI K 17) (hI K (o + 9)) (hL K 18) = K := by
        unfold PB
        rw [wI_self, wI_self, wI_self, wL_self]
      unfold QH
      rw [e1, wL_self, wL_self, wL_self]
      exact (CH_self K14 rfl).symm
    have J0 : JI q co ca x (px 0 (q 0) 0 0 0) 0 (hL K 12) (hL K 13) (hL K G') := by
      have npf : ∀ (t : Nat) (s l c g : Int), 0 < t → NP q co ca x (px 0 (q 0) 0 0 0) t s l c g = 0 := by
        intro t s l c g ht
        have : NP q co ca x (fun _ _ _ _ _ => False) t s l c g = 0 := NP_0 (fun _ _ _ _ _ y => y) _ _ _ _ _ ht
        rw [← NP_c3 V (Pr := px 0 (q 0) 0 0 0) (fun s' l' c' g' t' n hs' => ⟨fun z => by
          have := (Nn_o V _ _ _ _ _ n).1
          obtain ⟨_, _, _, _⟩ := this
          unfold px at z; omega, fun z => absurd z id⟩)] at this
        exact this
      have bx0 : ∀ s : Int, 1 ≤ s → BX q co ca x (px 0 (q 0) 0 0 0) s = 0 := by
        intro s s1
        refine S4_z fun l c g t => ?_
        by_cases ht0 : t.toNat = 0
        · rw [ht0, NP, pif_f (by omega)]
        · exact npf _ _ _ _ _ (by omega)
      refine ⟨?_, ?_, ?_, ?_⟩
      · intro s l c g hs hl hc hg
        have pb := plT_b hs hl hc hg
        have z4 : plT q 0 0 0 0 = 0 := by unfold plT; simp
        rw [KG, npf _ _ _ _ _ (by omega), Int.add_zero]
        have np : ¬ px 0 (q 0) 0 0 0 s l c g (0 : Nat) := by unfold px; omega
        rw [pif_f np, Nn]
        by_cases h0 : s = 0 ∧ l = 0 ∧ c = 0 ∧ g = 0
        · rw [pif_t h0]
          obtain ⟨rfl, rfl, rfl, rfl⟩ := h0
          rw [z4]; rfl
        · rw [pif_f h0]
          have : (plT q s l c g).toNat ≠ 0 := fun y => h0 (plT_i (s := s) (s' := 0) hl hc hg (by omega) (by omega) (by omega) (by omega))
          rw [up_n _ _ this]
          exact z1 _ (by omega)
      · rw [K13]; rfl
      · intro s s1 s2
        rw [K13, up_n _ _ (by omega), bx0 s s1]
        exact z2 _ (by omega)
      · rw [K12, up_e, sZ_z (fun s s1 _ => bx0 (s + 1) (by omega))]
    have P0 : PX K o G' q co ca x (px 0 (q 0) 0 0 0) 0 (jZ x) K := ⟨_, _, _, _, _, _, _, _, _, _, _, _, _, selfK, J0, by rw [K12]; rfl⟩
    have io : ∀ {τ : Nat} {Pr : Int → Int → Int → Int → Int → Prop} {H : Hp}, PX K o G' q co ca x Pr τ (jZ x) H → SX H ∧ SR H o q := by
      intro τ Pr H hP
      obtain ⟨mo, we, pi, pa, kn, tr, gr, s, b, la, cr, g, S, rfl, J, hk7⟩ := hP
      refine ⟨XK, SR.ch (h := wL (wL (wL (PB K o mo we pi pa) 12 kn) 13 tr) G' gr) (RK.tr (fun r r1 r2 => ?_)) t (by decide)⟩
      show hI (wI (wI (wI K 16 mo) 17 we) (o + 9) pi) r = _
      rw [wI_n _ _ (by omega), wI_n _ _ (by omega), wI_n _ _ (by omega)]
    have loop : ∀ τ : Int, 0 ≤ τ ∧ τ ≤ q 0 → ∀ H, PX K o G' q co ca x (px τ (q 0) 0 0 0) τ.toNat (jZ x) H → ∃ H', L_Throng_goUp_37 (d + 6) 12 o (iZ τ) H = some (none, H') ∧ PX K o G' q co ca x (px (q 0) (q 0) 0 0 0) (q 0).toNat (jZ x) H' := by
      refine lpZ (q 0) (fun τ hτ hb H hP => ?_) (fun τ hτ ih hb H hP => ?_)
      · rw [e_Throng_goUp_37, (io hP).2.top]
        simp (disch := omega) only [lit32, litJ, iz_add, iz_sub, iz_mul, iz_neg, nI_iz, ix_iz, inb_iz, ifp_t, ifp_f, ifp_T, ifp_F, iz_eq, iz_lt, bI_s, bL_s, bV_s, bR_s]
        rw [show τ = q 0 by omega] at hP
        exact ⟨H, rfl, hP⟩
      · have et : ((τ.toNat : Nat) : Int) = τ := by omega
        have lg := V.str (k := q 8 - 1) (by omega) (by omega)
        have step : ∀ (n : Nat) (s0 : Int), s0 - τ + 1 ≤ n → τ - 1 ≤ s0 → s0 < q 0 → ∀ H, PX K o G' q co ca x (px τ s0 0 0 0) τ.toNat (jZ x) H → ∃ H', L_Throng_goUp_68 (d + 6) 12 o (iZ τ) (iZ s0) H = some (none, H') ∧ PX K o G' q co ca x (px (q 0) (q 0) 0 0 0) (q 0).toNat (jZ x) H' := by
          intro n
          induction n with
          | zero =>
            intro s0 h1 h2 h3 H hP
            rw [e_Throng_goUp_68]
            simp (disch := omega) only [lit32, litJ, iz_add, iz_sub, iz_mul, iz_neg, nI_iz, ix_iz, inb_iz, ifp_t, ifp_f, ifp_T, ifp_F, iz_eq, iz_lt, bI_s, bL_s, bV_s, bR_s]
            obtain ⟨mo, we, pi, pa, kn, tr, gr, s, b, la, cr, g, S, rfl, J, hk7⟩ := hP
            have J1 : JI q co ca x (px (τ + 1) (q 0) 0 0 0) τ.toNat kn tr gr := JI_c V (fun s' l' c' g' t' n' hs' => by
              have := (Nn_o V _ _ _ _ _ n').1
              obtain ⟨_, _, _, _⟩ := this
              unfold px; omega) J
            refine ih (by omega) _ ⟨mo, we, pi, pa, kn, tr, gr, s, b, la, cr, g, S, rfl, ⟨?_, J1.2.1, J1.2.2.1, J1.2.2.2⟩, hk7⟩
            intro s l c g hs hl hc hg
            rw [J1.1 s l c g hs hl hc hg]
            have e1 : px (τ + 1) (q 0) 0 0 0 s l c g (τ.toNat : Nat) := by unfold px; omega
            have e2 : ¬ px (τ + 1) (q 0) 0 0 0 s l c g ((τ + 1).toNat : Nat) := by unfold px; omega
            rw [pif_t e1, pif_f e2, Int.zero_add, show (τ + 1).toNat = τ.toNat + 1 by omega]
            rw [NP_f V (t := τ.toNat + 1) (fun s' l' c' g' t' n' h1 h2 => by unfold px; omega), NP_z V (t := τ.toNat + 1) (fun s' l' c' g' h1 => by unfold px; omega), Int.add_zero]
          | succ n ihn =>
            intro s0 h1 h2 h3 H hP
            by_cases h4 : s0 < τ
            · exact ihn s0 (by omega) h2 h3 H hP
            · rw [e_Throng_goUp_68]
              simp (disch := omega) only [lit32, litJ, iz_add, iz_sub, iz_mul, iz_neg, nI_iz, ix_iz, inb_iz, ifp_t, ifp_f, ifp_T, ifp_F, iz_eq, iz_lt, bI_s, bL_s, bV_s, bR_s]
              obtain ⟨H1, p1, p2⟩ := x_pass (d + 1) XK t RK V LK BK eG' GK NK NK2 (x := x) (by omega) (τ := τ.toNat) (k7 := jZ x) (s0 := s0) (by omega) (H := H) (by rw [et]; exact hP)
              rw [et] at p1 p2
              rw [p1, bV_s, show s0 + -1 = s0 - 1 by omega]
              exact ihn (s0 - 1) (by omega) (by omega) (by omega) H1 p2
        have bm : 0 ≤ τ * q (9 + (q 8 - 1)) ∧ τ * q (9 + (q 8 - 1)) ≤ 40 * 12 := ⟨Int.mul_nonneg hb.1 (by omega), Int.mul_le_mul (by omega) lg.2 (by omega) (by omega)⟩
        have bt : τ * 1 ≤ τ * q (9 + (q 8 - 1)) := Int.mul_le_mul_of_nonneg_left lg.1 hb.1
        obtain ⟨xh, rh⟩ := io hP
        rw [e_Throng_goUp_37, rh.top]
        simp (disch := omega) only [lit32, litJ, iz_add, iz_sub, iz_mul, iz_neg, nI_iz, ix_iz, inb_iz, ifp_t, ifp_f, ifp_T, ifp_F, iz_eq, iz_lt, bI_s, bL_s, bV_s, bR_s, x_longest (d + 5) xh t rh V]
        rw [j_min (d + 5) (by omega) (by omega), bI_s]
        obtain ⟨s0, hs0⟩ : ∃ s0 : Int, s0 = if τ * q (9 + (q 8 - 1)) < q 0 - 1 then τ * q (9 + (q 8 - 1)) else q 0 - 1 := ⟨_, rfl⟩
        rw [← hs0]
        have sb : τ ≤ s0 ∧ s0 < q 0 ∧ (s0 = q 0 - 1 ∨ s0 = τ * q (9 + (q 8 - 1))) := by
          split at hs0 <;> omega
        refine step (s0 - τ + 1).toNat s0 (by omega) (by omega) (by omega) H (PX.c V hP (fun s' l' c' g' t' n' hs' => ?_))
        have nn := (Nn_o V _ _ _ _ _ n').1
        obtain ⟨_, _, _, _⟩ := nn
        have fr := Nn_far V _ _ _ _ _ n'
        by_cases e : (t' : Int) = τ
        · rw [e] at fr
          unfold px; omega
        · unfold px; omega
    obtain ⟨H', l1, l2⟩ := loop 0 (by omega) K P0
    rw [show (0 : Int32) = iZ 0 from rfl, l1]
    obtain ⟨mo, we, pi, pa, kn, tr, gr', s, b, la, cr, g, S, rfl, J, hk7⟩ := l2
    have eN : NP q co ca x (px (q 0) (q 0) 0 0 0) = Nn q co ca x := by
      funext t s l c g
      by_cases hs : s ≤ q 0
      · exact NP_f V (fun s' l' c' g' t' n h _ => by
          have := n.1.1
          unfold px; omega)
      · have a : NP q co ca x (px (q 0) (q 0) 0 0 0) t s l c g = 0 := Classical.byContradiction fun y => by have := (NP_nz V y).1.1; omega
        have b : Nn q co ca x t s l c g = 0 := Classical.byContradiction fun y => by have := (Nn_o V _ _ _ _ _ y).1.1; omega
        rw [a, b]
    obtain ⟨j1, j2, j3, j4⟩ := J
    unfold BX at j3 j4
    rw [eN] at j3 j4
    have fI : ∀ r, r ≠ 14 → r ≠ 15 → r ≠ 16 → r ≠ 17 → r ≠ o + 9 → hI (QH (PB K o mo we pi pa) G' kn tr gr' s b la cr g S) r = hI K r := by
      intro r h1 h2 h3 h4 h5
      unfold QH
      rw [CH_n ⟨h1, h2⟩]
      show hI (wI (wI (wI K 16 mo) 17 we) (o + 9) pi) r = _
      rw [wI_n _ _ h5, wI_n _ _ h4, wI_n _ _ h3]
    have fL : ∀ r, r ≠ 12 → r ≠ 13 → r ≠ 18 → r ≠ G' → hL (QH (PB K o mo we pi pa) G' kn tr gr' s b la cr g S) r = hL K r := by
      intro r h1 h2 h3 h4
      unfold QH
      rw [CH_L, wL_n _ _ h4, wL_n _ _ h2, wL_n _ _ h1]
      unfold PB
      rw [wL_n _ _ h3]
      rfl
    have fR : hR (QH (PB K o mo we pi pa) G' kn tr gr' s b la cr g S) = hR K := rfl
    have fN : hN (QH (PB K o mo we pi pa) G' kn tr gr' s b la cr g S) = hN K := rfl
    have fC : hC (QH (PB K o mo we pi pa) G' kn tr gr' s b la cr g S) = hC K := rfl
    have fS : hS (QH (PB K o mo we pi pa) G' kn tr gr' s b la cr g S) = hS K := rfl
    refine ⟨_, G', rfl, ⟨?_, ?_, ?_, ?_, ?_, ?_, ?_, ⟨s, b, la, cr, g, CH_I⟩⟩, ?_, ?_, ?_⟩
    · intro r hr h1 h2 h3 h4 h5 h6
      rw [fI r h2 h3 h4 h5 h6, KI, a1 r hr, wI_n _ _ h1]; rfl
    · intro r hr h1 h2 h3 h4
      rw [fL r h1 h2 h3 h4, Kn r h1 h2 h4, a2 r hr h4]
      show hL (sL h 12 7 (jZ x)) r = _
      rw [sL_w, wL_n _ _ h1]
    · intro r k hr hk
      rw [fR, KR, a3 r k hr hk]; rfl
    · intro r hr
      rw [fN, KN, a4 r hr]; rfl
    · rw [fR]; exact GK
    · rw [fN, KN]; exact a6
    · rw [fN, fC, fS, KN, KC, KS]; exact a7
    · rw [QH_k eG']; exact hk7
    · intro s s1 s2
      rw [QH_t eG']
      unfold Trd
      by_cases h0 : s = 0
      · rw [pif_t h0, h0]; exact j2
      · rw [pif_f h0]; exact j3 s (by omega) s2
    · rw [QH_k eG']; exact j4
