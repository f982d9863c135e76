/-! the class: a stride, and back -/
theorem XS.hand {h : Hp} {o p : Nat} {q v v' z co ca : Int → Int} (S : XS h o p q v z co ca) {s b la cr g : Int} {U : Nat → Int32} (e : ∀ j : Int, 41 ≤ j → v' j = v j) (T : VT q v') (H : HndR (CH h 4 s b la cr g U) 4 q v') : XS (CH h 4 s b la cr g U) o p q v' z co ca := by
  have tt := S.2.1.1
  unfold TO at tt
  obtain ⟨a1, a2, a5, ⟨a7, a8, a9⟩, ⟨T0, b2, b3, b4⟩, b5⟩ := S
  have nI : ∀ r, r ≠ 4 → r ≠ 5 → hI (CH h 4 s b la cr g U) r = hI h r := fun r n n' => CH_n ⟨n, n'⟩
  exact ⟨a1, a2, a5, ⟨a7.tr (fun r r1 r2 => nI r (by omega) (by omega)), a8, a9.tr (nI _ (by omega) (by omega)) (nI _ (by omega) (by omega))⟩, ⟨T, by rw [e 41 (by omega)]; exact b2, H, (DusR_c (fun j j1 _ => e j j1) b4).tr (nI _ (by decide) (by decide))⟩, fun m hm => (MkR_c (fun j j1 => e j (by omega)) (b5 m hm)).tr (fun r r1 r2 => nI r (by omega) (by omega))⟩
theorem X_stride (d : Nat) {h : Hp} {o p A G P c0 s0 : Nat} {q v z co ca : Int → Int} (S : XS h o p q v z co ca) (W : XW h A G P c0 s0 q co ca) {x : Int} (hx : -2147483648 ≤ x ∧ x < 2147483648) :
    ∃ k, evm (d + 3) 106 [vR 11 0, vI (iZ x)] h = some (some (vI (bZ (MayZ q v x))), k) ∧ k.2 = h.2 ∧ (∀ r, (r < 4 ∨ 67 < r) → hI k r = hI h r) ∧ XW k A G P c0 s0 q co ca ∧ (MayZ q v x → XS k o p q (zup (zup v (1 + v 0) x) 0 (v 0 + 1)) z co ca) ∧ (¬ MayZ q v x → XS k o p q v z co ca) := by
  have V := S.2.2.2.1.2.1
  have v1 := V.top
  have vc := V.cnt
  obtain ⟨T0, b2, b3, b4⟩ := S.2.2.2.2.1
  have t1 := T0.1
  rw [e_X_stride, S.1.r 0 1 4, bR_s, S.2.2.1.1, bR_s, hand_x d S hx, bI_s]
  simp only [lit32, bZ_0]
  by_cases ok : MayZ q v x
  · rw [ifp_f (fun y => y ok), bZ_t ok]
    obtain ⟨kx, k1, k2, k3, k4⟩ := ok
    have ok : MayZ q v x := ⟨kx, k1, k2, k3, k4⟩
    have k4' : May q v False (pS v (v 0)) (pL q v (v 0)) (pC q v (v 0)) (pG q v (v 0)) (v 0) kx := k4
    have m1 := k4'.1
    have m5 := k4'.2.2.2.2.1
    have sb := V.str k1 k2
    have nr := hand_nr V T0
    have n0 := nr.1.1
    have go := x_go (d + 0) (h := h) S.1 S.2.1.1 S.2.2.2.1.1 V (c := 4) (by decide) (S.1.r 4 0 5) (S.1.n 5 40) (s := pS v (v 0)) (b := v 0) (la := stv q (pL q v (v 0))) (cr := pR q v (v 0)) (g := pG q v (v 0)) (k := kx) (S := hI h 5) ⟨k1, k2⟩ (by omega) (by omega)
    have e0 : CH h 4 (pS v (v 0)) (v 0) (stv q (pL q v (v 0))) (pR q v (v 0)) (pG q v (v 0)) (hI h 5) = h := CH_self b3.1 rfl
    rw [e0, k3] at go
    obtain ⟨w, hw⟩ : ∃ w, w = zup (zup v (1 + v 0) x) 0 (v 0 + 1) := ⟨_, rfl⟩
    have w0 : w 0 = v 0 + 1 := by rw [hw, zup_e]
    have wn : w (1 + v 0) = x := by rw [hw, zup_n _ _ (by omega) (by omega) (by omega), zup_e]
    have wj : ∀ j : Int, 1 ≤ j → j ≠ 1 + v 0 → w j = v j := fun j j1 j2 => by rw [hw, zup_n _ _ (by omega) (by omega) (by omega), zup_n _ _ (by omega) (by omega) j2]
    have wc : ∀ j, 1 ≤ j → j ≤ v 0 → w j = v j := fun j j1 j2 => wj j j1 (by omega)
    have cS := pS_c wc (v 0) t1.1 (Int.le_refl _)
    have cL := pL_c (q := q) wc (v 0) t1.1 (Int.le_refl _)
    have cR := pR_c (q := q) wc (v 0) t1.1 (Int.le_refl _)
    have cC := pC_c (q := q) wc (v 0) t1.1 (Int.le_refl _)
    have cG := pG_c (q := q) wc (v 0) t1.1 (Int.le_refl _)
    have e3 : w (1 + v 0) = q (9 + kx) := by rw [wn, k3]
    have T : VT q w := by
      refine ⟨by rw [w0]; omega, ?_, fun s s1 s2 => by rw [wj (41 + s) (by omega) (by omega)]; exact T0.2.2 s s1 s2⟩
      rw [w0]
      intro i i1 i2
      by_cases ei : i = v 0
      · rw [ei]
        refine ⟨kx, k1, k2, e3, ?_⟩
        rw [cS, cL, cC, cG]
        exact May_v k4'
      · exact VH_c wc (Int.le_refl _) T0.2.1 i i1 (by omega)
    refine ⟨CH h 4 (pS v (v 0) + x) (v 0 + 1) x (crN q (pR q v (v 0)) (pS v (v 0) + x)) (nxG q (pG q v (v 0)) kx) (up (hI h 5) (v 0).toNat (iZ x)), ?_, ?_, ?_, ?_, fun _ => ?_, fun n => absurd ok n⟩
    · rw [S.1.r 0 1 4, bR_s, S.2.2.1.1, bR_s, go, bV_s]
    · rfl
    · intro r n
      exact CH_n (by omega)
    · exact W.I rfl (fun r n => CH_n (by omega))
    · rw [← hw]
      refine S.hand (fun j j1 => wj j (by omega) (by omega)) T ⟨?_, fun j j1 j2 => ?_⟩
      · rw [CH_I, w0, pS_s w t1.1, cS, pL_s V t1.1 k1 k2 e3, stv_k q k1, pR_s q w t1.1, pS_s w t1.1, cS, cR, pG_n t1.1 e3, cG, wn, k3]
        rfl
      · rw [CH_S]
        by_cases ej : j = v 0
        · rw [ej, up_e, wn]
        · rw [w0] at j2
          rw [up_n _ _ (by omega), wj (1 + j) (by omega) (by omega)]
          exact b3.2 j j1 (by omega)
  · rw [ifp_t ok, bZ_f ok]
    exact ⟨h, rfl, rfl, fun _ _ => rfl, W, fun n => absurd n ok, fun _ => S⟩
theorem X_back (d : Nat) {h : Hp} {o p A G P c0 s0 : Nat} {q v z co ca : Int → Int} (S : XS h o p q v z co ca) (W : XW h A G P c0 s0 q co ca) (a : Prop) :
    ∃ k, evm (d + 3) 107 [vR 11 0, vI (bZ a)] h = some (some (vI (bZ (v 0 ≠ 0))), k) ∧ k.2 = h.2 ∧ (∀ r, (r < 4 ∨ 67 < r) → hI k r = hI h r) ∧ XW k A G P c0 s0 q co ca ∧ XS k o p q (pif (v 0 ≠ 0) 1 0 |> fun y => if y = 0 then v else zup v 0 (pif a 0 (v 0 - 1))) z co ca := by
  have V := S.2.2.2.1.2.1
  have v1 := V.top
  obtain ⟨T0, b2, b3, b4⟩ := S.2.2.2.2.1
  have t1 := T0.1
  have i42 : hI h 4 2 = iZ (v 0) := by rw [b3.1]; rfl
  have e0 : CH h 4 (pS v (v 0)) (v 0) (stv q (pL q v (v 0))) (pR q v (v 0)) (pG q v (v 0)) (hI h 5) = h := CH_self b3.1 rfl
  rw [e_X_back, S.1.r 0 1 4, bR_s, i42]
  simp only [lit32]
  rw [ifp_n (iz_eq (by omega)), ifp_n (c := bZ a = iZ 0) bZ_0]
  by_cases c0' : v 0 = 0
  · rw [ifp_t c0', bZ_f (fun y => y c0'), pif_f (fun y => y c0')]
    exact ⟨h, rfl, rfl, fun _ _ => rfl, W, S⟩
  · rw [ifp_f c0', bZ_t c0', pif_t c0']
    have fin : ∀ n : Int, (0 ≤ n ∧ n ≤ v 0) → ∀ U : Nat → Int32, (∀ j : Int, 0 ≤ j → j < n → U j.toNat = iZ (v (1 + j))) → XS (CH h 4 (pS v n) n (stv q (pL q v n)) (pR q v n) (pG q v n) U) o p q (zup v 0 n) z co ca := by
      intro n hn U hU
      have w0 : zup v 0 n 0 = n := zup_e _ _ _
      have wj : ∀ j, 1 ≤ j → j ≤ n → zup v 0 n j = v j := fun j j1 _ => zup_j j1
      refine S.hand (fun j j1 => zup_j (by omega)) (VT_0 T0 hn) ⟨?_, fun j j1 j2 => ?_⟩
      · rw [CH_I, w0, pS_c wj n hn.1 (Int.le_refl _), pL_c wj n hn.1 (Int.le_refl _), pR_c wj n hn.1 (Int.le_refl _), pG_c wj n hn.1 (Int.le_refl _)]
      · rw [CH_S, zup_j (by omega)]
        rw [w0] at j2
        exact hU j j1 j2
    by_cases ca' : a
    · rw [ifp_f (fun y => y ca'), pif_t ca']
      have st := x_start (d + 0) (h := h) (c := 4) (s := pS v (v 0)) (t := v 0) (la := stv q (pL q v (v 0))) (cr := pR q v (v 0)) (g := pG q v (v 0)) (S := hI h 5)
      rw [e0] at st
      have f0 := fin 0 (by omega) (hI h 5) (fun j j1 j2 => by omega)
      have z1 : pS v 0 = 0 := sZ_0 _ (by omega)
      have z2 : stv q (pL q v 0) = 0 := by
        have : pL q v 0 = 0 := if_pos (by omega)
        rw [this]; rfl
      have z3 : pR q v 0 = 0 := sZ_0 _ (by omega)
      have z4 : pG q v 0 = 0 := sZ_0 _ (by omega)
      rw [z1, z2, z3, z4] at f0
      refine ⟨CH h 4 0 0 0 0 0 (hI h 5), ?_, rfl, fun r n => CH_n (by omega), W.I rfl (fun r n => CH_n (by omega)), f0⟩
      rw [bR_s, st, bV_s]
    · rw [ifp_t ca', pif_f ca']
      obtain ⟨kx, k1, k2, k3, k4⟩ := T0.2.1 (v 0 - 1) (by omega) (by omega)
      have i0 : 0 ≤ v 0 - 1 := by omega
      have ei : v 0 - 1 + 1 = v 0 := by omega
      have sb := V.str k1 k2
      have nd := T0.2.1.nd V (v 0 - 1) i0 (by omega)
      have n0 := nd.1
      have m1 := k4.1
      have ud := x_undo (d + 0) (h := h) S.1 S.2.1.1 S.2.2.2.1.1 V (c := 4) (by decide) (S.1.r 4 0 5) (S.1.n 5 40) (s := pS v (v 0 - 1)) (b := v 0 - 1) (la := stv q (pL q v (v 0 - 1))) (cr := pR q v (v 0 - 1)) (g := pG q v (v 0 - 1)) (k := kx) (S := hI h 5) ⟨k1, k2⟩ (by omega) (by omega) (fun y => by
        have h1 : hI h 5 (v 0 - 1 - 1).toNat = iZ (v (1 + (v 0 - 1 - 1))) := b3.2 (v 0 - 1 - 1) (by omega) (by omega)
        obtain ⟨kz, z1, z2, z3, _⟩ := T0.2.1 (v 0 - 1 - 1) (by omega) (by omega)
        have z4 := pL_s V (show 0 ≤ v 0 - 1 - 1 by omega) z1 z2 z3
        rw [show v 0 - 1 - 1 + 1 = v 0 - 1 by omega] at z4
        rw [h1, z4, stv_k q z1, z3]) (fun y => by
        have : pL q v (v 0 - 1) = 0 := if_pos (by omega)
        rw [this]; rfl)
      have e1 : pS v (v 0 - 1) + q (9 + kx) = pS v (v 0) := by
        have := pS_s v i0
        rw [ei, k3] at this
        exact this.symm
      have e2 : q (9 + kx) = stv q (pL q v (v 0)) := by
        have := pL_s V i0 k1 k2 k3
        rw [ei] at this
        rw [this, stv_k q k1]
      have e3 : crN q (pR q v (v 0 - 1)) (pS v (v 0)) = pR q v (v 0) := by
        have := pR_s q v i0
        rw [ei] at this
        rw [this]; rfl
      have e4 : nxG q (pG q v (v 0 - 1)) kx = pG q v (v 0) := by
        have := pG_n i0 k3
        rw [ei] at this
        exact this.symm
      rw [e1, e3, e4, e2, ei, e0] at ud
      refine ⟨CH h 4 (pS v (v 0 - 1)) (v 0 - 1) (stv q (pL q v (v 0 - 1))) (pR q v (v 0 - 1)) (pG q v (v 0 - 1)) (hI h 5), ?_, rfl, fun r n => CH_n (by omega), W.I rfl (fun r n => CH_n (by omega)), fin (v 0 - 1) (by omega) (hI h 5) (fun j j1 j2 => b3.2 j j1 (by omega))⟩
      rw [bR_s, S.2.2.1.1, bR_s, ud, bV_s]
