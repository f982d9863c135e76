/-! the class: back to a mark; marks whole -/
theorem X_markB (d : Nat) {h : Hp} {o p A G P c0 s0 : Nat} {q v z co ca : Int → Int} (S : XS h o p q v z co ca) (W : XW h A G P c0 s0 q co ca) {m : Nat} (hm : m < 4) (hz : z m ≠ 0) :
    ∃ k, L_X_mark_39 (d + 2) 0 (iZ 1) (30 + 4 * m) h = some (some (vI (iZ 1)), k) ∧ k.2 = h.2 ∧ (∀ r, (r < 4 ∨ 67 < r) → hI k r = hI h r) ∧ XW k A G P c0 s0 q co ca ∧ XS k o p q (zcp v (1 + m) 0) (zup z m 1) co ca := by
  have tt := S.2.1.1
  unfold TO at tt
  obtain ⟨x1, x2, x3, x4, x5, x6⟩ := S.1.mk hm
  obtain ⟨a1, a2, a5, ⟨a7, a8, a9⟩, ⟨T0, b2, b3, b4⟩, b5⟩ := S
  obtain ⟨Tb, m2, m3, m4⟩ := (b5 m hm).2.2 hz
  obtain ⟨w, hw⟩ : ∃ w, w = blk v (m + 1) := ⟨_, rfl⟩
  rw [← hw] at Tb m2 m3 m4
  have e0 : CH h 4 (pS v (v 0)) (v 0) (stv q (pL q v (v 0))) (pR q v (v 0)) (pG q v (v 0)) (hI h 5) = h := CH_self b3.1 rfl
  have fo := x_follow d (h := h) (c := 4) (c' := 31 + 4 * m) (by omega) (a1.r 4 0 5) (a1.n 5 40) x4 x5 (s := pS v (v 0)) (b := v 0) (la := stv q (pL q v (v 0))) (cr := pR q v (v 0)) (g := pG q v (v 0)) (S := hI h 5) m3.1
  rw [e0] at fo
  obtain ⟨h2, hh2⟩ : ∃ h2, h2 = CH h 4 (pS w (w 0)) (w 0) (stv q (pL q w (w 0))) (pR q w (w 0)) (pG q w (w 0)) (cpy 40 (hI h (31 + 4 * m + 1)) (hI h 5)) := ⟨_, rfl⟩
  rw [← hh2] at fo
  have n2 : ∀ r, r ≠ 4 → r ≠ 5 → hI h2 r = hI h r := fun r y1 y2 => by rw [hh2, CH_n (by omega)]
  have r2 : hR h2 = hR h := by rw [hh2, CH_R]
  have l2 : hN h2 = hN h := by rw [hh2, CH_N]
  have e22 : h2.2 = h.2 := by rw [hh2]; rfl
  obtain ⟨k, hk⟩ : ∃ k, k = wI h2 46 (cpy 41 (hI h2 (33 + 4 * m)) (hI h2 46)) := ⟨_, rfl⟩
  have n3 : ∀ r, r ≠ 4 → r ≠ 5 → r ≠ 46 → hI k r = hI h r := fun r y1 y2 y3 => by rw [hk, wI_n _ _ y3, n2 r y1 y2]
  have k2 : k.2 = h.2 := by rw [hk]; exact e22
  have rk : hR k = hR h := congrArg (fun x => x.2.1) k2
  have lk' : hN k = hN h := congrArg (fun x => x.2.2.2.1) k2
  have vb : ∀ j : Int, 0 ≤ j → j ≤ 81 → zcp v (1 + m) 0 j = w j := fun j j1 j2 => by
    have := zcp_i (v := v) (a := 1 + m) (b := 0) j1 j2
    rw [show 84 * ((0 : Nat) : Int) + j = j by omega] at this
    rw [this, hw]
    unfold blk
    congr 1
    omega
  have i4 : hI k 4 = cFw (pS w (w 0)) (w 0) (stv q (pL q w (w 0))) (pR q w (w 0)) (pG q w (w 0)) := by rw [hk, wI_n _ _ (by decide), hh2, CH_I]
  have i5 : hI k (4 + 1) = cpy 40 (hI h (31 + 4 * m + 1)) (hI h 5) := by rw [hk, wI_n _ _ (by decide), hh2, CH_S]
  have t1 := Tb.1
  refine ⟨k, ?_, k2, fun r n => n3 r (by omega) (by omega) (by omega), W.I k2 (fun r n => n3 r (by omega) (by omega) (by omega)), ⟨?_, ?_⟩, a2, by rw [rk]; exact a5, ⟨a7.tr (fun r y1 y2 => n3 r (by omega) (by omega) (by omega)), a8, a9.tr (n3 _ (by omega) (by omega) (by omega)) (n3 _ (by omega) (by omega) (by omega))⟩, ⟨VT_c vb Tb, by rw [vb 41 (by omega) (by omega)]; exact m2, HndR_c (fun j j1 j2 => vb j j1 (by omega)) Tb.1 ⟨i4, fun j j1 j2 => ?_⟩, DusR_c (fun j j1 j2 => vb j (by omega) j2) (fun s s1 s2 => ?_)⟩, fun m' hm' => ?_⟩
  · rw [e_X_mark_39]
    simp only [lit32]
    rw [ifp_f (by decide), a1.r 0 1 4, bR_s, x2, bR_s, fo, bV_s, r2, x3, bR_s, a1.r 0 9 46, bR_s, bR_s, l2, x6, a1.n 46 41]
    rw [ifp_t (by decide), show ix (iZ 0) = 0 from rfl, show ix (nI 41) = 41 from rfl, sCp_w, ← hk]
  · intro y hy
    rw [rk]; exact a1.1 y hy
  · intro y hy
    rw [lk']; exact a1.2 y hy
  · rw [i5, cpy_l (by omega)]
    exact m3.2 j j1 j2
  · rw [hk, wI_I, cpy_l (by omega), n2 _ (by omega) (by omega)]
    exact m4 s s1 s2
  · refine (MkR_d (fun j j1 j2 => zcp_o (by omega) (by omega)) ?_ (b5 m' hm')).tr (fun r y1 y2 => n3 r (by omega) (by omega) (by omega))
    by_cases em : m' = m
    · rw [em, zup_e]
      exact ⟨fun _ => hz, fun _ => by decide⟩
    · rw [zup_n z 1 (by omega) (by omega) (by omega)]
theorem X_mark (d : Nat) {h : Hp} {o p A G P c0 s0 : Nat} {q v z co ca : Int → Int} (S : XS h o p q v z co ca) (W : XW h A G P c0 s0 q co ca) {x : Int} (hx : -2147483648 ≤ x ∧ x < 2147483648) (b : Prop) :
    ∃ k, evm (d + 3) 127 [vR 11 0, vI (iZ x), vI (bZ b)] h = some (some (vI (bZ (MkO z x b))), k) ∧ k.2 = h.2 ∧ (∀ r, (r < 4 ∨ 67 < r) → hI k r = hI h r) ∧ XW k A G P c0 s0 q co ca ∧ (MkO z x b → b → XS k o p q (zcp v (1 + x.toNat) 0) (zup z x 1) co ca) ∧ (MkO z x b → ¬ b → XS k o p q (zcp v 0 (1 + x.toNat)) (zup z x 1) co ca) ∧ (¬ MkO z x b → XS k o p q v z co ca) := by
  rw [e_X_mark]
  simp only [lit32]
  have no : ∀ (y : ¬ MkO z x b), ∃ k, (some (some (vI (iZ 0)), h) : Option Rs) = some (some (vI (bZ (MkO z x b))), k) ∧ k.2 = h.2 ∧ (∀ r, (r < 4 ∨ 67 < r) → hI k r = hI h r) ∧ XW k A G P c0 s0 q co ca ∧ (MkO z x b → b → XS k o p q (zcp v (1 + x.toNat) 0) (zup z x 1) co ca) ∧ (MkO z x b → ¬ b → XS k o p q (zcp v 0 (1 + x.toNat)) (zup z x 1) co ca) ∧ (¬ MkO z x b → XS k o p q v z co ca) := fun y => by
    rw [bZ_f y]
    exact ⟨h, rfl, rfl, fun _ _ => rfl, W, fun n => absurd n y, fun n => absurd n y, fun _ => S⟩
  by_cases hb : 0 ≤ x ∧ x ≤ 3
  · have hm : x.toNat < 4 := by omega
    have ex : ((x.toNat : Nat) : Int) = x := by omega
    obtain ⟨x1, x2, x3, x4, x5, x6⟩ := S.1.mk hm
    have mk := S.2.2.2.2.2 x.toNat hm
    simp (disch := omega) only [lit32, litJ, iz_add, iz_sub, iz_mul, iz_neg, nI_iz, ix_iz, inb_iz, ifp_t, ifp_f, ifp_T, ifp_F, iz_eq, iz_lt, bI_s, bL_s, bV_s, bR_s, S.1.r 0 8 29, S.1.n 29 4, x1, mk.1]
    by_cases bb : b
    · rw [ifp_f (fun y => (bZ_0.mp y) bb), ifp_n bZ_0]
      by_cases zz : z (x.toNat : Int) ≠ 0
      · rw [ifp_f (fun y => y zz)]
        obtain ⟨k, e1, e2, e3, e4, e5⟩ := X_markB d S W hm zz
        rw [ex] at e5 zz
        have ok : MkO z x b := ⟨hb, fun _ => zz⟩
        rw [bZ_t bb, bZ_t ok]
        exact ⟨k, e1, e2, e3, e4, fun _ _ => e5, fun _ n => absurd bb n, fun n => absurd ok n⟩
      · rw [ifp_t zz]
        rw [ex] at zz
        exact no (fun y => zz (y.2 bb))
    · rw [ifp_t (bZ_0.mpr bb), bZ_f bb]
      obtain ⟨k, e1, e2, e3, e4, e5⟩ := X_markL d S W hm
      rw [ex] at e5
      have ok : MkO z x b := ⟨hb, fun y => absurd y bb⟩
      rw [bZ_t ok]
      exact ⟨k, e1, e2, e3, e4, fun _ n => absurd n bb, fun _ _ => e5, fun n => absurd ok n⟩
  · by_cases c : x < 0
    · simp (disch := omega) only [lit32, litJ, iz_add, iz_sub, iz_mul, iz_neg, nI_iz, ix_iz, inb_iz, ifp_t, ifp_f, ifp_T, ifp_F, iz_eq, iz_lt, bI_s, bL_s, bV_s, bR_s]
      exact no (fun y => hb y.1)
    · simp (disch := omega) only [lit32, litJ, iz_add, iz_sub, iz_mul, iz_neg, nI_iz, ix_iz, inb_iz, ifp_t, ifp_f, ifp_T, ifp_F, iz_eq, iz_lt, bI_s, bL_s, bV_s, bR_s, S.1.r 0 8 29, S.1.n 29 4]
      exact no (fun y => hb y.1)
