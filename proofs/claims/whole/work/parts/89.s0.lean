/-! what changes what stays -/
theorem VT_c {q w w' : Int → Int} (e : ∀ j : Int, 0 ≤ j → j ≤ 81 → w' j = w j) (T : VT q w) : VT q w' := by
  obtain ⟨a, b, c⟩ := T
  have e0 := e 0 (by omega) (by omega)
  refine ⟨by rw [e0]; exact a, ?_, fun s s1 s2 => by rw [e (41 + s) (by omega) (by omega)]; exact c s s1 s2⟩
  rw [e0]
  exact VH_c (fun j j1 j2 => e j (by omega) (by omega)) (Int.le_refl _) b
theorem HndR_c {h : Hp} {c : Nat} {q w w' : Int → Int} (e : ∀ j : Int, 0 ≤ j → j ≤ 40 → w' j = w j) (hb : 0 ≤ w 0 ∧ w 0 ≤ 40) (H : HndR h c q w) : HndR h c q w' := by
  have e0 := e 0 (by omega) (by omega)
  have ee : ∀ j, 1 ≤ j → j ≤ w 0 → w' j = w j := fun j j1 j2 => e j (by omega) (by omega)
  unfold HndR
  rw [e0, pS_c ee (w 0) hb.1 (Int.le_refl _), pL_c ee (w 0) hb.1 (Int.le_refl _), pR_c ee (w 0) hb.1 (Int.le_refl _), pG_c ee (w 0) hb.1 (Int.le_refl _)]
  exact ⟨H.1, fun j j1 j2 => by rw [e (1 + j) (by omega) (by omega)]; exact H.2 j j1 j2⟩
theorem DusR_c {h : Hp} {r : Nat} {w w' : Int → Int} (e : ∀ j : Int, 41 ≤ j → j ≤ 81 → w' j = w j) (H : DusR h r w) : DusR h r w' := fun s s1 s2 => by
  rw [e (41 + s) (by omega) (by omega)]; exact H s s1 s2
theorem MkR_c {h : Hp} {q v v' z : Int → Int} {m : Nat} (e : ∀ j : Int, 84 ≤ j → v' j = v j) (H : MkR h q v z m) : MkR h q v' z m := by
  have ee : ∀ j : Int, 0 ≤ j → j ≤ 81 → blk v' (m + 1) j = blk v (m + 1) j := fun j j1 j2 => e _ (by omega)
  refine ⟨H.1, H.2.1, fun y => ?_⟩
  obtain ⟨a, b, c, d⟩ := H.2.2 y
  exact ⟨VT_c ee a, by rw [ee 41 (by omega) (by omega)]; exact b, HndR_c (fun j j1 j2 => ee j j1 (by omega)) a.1 c, DusR_c (fun j j1 j2 => ee j (by omega) j2) d⟩
theorem XW.I {h k : Hp} {A G P c0 s0 : Nat} {q co ca : Int → Int} (W : XW h A G P c0 s0 q co ca) (e0 : k.2 = h.2) (eI : ∀ r, r = 6 ∨ r = 8 ∨ r = 9 ∨ r = 14 → hI k r = hI h r) : XW k A G P c0 s0 q co ca := W.sc (congrArg (fun x => x.2) e0) eI (fun r _ => by show k.2.1 r = h.2.1 r; rw [e0])
theorem X_dust (d : Nat) {h : Hp} {o p A G P c0 s0 : Nat} {q v z co ca : Int → Int} (S : XS h o p q v z co ca) (W : XW h A G P c0 s0 q co ca) {x y : Int} (hx : -2147483648 ≤ x ∧ x < 2147483648) (hy : -2147483648 ≤ y ∧ y < 2147483648) :
    ∃ k, evm (d + 1) 121 [vR 11 0, vI (iZ x), vI (iZ y)] h = some (some (vI (bZ (DuO q x y))), k) ∧ k.2 = h.2 ∧ (∀ r, (r < 4 ∨ 67 < r) → hI k r = hI h r) ∧ XW k A G P c0 s0 q co ca ∧ (DuO q x y → XS k o p q (zup v (41 + x) y) z co ca) ∧ (¬ DuO q x y → XS k o p q v z co ca) := by
  have V := S.2.2.2.1.2.1
  have v1 := V.top
  have S0 := S
  by_cases ok : DuO q x y
  · have ok' := ok
    unfold DuO at ok'
    have tt := S.2.1.1
    unfold TO at tt
    obtain ⟨a1, a2, a5, ⟨a7, a8, a9⟩, ⟨T0, b2, b3, b4⟩, b5⟩ := S
    have nI : ∀ r, r ≠ 46 → hI (sI h 46 x.toNat (iZ y)) r = hI h r := fun r n => by rw [sI_w, wI_n _ _ n]
    have vz : ∀ j : Int, 0 ≤ j → j ≠ 41 + x → zup v (41 + x) y j = v j := fun j j1 j2 => zup_n v y (by omega) j1 j2
    refine ⟨sI h 46 x.toNat (iZ y), ?_, rfl, fun r n => nI r (by omega), W.I rfl (fun r n => nI r (by omega)), fun _ => ?_, fun n => absurd ok n⟩
    · rw [bZ_t ok, e_X_dust]
      simp (disch := omega) only [lit32, litJ, iz_add, iz_sub, iz_mul, iz_neg, nI_iz, ix_iz, inb_iz, ifp_t, ifp_f, ifp_T, ifp_F, iz_eq, iz_lt, bI_s, bL_s, bV_s, bR_s, a5.1, a7.top, a1.r 0 9 46, a1.n 46 41]
    · refine ⟨a1, a2, a5, ⟨a7.tr (fun r r1 r2 => nI r (by omega)), a8, a9.tr (nI _ (by omega)) (nI _ (by omega))⟩, ⟨?_, ?_, ?_, ?_⟩, fun m hm => ?_⟩
      · obtain ⟨c1, c2, c3⟩ := T0
        have e0 := vz 0 (by omega) (by omega)
        refine ⟨by rw [e0]; exact c1, ?_, fun s s1 s2 => ?_⟩
        · rw [e0]
          exact VH_c (fun j j1 j2 => vz j (by omega) (by omega)) (Int.le_refl _) c2
        · by_cases e : s = x
          · rw [e, zup_e]; exact ok'.2
          · rw [vz (41 + s) (by omega) (by omega)]; exact c3 s s1 s2
      · rw [vz 41 (by omega) (by omega)]; exact b2
      · exact (HndR_c (fun j j1 j2 => vz j j1 (by omega)) T0.1 b3).tr (nI _ (by decide)) (nI _ (by decide))
      · intro s s1 s2
        by_cases e : s = x
        · rw [e, sI_w, wI_I, up_e, zup_e]
          exact ⟨rfl, ok'.2⟩
        · rw [sI_w, wI_I, up_n _ _ (by omega), vz (41 + s) (by omega) (by omega)]
          exact b4 s s1 s2
      · exact (MkR_c (fun j j1 => vz j (by omega) (by omega)) (b5 m hm)).tr (fun r r1 r2 => nI r (by omega))
  · refine ⟨h, ?_, rfl, fun _ _ => rfl, W, fun n => absurd n ok, fun _ => S0⟩
    have ok' := ok
    unfold DuO at ok'
    rw [bZ_f ok, e_X_dust]
    by_cases c1 : x < 1
    · simp (disch := omega) only [lit32, litJ, iz_add, iz_sub, iz_mul, iz_neg, nI_iz, ix_iz, inb_iz, ifp_t, ifp_f, ifp_T, ifp_F, iz_eq, iz_lt, bI_s, bL_s, bV_s, bR_s]
    · by_cases c2 : x < q 0
      · by_cases c3 : y < 0
        · simp (disch := omega) only [lit32, litJ, iz_add, iz_sub, iz_mul, iz_neg, nI_iz, ix_iz, inb_iz, ifp_t, ifp_f, ifp_T, ifp_F, iz_eq, iz_lt, bI_s, bL_s, bV_s, bR_s, S.2.2.1.1, S.2.2.2.1.1.top]
        · simp (disch := omega) only [lit32, litJ, iz_add, iz_sub, iz_mul, iz_neg, nI_iz, ix_iz, inb_iz, ifp_t, ifp_f, ifp_T, ifp_F, iz_eq, iz_lt, bI_s, bL_s, bV_s, bR_s, S.2.2.1.1, S.2.2.2.1.1.top]
      · simp (disch := omega) only [lit32, litJ, iz_add, iz_sub, iz_mul, iz_neg, nI_iz, ix_iz, inb_iz, ifp_t, ifp_f, ifp_T, ifp_F, iz_eq, iz_lt, bI_s, bL_s, bV_s, bR_s, S.2.2.1.1, S.2.2.2.1.1.top]
