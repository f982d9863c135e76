/-! the class: marks -/
theorem SX.mk {h : Hp} (X : SX h) {m : Nat} (hm : m < 4) : hR h 29 m = some (30 + 4 * m) ∧ hR h (30 + 4 * m) 0 = some (31 + 4 * m) ∧ hR h (30 + 4 * m) 1 = some (33 + 4 * m) ∧ hR h (31 + 4 * m) 0 = some (31 + 4 * m + 1) ∧ hN h (31 + 4 * m + 1) = 40 ∧ hN h (33 + 4 * m) = 41 := by
  have : m = 0 ∨ m = 1 ∨ m = 2 ∨ m = 3 := by omega
  rcases this with rfl | rfl | rfl | rfl
  · exact ⟨X.r 29 0 30, X.r 30 0 31, X.r 30 1 33, X.r 31 0 32, X.n 32 40, X.n 33 41⟩
  · exact ⟨X.r 29 1 34, X.r 34 0 35, X.r 34 1 37, X.r 35 0 36, X.n 36 40, X.n 37 41⟩
  · exact ⟨X.r 29 2 38, X.r 38 0 39, X.r 38 1 41, X.r 39 0 40, X.n 40 40, X.n 41 41⟩
  · exact ⟨X.r 29 3 42, X.r 42 0 43, X.r 42 1 45, X.r 43 0 44, X.n 44 40, X.n 45 41⟩
theorem MkR_d {h : Hp} {q v v' z z' : Int → Int} {m : Nat} (e : ∀ j : Int, 0 ≤ j → j ≤ 81 → v' (84 * ((m + 1 : Nat) : Int) + j) = v (84 * ((m + 1 : Nat) : Int) + j)) (ez : z' m ≠ 0 ↔ z m ≠ 0) (H : MkR h q v z m) : MkR h q v' z' m := by
  have ee : ∀ j : Int, 0 ≤ j → j ≤ 81 → blk v' (m + 1) j = blk v (m + 1) j := fun j j1 j2 => e j j1 j2
  refine ⟨by rw [propext ez]; exact H.1, H.2.1, fun y => ?_⟩
  obtain ⟨a, b, c, d⟩ := H.2.2 (ez.mp y)
  exact ⟨VT_c ee a, by rw [ee 41 (by omega) (by omega)]; exact b, HndR_c (fun j j1 j2 => ee j j1 (by omega)) a.1 c, DusR_c (fun j j1 j2 => ee j (by omega) j2) d⟩
theorem zcp_i {v : Int → Int} {a b : Nat} {j : Int} (h0 : 0 ≤ j) (h : j ≤ 81) : zcp v a b (84 * (b : Int) + j) = v (84 * (a : Int) + j) := by
  unfold zcp
  rw [if_pos (by omega)]
  congr 1
  omega
theorem zcp_o {v : Int → Int} {a b : Nat} {j : Int} (h0 : 0 ≤ j) (h : j < 84 * (b : Int) ∨ 84 * (b : Int) + 84 ≤ j) : zcp v a b j = v j := by
  unfold zcp
  rw [if_neg (by omega)]
theorem cpy_l {n j : Nat} {f g : Nat → Int32} (h : j < n) : cpy n f g j = f j := if_pos h
theorem X_markL (d : Nat) {h : Hp} {o p A G P c0 s0 : Nat} {q v z co ca : Int → Int} (S : XS h o p q v z co ca) (W : XW h A G P c0 s0 q co ca) {m : Nat} (hm : m < 4) :
    ∃ k, L_X_mark_39 (d + 2) 0 (iZ 0) (30 + 4 * m) h = some (some (vI (iZ 1)), k) ∧ k.2 = h.2 ∧ (∀ r, (r < 4 ∨ 67 < r) → hI k r = hI h r) ∧ XW k A G P c0 s0 q co ca ∧ XS k o p q (zcp v 0 (1 + m)) (zup z m 1) co ca := by
  have tt := S.2.1.1
  unfold TO at tt
  obtain ⟨x1, x2, x3, x4, x5, x6⟩ := S.1.mk hm
  obtain ⟨a1, a2, a5, ⟨a7, a8, a9⟩, ⟨T0, b2, b3, b4⟩, b5⟩ := S
  obtain ⟨s1, bb, la1, cr1, g1, c6⟩ := (b5 m hm).2.1
  obtain ⟨h1, hh1⟩ : ∃ h1, h1 = sI h (30 + 4 * m) 2 (iZ 1) := ⟨_, rfl⟩
  have n1 : ∀ r, r ≠ 30 + 4 * m → hI h1 r = hI h r := fun r n => by rw [hh1, sI_w, wI_n _ _ n]
  have e12 : h1.2 = h.2 := by rw [hh1]; rfl
  have r1 : hR h1 = hR h := by rw [hh1]; rfl
  have l1 : hN h1 = hN h := by rw [hh1]; rfl
  have i31 : hI h1 (31 + 4 * m) = cFw s1 bb la1 cr1 g1 := by rw [n1 _ (by omega)]; exact c6
  have e0 : CH h1 (31 + 4 * m) s1 bb la1 cr1 g1 (hI h1 (31 + 4 * m + 1)) = h1 := CH_self i31 rfl
  have fo := x_follow d (h := h1) (c := 31 + 4 * m) (c' := 4) (by omega) (by rw [r1]; exact x4) (by rw [l1]; exact x5) (by rw [r1]; exact a1.r 4 0 5) (by rw [l1]; exact a1.n 5 40) (s := s1) (b := bb) (la := la1) (cr := cr1) (g := g1) (S := hI h1 (31 + 4 * m + 1)) (by rw [n1 4 (by omega)]; exact b3.1)
  rw [e0] at fo
  obtain ⟨h2, hh2⟩ : ∃ h2, h2 = CH h1 (31 + 4 * m) (pS v (v 0)) (v 0) (stv q (pL q v (v 0))) (pR q v (v 0)) (pG q v (v 0)) (cpy 40 (hI h1 (4 + 1)) (hI h1 (31 + 4 * m + 1))) := ⟨_, rfl⟩
  rw [← hh2] at fo
  have n2 : ∀ r, r ≠ 30 + 4 * m → r ≠ 31 + 4 * m → r ≠ 32 + 4 * m → hI h2 r = hI h r := fun r y1 y2 y3 => by rw [hh2, CH_n (by omega), n1 r y1]
  have r2 : hR h2 = hR h := by rw [hh2, CH_R, r1]
  have l2 : hN h2 = hN h := by rw [hh2, CH_N, l1]
  have e22 : h2.2 = h.2 := by rw [hh2]; exact e12
  obtain ⟨k, hk⟩ : ∃ k, k = wI h2 (33 + 4 * m) (cpy 41 (hI h2 46) (hI h2 (33 + 4 * m))) := ⟨_, rfl⟩
  have n3 : ∀ r, (r < 30 + 4 * m ∨ 33 + 4 * m < r) → hI k r = hI h r := fun r y => by rw [hk, wI_n _ _ (by omega), n2 r (by omega) (by omega) (by omega)]
  have k2 : k.2 = h.2 := by rw [hk]; exact e22
  have rk : hR k = hR h := congrArg (fun x => x.2.1) k2
  have lk' : hN k = hN h := congrArg (fun x => x.2.2.2.1) k2
  have vz : ∀ j : Int, 0 ≤ j → j < 84 → zcp v 0 (1 + m) j = v j := fun j j1 j2 => zcp_o j1 (by omega)
  have vb : ∀ j : Int, 0 ≤ j → j ≤ 81 → blk (zcp v 0 (1 + m)) (m + 1) j = v j := fun j j1 j2 => by
    unfold blk
    rw [show ((m + 1 : Nat) : Int) = ((1 + m : Nat) : Int) by omega, zcp_i j1 j2]
    congr 1
    omega
  refine ⟨k, ?_, k2, fun r n => n3 r (by omega), W.I k2 (fun r n => n3 r (by omega)), ⟨?_, ?_⟩, a2, by rw [rk]; exact a5, ⟨a7.tr (fun r y1 y2 => n3 r (by omega)), a8, a9.tr (n3 _ (by omega)) (n3 _ (by omega))⟩, ⟨VT_c (fun j j1 j2 => vz j j1 (by omega)) T0, by rw [vz 41 (by omega) (by omega)]; exact b2, (HndR_c (fun j j1 j2 => vz j j1 (by omega)) T0.1 b3).tr (n3 _ (by omega)) (n3 _ (by omega)), (DusR_c (fun j j1 j2 => vz j (by omega) (by omega)) b4).tr (n3 _ (by omega))⟩, fun m' hm' => ?_⟩
  · rw [e_X_mark_39]
    simp only [lit32]
    rw [ifp_T, ← hh1, r1, x2, bR_s, a1.r 0 1 4, bR_s, fo, bV_s, r2, a1.r 0 9 46, bR_s, x3, bR_s, bR_s, l2, x6, a1.n 46 41]
    rw [ifp_t (by decide), show ix (iZ 0) = 0 from rfl, show ix (nI 41) = 41 from rfl, sCp_w, ← hk]
  · intro y hy
    rw [rk]; exact a1.1 y hy
  · intro y hy
    rw [lk']; exact a1.2 y hy
  · by_cases em : m' = m
    · rw [em]
      have i30 : hI k (30 + 4 * m) 2 = iZ 1 := by rw [hk, wI_n _ _ (by omega), hh2, CH_n (by omega), hh1, sI_w, wI_I, up_e]
      have i31' : hI k (31 + 4 * m) = cFw (pS v (v 0)) (v 0) (stv q (pL q v (v 0))) (pR q v (v 0)) (pG q v (v 0)) := by rw [hk, wI_n _ _ (by omega), hh2, CH_I]
      have i32 : hI k (31 + 4 * m + 1) = cpy 40 (hI h1 (4 + 1)) (hI h1 (31 + 4 * m + 1)) := by rw [hk, wI_n _ _ (by omega), hh2, CH_S]
      have zm : zup z m 1 m ≠ 0 := by rw [zup_e]; decide
      have t1 := T0.1
      refine ⟨by rw [i30, bZ_t zm], ⟨_, _, _, _, _, i31'⟩, fun _ => ⟨VT_c vb T0, by rw [vb 41 (by omega) (by omega)]; exact b2, HndR_c (fun j j1 j2 => vb j j1 (by omega)) T0.1 ⟨i31', fun j j1 j2 => ?_⟩, DusR_c (fun j j1 j2 => vb j (by omega) j2) (fun s s1 s2 => ?_)⟩⟩
      · rw [i32, cpy_l (by omega), n1 _ (by omega)]
        exact b3.2 j j1 j2
      · rw [hk, wI_I, cpy_l (by omega), n2 46 (by omega) (by omega) (by omega)]
        exact b4 s s1 s2
    · refine (MkR_d (fun j j1 j2 => zcp_o (by omega) (by omega)) ?_ (b5 m' hm')).tr (fun r y1 y2 => n3 r (by omega))
      rw [zup_n z 1 (by omega) (by omega) (by omega)]
