/-! what doesn't depend on the dust -/
theorem Wy_v {q v : Int → Int} (v' : Int → Int) {e : Int → Prop} (s l c g t : Int) : Wy q v False e s l c g t = Wy q v' False e s l c g t := by
  have : ∀ (n : Nat) (s l c g t : Int), Wf q v False e n s l c g t = Wf q v' False e n s l c g t := by
    intro n
    induction n with
    | zero => intros; rfl
    | succ n ih =>
      intro s l c g t
      rw [Wf, Wf]
      exact pif_c Iff.rfl (fun _ => rfl) (fun _ => sZ_c fun k _ _ => pif_c (May_vi _) (fun _ => ih _ _ _ _ _) (fun _ => rfl))
  exact this 41 s l c g t
theorem Wk_v {q v : Int → Int} (v' : Int → Int) {e : Int → Prop} (s l c g t k : Int) : Wk q v False e s l c g t k = Wk q v' False e s l c g t k := by
  unfold Wk
  exact pif_c (May_vi _) (fun _ => Wy_v v' _ _ _ _ _) (fun _ => rfl)
theorem SA_v {q v : Int → Int} (v' : Int → Int) {e : Int → Prop} : ∀ (n : Nat) (s l c g t x : Int), SA q v e n s l c g t x = SA q v' e n s l c g t x := by
  have Wkv : ∀ s l c g t, Wk q v False e s l c g t = Wk q v' False e s l c g t := fun s l c g t => funext fun k => Wk_v v' s l c g t k
  intro n
  induction n with
  | zero => intro s l c g t x; rw [SA, SA, Wkv]
  | succ n ih => intro s l c g t x; rw [SA, SA, Wkv, ih]
theorem Gm_v' {q v : Int → Int} (v' : Int → Int) (s l c g t : Int) : Gm q v False s l c g t ↔ Gm q v' False s l c g t := by
  have : ∀ (n : Nat) (s l c g t : Int), Gmf q v False n s l c g t ↔ Gmf q v' False n s l c g t := by
    intro n
    induction n with
    | zero => intros; exact Iff.rfl
    | succ n ih =>
      intro s l c g t
      rw [Gmf, Gmf]
      constructor
      · rintro ⟨k, k1, k2, k3, k4⟩
        exact ⟨k, k1, k2, May_v k3, k4.elim Or.inl (fun y => Or.inr (fun z => y ((ih _ _ _ _ _).mpr z)))⟩
      · rintro ⟨k, k1, k2, k3, k4⟩
        exact ⟨k, k1, k2, May_v k3, k4.elim Or.inl (fun y => Or.inr (fun z => y ((ih _ _ _ _ _).mp z)))⟩
  exact this 41 s l c g t
theorem Gv_v {q v : Int → Int} (v' : Int → Int) (s l c g t : Int) : Gv q v False s l c g t = Gv q v' False s l c g t := by
  unfold Gv
  rw [frs_c fun k _ _ => ?_]
  unfold Gw
  rw [May_vi (v := v) v', Gm_v' (v := v) v']
/-! the model: fair, game, weight, rank -/
def frN (seed : Int) : Int := (nG seed / 65536 % 32768 * 32768 + nG (nG seed) / 65536 % 32768) * 32768 + nG (nG (nG seed)) / 65536 % 32768
theorem M_fair (d : Nat) {h : Hp} (M : MV h) {x i : Int} (hx : -2147483648 ≤ x ∧ x < 2147483648) (hi : -2147483648 ≤ i ∧ i < 2147483648) : ∃ h', evm (d + 7) 236 [vR 12 68, vI (iZ x), vI (iZ i)] h = some (some (vI (iZ (if (0 ≤ x ∧ x ≤ 9999) ∧ 0 ≤ i ∧ WyH (rz h 74) (rz h 79) (eAll (rz h 74) (-1)) ≠ 0 then SA (rz h 74) (rz h 79) (eAll (rz h 74) (-1)) i.toNat (pS (rz h 79) (rz h 79 0)) (pL (rz h 74) (rz h 79) (rz h 79 0)) (pC (rz h 74) (rz h 79) (rz h 79 0)) (pG (rz h 74) (rz h 79) (rz h 79 0)) (rz h 79 0) (frN x % WyH (rz h 74) (rz h 79) (eAll (rz h 74) (-1))) else -1))), h') ∧ Ms h h' (rz h 79) (rz h 80) := by
  rw [e_M_fair, sI_w h, sI_wI, show (0 : Int32) = iZ 0 from rfl, show (9999 : Int32) = iZ 9999 from rfl, m_within (d + 5) hx (by omega) (by omega), bI_s, ifp_n bZ_0, ifp_n (iz_lt (by omega))]
  have ac : Sc h (wI h 68 (up (up (hI h 68) 0 (iZ 0)) 24 (iZ 0))) := Sc.f rfl
  by_cases h1 : 0 ≤ x ∧ x ≤ 9999
  · rw [ifp_f (fun y => y h1)]
    by_cases h2 : i < 0
    · rw [ifp_t h2, if_neg (by omega)]
      exact ⟨_, rfl, ac.ms⟩
    · rw [ifp_f h2, e_M_fair_27]
      obtain ⟨f, f1, f2, f3, f4, f5⟩ := m_now (d + 3) M (f0 := up (up (hI h 68) 0 (iZ 0)) 24 (iZ 0)) rfl
      obtain ⟨T, t1, t2, t3, t4⟩ := m_laid d M (f := f) f3 f5 (a := -1) (by omega) False
      rw [bZ_f (fun z => z)] at t1
      have e79 := t3.z (r := 79) (by decide)
      have e74 := t3.z (r := 74) (by decide)
      have b := plc_b M.2.1 M.nd
      have vt := M.2.2.1
      have hN : Nw (wL (wI h 68 f) 81 T) (rz (wL (wI h 68 f) 81 T) 74) (rz (wL (wI h 68 f) 81 T) 79) (rz (wL (wI h 68 f) 81 T) 79 0) := by rw [e74, e79]; exact f2
      have eT : T (hPl (rz h 74) (rz h 79)).toNat = jZ (WyH (rz h 74) (rz h 79) (eAll (rz h 74) (-1))) := by
        have := t2 _ _ _ _ _ M.nd trivial
        unfold LyF at this
        rw [pif_f (fun z => z)] at this
        exact this
      have wb : 0 ≤ WyH (rz h 74) (rz h 79) (eAll (rz h 74) (-1)) ∧ WyH (rz h 74) (rz h 79) (eAll (rz h 74) (-1)) ≤ 1099511627776 := Wy_b M.2.1 (by have := M.nd.1; omega) M.nd.1.2.2
      have hb : 0 ≤ hPl (rz h 74) (rz h 79) ∧ hPl (rz h 74) (rz h 79) < 294175 := b
      rw [f1, bV_s, show (-1 : Int32) = iZ (-1) from rfl, show (0 : Int32) = iZ 0 from rfl, t1, bV_s, t4.1.r 23 81, bR_s, m_nowAt (d + 4) t4 hN, bI_s, e74, e79, t4.1.n 81 294175, ifp_t ((inb_iz (by omega)).mpr (by omega)), ix_iz (by omega), wL_L, eT, show (0 : Int64) = jZ 0 from rfl, ifp_n (cmp_eq (by omega))]
      by_cases h3 : WyH (rz h 74) (rz h 79) (eAll (rz h 74) (-1)) = 0
      · rw [ifp_t h3, if_neg (fun y => y.2.2 h3)]
        exact ⟨_, rfl, t3.ms⟩
      · rw [ifp_f h3, if_pos ⟨h1, by omega, h3⟩]
        obtain ⟨K, hK⟩ : ∃ K, K = wL (wI h 68 f) 81 T := ⟨_, rfl⟩
        rw [← hK] at t3 t4 e79 e74 hN ⊢
        have n1 := nG_b x
        have n2 := nG_b (nG x)
        have n3 := nG_b (nG (nG x))
        rw [iz_l (by omega), show (32768 : Int32) = iZ 32768 from rfl]
        have r36 : ∀ (K : Hp) (z : Int64), hL (sL K 68 36 z) 68 36 = z := fun K z => by rw [sL_w, wL_L, up_e]
        have s36 : ∀ (K : Hp) (z w : Int64), sL (sL K 68 36 z) 68 36 w = sL K 68 36 w := by
          intro K z w
          rw [sL_w K, sL_wL, sL_w K]
          congr 1
          funext j; unfold up
          by_cases e : j = 36
          · rw [if_pos e, if_pos e]
          · rw [if_neg e, if_neg e, if_neg e]
        rw [m_draw (d + 5) (r36 K _) (g := x) (by omega) (by omega), bI_s, s36, m_draw (d + 5) (r36 K _) (g := nG x) n1 (by omega), bI_s, s36, m_draw (d + 5) (r36 K _) (g := nG (nG x)) n2 (by omega), bI_s, s36]
        have a1 : Sc K (sL K 68 36 (jZ (nG (nG (nG x))))) := Sc.sl K _
        have m1 : ∀ y : Int, 0 ≤ y % 32768 ∧ y % 32768 < 32768 := fun y => by omega
        have q1 := m1 (nG x / 65536)
        have q2 := m1 (nG (nG x) / 65536)
        have q3 := m1 (nG (nG (nG x)) / 65536)
        rw [iz_l (by omega), iz_l (by omega), iz_l (by omega), show (32768 : Int64) = jZ 32768 from rfl, jz_mul, jz_add, jz_mul, jz_add, ifp_f (show ¬ jZ (WyH (rz h 74) (rz h 79) (eAll (rz h 74) (-1))) = jZ 0 from fun y => h3 ((jz_eq (by omega)).mp y)), lrem_jz (by omega)]
        have ef : (nG x / 65536 % 32768 * 32768 + nG (nG x) / 65536 % 32768) * 32768 + nG (nG (nG x)) / 65536 % 32768 = frN x := rfl
        rw [ef]
        have M2 := t4.sc a1
        have z74 : rz (sL K 68 36 (jZ (nG (nG (nG x))))) 74 = rz h 74 := e74
        have z79 : rz (sL K 68 36 (jZ (nG (nG (nG x))))) 79 = rz h 79 := e79
        have rb : 0 ≤ frN x % WyH (rz h 74) (rz h 79) (eAll (rz h 74) (-1)) ∧ frN x % WyH (rz h 74) (rz h 79) (eAll (rz h 74) (-1)) < WyH (rz h 74) (rz h 79) (eAll (rz h 74) (-1)) := ⟨Int.emod_nonneg _ h3, Int.emod_lt_of_pos _ (by omega)⟩
        have KT : hL K 81 = T := by rw [hK]; exact wL_L _ _ _
        have T2 : Tab (rz (sL K 68 36 (jZ (nG (nG (nG x))))) 74) (Wy (rz (sL K 68 36 (jZ (nG (nG (nG x))))) 74) (rz (sL K 68 36 (jZ (nG (nG (nG x))))) 79) False (eAll (rz h 74) (-1))) (fun _ _ _ _ _ => True) (hL (sL K 68 36 (jZ (nG (nG (nG x))))) 81) := by
          rw [z74, z79]
          intro s l c g t n _
          have := t2 s l c g t n trivial
          unfold LyF at this
          rw [pif_f (fun z => z)] at this
          rw [sL_w, wL_n _ _ (by decide), KT, this]
          rfl
        have sa := m_strideAt (d + 1) M2 hN (by show hI K 68 24 = 0; rw [hK]; show hI (wI h 68 f) 68 24 = 0; rw [wI_I]; exact f3) T2 (x := frN x % WyH (rz h 74) (rz h 79) (eAll (rz h 74) (-1))) (i := i) (by omega) (by rw [z74, z79]; exact rb)
        rw [z74, z79] at sa
        rw [sa, bI_s]
        exact ⟨_, rfl, (t3.tr a1).ms⟩
  · rw [ifp_t h1, if_neg (fun y => h1 y.1)]
    exact ⟨_, rfl, ac.ms⟩
theorem M_game (d : Nat) {h : Hp} (M : MV h) : ∃ h', evm (d + 7) 224 [vR 12 68] h = some (some (vI (iZ (if pS (rz h 79) (rz h 79 0) = rz h 74 0 then -1 else Gv (rz h 74) (rz h 79) False (pS (rz h 79) (rz h 79 0)) (pL (rz h 74) (rz h 79) (rz h 79 0)) (pC (rz h 74) (rz h 79) (rz h 79 0)) (pG (rz h 74) (rz h 79) (rz h 79 0)) (rz h 79 0)))), h') ∧ Ms h h' (rz h 79) (rz h 80) := by
  rw [e_M_game, sI_w h, sI_wI]
  obtain ⟨f, f1, f2, f3, f4, f5⟩ := m_now (d + 3) M (f0 := up (up (hI h 68) 0 0) 24 0) rfl
  have ac : Sc h (wI h 68 f) := Sc.f f5
  have M1 := M.sc ac
  have v1 := M.2.1.top
  have vn := M.2.1.n
  have nd := M.nd
  have n1 := nd.1
  rw [f1, bV_s, m_steps (d + 5) M1.1, bI_s, ac.z (r := 74) (by decide), f2.1, ifp_n (iz_eq (by omega))]
  by_cases h0 : pS (rz h 79) (rz h 79 0) = rz h 74 0
  · rw [ifp_t h0, if_pos h0]
    exact ⟨_, rfl, ac.ms⟩
  · rw [ifp_f h0, if_neg h0]
    obtain ⟨T, t1, t2, t3, t4⟩ := m_laid d M (f := f) f3 f5 (a := -1) (by omega) True
    rw [bZ_t trivial] at t1
    rw [show (-1 : Int32) = iZ (-1) from rfl, show (1 : Int32) = iZ 1 from rfl, t1, bV_s]
    have e79 := t3.z (r := 79) (by decide)
    have e74 := t3.z (r := 74) (by decide)
    obtain ⟨K, hK⟩ : ∃ K, K = wL (wI h 68 f) 81 T := ⟨_, rfl⟩
    have KT : hL K 81 = T := by rw [hK]; exact wL_L _ _ _
    have KD : Dst K = False := Dst_f (by rw [hK]; show hI (wI h 68 f) 68 24 = 0; rw [wI_I]; exact f3)
    have NK : Nw K (rz K 74) (rz K 79) (rz K 79 0) := by rw [hK, e74, e79]; exact f2
    rw [← hK] at t3 t4 e79 e74 ⊢
    obtain ⟨q, hq⟩ : ∃ q, q = rz h 74 := ⟨_, rfl⟩
    obtain ⟨v, hv⟩ : ∃ v, v = rz h 79 := ⟨_, rfl⟩
    have V := M.2.1
    rw [← hq] at e74 V nd v1 vn n1 h0 t2 ⊢
    rw [← hv] at e79 nd n1 h0 t2 ⊢
    refine ⟨K, ?_, by rw [hv]; exact t3.ms⟩
    have loop : ∀ k, 0 ≤ k ∧ k ≤ q 8 → frs (Gw q v False (pS v (v 0)) (pL q v (v 0)) (pC q v (v 0)) (pG q v (v 0)) (v 0)) k = -1 → L_M_game_35 (d + 6) 68 (iZ k) K = some (some (vI (iZ (Gv q v False (pS v (v 0)) (pL q v (v 0)) (pC q v (v 0)) (pG q v (v 0)) (v 0)))), K) := by
      refine lpZ (q 8) (fun k hk hb hf => ?_) (fun k hk ih hb hf => ?_)
      · rw [e_M_game_35, m_strides (d + 5) t4.1, bI_s, e74]
        simp (disch := omega) only [lit32, litJ, iz_add, iz_sub, iz_mul, iz_neg, nI_iz, ix_iz, inb_iz, ifp_t, ifp_f, ifp_T, ifp_F, iz_eq, iz_lt, bI_s, bL_s, bV_s, bR_s]
        unfold Gv frZ
        rw [show k = q 8 by omega] at hf
        rw [hf, if_pos (by omega)]
      · have vs := V.str hb.1 hk
        have fs := frs_s (Gw q v False (pS v (v 0)) (pL q v (v 0)) (pC q v (v 0)) (pG q v (v 0)) (v 0)) hb.1
        rw [hf, pif_f (by omega)] at fs
        have won : Gw q v False (pS v (v 0)) (pL q v (v 0)) (pC q v (v 0)) (pG q v (v 0)) (v 0) k → Gv q v False (pS v (v 0)) (pL q v (v 0)) (pC q v (v 0)) (pG q v (v 0)) (v 0) = q (9 + k) := by
          intro hw
          rw [pif_t hw] at fs
          unfold Gv frZ
          rw [frs_k (k := k + 1) (by omega) (by omega) (by rw [fs]; exact hb.1), fs, if_neg (by omega)]
        rw [e_M_game_35, m_strides (d + 5) t4.1, bI_s, e74]
        simp (disch := omega) only [lit32, litJ, iz_add, iz_sub, iz_mul, iz_neg, nI_iz, ix_iz, inb_iz, ifp_t, ifp_f, ifp_T, ifp_F, iz_eq, iz_lt, bI_s, bL_s, bV_s, bR_s]
        rw [e_M_game_43, m_mayNow (d + 1) t4 NK (by rw [e74]; omega), bI_s, e74, e79, KD, m_strideOf (d + 5) t4.1 (by omega), bI_s, e74, m_steps (d + 5) t4.1, bI_s, e74, NK.1, e79]
        simp (disch := omega) only [lit32, litJ, iz_add, iz_sub, iz_mul, iz_neg, nI_iz, ix_iz, inb_iz, ifp_t, ifp_f, ifp_T, ifp_F, iz_eq, iz_lt, bI_s, bL_s, bV_s, bR_s, bZ_0]
        by_cases hm : MayH q v False k
        · rw [ifp_f (fun y => y hm)]
          by_cases ht : pS v (v 0) + q (9 + k) = q 0
          · rw [ifp_t ht, won ⟨hm, Or.inl ht⟩, m_strideOf (d + 5) t4.1 (by omega), bI_s, e74]
          · rw [ifp_f ht, t4.1.r 23 81, bR_s, NK.2.1, NK.2.2.1, e74, e79, m_creakOf (d + 5) t4.1 (by rw [e74]; exact V), bI_s, e74, NK.2.2.2, e74, e79, m_takenMany (d + 5) t4.1, bI_s, e79]
            have pb := plc_b V (nd.nx V hb.1 hk hm)
            have nx := m_nextAt (d + 4) t4.1 (by rw [e74]; exact V) (s := pS v (v 0)) (l := pL q v (v 0)) (c := pC q v (v 0)) (g := pG q v (v 0)) (t := v 0) (k := k) (by rw [e74]; have := hm.1; omega) (by rw [e74]; omega)
            rw [e74] at nx
            have ec : (if q 1 < 0 then 0 else pR q v (v 0)) = pC q v (v 0) := rfl
            rw [ec, nx, bI_s, t4.1.n 81 294175, ifp_t ((inb_iz (by omega)).mpr (by omega)), ix_iz (by omega), KT, t2 _ _ _ _ _ (nd.nx V hb.1 hk hm) trivial]
            unfold LyF
            rw [pif_t trivial]
            by_cases hg : Gm q v False (pS v (v 0) + q (9 + k)) (k + 1) (nxC q (pS v (v 0)) (pC q v (v 0)) k) (nxG q (pG q v (v 0)) k) (v 0 + 1)
            · rw [pif_t hg, ifp_f (fun y => by have := (cmp_eq (by omega)).mp y; omega)]
              refine ih (by omega) ?_
              rw [fs, pif_f (fun y => y.2.elim ht (fun z => z hg))]
            · rw [pif_f hg, ifp_t ((cmp_eq (by omega)).mpr rfl), won ⟨hm, Or.inr hg⟩, m_strideOf (d + 5) t4.1 (by omega), bI_s, e74]
        · rw [ifp_t hm]
          exact ih (by omega) (by rw [fs, pif_f (fun y => hm y.1)])
    exact loop 0 (by omega) (frs_0 _ (Int.le_refl 0))
theorem M_weight (d : Nat) {h : Hp} (M : MV h) (W : LW (rz h 74) (rz h 75) (rz h 76)) {z : Int} (hz : -2147483648 ≤ z ∧ z < 2147483648) : ∃ h', evm (d + 7) 221 [vR 12 68, vI (iZ z)] h = some (some (vI (iZ (pif (MayZ (rz h 74) (rz h 79) z) (wgt (rz h 74) (rz h 75) (rz h 76) z (stv (rz h 74) (pL (rz h 74) (rz h 79) (rz h 79 0))) (pS (rz h 79) (rz h 79 0)) (rz h 79 0)) (-1)))), h') ∧ Ms h h' (rz h 79) (rz h 80) := by
  obtain ⟨f, f1, f2, f3, f4, f5⟩ := M_mayF d M hz
  have ac : Sc h (wI h 68 f) := Sc.f f5
  have M1 := M.sc ac
  have e79 := ac.z (r := 79) (by decide)
  have e74 := ac.z (r := 74) (by decide)
  have e75 := ac.z (r := 75) (by decide)
  have e76 := ac.z (r := 76) (by decide)
  have nd := M.nd
  have v1 := M.2.1.top
  have vc := mxC_b M.2.1
  have vg := mxG_b M.2.1
  rw [e_M_weight, f1, bI_s, show (0 : Int32) = iZ 0 from rfl, ifp_n bZ_0]
  by_cases hm : MayZ (rz h 74) (rz h 79) z
  · rw [ifp_f (fun y => y hm), pif_t hm]
    obtain ⟨k, k1, k2, k3, k4⟩ := hm
    have ek : ixo (rz h 74) z = k := by rw [← k3]; exact ixo_k M.2.1 k1 k2
    rw [f2.2.2.1, m_creakOf (d + 5) M1.1 M1.2.1, bI_s, e74, f2.2.2.2, m_takenMany (d + 5) M1.1, bI_s, e79, m_indexOf (d + 4) M1.1 M1.2.1 hz, bI_s, e74, ek, f2.1, f2.2.1]
    have ec : (if rz h 74 1 < 0 then 0 else pR (rz h 74) (rz h 79) (rz h 79 0)) = pC (rz h 74) (rz h 79) (rz h 79 0) := rfl
    rw [ec]
    obtain ⟨n1, n2, n3, n4⟩ := nd
    obtain ⟨F, P, e⟩ := m_weightAt (d + 1) M1.1 M1.2.1 (by rw [e74, e75, e76]; exact W) (by rw [wI_I]; exact f3) (s := pS (rz h 79) (rz h 79 0)) (l := pL (rz h 74) (rz h 79) (rz h 79 0)) (c := pC (rz h 74) (rz h 79) (rz h 79 0)) (g := pG (rz h 74) (rz h 79) (rz h 79 0)) (t := rz h 79 0) (k := k) (by omega) (by rw [e74]; exact n2) (by omega) (by omega) (by omega) (by rw [e74]; omega)
    rw [e74, e75, e76, e79] at e
    rw [e, bI_s]
    unfold MayH at k4
    unfold Wt
    rw [pif_t k4, k3]
    exact ⟨_, rfl, (ac.tr ((Sc.i _ F (by decide)).tr (Sc.i _ P (by decide)))).ms⟩
  · rw [ifp_t hm, pif_f hm]
    exact ⟨_, rfl, ac.ms⟩
