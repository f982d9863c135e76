/-! the model: numbers, draws, ranks -/
def nG (g : Int) : Int := (g * 1103515245 + 12345) % 2147483648
theorem nG_b (g : Int) : 0 ≤ nG g ∧ nG g < 2147483648 := by unfold nG; omega
theorem m_draw (d : Nat) {h : Hp} {g m : Int} (hg : hL h 68 36 = jZ g) (gb : 0 ≤ g ∧ g < 2147483648) (mb : 1 ≤ m ∧ m ≤ 1000000) : evm (d + 1) 235 [vR 12 68, vI (iZ m)] h = some (some (vI (iZ (nG g / 65536 % m))), sL h 68 36 (jZ (nG g))) := by
  have nb := nG_b g
  have e1 : (iZ m).toInt64 = jZ m := iz_l (by omega)
  rw [e_M_draw, hg, e1]
  simp only [litJ]
  rw [ifp_f (show ¬ jZ 2147483648 = jZ 0 from fun y => by have := (jz_eq (by omega)).mp y; omega), ifp_f (show ¬ jZ 65536 = jZ 0 from fun y => by have := (jz_eq (by omega)).mp y; omega), ifp_f (show ¬ jZ m = jZ 0 from fun y => by have := (jz_eq (by omega)).mp y; omega), jz_mul, jz_add, lrem_jz (by omega)]
  have e2 : hL (sL h 68 36 (jZ ((g * 1103515245 + 12345) % 2147483648))) 68 36 = jZ (nG g) := by rw [sL_w, wL_L, up_e]; rfl
  rw [e2, jz_div (by omega), lrem_jz (by omega)]
  have eb : 0 ≤ nG g / 65536 % m ∧ nG g / 65536 % m < m := ⟨Int.emod_nonneg _ (by omega), Int.emod_lt_of_pos _ (by omega)⟩
  rw [jz_n (by omega)]
  rfl
/-! the hand's first strides -/
theorem pS_c {v v' : Int → Int} {n : Int} (h : ∀ j, 1 ≤ j → j ≤ n → v' j = v j) : ∀ i, 0 ≤ i → i ≤ n → pS v' i = pS v i := fun i i1 i2 => sZ_c fun k k1 k2 => h (1 + k) (by omega) (by omega)
theorem pL_c {q v v' : Int → Int} {n : Int} (h : ∀ j, 1 ≤ j → j ≤ n → v' j = v j) : ∀ i, 0 ≤ i → i ≤ n → pL q v' i = pL q v i := by
  intro i i1 i2
  unfold pL
  by_cases h0 : i ≤ 0
  · rw [if_pos h0, if_pos h0]
  · rw [if_neg h0, if_neg h0, h i (by omega) i2]
theorem pR_c {q v v' : Int → Int} {n : Int} (h : ∀ j, 1 ≤ j → j ≤ n → v' j = v j) : ∀ i, 0 ≤ i → i ≤ n → pR q v' i = pR q v i := fun i i1 i2 => sZ_c fun k k1 k2 => by rw [pS_c h (k + 1) (by omega) (by omega)]
theorem pC_c {q v v' : Int → Int} {n : Int} (h : ∀ j, 1 ≤ j → j ≤ n → v' j = v j) : ∀ i, 0 ≤ i → i ≤ n → pC q v' i = pC q v i := fun i i1 i2 => by unfold pC; rw [pR_c h i i1 i2]
theorem pG_c {q v v' : Int → Int} {n : Int} (h : ∀ j, 1 ≤ j → j ≤ n → v' j = v j) : ∀ i, 0 ≤ i → i ≤ n → pG q v' i = pG q v i := fun i i1 i2 => sZ_c fun k k1 k2 => by rw [h (1 + k) (by omega) (by omega)]
theorem VH_c {q v v' : Int → Int} {n m : Int} (h : ∀ j, 1 ≤ j → j ≤ m → v' j = v j) (hm : m ≤ n) (H : VH q v n) : VH q v' m := by
  intro i i1 i2
  obtain ⟨k, k1, k2, k3, k4⟩ := H i i1 (by omega)
  refine ⟨k, k1, k2, by rw [h _ (by omega) (by omega)]; exact k3, ?_⟩
  rw [pS_c h i i1 (by omega), pL_c h i i1 (by omega), pC_c h i i1 (by omega), pG_c h i i1 (by omega)]
  exact May_v k4
theorem zup_j {v : Int → Int} {x j : Int} (hj : 1 ≤ j) : zup v 0 x j = v j := zup_n v x (by omega) (by omega) (by omega)
theorem VT_0 {q v : Int → Int} {i : Int} (T : VT q v) (hi : 0 ≤ i ∧ i ≤ v 0) : VT q (zup v 0 i) := by
  obtain ⟨a, b, c⟩ := T
  have e : zup v 0 i 0 = i := zup_e v 0 i
  refine ⟨by rw [e]; omega, ?_, fun s s1 s2 => by rw [zup_j (by omega)]; exact c s s1 s2⟩
  rw [e]
  exact VH_c (fun j j1 j2 => zup_j j1) hi.2 b
theorem zup_zup {v : Int → Int} {x y : Int} : zup (zup v 0 x) 0 y = zup v 0 y := by
  funext j; unfold zup
  by_cases h : j.toNat = Int.toNat 0
  · rw [if_pos h, if_pos h]
  · rw [if_neg h, if_neg h, if_neg h]
theorem zup_id {h : Hp} {r : Nat} : zup (rz h r) 0 (rz h r 0) = rz h r := by
  funext j; unfold zup
  by_cases e : j.toNat = Int.toNat 0
  · rw [if_pos e]; unfold rz; rw [e]
  · rw [if_neg e]
/-- the first number of the state is another -/
theorem MV_0 {h : Hp} (M : MV h) {i : Int} (hi : 0 ≤ i ∧ i ≤ rz h 79 0) : MV (sI h 79 0 (iZ i)) ∧ rz (sI h 79 0 (iZ i)) 79 = zup (rz h 79) 0 i := by
  have n := M.2.2.1
  have e79 : rz (sI h 79 0 (iZ i)) 79 = zup (rz h 79) 0 i := rz_s h 79 (k := 0) (by omega)
  refine ⟨⟨M.1, ?_, ?_⟩, e79⟩
  · rw [rz_n _ _ _ (by decide)]; exact M.2.1
  · rw [e79, rz_n _ _ _ (by decide)]; exact VT_0 M.2.2 hi
theorem Sd_0 {h : Hp} {i : Int32} : Sd h (sI h 79 0 i) := Sd.s h 0 i (Or.inl rfl)
theorem M_nth (d : Nat) {h : Hp} (M : MV h) {x i : Int} (hx : -9223372036854775808 ≤ x ∧ x < 9223372036854775808) (hi : -2147483648 ≤ i ∧ i < 2147483648) : ∃ h', evm (d + 7) 210 [vR 12 68, vL (jZ x), vI (iZ i)] h = some (some (vI (iZ (if (0 ≤ x ∧ x < Wy (rz h 74) (rz h 79) False (eAll (rz h 74) (-1)) 0 0 0 0 0) ∧ 0 ≤ i then SA (rz h 74) (rz h 79) (eAll (rz h 74) (-1)) i.toNat 0 0 0 0 0 x else -1))), h') ∧ Ms h h' (rz h 79) (rz h 80) := by
  rw [e_M_nth, sI_w h, sI_wI]
  obtain ⟨T, t1, t2, t3, t4⟩ := m_laid d M (f := up (up (hI h 68) 0 0) 24 0) rfl rfl (a := -1) (by omega) False
  rw [bZ_f (fun z => z)] at t1
  have e79 := t3.z (r := 79) (by decide)
  have e74 := t3.z (r := 74) (by decide)
  have b := plc_b M.2.1 (m_zero M.2.1)
  have eT : T (plc 0 0 0 0 0).toNat = jZ (Wy (rz h 74) (rz h 79) False (eAll (rz h 74) (-1)) 0 0 0 0 0) := by
    have := t2 _ _ _ _ _ (m_zero M.2.1) trivial
    unfold LyF at this
    rw [pif_f (fun z => z)] at this
    exact this
  have wb := Wy_b (v := rz h 79) M.2.1 (u := False) (e := eAll (rz h 74) (-1)) (s := 0) (l := 0) (c := 0) (g := 0) (t := 0) (by omega) (by have := M.2.1.top; omega)
  have vt := M.2.2.1
  rw [show (-1 : Int32) = iZ (-1) from rfl, show (0 : Int32) = iZ 0 from rfl, show (0 : Int64) = jZ 0 from rfl]
  have t1' : evm (d + 6) 194 [vR 12 68, vI (iZ (-1)), vI (iZ 0)] (wI h 68 (up (up (hI h 68) 0 (iZ 0)) 24 (iZ 0))) = some (none, wL (wI h 68 (up (up (hI h 68) 0 0) 24 0)) 81 T) := t1
  rw [t1', bV_s, ifp_n (cmp_lt (by omega)), t4.1.r 23 81, bR_s, m_placeOf, bI_s, t4.1.n 81 294175, ifp_t ((inb_iz (by omega)).mpr (by omega)), ix_iz (by omega), wL_L, eT, ifp_n (cmp_lt (by omega)), m_takenMany (d + 5) t4.1, bI_s, e79]
  by_cases h1 : x < 0
  · rw [ifp_t h1, if_neg (by omega)]
    exact ⟨_, rfl, t3.ms⟩
  · rw [ifp_f h1]
    by_cases h2 : x < Wy (rz h 74) (rz h 79) False (eAll (rz h 74) (-1)) 0 0 0 0 0
    · rw [ifp_t h2, ifp_n (iz_lt (by omega))]
      by_cases h3 : i < 0
      · rw [ifp_t h3, if_neg (by omega)]
        exact ⟨_, rfl, t3.ms⟩
      · rw [ifp_f h3, if_pos ⟨⟨by omega, h2⟩, by omega⟩, t4.1.r 17 79, bR_s, t4.1.n 79 420, ifp_t (by decide)]
        obtain ⟨K, hK⟩ : ∃ K, K = wL (wI h 68 (up (up (hI h 68) 0 0) 24 0)) 81 T := ⟨_, rfl⟩
        rw [← hK] at t3 t4 e79 e74 ⊢
        have K24 : hI K 68 24 = 0 := by rw [hK]; rfl
        have KT : hL K 81 = T := by rw [hK]; exact wL_L _ _ _
        obtain ⟨M1, e79b⟩ := MV_0 t4 (i := 0) (by rw [e79]; omega)
        rw [e79] at e79b
        have ix0 : ix (iZ 0) = 0 := rfl
        rw [ix0]
        obtain ⟨f, f1, f2, f3, f4, f5⟩ := m_now (d + 3) M1 (f0 := hI (sI K 79 0 (iZ 0)) 68) rfl
        rw [wI_self] at f1
        rw [f1, bV_s]
        have a1 : Sc (sI K 79 0 (iZ 0)) (wI (sI K 79 0 (iZ 0)) 68 f) := Sc.f f5
        have M2 := M1.sc a1
        have z79 : rz (wI (sI K 79 0 (iZ 0)) 68 f) 79 = zup (rz h 79) 0 0 := by rw [a1.z (r := 79) (by decide)]; exact e79b
        have z74 : rz (wI (sI K 79 0 (iZ 0)) 68 f) 74 = rz h 74 := by rw [a1.z (r := 74) (by decide), rz_n _ _ _ (by decide)]; exact e74
        have N2 : Nw (wI (sI K 79 0 (iZ 0)) 68 f) (rz (wI (sI K 79 0 (iZ 0)) 68 f) 74) (rz (wI (sI K 79 0 (iZ 0)) 68 f) 79) (rz (wI (sI K 79 0 (iZ 0)) 68 f) 79 0) := by
          rw [a1.z (r := 79) (by decide), a1.z (r := 74) (by decide)]; exact f2
        have D2 : hI (wI (sI K 79 0 (iZ 0)) 68 f) 68 24 = 0 := by rw [wI_I, f3]; exact K24
        have Wv : ∀ s l c g t, Wy (rz h 74) (rz h 79) False (eAll (rz h 74) (-1)) s l c g t = Wy (rz h 74) (zup (rz h 79) 0 0) False (eAll (rz h 74) (-1)) s l c g t := by
          have : ∀ (n : Nat) (s l c g t : Int), Wf (rz h 74) (rz h 79) False (eAll (rz h 74) (-1)) n s l c g t = Wf (rz h 74) (zup (rz h 79) 0 0) False (eAll (rz h 74) (-1)) n s l c g t := by
            intro n
            induction n with
            | zero => intros; rfl
            | succ n ih =>
              intro s l c g t
              rw [Wf, Wf]
              exact pif_c Iff.rfl (fun _ => rfl) (fun _ => sZ_c fun k _ _ => pif_c (May_vi _) (fun _ => ih _ _ _ _ _) (fun _ => rfl))
          exact this 41
        have T2 : Tab (rz (wI (sI K 79 0 (iZ 0)) 68 f) 74) (Wy (rz (wI (sI K 79 0 (iZ 0)) 68 f) 74) (rz (wI (sI K 79 0 (iZ 0)) 68 f) 79) False (eAll (rz h 74) (-1))) (fun _ _ _ _ _ => True) (hL (wI (sI K 79 0 (iZ 0)) 68 f) 81) := by
          rw [z74, z79]
          intro s l c g t n _
          have := t2 s l c g t n trivial
          unfold LyF at this
          rw [pif_f (fun z => z)] at this
          show hL K 81 _ = _
          rw [KT, this, ← Wv]
          rfl
        have zz : zup (rz h 79) 0 0 0 = 0 := zup_e _ _ _
        have eS : pS (zup (rz h 79) 0 0) 0 = 0 := sZ_0 _ (by omega)
        have eL : pL (rz h 74) (zup (rz h 79) 0 0) 0 = 0 := if_pos (by omega)
        have eC : pC (rz h 74) (zup (rz h 79) 0 0) 0 = 0 := by unfold pC pR; rw [sZ_0 _ (by omega)]; split <;> rfl
        have eG : pG (rz h 74) (zup (rz h 79) 0 0) 0 = 0 := sZ_0 _ (by omega)
        have sa := m_strideAt (d + 1) M2 N2 D2 T2 (x := x) (i := i) (by omega) (by
          unfold WyH; rw [z74, z79, zz, eS, eL, eC, eG, ← Wv]; omega)
        rw [z74, z79, zz, eS, eL, eC, eG] at sa
        rw [sa, bI_s, M2.1.r 17 79, bR_s, M2.1.n 79 420, ifp_t (by decide)]
        have SAv : ∀ (n : Nat) (s l c g t x : Int), SA (rz h 74) (zup (rz h 79) 0 0) (eAll (rz h 74) (-1)) n s l c g t x = SA (rz h 74) (rz h 79) (eAll (rz h 74) (-1)) n s l c g t x := by
          have Wkv : ∀ s l c g t, Wk (rz h 74) (zup (rz h 79) 0 0) False (eAll (rz h 74) (-1)) s l c g t = Wk (rz h 74) (rz h 79) False (eAll (rz h 74) (-1)) s l c g t := by
            intro s l c g t
            funext k
            unfold Wk
            exact pif_c (May_vi _) (fun _ => (Wv _ _ _ _ _).symm) (fun _ => rfl)
          intro n
          induction n with
          | zero => intro s l c g t x; rw [SA, SA, Wkv]
          | succ n ih => intro s l c g t x; rw [SA, SA, Wkv, ih]
        rw [SAv]
        refine ⟨_, rfl, ?_, ?_, ?_⟩
        · exact ((t3.d.tr Sd_0).tr a1.d).tr (Sd.s _ _ _ (Or.inl rfl))
        · have := rz_s (wI (sI K 79 0 (iZ 0)) 68 f) 79 (k := 0) (x := rz h 79 0) (by omega)
          rw [z79, zup_zup, zup_id] at this
          exact this
        · rw [rz_n _ _ _ (by decide), a1.z (r := 80) (by decide), rz_n _ _ _ (by decide)]
          exact t3.z (by decide)
    · rw [ifp_f h2, if_neg (by omega)]
      exact ⟨_, rfl, t3.ms⟩
