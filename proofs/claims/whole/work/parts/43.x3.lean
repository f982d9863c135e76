/-! weights -/
def clp (v : Int) : Int := if v < 0 then 0 else if 9 < v then 9 else v
theorem clp_b (v : Int) : 0 ≤ clp v ∧ clp v ≤ 9 := by
  unfold clp; split
  · omega
  · split <;> omega
noncomputable def cln (co : Int → Int) : Nat := @dite _ (∃ n : Nat, co n = 0 ∧ ∀ i : Nat, i < n → co i ≠ 0) (Classical.propDecidable _) (fun h => Classical.choose h) (fun _ => 0)
theorem cln_e {co ca : Int → Int} {n : Nat} (W : WFc co ca n) : cln co = n := by
  have ex : ∃ n : Nat, co n = 0 ∧ ∀ i : Nat, i < n → co i ≠ 0 := ⟨n, W.1.2.2.1, fun i hi => by have := (W.2 i hi).1; omega⟩
  have e : cln co = Classical.choose ex := dif_pos ex
  obtain ⟨a, b⟩ := Classical.choose_spec ex
  rw [← e] at a b
  rcases Nat.lt_trichotomy (cln co) n with z | z | z
  · have := (W.2 _ z).1; omega
  · exact z
  · exact absurd W.1.2.2.1 (b n z)
noncomputable def wgt (q co ca : Int → Int) (z la s t : Int) : Int := if q 7 < 0 then 1 else clp (stk co ca (fct z la s t) (cln co) 0).toInt
theorem wgt_b (q co ca : Int → Int) (z la s t : Int) : 0 ≤ wgt q co ca z la s t ∧ wgt q co ca z la s t ≤ 9 := by
  unfold wgt; split
  · omega
  · exact clp_b _
def LW (q co ca : Int → Int) : Prop := q 7 = -1 ∨ (q 7 = 0 ∧ ∃ n, WFc co ca n)
def LX (h : Hp) (o : Nat) (q co ca : Int → Int) : Prop := (q 7 = -1 ∧ hI h (o + 7) 2 = iZ 0) ∨ (q 7 = 0 ∧ ∃ n : Nat, WFc co ca n ∧ hI h (o + 7) 2 = iZ n ∧ ∀ i : Nat, i < n → hI h (o + 8) i = iZ (deed (co i) (ca i)))
theorem LX.tr {h h' : Hp} {o : Nat} {q co ca : Int → Int} (L : LX h o q co ca) (e : hI h' (o + 7) = hI h (o + 7)) (e' : hI h' (o + 8) = hI h (o + 8)) : LX h' o q co ca := by
  unfold LX; rw [e, e']; exact L
theorem LX.w {h : Hp} {o : Nat} {q co ca : Int → Int} (L : LX h o q co ca) : LW q co ca := by
  rcases L with ⟨a, _⟩ | ⟨a, n, b, _⟩
  · exact Or.inl a
  · exact Or.inr ⟨a, n, b⟩
theorem i32 (x : Int32) : x = iZ x.toInt := (Int32.ofInt_toInt x).symm
theorem i32b (x : Int32) : -2147483648 ≤ x.toInt ∧ x.toInt < 2147483648 := ⟨x.le_toInt, x.toInt_lt⟩
theorem x_moodOf (d : Nat) {h : Hp} (S : SX h) {o : Nat} (t : TO o) {q co ca : Int → Int} (L : LX h o q co ca) {c : Nat} {s b la cr g : Int} (hc : hI h c = cFw s b la cr g) {z : Int} : ∃ P, evm (d + 3) 7 [vR 0 c, vR 5 o, vI (iZ z)] h = some (some (vI (iZ (wgt q co ca z la s b))), wI h (o + 9) P) := by
  have c1 : hI h c 1 = iZ s := by rw [hc]; rfl
  have c2 : hI h c 2 = iZ b := by rw [hc]; rfl
  have c3 : hI h c 3 = iZ la := by rw [hc]; rfl
  have fin : ∀ (x : Int32) (h' : Hp) , (bI (evm (d + 2) 241 [vI (9 : Int32), vI x] h') fun x5 h4 => bI (evm (d + 2) 240 [vI (0 : Int32), vI x5] h4) fun x7 h6 => some (some (vI x7), h6)) = some (some (vI (iZ (clp x.toInt))), h') := by
    intro x h'
    have xb := i32b x
    rw [i32 x, iz_i xb.1 xb.2]
    obtain ⟨y, hy⟩ : ∃ y, y = x.toInt := ⟨_, rfl⟩
    rw [← hy] at xb ⊢
    have e9 : evm (d + 2) 241 [vI (9 : Int32), vI (iZ y)] h' = some (some (vI (iZ (if y < 9 then y else 9))), h') := by
      rw [e_JMath_min]
      simp (disch := omega) only [lit32, litJ, iz_add, iz_sub, iz_mul, iz_neg, nI_iz, ix_iz, inb_iz, ifp_t, ifp_f, ifp_T, ifp_F, iz_eq, iz_lt, bI_s, bL_s, bV_s, bR_s]
      exact ifp_r (fun y => ri_e (by rw [if_pos y])) (fun y => ri_e (by rw [if_neg y]))
    rw [e9, bI_s]
    have e0 : evm (d + 2) 240 [vI (0 : Int32), vI (iZ (if y < 9 then y else 9))] h' = some (some (vI (iZ (clp y))), h') := by
      rw [e_JMath_max]
      have : -2147483648 ≤ (if y < 9 then y else 9) ∧ (if y < 9 then y else 9) < 2147483648 := by split <;> omega
      simp (disch := omega) only [lit32, litJ, iz_add, iz_sub, iz_mul, iz_neg, nI_iz, ix_iz, inb_iz, ifp_t, ifp_f, ifp_T, ifp_F, iz_eq, iz_lt, bI_s, bL_s, bV_s, bR_s]
      unfold clp
      refine ifp_r (fun y => ri_e ?_) (fun y => ri_e ?_)
      · split at y <;> split <;> (try split) <;> omega
      · split at y <;> split <;> (try split) <;> omega
    rw [e0, bI_s]
  rw [e_Climber_moodOf, S.o6 t, bR_s, c1, c2, c3, e_Mood_of]
  rcases L with ⟨l1, l2⟩ | ⟨l1, n, l2, l3, l4⟩
  · refine ⟨hI h (o + 9), ?_⟩
    rw [l2, ifp_t (show iZ 0 = 0 from rfl), bI_s, fin, wI_self]
    unfold wgt
    rw [if_pos (by omega)]
    rfl
  · have nb := l2.1
    obtain ⟨P, hP⟩ := x_moodL d S t l2 l3 l4 (z := z) (la := la) (s := s) (b := b) 0 (by omega) (hI h (o + 9)) (fun j hj => absurd hj (Nat.not_lt_zero _))
    rw [wI_self] at hP
    rw [l3]
    refine ⟨P, ?_⟩
    rw [ifp_f (by rw [show (0 : Int32) = iZ 0 from rfl, iz_eq (by omega)]; omega)]
    have e : L_Mood_of_15 (d + 1) (o + 7) (iZ z) (iZ la) (iZ s) (iZ b) (0 : Int32) (0 : Int32) h = some (some (vI (stk co ca (fct z la s b) n 0)), wI h (o + 9) P) := hP
    rw [e, bI_s, fin]
    unfold wgt
    rw [if_neg (by omega), cln_e l2]
noncomputable def Wt (q v co ca : Int → Int) (s l c g t k : Int) : Int := pif (May q v False s l c g t k) (wgt q co ca (q (9 + k)) (stv q l) s t) 0
theorem Wt_b (q v co ca : Int → Int) (s l c g t k : Int) : 0 ≤ Wt q v co ca s l c g t k ∧ Wt q v co ca s l c g t k ≤ 9 := by
  unfold Wt
  by_cases h : May q v False s l c g t k
  · rw [pif_t h]; exact wgt_b _ _ _ _ _ _ _
  · rw [pif_f h]; omega
theorem m_weightAt (d : Nat) {h : Hp} (S : SM h) (V : VS (rz h 74)) (L : LW (rz h 74) (rz h 75) (rz h 76)) (D : hI h 68 24 = 0) {s l c g t k : Int} (hs : 0 ≤ s ∧ s ≤ 40) (hl : 0 ≤ l ∧ l ≤ rz h 74 8) (hc : 0 ≤ c ∧ c ≤ 100) (hg : 0 ≤ g ∧ g ≤ 100) (ht : 0 ≤ t ∧ t ≤ 100) (hk : 0 ≤ k ∧ k < rz h 74 8) :
    ∃ f P, evm (d + 5) 214 [vR 12 68, vI (iZ s), vI (iZ l), vI (iZ c), vI (iZ g), vI (iZ t), vI (iZ k)] h = some (some (vI (iZ (Wt (rz h 74) (rz h 79) (rz h 75) (rz h 76) s l c g t k))), wI (wI h 77 f) 78 P) := by
  have vn := V.n
  have fin : ∀ (x : Int32) (h' : Hp), L_M_weightAt_92 (d + 4) x h' = some (some (vI (iZ (clp x.toInt))), h') := by
    intro x h'
    have xb := i32b x
    rw [i32 x, iz_i xb.1 xb.2, e_M_weightAt_92]
    simp (disch := omega) only [lit32, litJ, iz_add, iz_sub, iz_mul, iz_neg, nI_iz, ix_iz, inb_iz, ifp_t, ifp_f, ifp_T, ifp_F, iz_eq, iz_lt, bI_s, bL_s, bV_s, bR_s]
    unfold clp
    exact ifp_r (fun y => ri_e (by rw [if_pos y])) (fun y => ifp_r (fun y' => ri_e (by rw [if_neg y, if_pos y'])) (fun y' => ri_e (by rw [if_neg y, if_neg y'])))
  have same : h = wI (wI h 77 (hI h 77)) 78 (hI h 78) := by rw [wI_self, wI_self]
  rw [e_M_weightAt, m_mayNext d S V hs hl hc hg ht hk, bI_s, Dst_f D]
  simp only [lit32, bZ_0]
  by_cases hm : May (rz h 74) (rz h 79) False s l c g t k
  · unfold Wt
    rw [ifp_f (fun y => y hm), pif_t hm, S.r 10 74, bR_s, S.n 74 140]
    have e7 : hI h 74 (ix (iZ 7)) = iZ (rz h 74 7) := rz_iz h 74 7
    have i7 : inb (iZ 7) 140 = true := by decide
    rw [ifp_t i7, e7]
    unfold wgt
    rcases L with l1 | ⟨l1, n, l2⟩
    · rw [l1, ifp_t (by decide), fin, if_pos (by omega)]
      exact ⟨_, _, by rw [← same]; rfl⟩
    · rw [l1, ifp_f (by decide), S.r 15 77, bR_s, m_strideOf (d + 3) S (by omega), bI_s, S.n 77 4, ifp_t (by decide), if_neg (by omega), cln_e l2]
      have tail : ∀ x : Int, x = stv (rz h 74) l → ∃ f P, L_M_weightAt_63 (d + 4) 68 (iZ s) (iZ t) (iZ x) (iZ 1) 77 (sI h 77 (ix (iZ 0)) (iZ (rz h 74 (9 + k)))) = some (some (vI (iZ (clp (stk (rz h 75) (rz h 76) (fct (rz h 74 (9 + k)) (stv (rz h 74) l) s t) n 0).toInt))), wI (wI h 77 f) 78 P) := by
        intro x hx
        have ih' : ∀ f, SM (wI h 77 f) := fun _ => S
        rw [e_M_weightAt_63, sI_w h]
        simp (disch := omega) only [lit32, litJ, iz_add, iz_sub, iz_mul, iz_neg, nI_iz, ix_iz, inb_iz, ifp_t, ifp_f, ifp_T, ifp_F, iz_eq, iz_lt, bI_s, bL_s, bV_s, bR_s, sI_wI, wI_R, wI_N, S.r 15 77, S.n 77 4, S.r 10 74, S.n 74 140]
        have e74 : ∀ f, hI (wI h 77 f) 74 (Int.toNat 7) = iZ (rz h 74 7) := fun f => by rw [wI_n h f (by decide)]; exact rz_iz h 74 7
        rw [rz_iz, wI_rz _ _ (by decide), l1]
        rw [e_M_worthAt]
        have nb := l2.1
        obtain ⟨f, hf⟩ : ∃ f, f = up (up (up (up (hI h 77) (Int.toNat 0) (iZ (rz h 74 (9 + k)))) (Int.toNat 1) (iZ x)) (Int.toNat 2) (iZ s)) (Int.toNat 3) (iZ t) := ⟨_, rfl⟩
        rw [← hf]
        obtain ⟨P, hP⟩ := m_worthL (d + 2) (h := wI h 77 f) S (co := rz h 75) (ca := rz h 76) l2 (fun i _ => by rw [wI_n h f (by decide)]; exact rz_iz' h 75 i) (fun i _ => by rw [wI_n h f (by decide)]; exact rz_iz' h 76 i) (F := fct (rz h 74 (9 + k)) (stv (rz h 74) l) s t) (fun j hj => by
          rw [wI_I, hf]
          have : j = 0 ∨ j = 1 ∨ j = 2 ∨ j = 3 := by omega
          rcases this with rfl | rfl | rfl | rfl
          · rfl
          · show iZ x = _; rw [hx]; rfl
          · rfl
          · rfl) 0 (by omega) (hI (wI h 77 f) 78) (fun j hj => absurd hj (Nat.not_lt_zero _))
        rw [wI_self] at hP
        have hP' : L_M_worthAt_4 (d + 3) 68 0 (iZ 0) (wI h 77 f) = _ := hP
        rw [hP', bI_s, fin]
        exact ⟨f, P, rfl⟩
      have e15 : hR (sI h 77 (ix (iZ 0)) (iZ (rz h 74 (9 + k)))) 68 15 = some 77 := S.r 15 77
      rw [e15, bR_s]
      by_cases h0 : l = 0
      · rw [ifp_t (by rw [h0])]
        exact tail 0 (by rw [h0]; rfl)
      · rw [ifp_f (by rw [iz_eq (by omega)]; exact h0)]
        have S1 : SM (sI h 77 (ix (iZ 0)) (iZ (rz h 74 (9 + k)))) := S
        rw [iz_sub, m_strideOf (d + 3) S1 (by omega), bI_s, rz_n _ _ _ (by decide)]
        exact tail _ (by unfold stv; rw [if_neg (by omega)])
  · unfold Wt
    rw [ifp_t hm, pif_f hm]
    exact ⟨_, _, by rw [← same]⟩
