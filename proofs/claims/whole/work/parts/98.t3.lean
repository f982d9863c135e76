/-! the model cuts the tape -/
def cHp (h : Hp) (f g : Nat → Int32) (y : Nat → Int64) : Hp := wL (wI (wI h 70 f) 71 g) 72 y
theorem cHp_n (h : Hp) (f g : Nat → Int32) (y : Nat → Int64) {r : Nat} (a : r ≠ 70) (b : r ≠ 71) : hI (cHp h f g y) r = hI h r := by
  show hI (wI (wI h 70 f) 71 g) r = _
  rw [wI_n _ _ b, wI_n _ _ a]
theorem cHp_0 (h : Hp) (f g : Nat → Int32) (y : Nat → Int64) : hI (cHp h f g y) 70 = f := by
  show hI (wI (wI h 70 f) 71 g) 70 = _
  rw [wI_n _ _ (by decide), wI_I]
theorem cHp_1 (h : Hp) (f g : Nat → Int32) (y : Nat → Int64) : hI (cHp h f g y) 71 = g := by
  show hI (wI (wI h 70 f) 71 g) 71 = _
  rw [wI_I]
theorem cHp_R (h : Hp) (f g : Nat → Int32) (y : Nat → Int64) : hR (cHp h f g y) = hR h := rfl
theorem cHp_N (h : Hp) (f g : Nat → Int32) (y : Nat → Int64) : hN (cHp h f g y) = hN h := rfl
theorem cHp_s0 (h : Hp) (f g : Nat → Int32) (y : Nat → Int64) (k : Nat) (v : Int32) : sI (cHp h f g y) 70 k v = cHp h (up f k v) g y := by
  show wL (sI (wI (wI h 70 f) 71 g) 70 k v) 72 y = _
  rw [sI_w, wI_n _ _ (by decide), wI_I, wI_c _ _ _ (by decide), wI_wI]
  rfl
theorem cHp_s1 (h : Hp) (f g : Nat → Int32) (y : Nat → Int64) (k : Nat) (v : Int32) : sI (cHp h f g y) 71 k v = cHp h f (up g k v) y := by
  show wL (sI (wI (wI h 70 f) 71 g) 71 k v) 72 y = _
  rw [sI_wI]
  rfl
theorem cHp_s2 (h : Hp) (f g : Nat → Int32) (y : Nat → Int64) (k : Nat) (v : Int64) : sL (cHp h f g y) 72 k v = cHp h f g (up y k v) := by
  unfold cHp
  rw [sL_wL]
/-- what is cut so far -/
def Rcd (c : Int → Int) (n : Int) (i : Nat) (f g : Nat → Int32) (y : Nat → Int64) : Prop := ∀ j : Nat, j < i → Tok c n j < n ∧ f j = iZ (kiM c n (Tok c n j)) ∧ g j = iZ (Tok c n j) ∧ y j = jZ (vaM c n (Tok c n j))
theorem u_wordL (d : Nat) {h : Hp} (M : SM h) {c : Int → Int} {n : Int} (hn : 0 ≤ n ∧ n ≤ 1000) (h3 : hI h 68 3 = iZ n) (hc : ∀ j, 0 ≤ j → j < n → hI h 69 j.toNat = iZ (c j)) (ok : ∀ j, 0 ≤ j → j < n → okS (c j)) {s : Int} (hs : 0 ≤ s) (i : Int32) : ∀ e : Int, s ≤ e → e ≤ n → L_M_cutAll_70 (d + 2) 68 i (iZ e) (iZ s) (jZ (hvl c s (min 8 (e - s).toNat))) h = L_M_cutAll_129 (d + 2) 68 i (iZ (fsk (ltr c) n e)) (iZ s) (jZ (hvl c s (min 8 (fsk (ltr c) n e - s).toNat))) h := by
  refine lpZ n (fun e he h1 h2 => ?_) (fun e he ih h1 h2 => ?_)
  · rw [e_M_cutAll_70, h3, ifp_f (fun y => by have := (iz_lt (by omega)).mp y; omega), fsk_e (by omega)]
  · have co := ok e (by omega) he
    unfold okS at co
    rw [e_M_cutAll_70, h3, ifp_t ((iz_lt (by omega)).mpr he)]
    simp only [M.r 1 69, M.n 69 1000, bR_s]
    have ib : inb (iZ e) 1000 = true := (inb_iz (by omega)).mpr (by omega)
    rw [ifp_t ib, ix_iz (by omega), hc e (by omega) he, u_letter (d + 1) (by omega)]
    simp only [bI_s, M.r 1 69, M.n 69 1000, bR_s]
    by_cases q : ltr c e
    · rw [bZ_t q, ifp_f (by decide), fsk_s he q, iz_sub]
      by_cases z : e - s < 8
      · rw [ifp_t (by rw [lit32]; exact (iz_lt (by omega)).mpr z), ifp_t ib, hc e (by omega) he, e_M_rank, u_letter d (by omega)]
        simp only [bI_s]
        rw [bZ_t q, ifp_f (by decide)]
        simp only [bI_s, lit32, litJ, iz_add, iz_sub]
        rw [iz_l (by omega), jz_mul, jz_add]
        rw [← ih (by omega) (by omega)]
        have : hvl c s (min 8 (e + 1 - s).toNat) = 37 * hvl c s (min 8 (e - s).toNat) + (c e - 96) := by
          rw [show min 8 (e + 1 - s).toNat = (e - s).toNat + 1 by omega, show min 8 (e - s).toNat = (e - s).toNat by omega]
          show 37 * hvl c s (e - s).toNat + (c (s + ((e - s).toNat : Nat)) - 96) = _
          rw [show s + (((e - s).toNat : Nat) : Int) = e by omega]
        rw [this]
      · rw [ifp_f (fun y => z (by rw [lit32] at y; exact (iz_lt (by omega)).mp y)), show (1 : Int32) = iZ 1 from rfl, iz_add]
        rw [← ih (by omega) (by omega)]
        rw [show min 8 (e + 1 - s).toNat = 8 by omega, show min 8 (e - s).toNat = 8 by omega]
    · rw [bZ_f q, ifp_t (by rfl), fsk_e (fun y => q y.2)]
theorem u_numL (d : Nat) {h : Hp} (M : SM h) {c : Int → Int} {n : Int} (hn : 0 ≤ n ∧ n ≤ 1000) (h3 : hI h 68 3 = iZ n) (hc : ∀ j, 0 ≤ j → j < n → hI h 69 j.toNat = iZ (c j)) (ok : ∀ j, 0 ≤ j → j < n → okS (c j)) {s : Int} (hs : 0 ≤ s) (i : Int32) : ∀ e : Int, s ≤ e → e ≤ n → L_M_cutAll_159 (d + 2) 68 i (iZ e) (iZ s) (jZ (dvl c s (min 4 (e - s).toNat))) h = L_M_cutAll_218 (d + 2) 68 i (iZ (fsk (dgt c) n e)) (iZ s) (jZ (dvl c s (min 4 (fsk (dgt c) n e - s).toNat))) h := by
  refine lpZ n (fun e he h1 h2 => ?_) (fun e he ih h1 h2 => ?_)
  · rw [e_M_cutAll_159, h3, ifp_f (fun y => by have := (iz_lt (by omega)).mp y; omega), fsk_e (by omega)]
  · have co := ok e (by omega) he
    unfold okS at co
    rw [e_M_cutAll_159, h3, ifp_t ((iz_lt (by omega)).mpr he)]
    simp only [M.r 1 69, M.n 69 1000, bR_s]
    have ib : inb (iZ e) 1000 = true := (inb_iz (by omega)).mpr (by omega)
    rw [ifp_t ib, ix_iz (by omega), hc e (by omega) he, u_digit (d + 1) (by omega)]
    simp only [bI_s, M.r 1 69, M.n 69 1000, bR_s]
    by_cases q : dgt c e
    · rw [bZ_t q, ifp_f (by decide), fsk_s he q, iz_sub]
      by_cases z : e - s < 4
      · rw [ifp_t (by rw [lit32]; exact (iz_lt (by omega)).mpr z), ifp_t ib, hc e (by omega) he]
        simp only [lit32, litJ, iz_add]
        rw [iz_l (by omega), jz_mul, jz_add, jz_sub]
        rw [← ih (by omega) (by omega)]
        have : dvl c s (min 4 (e + 1 - s).toNat) = 10 * dvl c s (min 4 (e - s).toNat) + c e - 48 := by
          rw [show min 4 (e + 1 - s).toNat = (e - s).toNat + 1 by omega, show min 4 (e - s).toNat = (e - s).toNat by omega]
          show 10 * dvl c s (e - s).toNat + c (s + ((e - s).toNat : Nat)) - 48 = _
          rw [show s + (((e - s).toNat : Nat) : Int) = e by omega]
        rw [this]
      · rw [ifp_f (fun y => z (by rw [lit32] at y; exact (iz_lt (by omega)).mp y)), show (1 : Int32) = iZ 1 from rfl, iz_add]
        rw [← ih (by omega) (by omega)]
        rw [show min 4 (e + 1 - s).toNat = 4 by omega, show min 4 (e - s).toNat = 4 by omega]
    · rw [bZ_f q, ifp_t (by rfl), fsk_e (fun y => q y.2)]
/-- all is cut -/
def TTm (h : Hp) (c : Int → Int) (n : Int) (N : Nat) : Prop := N ≤ 1000 ∧ Tok c n N = n ∧ (∀ i : Nat, i < N → Tok c n i < n) ∧ (∀ i : Nat, i ≤ N → hI h 70 i = iZ (kiM c n (Tok c n i)) ∧ hI h 71 i = iZ (Tok c n i)) ∧ ∀ i : Nat, i < N → hL h 72 i = jZ (vaM c n (Tok c n i))
theorem u_cutL (d : Nat) {h : Hp} (M : SM h) {c : Int → Int} {n : Int} (hn : 0 ≤ n ∧ n ≤ 1000) (h3 : hI h 68 3 = iZ n) (hc : ∀ j, 0 ≤ j → j < n → hI h 69 j.toNat = iZ (c j)) (ok : ∀ j, 0 ≤ j → j < n → okS (c j)) : ∀ (m : Nat) (k : Int) (i : Nat) (f g : Nat → Int32) (y : Nat → Int64), (n - k).toNat ≤ m → 0 ≤ k → k ≤ n → (i : Int) ≤ k → tkS c n k = Tok c n i → Rcd c n i f g y → ∃ f' g' y' N, L_M_cutAll_17 (d + 2) 68 (iZ i) (iZ k) (cHp h f g y) = some (none, sI (sI (cHp h f' g' y') 68 7 (iZ 0)) 68 8 (iZ 0)) ∧ TTm (cHp h f' g' y') c n N := by
  intro m
  induction m with
  | zero =>
    intro k i f g y hm k0 k1 ik ts R
    have ek : k = n := by omega
    have tn : Tok c n i = n := by rw [← ts, ← ek]; exact fsk_e (by omega)
    refine ⟨up f i (iZ 0), up g i (iZ n), y, i, ?_, by omega, tn, fun j hj => (R j hj).1, fun j hj => ?_, fun j hj => (R j hj).2.2.2⟩
    · rw [e_M_cutAll_17, cHp_n _ _ _ _ (by decide) (by decide), h3, ifp_f (fun y => by have := (iz_lt (by omega)).mp y; omega)]
      simp only [cHp_R, cHp_N, M.r 4 70, M.n 70 1002, bR_s]
      have ib : inb (iZ (i : Int)) 1002 = true := (inb_iz (by omega)).mpr (by omega)
      rw [ifp_t ib, ix_iz (by omega), Int.toNat_natCast, cHp_s0]
      simp only [cHp_R, cHp_N, M.r 5 71, M.n 71 1002, bR_s]
      rw [ifp_t ib, cHp_n _ _ _ _ (by decide) (by decide), h3, cHp_s1]
      rfl
    · rw [cHp_0, cHp_1]
      by_cases e : j = i
      · subst e
        rw [up_e, up_e, tn]
        refine ⟨?_, rfl⟩
        unfold kiM
        rw [pif_t (by omega)]
      · rw [up_n _ _ e, up_n _ _ e]
        exact ⟨(R j (by omega)).2.1, (R j (by omega)).2.2.1⟩
  | succ m ih =>
    intro k i f g y hm k0 k1 ik ts R
    by_cases kn : k < n
    · have co := ok k k0 kn
      unfold okS at co
      have ib : inb (iZ (i : Int)) 1002 = true := (inb_iz (by omega)).mpr (by omega)
      have ibk : inb (iZ k) 1000 = true := (inb_iz (by omega)).mpr (by omega)
      rw [e_M_cutAll_17, cHp_n _ _ _ _ (by decide) (by decide), h3, ifp_t ((iz_lt (by omega)).mpr kn), e_M_cutAll_25]
      simp only [cHp_R, cHp_N, M.r 1 69, M.n 69 1000, M.r 5 71, M.n 71 1002, bR_s]
      rw [ifp_t ibk, ix_iz (by omega), cHp_n _ _ _ _ (by decide) (by decide), hc k k0 kn]
      have l10 : (iZ (c k) = (10 : Int32)) ↔ c k = 10 := by rw [lit32]; exact iz_eq (by omega)
      have l32 : (iZ (c k) = (32 : Int32)) ↔ c k = 32 := by rw [lit32]; exact iz_eq (by omega)
      have bl : bnk c k → ∃ f' g' y' N, L_M_cutAll_17 (d + 2) 68 (iZ i) (iZ k + (1 : Int32)) (cHp h f g y) = some (none, sI (sI (cHp h f' g' y') 68 7 (iZ 0)) 68 8 (iZ 0)) ∧ TTm (cHp h f' g' y') c n N := by
        intro b
        rw [show (1 : Int32) = iZ 1 from rfl, iz_add]
        refine ih (k + 1) i f g y (by omega) (by omega) (by omega) (by omega) ?_ R
        rw [← ts]; exact (fsk_s kn b).symm
      by_cases c10 : c k = 10
      · rw [ifp_t (l10.mpr c10)]; exact bl (Or.inl c10)
      · rw [ifp_f (fun y => c10 (l10.mp y))]
        by_cases c32 : c k = 32
        · rw [ifp_t (l32.mpr c32)]; exact bl (Or.inr c32)
        · rw [ifp_f (fun y => c32 (l32.mp y)), ifp_t ib, ix_iz (by omega), Int.toNat_natCast, cHp_s1, u_letter (d + 1) (by omega)]
          have nb : ¬ bnk c k := by unfold bnk; omega
          have tk : Tok c n i = k := by rw [← ts]; exact fsk_e (fun y => nb y.2)
          have eb := tkE_b (c := c) kn
          have nxt : ∀ (e w : Int) (v : Int), e = tkE c n k → w = kiM c n k → v = vaM c n k → ∃ f' g' y' N, L_M_cutAll_17 (d + 2) 68 (iZ ((i : Int) + 1)) (iZ e) (cHp h (up f i (iZ w)) (up g i (iZ k)) (up y i (jZ v))) = some (none, sI (sI (cHp h f' g' y') 68 7 (iZ 0)) 68 8 (iZ 0)) ∧ TTm (cHp h f' g' y') c n N := by
            intro e w v e1 e2 e3
            subst e1 e2 e3
            refine ih _ (i + 1) _ _ _ (by omega) (by omega) eb.2 (by omega) ?_ ?_
            · show _ = tkS c n (tkE c n (Tok c n i)); rw [tk]
            · intro j hj
              by_cases q : j = i
              · subst q
                rw [up_e, up_e, up_e, tk]
                exact ⟨kn, rfl, rfl, rfl⟩
              · rw [up_n _ _ q, up_n _ _ q, up_n _ _ q]
                exact R j (by omega)
          have M' : SM (cHp h f (up g i (iZ k)) y) := M
          have h3' : hI (cHp h f (up g i (iZ k)) y) 68 3 = iZ n := by rw [cHp_n _ _ _ _ (by decide) (by decide)]; exact h3
          have hc' : ∀ j, 0 ≤ j → j < n → hI (cHp h f (up g i (iZ k)) y) 69 j.toNat = iZ (c j) := fun j j1 j2 => by rw [cHp_n _ _ _ _ (by decide) (by decide)]; exact hc j j1 j2
          simp only [bI_s]
          by_cases l : ltr c k
          · rw [bZ_t l, ifp_f (by decide)]
            have e0 : (0 : Int64) = jZ (hvl c k (min 8 (k - k).toNat)) := by rw [show min 8 (k - k).toNat = 0 by omega]; rfl
            rw [e0, u_wordL d M' hn h3' hc' ok k0 _ k (Int.le_refl _) k1]
            have te : tkE c n k = fsk (ltr c) n k := by unfold tkE; rw [pif_f (by omega), pif_t l]
            have v1 : hvl c k (min 8 (tkE c n k - k).toNat) = vaM c n k := by unfold vaM; rw [pif_t l]
            rw [← te, e_M_cutAll_129]
            simp only [cHp_R, M.r 4 70, bR_s, iz_sub]
            by_cases z : 8 < tkE c n k - k
            · rw [ifp_t (by rw [lit32]; exact (iz_lt (by omega)).mpr z), e_M_cutAll_148]
              simp only [cHp_R, cHp_N, M.r 4 70, M.n 70 1002, bR_s]
              rw [ifp_t ib, ix_iz (by omega), Int.toNat_natCast, cHp_s0]
              simp only [cHp_R, cHp_N, M.r 6 72, M.n 72 1002, bR_s]
              rw [ifp_t ib, cHp_s2]
              simp only [lit32, iz_add]
              refine nxt _ _ _ rfl ?_ v1
              unfold kiM; rw [pif_f (by omega), pif_t l, pif_f (by omega)]
            · rw [ifp_f (fun y => z (by rw [lit32] at y; exact (iz_lt (by omega)).mp y)), e_M_cutAll_148]
              simp only [cHp_R, cHp_N, M.r 4 70, M.n 70 1002, bR_s]
              rw [ifp_t ib, ix_iz (by omega), Int.toNat_natCast, cHp_s0]
              simp only [cHp_R, cHp_N, M.r 6 72, M.n 72 1002, bR_s]
              rw [ifp_t ib, cHp_s2]
              simp only [lit32, iz_add]
              refine nxt _ _ _ rfl ?_ v1
              unfold kiM; rw [pif_f (by omega), pif_t l, pif_t (by omega)]
          · rw [bZ_f l, ifp_t (by rfl), u_digit (d + 1) (by omega)]
            simp only [bI_s]
            by_cases gg : dgt c k
            · rw [bZ_t gg, ifp_f (by decide)]
              have e0 : (0 : Int64) = jZ (dvl c k (min 4 (k - k).toNat)) := by rw [show min 4 (k - k).toNat = 0 by omega]; rfl
              rw [e0, u_numL d M' hn h3' hc' ok k0 _ k (Int.le_refl _) k1]
              have te : tkE c n k = fsk (dgt c) n k := by unfold tkE; rw [pif_f (by omega), pif_f l, pif_t gg]
              have v1 : dvl c k (min 4 (tkE c n k - k).toNat) = vaM c n k := by unfold vaM; rw [pif_f l, pif_t gg]
              rw [← te, e_M_cutAll_218]
              simp only [cHp_R, M.r 4 70, bR_s, iz_sub]
              by_cases z : 4 < tkE c n k - k
              · rw [ifp_t (by rw [lit32]; exact (iz_lt (by omega)).mpr z), e_M_cutAll_236]
                simp only [cHp_R, cHp_N, M.r 4 70, M.n 70 1002, bR_s]
                rw [ifp_t ib, ix_iz (by omega), Int.toNat_natCast, cHp_s0]
                simp only [cHp_R, cHp_N, M.r 6 72, M.n 72 1002, bR_s]
                rw [ifp_t ib, cHp_s2]
                simp only [lit32, iz_add]
                refine nxt _ _ _ rfl ?_ v1
                unfold kiM; rw [pif_f (by omega), pif_f l, pif_t gg, pif_f (by omega)]
              · rw [ifp_f (fun y => z (by rw [lit32] at y; exact (iz_lt (by omega)).mp y)), e_M_cutAll_236]
                simp only [cHp_R, cHp_N, M.r 4 70, M.n 70 1002, bR_s]
                rw [ifp_t ib, ix_iz (by omega), Int.toNat_natCast, cHp_s0]
                simp only [cHp_R, cHp_N, M.r 6 72, M.n 72 1002, bR_s]
                rw [ifp_t ib, cHp_s2]
                simp only [lit32, iz_add]
                refine nxt _ _ _ rfl ?_ v1
                unfold kiM; rw [pif_f (by omega), pif_f l, pif_t gg, pif_t (by omega)]
            · rw [bZ_f gg, ifp_t (by rfl)]
              simp only [cHp_R, M.r 4 70, bR_s]
              rw [u_sign (d + 1) (by omega)]
              simp only [bI_s]
              have te : k + 1 = tkE c n k := by unfold tkE; rw [pif_f (by omega), pif_f l, pif_f gg]
              have v1 : c k = vaM c n k := by unfold vaM; rw [pif_f l, pif_f gg]
              rw [iz_l (by omega)]
              by_cases z : sgn (c k)
              · rw [bZ_t z, ifp_f (by decide), e_M_cutAll_261]
                simp only [cHp_R, cHp_N, M.r 4 70, M.n 70 1002, bR_s]
                rw [ifp_t ib, ix_iz (by omega), Int.toNat_natCast, cHp_s0]
                simp only [cHp_R, cHp_N, M.r 6 72, M.n 72 1002, bR_s]
                rw [ifp_t ib, cHp_s2]
                simp only [lit32, iz_add]
                refine nxt _ _ _ te ?_ v1
                unfold kiM; rw [pif_f (by omega), pif_f l, pif_f gg, pif_t z]
              · rw [bZ_f z, ifp_t (by rfl), e_M_cutAll_261]
                simp only [cHp_R, cHp_N, M.r 4 70, M.n 70 1002, bR_s]
                rw [ifp_t ib, ix_iz (by omega), Int.toNat_natCast, cHp_s0]
                simp only [cHp_R, cHp_N, M.r 6 72, M.n 72 1002, bR_s]
                rw [ifp_t ib, cHp_s2]
                simp only [lit32, iz_add]
                refine nxt _ _ _ te ?_ v1
                unfold kiM; rw [pif_f (by omega), pif_f l, pif_f gg, pif_f z]
    · exact (ih k i f g y (by omega) k0 k1 ik ts R)
