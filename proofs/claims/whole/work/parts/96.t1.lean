/-! tokens -/
noncomputable def fskF (P : Int → Prop) (n : Int) : Nat → Int → Int
  | 0, e => e
  | k + 1, e => pif (e < n ∧ P e) (fskF P n k (e + 1)) e
noncomputable def fsk (P : Int → Prop) (n e : Int) : Int := fskF P n (n - e).toNat e
theorem fsk_s {P : Int → Prop} {n e : Int} (h : e < n) (q : P e) : fsk P n e = fsk P n (e + 1) := by
  unfold fsk
  rw [show (n - e).toNat = (n - (e + 1)).toNat + 1 by omega]
  exact pif_t ⟨h, q⟩
theorem fsk_e {P : Int → Prop} {n e : Int} (h : ¬ (e < n ∧ P e)) : fsk P n e = e := by
  unfold fsk
  by_cases c : e < n
  · rw [show (n - e).toNat = (n - (e + 1)).toNat + 1 by omega]
    exact pif_f h
  · rw [show (n - e).toNat = 0 by omega]
    rfl
theorem fsk_b {P : Int → Prop} {n : Int} : ∀ e, e ≤ n → e ≤ fsk P n e ∧ fsk P n e ≤ n := by
  refine lpZ n (fun e he hn => ?_) (fun e he ih hn => ?_)
  · rw [fsk_e (by omega)]; omega
  · by_cases c : P e
    · have := ih (by omega)
      rw [fsk_s he c]; omega
    · rw [fsk_e (fun y => c y.2)]; omega
theorem fsk_a {P : Int → Prop} {n : Int} : ∀ e, e ≤ n → ∀ j, e ≤ j → j < fsk P n e → P j := by
  refine lpZ n (fun e he hn j => ?_) (fun e he ih hn j => ?_)
  · rw [fsk_e (by omega)]; omega
  · by_cases c : P e
    · rw [fsk_s he c]
      intro h1 h2
      by_cases q : j = e
      · rw [q]; exact c
      · exact ih (by omega) j (by omega) h2
    · rw [fsk_e (fun y => c y.2)]; omega
def bnk (c : Int → Int) (j : Int) : Prop := c j = 10 ∨ c j = 32
def ltr (c : Int → Int) (j : Int) : Prop := 97 ≤ c j ∧ c j ≤ 122
def dgt (c : Int → Int) (j : Int) : Prop := 48 ≤ c j ∧ c j ≤ 57
def sgn (x : Int) : Prop := x = 40 ∨ x = 41 ∨ x = 60 ∨ x = 61 ∨ x = 43 ∨ x = 45 ∨ x = 42 ∨ x = 59
noncomputable def tkS (c : Int → Int) (n e : Int) : Int := fsk (bnk c) n e
noncomputable def tkE (c : Int → Int) (n s : Int) : Int := pif (n ≤ s) s (pif (ltr c s) (fsk (ltr c) n s) (pif (dgt c s) (fsk (dgt c) n s) (s + 1)))
noncomputable def kiX (c : Int → Int) (n s : Int) : Int := pif (n ≤ s) 0 (pif (ltr c s) (pif (tkE c n s - s ≤ 8) 2 1) (pif (dgt c s) (pif (tkE c n s - s ≤ 4) 3 1) (pif (sgn (c s)) (c s) 1)))
noncomputable def kiM (c : Int → Int) (n s : Int) : Int := pif (n ≤ s) 0 (pif (ltr c s) (pif (tkE c n s - s ≤ 8) 1 4) (pif (dgt c s) (pif (tkE c n s - s ≤ 4) 2 4) (pif (sgn (c s)) 3 4)))
def dvl (c : Int → Int) (s : Int) : Nat → Int
  | 0 => 0
  | k + 1 => 10 * dvl c s k + c (s + k) - 48
def hvl (c : Int → Int) (s : Int) : Nat → Int
  | 0 => 0
  | k + 1 => 37 * hvl c s k + (c (s + k) - 96)
noncomputable def nvl (c : Int → Int) (n s : Int) : Int := dvl c s (tkE c n s - s).toNat
noncomputable def vaM (c : Int → Int) (n s : Int) : Int := pif (ltr c s) (hvl c s (min 8 (tkE c n s - s).toNat)) (pif (dgt c s) (dvl c s (min 4 (tkE c n s - s).toNat)) (c s))
noncomputable def Tok (c : Int → Int) (n : Int) : Nat → Int
  | 0 => tkS c n 0
  | i + 1 => tkS c n (tkE c n (Tok c n i))
theorem tkE_b {c : Int → Int} {n s : Int} (h : s < n) : s < tkE c n s ∧ tkE c n s ≤ n := by
  unfold tkE
  rw [pif_f (by omega)]
  by_cases l : ltr c s
  · rw [pif_t l, fsk_s h l]
    have := fsk_b (P := ltr c) (n := n) (s + 1) (by omega)
    omega
  · rw [pif_f l]
    by_cases g : dgt c s
    · rw [pif_t g, fsk_s h g]
      have := fsk_b (P := dgt c) (n := n) (s + 1) (by omega)
      omega
    · rw [pif_f g]; omega
theorem Tok_b {c : Int → Int} {n : Int} (hn : 0 ≤ n) : ∀ i, 0 ≤ Tok c n i ∧ Tok c n i ≤ n := by
  intro i
  induction i with
  | zero =>
    have := fsk_b (P := bnk c) (n := n) 0 hn
    exact this
  | succ i ih =>
    show 0 ≤ tkS c n _ ∧ tkS c n _ ≤ n
    have e : 0 ≤ tkE c n (Tok c n i) ∧ tkE c n (Tok c n i) ≤ n := by
      by_cases q : Tok c n i < n
      · have := tkE_b (c := c) q; omega
      · unfold tkE; rw [pif_t (by omega)]; exact ih
    have := fsk_b (P := bnk c) (n := n) _ e.2
    unfold tkS
    omega
/-! the class: the next token -/
theorem t_blank (d : Nat) {c : Int → Int} {x : Int} (hx : -2147483648 ≤ c x ∧ c x < 2147483648) (h : Hp) : evm (d + 1) 73 [vI (iZ (c x))] h = some (some (vI (bZ (bnk c x))), h) := by
  rw [e_Tape_isBlank]
  unfold bnk
  simp (disch := omega) only [lit32, litJ, iz_add, iz_sub, iz_mul, iz_neg, nI_iz, ix_iz, inb_iz, ifp_t, ifp_f, iz_eq, iz_lt, bI_s, bL_s, bV_s, bR_s, rz_iz]
  refine ifp_r (fun a => rb_t (Or.inl a)) (fun a => ifp_r (fun b => rb_t (Or.inr b)) (fun b => rb_f (by omega)))
theorem t_letter (d : Nat) {c : Int → Int} {x : Int} (hx : -2147483648 ≤ c x ∧ c x < 2147483648) (h : Hp) : evm (d + 1) 74 [vI (iZ (c x))] h = some (some (vI (bZ (ltr c x))), h) := by
  rw [e_Tape_isLetter]
  unfold ltr
  simp (disch := omega) only [lit32, litJ, iz_add, iz_sub, iz_mul, iz_neg, nI_iz, ix_iz, inb_iz, ifp_t, ifp_f, iz_eq, iz_lt, bI_s, bL_s, bV_s, bR_s, rz_iz]
  refine ifp_r (fun a => rb_f (by omega)) (fun a => ifp_r (fun b => rb_f (by omega)) (fun b => rb_t (by omega)))
theorem t_digit (d : Nat) {c : Int → Int} {x : Int} (hx : -2147483648 ≤ c x ∧ c x < 2147483648) (h : Hp) : evm (d + 1) 75 [vI (iZ (c x))] h = some (some (vI (bZ (dgt c x))), h) := by
  rw [e_Tape_isDigit]
  unfold dgt
  simp (disch := omega) only [lit32, litJ, iz_add, iz_sub, iz_mul, iz_neg, nI_iz, ix_iz, inb_iz, ifp_t, ifp_f, iz_eq, iz_lt, bI_s, bL_s, bV_s, bR_s, rz_iz]
  refine ifp_r (fun a => rb_f (by omega)) (fun a => ifp_r (fun b => rb_f (by omega)) (fun b => rb_t (by omega)))
theorem u_letter (d : Nat) {c : Int → Int} {x : Int} (hx : -2147483648 ≤ c x ∧ c x < 2147483648) (h : Hp) : evm (d + 1) 142 [vI (iZ (c x))] h = some (some (vI (bZ (ltr c x))), h) := by
  rw [e_M_isLetter]
  unfold ltr
  simp (disch := omega) only [lit32, litJ, iz_add, iz_sub, iz_mul, iz_neg, nI_iz, ix_iz, inb_iz, ifp_t, ifp_f, iz_eq, iz_lt, bI_s, bL_s, bV_s, bR_s, rz_iz]
  refine ifp_r (fun a => rb_f (by omega)) (fun a => ifp_r (fun b => rb_f (by omega)) (fun b => rb_t (by omega)))
theorem u_digit (d : Nat) {c : Int → Int} {x : Int} (hx : -2147483648 ≤ c x ∧ c x < 2147483648) (h : Hp) : evm (d + 1) 143 [vI (iZ (c x))] h = some (some (vI (bZ (dgt c x))), h) := by
  rw [e_M_isDigit]
  unfold dgt
  simp (disch := omega) only [lit32, litJ, iz_add, iz_sub, iz_mul, iz_neg, nI_iz, ix_iz, inb_iz, ifp_t, ifp_f, iz_eq, iz_lt, bI_s, bL_s, bV_s, bR_s, rz_iz]
  refine ifp_r (fun a => rb_f (by omega)) (fun a => ifp_r (fun b => rb_f (by omega)) (fun b => rb_t (by omega)))
theorem u_sign (d : Nat) {x : Int} (hx : -2147483648 ≤ x ∧ x < 2147483648) (h : Hp) : evm (d + 1) 145 [vI (iZ x)] h = some (some (vI (bZ (sgn x))), h) := by
  rw [e_M_isSignOf, e_M_isSignOf_6]
  unfold sgn
  simp (disch := omega) only [lit32, litJ, iz_add, iz_sub, iz_mul, iz_neg, nI_iz, ix_iz, inb_iz, ifp_t, ifp_f, iz_eq, iz_lt, bI_s, bL_s, bV_s, bR_s, rz_iz]
  refine ifp_r (fun a => rb_t (by omega)) (fun a => ifp_r (fun b => rb_t (by omega)) (fun b => ifp_r (fun b => rb_t (by omega)) (fun b => ifp_r (fun b => rb_t (by omega)) (fun b => ifp_r (fun b => rb_t (by omega)) (fun b => ifp_r (fun b => rb_t (by omega)) (fun b => ifp_r (fun b => rb_t (by omega)) (fun b => ifp_r (fun b => rb_t (by omega)) (fun b => rb_f (by omega)))))))))
theorem sby0 : ∀ x : Nat, x < 128 → ((∀ j : Nat, j < 8 → sby 0 j ≠ nI x) ↔ ¬ (x = 40 ∨ x = 41 ∨ x = 60 ∨ x = 61 ∨ x = 43 ∨ x = 45 ∨ x = 42 ∨ x = 59)) := by decide +kernel
theorem i8N : ∀ x : Nat, x < 128 → (nI x).toInt8.toInt32 = nI x := by decide +kernel
theorem t_indexL (d : Nat) {x : Int} (h : Hp) : ∀ (t k : Nat), k + t = 8 → ∃ r : Int, L_JLat_indexOfChar_7 d 0 (iZ 8) (iZ x) (iZ k) h = some (some (vI (iZ r)), h) ∧ -1 ≤ r ∧ r < 8 ∧ (r < 0 ↔ ∀ j : Nat, k ≤ j → j < 8 → sby 0 j ≠ iZ x) := by
  intro t
  induction t with
  | zero =>
    intro k hk
    refine ⟨-1, ?_, by omega, by omega, ⟨fun _ j j1 j2 => by omega, fun _ => by omega⟩⟩
    rw [e_JLat_indexOfChar_7, ifp_f (fun y => by have := (iz_lt (by omega)).mp y; omega)]
    rfl
  | succ t ih =>
    intro k hk
    rw [e_JLat_indexOfChar_7, ifp_t ((iz_lt (by omega)).mpr (by omega)), ifp_t ((inb_iz (by omega)).mpr ⟨by omega, by show (k : Int) < ((slen 0 : Nat) : Int); have : slen 0 = 8 := rfl; omega⟩), ix_iz (by omega), Int.toNat_natCast]
    by_cases c : sby 0 k = iZ x
    · rw [ifp_t c]
      exact ⟨k, rfl, by omega, by omega, ⟨fun y => by omega, fun y => absurd c (y k (Nat.le_refl _) (by omega))⟩⟩
    · rw [ifp_f c, lit32, iz_add]
      obtain ⟨r, r1, r2, r3, r4⟩ := ih (k + 1) (by omega)
      refine ⟨r, r1, r2, r3, r4.trans ⟨fun y j j1 j2 => ?_, fun y j j1 j2 => y j (by omega) j2⟩⟩
      by_cases e : j = k
      · rw [e]; exact c
      · exact y j (by omega) j2
theorem slN : ∀ r : Nat, r < 23 → nI (slen r) >>> ((0 : Int32) &&& 31) = nI (slen r) ∧ slen r ≤ 8 ∧ 1 ≤ slen r := by decide +kernel
theorem t_len (d : Nat) {r : Nat} (hr : r < 23) (h : Hp) : evm (d + 2) 242 [vR 40 r] h = some (some (vI (iZ (slen r))), h) := by
  rw [e_JStr_length, e_JStr_coder, ifp_f (show ¬ (1 : Int32) = 0 by decide), show isBy (0 : Int32) = true by decide]
  simp only [bI_s, cond_true, (slN r hr).1]
  rw [nI_iz]
theorem t_index (d : Nat) {x : Int} (hx : 0 ≤ x ∧ x < 128) (h : Hp) : ∃ r : Int, evm (d + 5) 246 [vR 40 0, vI (iZ x)] h = some (some (vI (iZ r)), h) ∧ -1 ≤ r ∧ r < 8 ∧ (r < 0 ↔ ¬ sgn x) := by
  obtain ⟨r, r1, r2, r3, r4⟩ := t_indexL (d + 1) (x := x) h 8 0 rfl
  refine ⟨r, ?_, r2, r3, r4.trans ?_⟩
  · rw [e_JStr_indexOf, e_JStr_indexOf3, e_JStr_isLatin1, ifp_f (show ¬ (1 : Int32) = 0 by decide), ifp_t (by rfl)]
    simp only [bI_s]
    rw [ifp_f (show ¬ (1 : Int32) = 0 by decide), t_len (d + 1) (by decide)]
    simp only [bI_s]
    rw [show iZ ((slen 0 : Nat) : Int) = iZ 8 from rfl]
    rw [e_JLat_indexOf, e_JLat_canEncode]
    have c1 : ¬ iZ x < (0 : Int32) := fun y => by rw [lit32, iz_lt (by omega)] at y; omega
    have c2 : ¬ (255 : Int32) < iZ x := fun y => by rw [lit32, iz_lt (by omega)] at y; omega
    rw [ifp_f c1, ifp_f c2]
    simp only [bI_s]
    rw [ifp_f (show ¬ (1 : Int32) = 0 by decide), e_JMath_max, ifp_r (r := some (some (vI (0 : Int32)), h)) (fun _ => rfl) (fun _ => rfl)]
    simp only [bI_s]
    rw [e_JMath_min, show nI (slen 0) = iZ 8 from rfl, ifp_r (r := some (some (vI (iZ 8)), h)) (fun _ => rfl) (fun _ => rfl)]
    simp only [bI_s]
    rw [ifp_t (show (0 : Int32) < iZ 8 by decide), e_JLat_indexOfChar]
    have := i8N x.toNat (by omega)
    rw [nI_iz, show ((x.toNat : Nat) : Int) = x by omega] at this
    rw [this]
    rw [show (0 : Int32) = iZ ((0 : Nat) : Int) from rfl, r1]
    rfl
  · have := sby0 x.toNat (by omega)
    rw [nI_iz, show ((x.toNat : Nat) : Int) = x by omega] at this
    unfold sgn
    refine (⟨fun y j j2 => y j (by omega) j2, fun y j _ j2 => y j j2⟩ : _ ↔ _).trans (this.trans ⟨fun y z => y (by omega), fun y z => y (by omega)⟩)
/-- signs of the class's tape -/
def TSg (h : Hp) (c : Int → Int) (n : Int) : Prop := (0 ≤ n ∧ n ≤ 1000) ∧ (∀ j, 0 ≤ j → j < n → hI h 3 j.toNat = iZ (c j)) ∧ ∀ j, 0 ≤ j → j < n → okS (c j)
theorem TSg.b {h : Hp} {c : Int → Int} {n : Int} (T : TSg h c n) {j : Int} (a : 0 ≤ j) (b : j < n) : 0 ≤ c j ∧ c j < 128 := by
  have := T.2.2 j a b
  unfold okS at this
  omega
/-- what the row of the tape tells of the token at s -/
def Txs (f : Nat → Int32) (c : Int → Int) (n s : Int) : Prop := f 1 = iZ n ∧ f 2 = iZ (kiX c n s) ∧ f 3 = iZ s ∧ f 4 = iZ (tkE c n s) ∧ (kiX c n s = 3 → f 5 = iZ (nvl c n s))
theorem t_wordL (d : Nat) {h : Hp} (X : SX h) {c : Int → Int} {n : Int} (T : TSg h c n) {s : Int} (hs : 0 ≤ s ∧ s < n) (l : ltr c s) : ∀ e : Int, s ≤ e → e ≤ n → fsk (ltr c) n e = fsk (ltr c) n s → ∀ f : Nat → Int32, f 1 = iZ n → f 3 = iZ s → f 4 = iZ e → ∃ f', L_Tape_readWord_0 (d + 1) 2 (wI h 2 f) = some (none, wI h 2 f') ∧ Txs f' c n s := by
  have tn := T.1
  have te : tkE c n s = fsk (ltr c) n s := by unfold tkE; rw [pif_f (by omega), pif_t l]
  have eb := tkE_b (c := c) hs.2
  have nx : ∀ (e : Int), fsk (ltr c) n e = e → fsk (ltr c) n e = fsk (ltr c) n s → ∀ f : Nat → Int32, f 1 = iZ n → f 3 = iZ s → f 4 = iZ e → ∃ f', L_Tape_readWord_39 (d + 1) 2 (wI h 2 f) = some (none, wI h 2 f') ∧ Txs f' c n s := by
    intro e e1 e2 f f1 f3 f4
    have ee : tkE c n s = e := by rw [te, ← e2, e1]
    rw [e_Tape_readWord_39]
    simp only [wI_I, f3, f4, iz_sub, sI_wI]
    have k1 : kiX c n s = pif (e - s ≤ 8) 2 1 := by unfold kiX; rw [pif_f (by omega), pif_t l, ee]
    by_cases q : 8 < e - s
    · rw [ifp_t (by rw [lit32]; exact (iz_lt (by omega)).mpr q)]
      refine ⟨_, rfl, f1, ?_, f3, ?_, fun y => ?_⟩
      · rw [up_e, k1, pif_f (by omega)]; rfl
      · rw [up_n _ _ (by decide), f4, ee]
      · rw [k1, pif_f (by omega)] at y; omega
    · rw [ifp_f (fun y => q (by rw [lit32] at y; exact (iz_lt (by omega)).mp y))]
      refine ⟨_, rfl, f1, ?_, f3, ?_, fun y => ?_⟩
      · rw [up_e, k1, pif_t (by omega)]; rfl
      · rw [up_n _ _ (by decide), f4, ee]
      · rw [k1, pif_t (by omega)] at y; omega
  refine lpZ n (fun e he h1 h2 h3 f f1 f3 f4 => ?_) (fun e he ih h1 h2 h3 f f1 f3 f4 => ?_)
  · rw [e_Tape_readWord_0]
    simp only [wI_I, f1, f4]
    rw [ifp_f (fun y => by have := (iz_lt (by omega)).mp y; omega)]
    exact nx e (fsk_e (by omega)) h3 f f1 f3 f4
  · rw [e_Tape_readWord_0]
    have tb := T.b (by omega : 0 ≤ e) he
    have rd : hI (wI h 2 f) 3 e.toNat = iZ (c e) := by rw [wI_n _ _ (by decide)]; exact T.2.1 e (by omega) he
    simp only [wI_I, wI_R, wI_N, X.r 2 0 3, X.n 3 1000, bR_s, f1, f4]
    rw [ifp_t ((iz_lt (by omega)).mpr he), ifp_t ((inb_iz (by omega)).mpr (by omega)), ix_iz (by omega), rd, t_letter d (by omega)]
    simp only [bI_s, sI_wI, wI_I, f4]
    by_cases q : ltr c e
    · rw [bZ_t q, ifp_f (by decide)]
      refine ih (by omega) (by omega) ?_ _ f1 f3 ?_
      · rw [← fsk_s he q]; exact h3
      · rw [up_e, lit32, iz_add]
    · rw [bZ_f q, ifp_t (by rfl)]
      exact nx e (fsk_e (fun y => q y.2)) h3 f f1 f3 f4
theorem t_numL (d : Nat) {h : Hp} (X : SX h) {c : Int → Int} {n : Int} (T : TSg h c n) {s : Int} (hs : 0 ≤ s ∧ s < n) (l' : ¬ ltr c s) (l : dgt c s) : ∀ e : Int, s ≤ e → e ≤ n → fsk (dgt c) n e = fsk (dgt c) n s → ∀ f : Nat → Int32, f 1 = iZ n → f 3 = iZ s → f 4 = iZ e → f 5 = iZ (dvl c s (e - s).toNat) → ∃ f', L_Tape_readNumber_5 (d + 1) 2 (wI h 2 f) = some (none, wI h 2 f') ∧ Txs f' c n s := by
  have tn := T.1
  have te : tkE c n s = fsk (dgt c) n s := by unfold tkE; rw [pif_f (by omega), pif_f l', pif_t l]
  have eb := tkE_b (c := c) hs.2
  have nx : ∀ (e : Int), fsk (dgt c) n e = e → fsk (dgt c) n e = fsk (dgt c) n s → ∀ f : Nat → Int32, f 1 = iZ n → f 3 = iZ s → f 4 = iZ e → f 5 = iZ (dvl c s (e - s).toNat) → ∃ f', L_Tape_readNumber_68 (d + 1) 2 (wI h 2 f) = some (none, wI h 2 f') ∧ Txs f' c n s := by
    intro e e1 e2 f f1 f3 f4 f5
    have ee : tkE c n s = e := by rw [te, ← e2, e1]
    rw [e_Tape_readNumber_68]
    simp only [wI_I, f3, f4, iz_sub, sI_wI]
    have k1 : kiX c n s = pif (e - s ≤ 4) 3 1 := by unfold kiX; rw [pif_f (by omega), pif_f l', pif_t l, ee]
    have k2 : nvl c n s = dvl c s (e - s).toNat := by unfold nvl; rw [ee]
    by_cases q : 4 < e - s
    · rw [ifp_t (by rw [lit32]; exact (iz_lt (by omega)).mpr q)]
      refine ⟨_, rfl, f1, ?_, f3, ?_, fun y => ?_⟩
      · rw [up_e, k1, pif_f (by omega)]; rfl
      · rw [up_n _ _ (by decide), f4, ee]
      · rw [k1, pif_f (by omega)] at y; omega
    · rw [ifp_f (fun y => q (by rw [lit32] at y; exact (iz_lt (by omega)).mp y))]
      refine ⟨_, rfl, f1, ?_, f3, ?_, fun y => ?_⟩
      · rw [up_e, k1, pif_t (by omega)]; rfl
      · rw [up_n _ _ (by decide), f4, ee]
      · rw [up_n _ _ (by decide), f5, k2]
  refine lpZ n (fun e he h1 h2 h3 f f1 f3 f4 f5 => ?_) (fun e he ih h1 h2 h3 f f1 f3 f4 f5 => ?_)
  · rw [e_Tape_readNumber_5]
    simp only [wI_I, f1, f4]
    rw [ifp_f (fun y => by have := (iz_lt (by omega)).mp y; omega)]
    exact nx e (fsk_e (by omega)) h3 f f1 f3 f4 f5
  · rw [e_Tape_readNumber_5]
    have tb := T.b (by omega : 0 ≤ e) he
    have rd : ∀ f, hI (wI h 2 f) 3 e.toNat = iZ (c e) := fun f => by rw [wI_n _ _ (by decide)]; exact T.2.1 e (by omega) he
    simp only [wI_I, wI_R, wI_N, X.r 2 0 3, X.n 3 1000, bR_s, f1, f4]
    have ib : inb (iZ e) 1000 = true := (inb_iz (by omega)).mpr (by omega)
    rw [ifp_t ((iz_lt (by omega)).mpr he), ifp_t ib, ix_iz (by omega), rd, t_digit d (by omega)]
    simp only [bI_s, sI_wI, wI_I, f4, f5, wI_R, wI_N, X.r 2 0 3, X.n 3 1000, bR_s]
    by_cases q : dgt c e
    · rw [bZ_t q, ifp_f (by decide), ifp_t ib, ix_iz (by omega), rd]
      refine ih (by omega) (by omega) ?_ _ f1 f3 ?_ ?_
      · rw [← fsk_s he q]; exact h3
      · rw [up_e, up_n _ _ (by decide), f4, lit32, iz_add]
      · rw [up_n _ _ (by decide), up_e, lit32, lit32, iz_mul, iz_add, iz_sub]
        refine congrArg iZ ?_
        rw [show (e + 1 - s).toNat = (e - s).toNat + 1 by omega]
        show _ = 10 * dvl c s (e - s).toNat + c (s + ((e - s).toNat : Nat)) - 48
        rw [show s + (((e - s).toNat : Nat) : Int) = e by omega, Int.mul_comm]
    · rw [bZ_f q, ifp_t (by rfl)]
      exact nx e (fsk_e (fun y => q y.2)) h3 f f1 f3 f4 f5
theorem t_adv47 (d : Nat) {h : Hp} (X : SX h) {c : Int → Int} {n : Int} (T : TSg h c n) {s : Int} (hs : 0 ≤ s ∧ s ≤ n) (st : s < n → ¬ bnk c s) (f : Nat → Int32) (f1 : f 1 = iZ n) (f3 : f 3 = iZ s) : ∃ f', L_Tape_advance_47 (d + 5) 2 (wI h 2 f) = some (none, wI h 2 f') ∧ Txs f' c n s := by
  have tn := T.1
  have g1 : (up f 4 (iZ s)) 1 = iZ n := f1
  have g3 : (up f 4 (iZ s)) 3 = iZ s := f3
  have g4 : (up f 4 (iZ s)) 4 = iZ s := up_e _ _ _
  rw [e_Tape_advance_47]
  simp only [wI_I, f3, sI_wI, g1, g3]
  by_cases q : s < n
  · have tb := T.b hs.1 q
    have rd : ∀ f, hI (wI h 2 f) 3 s.toNat = iZ (c s) := fun f => by rw [wI_n _ _ (by decide)]; exact T.2.1 s (by omega) q
    have ib : inb (iZ s) 1000 = true := (inb_iz (by omega)).mpr (by omega)
    rw [ifp_t ((iz_lt (by omega)).mpr q)]
    simp only [wI_R, wI_N, X.r 2 0 3, X.n 3 1000, bR_s]
    rw [ifp_t ib, ix_iz (by omega), rd, t_letter (d + 4) (by omega)]
    simp only [bI_s, wI_I, wI_R, wI_N, X.r 2 0 3, X.n 3 1000, bR_s, g3]
    by_cases l : ltr c s
    · rw [bZ_t l, ifp_f (by decide), e_Tape_readWord]
      obtain ⟨f', a, b⟩ := t_wordL (d + 3) X T ⟨hs.1, q⟩ l s (Int.le_refl _) hs.2 rfl _ g1 g3 g4
      exact ⟨f', by rw [a]; rfl, b⟩
    · rw [bZ_f l, ifp_t (by rfl), ifp_t ib, ix_iz (by omega), rd, t_digit (d + 4) (by omega)]
      simp only [bI_s, wI_I, wI_R, wI_N, X.r 2 0 3, X.n 3 1000, bR_s, g3]
      by_cases g : dgt c s
      · rw [bZ_t g, ifp_f (by decide), e_Tape_readNumber, sI_wI]
        obtain ⟨f', a, b⟩ := t_numL (d + 3) X T ⟨hs.1, q⟩ l g s (Int.le_refl _) hs.2 rfl (up (up f 4 (iZ s)) 5 (0 : Int32)) g1 g3 g4 (by rw [up_e, show (s - s).toNat = 0 by omega]; rfl)
        exact ⟨f', by rw [a]; rfl, b⟩
      · rw [bZ_f g, ifp_t (by rfl), ifp_t ib, ix_iz (by omega), rd]
        obtain ⟨r, r1, r2, r3, r4⟩ := t_index d tb (wI h 2 (up f 4 (iZ s)))
        rw [r1]
        simp only [bI_s]
        have te : tkE c n s = s + 1 := by unfold tkE; rw [pif_f (by omega), pif_f l, pif_f g]
        have k1 : kiX c n s = pif (sgn (c s)) (c s) 1 := by unfold kiX; rw [pif_f (by omega), pif_f l, pif_f g]
        have lr : (iZ r < (0 : Int32)) ↔ r < 0 := by rw [lit32]; exact iz_lt (by omega)
        have fin : ∀ w : Int, w = kiX c n s → w ≠ 3 → ∃ f', L_Tape_advance_143 (d + 5) 2 (iZ w) 2 (wI h 2 (up f 4 (iZ s))) = some (none, wI h 2 f') ∧ Txs f' c n s := by
          intro w ew w3
          rw [e_Tape_advance_143]
          simp only [sI_wI, wI_I]
          refine ⟨_, rfl, f1, ?_, f3, ?_, fun y => absurd (ew.trans y) w3⟩
          · rw [up_n _ _ (by decide), up_e, ew]
          · rw [up_e, up_n _ _ (by decide), g4, te, lit32, iz_add]
        by_cases z : sgn (c s)
        · rw [ifp_f (fun y => r4.mp (lr.mp y) z)]
          exact fin (c s) (by rw [k1, pif_t z]) (by unfold sgn at z; omega)
        · rw [ifp_t (lr.mpr (r4.mpr z))]
          exact fin 1 (by rw [k1, pif_f z]) (by decide)
  · rw [ifp_f (fun y => q ((iz_lt (by omega)).mp y))]
    have es : s = n := by omega
    have k1 : kiX c n s = 0 := by unfold kiX; rw [pif_t (by omega)]
    have te : tkE c n s = s := by unfold tkE; rw [pif_t (by omega)]
    refine ⟨_, rfl, f1, ?_, f3, ?_, fun y => by rw [k1] at y; omega⟩
    · rw [up_e, k1]; rfl
    · rw [up_n _ _ (by decide), g4, te]
theorem t_advL (d : Nat) {h : Hp} (X : SX h) {c : Int → Int} {n : Int} (T : TSg h c n) : ∀ e : Int, 0 ≤ e → e ≤ n → ∀ f : Nat → Int32, f 1 = iZ n → f 3 = iZ e → ∃ f', L_Tape_advance_8 (d + 5) 2 (wI h 2 f) = some (none, wI h 2 f') ∧ Txs f' c n (tkS c n e) := by
  have tn := T.1
  refine lpZ n (fun e he h1 h2 f f1 f3 => ?_) (fun e he ih h1 h2 f f1 f3 => ?_)
  · rw [e_Tape_advance_8]
    simp only [wI_I, f1, f3]
    rw [ifp_f (fun y => by have := (iz_lt (by omega)).mp y; omega)]
    have : tkS c n e = e := fsk_e (by omega)
    rw [this]
    exact t_adv47 d X T ⟨h1, h2⟩ (fun y => by omega) f f1 f3
  · rw [e_Tape_advance_8]
    have tb := T.b h1 he
    have rd : hI (wI h 2 f) 3 e.toNat = iZ (c e) := by rw [wI_n _ _ (by decide)]; exact T.2.1 e (by omega) he
    simp only [wI_I, wI_R, wI_N, X.r 2 0 3, X.n 3 1000, bR_s, f1, f3]
    rw [ifp_t ((iz_lt (by omega)).mpr he), ifp_t ((inb_iz (by omega)).mpr (by omega)), ix_iz (by omega), rd, t_blank (d + 4) (by omega)]
    simp only [bI_s, sI_wI, wI_I, f3]
    by_cases q : bnk c e
    · rw [bZ_t q, ifp_f (by decide)]
      have : tkS c n e = tkS c n (e + 1) := fsk_s he q
      rw [this]
      exact ih (by omega) (by omega) _ f1 (by rw [up_e, lit32, iz_add])
    · rw [bZ_f q, ifp_t (by rfl)]
      have : tkS c n e = e := fsk_e (fun y => q y.2)
      rw [this]
      exact t_adv47 d X T ⟨h1, h2⟩ (fun _ => q) f f1 f3
theorem x_advance (d : Nat) {h : Hp} (X : SX h) {c : Int → Int} {n e : Int} (T : TSg h c n) (he : 0 ≤ e ∧ e ≤ n) (h1 : hI h 2 1 = iZ n) (h4 : hI h 2 4 = iZ e) : ∃ f', evm (d + 6) 69 [vR 8 2] h = some (none, wI h 2 f') ∧ Txs f' c n (tkS c n e) := by
  rw [e_Tape_advance, sI_w]
  exact t_advL d X T e he.1 he.2 _ (by rw [up_n _ _ (by decide)]; exact h1) (by rw [up_e]; exact h4)
