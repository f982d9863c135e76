/-! words -/
theorem sbN : ∀ r : Nat, r < 23 → ∀ j : Nat, j < slen r → chr (sby r j &&& (255 : Int32)) = sby r j ∧ isCh (sby r j) = true ∧ 0 ≤ (sby r j).toInt ∧ (sby r j).toInt ≤ 122 ∧ (1 ≤ r → 97 ≤ (sby r j).toInt) := by decide +kernel
theorem t_chr (d : Nat) {r j : Nat} (hr : r < 23) (hj : j < slen r) (h : Hp) : evm (d + 4) 245 [vR 40 r, vI (iZ j)] h = some (some (vI (sby r j)), h) := by
  have s8 := (slN r hr).2.1
  have sb := sbN r hr j hj
  rw [e_JStr_charAt, e_JStr_isLatin1, ifp_f (show ¬ (1 : Int32) = 0 by decide), ifp_t (by rfl)]
  simp only [bI_s]
  rw [ifp_f (show ¬ (1 : Int32) = 0 by decide), e_JLat_charAt, e_JStr_checkIndex, e_JPre_checkIndex]
  rw [ifp_f (fun y => by rw [lit32, iz_lt (by omega)] at y; omega), nI_iz, ifp_t ((iz_lt (by omega)).mpr (by omega))]
  simp only [bI_s, bV_s]
  rw [ifp_t ((inb_iz (by omega)).mpr (by omega)), ix_iz (by omega), Int.toNat_natCast, sb.1, sb.2.1]
  simp only [cond_true, bI_s, sb.2.1]
def WdS (c : Int → Int) (n s : Int) (r : Nat) : Prop := kiX c n s = 2 ∧ tkE c n s - s = slen r ∧ ∀ j : Nat, j < slen r → iZ (c (s + j)) = sby r j
theorem t_isWordL (d : Nat) {h : Hp} (X : SX h) {c : Int → Int} {n : Int} (T : TSg h c n) {s : Int} {r : Nat} (hr : r < 23) (hs : 0 ≤ s ∧ s + slen r ≤ n) (h3 : hI h 2 3 = iZ s) : ∀ (t j : Nat), j + t = slen r → L_Tape_isWord_28 (d + 4) 2 r (iZ j) h = some (some (vI (bZ (∀ k : Nat, j ≤ k → k < slen r → iZ (c (s + k)) = sby r k))), h) := by
  have tn := T.1
  have s8 := (slN r hr).2.1
  intro t
  induction t with
  | zero =>
    intro j hj
    rw [e_Tape_isWord_28, t_len (d + 2) hr]
    simp only [bI_s]
    rw [ifp_f (fun y => by have := (iz_lt (by omega)).mp y; omega)]
    exact rb_t (fun k k1 k2 => by omega)
  | succ t ih =>
    intro j hj
    rw [e_Tape_isWord_28, t_len (d + 2) hr]
    simp only [bI_s, X.r 2 0 3, X.n 3 1000, bR_s, h3, iz_add]
    rw [ifp_t ((iz_lt (by omega)).mpr (by omega)), ifp_t ((inb_iz (by omega)).mpr (by omega)), t_chr d hr (by omega), ix_iz (by omega)]
    simp only [bI_s]
    rw [T.2.1 (s + j) (by omega) (by omega)]
    by_cases q : iZ (c (s + j)) = sby r j
    · rw [ifp_t q, lit32, iz_add]
      have := ih (j + 1) (by omega)
      rw [show ((j + 1 : Nat) : Int) = (j : Int) + 1 from rfl] at this
      rw [show (OfNat.ofNat 1 : Int) = 1 from rfl, this]
      refine congrArg (fun x => some (some (vI x), h)) (bZ_c ⟨fun y k k1 k2 => ?_, fun y k k1 k2 => y k (by omega) k2⟩)
      by_cases e : k = j
      · rw [e]; exact q
      · exact y k (by omega) k2
    · rw [ifp_f q]
      exact rb_f (fun y => q (y j (Nat.le_refl _) (by omega)))
theorem x_isWord (d : Nat) {h : Hp} (X : SX h) {c : Int → Int} {n s : Int} (T : TSg h c n) (hs : 0 ≤ s ∧ s ≤ n) (F : Txs (hI h 2) c n s) {r : Nat} (hr : r < 23) : evm (d + 5) 70 [vR 8 2, vR 40 r] h = some (some (vI (bZ (WdS c n s r))), h) := by
  have tn := T.1
  have s8 := (slN r hr).2
  obtain ⟨f1, f2, f3, f4, f5⟩ := F
  have kb : 0 ≤ kiX c n s ∧ kiX c n s < 128 := by
    unfold kiX
    by_cases q : n ≤ s
    · rw [pif_t q]; omega
    · have := T.b hs.1 (by omega : s < n)
      rw [pif_f q]
      unfold pif
      repeat' split
      all_goals omega
  have eb : s ≤ tkE c n s ∧ tkE c n s ≤ n := by
    by_cases q : s < n
    · have := tkE_b (c := c) q; omega
    · unfold tkE; rw [pif_t (by omega)]; omega
  rw [e_Tape_isWord]
  simp only [f2, f3, f4, iz_sub]
  by_cases k : kiX c n s = 2
  · rw [ifp_t (by rw [k]; rfl), t_len (d + 2) hr]
    simp only [bI_s, f3, f4, iz_sub]
    by_cases g : tkE c n s - s = slen r
    · rw [ifp_t (by rw [g]), show (0 : Int32) = iZ ((0 : Nat) : Int) from rfl, t_isWordL d X T hr (by omega) f3 (slen r) 0 (by omega)]
      refine congrArg (fun x => some (some (vI x), h)) (bZ_c ⟨fun y => ⟨k, g, fun j j1 => y j (by omega) j1⟩, fun y j _ j2 => y.2.2 j j2⟩)
    · rw [ifp_f (fun y => g ((iz_eq (by omega)).mp y).symm)]
      exact rb_f (fun y => g y.2.1)
  · rw [ifp_f (fun y => k (by rw [lit32] at y; exact (iz_eq (by omega)).mp y))]
    exact rb_f (fun y => k y.1)
/-! a word's number -/
theorem hvl_b {c : Int → Int} {s : Int} : ∀ k : Nat, (∀ j : Nat, j < k → 97 ≤ c (s + j) ∧ c (s + j) ≤ 122) → 0 ≤ hvl c s k ∧ hvl c s k + 1 ≤ ((37 ^ k : Nat) : Int) := by
  intro k
  induction k with
  | zero => intro _; exact ⟨Int.le_refl _, Int.le_refl _⟩
  | succ k ih =>
    intro a
    have b := ih (fun j hj => a j (by omega))
    have e := a k (by omega)
    show 0 ≤ 37 * hvl c s k + (c (s + k) - 96) ∧ 37 * hvl c s k + (c (s + k) - 96) + 1 ≤ _
    rw [Nat.pow_succ]
    omega
theorem hvl_j {c c' : Int → Int} {s s' : Int} : ∀ k k' : Nat, (∀ j : Nat, j < k → 97 ≤ c (s + j) ∧ c (s + j) ≤ 122) → (∀ j : Nat, j < k' → 97 ≤ c' (s' + j) ∧ c' (s' + j) ≤ 122) → hvl c s k = hvl c' s' k' → k = k' ∧ ∀ j : Nat, j < k → c (s + j) = c' (s' + j) := by
  intro k
  induction k with
  | zero =>
    intro k' a b e
    cases k' with
    | zero => exact ⟨rfl, fun j hj => by omega⟩
    | succ k' =>
      have b' := hvl_b k' (fun j hj => b j (by omega))
      have b'' := b k' (by omega)
      have e' : (0 : Int) = 37 * hvl c' s' k' + (c' (s' + k') - 96) := e
      omega
  | succ k ih =>
    intro k' a b e
    have a' := hvl_b k (fun j hj => a j (by omega))
    have a'' := a k (by omega)
    cases k' with
    | zero =>
      have e' : 37 * hvl c s k + (c (s + k) - 96) = 0 := e
      omega
    | succ k' =>
      have b' := hvl_b k' (fun j hj => b j (by omega))
      have b'' := b k' (by omega)
      have e' : 37 * hvl c s k + (c (s + k) - 96) = 37 * hvl c' s' k' + (c' (s' + k') - 96) := e
      have i := ih k' (fun j hj => a j (by omega)) (fun j hj => b j (by omega)) (by omega)
      refine ⟨by omega, fun j hj => ?_⟩
      by_cases q : j = k
      · subst q
        have : j = k' := i.1
        subst this
        omega
      · exact i.2 j (by omega)
theorem dvl_b {c : Int → Int} {s : Int} : ∀ k : Nat, (∀ j : Nat, j < k → 48 ≤ c (s + j) ∧ c (s + j) ≤ 57) → 0 ≤ dvl c s k ∧ dvl c s k + 1 ≤ ((10 ^ k : Nat) : Int) := by
  intro k
  induction k with
  | zero => intro _; exact ⟨Int.le_refl _, Int.le_refl _⟩
  | succ k ih =>
    intro a
    have b := ih (fun j hj => a j (by omega))
    have e := a k (by omega)
    show 0 ≤ 10 * dvl c s k + c (s + k) - 48 ∧ 10 * dvl c s k + c (s + k) - 48 + 1 ≤ _
    rw [Nat.pow_succ]
    omega
/-- a word of the model is the class's string -/
def wsr (w : Nat) : Nat := [1, 2, 3, 4, 6, 5, 7, 8, 9, 10, 11, 12, 13, 14, 15, 16, 21, 22, 17, 18, 19, 20].getD w 0
def sbz (r : Nat) : Int → Int := fun j => (sby r j.toNat).toInt
def whv (w : Nat) : Int := hvl (sbz (wsr w)) 0 (slen (wsr w))
def MWd (h : Hp) : Prop := ∀ w : Nat, w < 22 → hL h 73 w = jZ (whv w)
theorem wsrN : ∀ w : Nat, w < 22 → 1 ≤ wsr w ∧ wsr w < 23 := by decide
theorem wd_h {c : Int → Int} {n s : Int} (hs : 0 ≤ s ∧ s < n) (k : kiX c n s = 2) {w : Nat} (hw : w < 22) (l : ltr c s) (te : tkE c n s - s ≤ 8) : hvl c s (tkE c n s - s).toNat = whv w ↔ WdS c n s (wsr w) := by
  have wr := wsrN w hw
  have eb := tkE_b (c := c) hs.2
  have al : ∀ j : Nat, j < (tkE c n s - s).toNat → 97 ≤ c (s + j) ∧ c (s + j) ≤ 122 := by
    intro j hj
    have e : tkE c n s = fsk (ltr c) n s := by unfold tkE; rw [pif_f (by omega), pif_t l]
    exact fsk_a (P := ltr c) (n := n) s (by omega) (s + j) (by omega) (by rw [← e]; omega)
  have wl : ∀ j : Nat, j < slen (wsr w) → 97 ≤ sbz (wsr w) (0 + j) ∧ sbz (wsr w) (0 + j) ≤ 122 := by
    intro j hj
    have := sbN (wsr w) wr.2 j hj
    unfold sbz
    rw [Int.zero_add, Int.toNat_natCast]
    exact ⟨this.2.2.2.2 wr.1, this.2.2.2.1⟩
  constructor
  · intro e
    obtain ⟨i1, i2⟩ := hvl_j _ _ al wl e
    refine ⟨k, by omega, fun j hj => ?_⟩
    rw [i2 j (by omega)]
    unfold sbz
    rw [Int.zero_add, Int.toNat_natCast]
    exact (i32 _).symm
  · rintro ⟨_, e, a⟩
    have key : ∀ m : Nat, m ≤ slen (wsr w) → hvl c s m = hvl (sbz (wsr w)) 0 m := by
      intro m
      induction m with
      | zero => intro _; rfl
      | succ m ih =>
        intro hm
        show 37 * hvl c s m + (c (s + m) - 96) = 37 * hvl (sbz (wsr w)) 0 m + (sbz (wsr w) (0 + m) - 96)
        rw [ih (by omega)]
        have a1 := a m (by omega)
        have a2 := al m (by omega)
        have : sbz (wsr w) (0 + m) = c (s + m) := by
          unfold sbz
          rw [Int.zero_add, Int.toNat_natCast, ← a1, iz_i (by omega) (by omega)]
        rw [this]
    unfold whv
    rw [show (tkE c n s - s).toNat = slen (wsr w) by omega]
    exact key _ (Nat.le_refl _)
