/-! reading: what both readers do at a token -/
theorem kX_b {h : Hp} {c : Int → Int} {n s : Int} (T : TSg h c n) (hs : 0 ≤ s) : 0 ≤ kiX c n s ∧ kiX c n s < 128 := by
  unfold kiX
  by_cases q : n ≤ s
  · rw [pif_t q]; omega
  · have := T.b hs (by omega : s < n)
    rw [pif_f q]
    unfold pif
    repeat' split
    all_goals omega
theorem kX_w {c : Int → Int} {n s : Int} (T : ∀ j, 0 ≤ j → j < n → okS (c j)) (hs : 0 ≤ s) (k : kiX c n s = 2) : s < n ∧ ltr c s ∧ tkE c n s - s ≤ 8 := by
  unfold kiX at k
  by_cases q : n ≤ s
  · rw [pif_t q] at k; omega
  · rw [pif_f q] at k
    by_cases l : ltr c s
    · rw [pif_t l] at k
      by_cases z : tkE c n s - s ≤ 8
      · exact ⟨by omega, l, z⟩
      · rw [pif_f z] at k; omega
    · rw [pif_f l] at k
      by_cases g : dgt c s
      · rw [pif_t g] at k
        unfold pif at k
        split at k <;> omega
      · rw [pif_f g] at k
        by_cases z : sgn (c s)
        · rw [pif_t z] at k; unfold sgn at z; omega
        · rw [pif_f z] at k; omega
theorem kX_n {c : Int → Int} {n s : Int} (T : ∀ j, 0 ≤ j → j < n → okS (c j)) (hs : 0 ≤ s) (k : kiX c n s = 3) : s < n ∧ ¬ ltr c s ∧ dgt c s ∧ tkE c n s - s ≤ 4 ∧ 0 ≤ nvl c n s ∧ nvl c n s ≤ 9999 := by
  unfold kiX at k
  by_cases q : n ≤ s
  · rw [pif_t q] at k; omega
  · rw [pif_f q] at k
    by_cases l : ltr c s
    · rw [pif_t l] at k
      unfold pif at k
      split at k <;> omega
    · rw [pif_f l] at k
      by_cases g : dgt c s
      · rw [pif_t g] at k
        by_cases z : tkE c n s - s ≤ 4
        · refine ⟨by omega, l, g, z, ?_⟩
          have te : tkE c n s = fsk (dgt c) n s := by unfold tkE; rw [pif_f q, pif_f l, pif_t g]
          have eb := tkE_b (c := c) (by omega : s < n)
          have b := dvl_b (c := c) (s := s) (tkE c n s - s).toNat (fun j hj => fsk_a (P := dgt c) (n := n) s (by omega) (s + j) (by omega) (by rw [← te]; omega))
          have p4 : (10 : Nat) ^ (tkE c n s - s).toNat ≤ 10 ^ 4 := Nat.pow_le_pow_right (by decide) (by omega)
          unfold nvl
          have : (10 : Nat) ^ 4 = 10000 := by decide
          omega
        · rw [pif_f z] at k; omega
      · rw [pif_f g] at k
        by_cases z : sgn (c s)
        · rw [pif_t z] at k; unfold sgn at z; omega
        · rw [pif_f z] at k; omega
/-- the class's reader is at token i; all is well so far -/
def JX (h : Hp) (c : Int → Int) (n : Int) (i : Nat) : Prop := SX h ∧ TSg h c n ∧ Txs (hI h 2) c n (Tok c n i) ∧ hI h 1 2 = iZ 0
def pXf (a b : Hp) : Prop := b.2 = a.2 ∧ (∀ r, r ≠ 1 → r ≠ 2 → hI b r = hI a r) ∧ hI b 1 1 = hI a 1 1
theorem pXf.rf (a : Hp) : pXf a a := ⟨rfl, fun _ _ _ => rfl, rfl⟩
theorem pXf.tr {a b c : Hp} (x : pXf a b) (y : pXf b c) : pXf a c := ⟨y.1.trans x.1, fun r r1 r2 => (y.2.1 r r1 r2).trans (x.2.1 r r1 r2), y.2.2.trans x.2.2⟩
theorem pXf.s (a : Hp) {k : Nat} (v : Int32) (hk : k ≠ 1) : pXf a (sI a 1 k v) := ⟨rfl, fun r r1 _ => by rw [sI_w, wI_n _ _ r1], by rw [sI_w, wI_I, up_n _ _ (by omega)]⟩
theorem pXf.w (a : Hp) (f : Nat → Int32) : pXf a (wI a 2 f) := ⟨rfl, fun r _ r2 => by rw [wI_n _ _ r2], by rw [wI_n _ _ (by decide)]⟩
theorem sx_e {a b : Hp} (e : b.2 = a.2) (X : SX a) : SX b := by
  have e1 : hR b = hR a := congrArg (fun x => x.2.1) e
  have e2 : hN b = hN a := congrArg (fun x => x.2.2.2.1) e
  unfold SX; rw [e1, e2]; exact X
theorem sm_e {a b : Hp} (e : b.2 = a.2) (X : SM a) : SM b := by
  have e1 : hR b = hR a := congrArg (fun x => x.2.1) e
  have e2 : hN b = hN a := congrArg (fun x => x.2.2.2.1) e
  unfold SM; rw [e1, e2]; exact X
theorem TSg.tr {a b : Hp} {c : Int → Int} {n : Int} (T : TSg a c n) (e : hI b 3 = hI a 3) : TSg b c n := by
  unfold TSg; rw [e]; exact T
theorem x_fl {d : Nat} (hd : 1 ≤ d) {h : Hp} {c : Int → Int} {n : Int} {i : Nat} (J : JX h c n i) (k : Int) : evm d 60 [vR 6 1, vI (iZ k)] h = some (some (vI (iZ 0)), sI h 1 2 (iZ (k + 16 * Tok c n i))) := by
  obtain ⟨d, rfl⟩ : ∃ e, d = e + 1 := ⟨d - 1, by omega⟩
  rw [e_StairReader_fail]
  simp only [J.1.r 1 0 2, bR_s, J.2.2.1.2.2.1, lit32, iz_mul, iz_add]
theorem x_av {d : Nat} (hd : 6 ≤ d) {h : Hp} {c : Int → Int} {n : Int} {i : Nat} (J : JX h c n i) : ∃ h', evm d 69 [vR 8 2] h = some (none, h') ∧ JX h' c n (i + 1) ∧ pXf h h' ∧ hI h' 1 = hI h 1 := by
  obtain ⟨d, rfl⟩ : ∃ e, d = e + 6 := ⟨d - 6, by omega⟩
  obtain ⟨X, T, F, f0⟩ := J
  have tb := Tok_b (c := c) T.1.1 i
  have te : 0 ≤ tkE c n (Tok c n i) ∧ tkE c n (Tok c n i) ≤ n := by
    by_cases q : Tok c n i < n
    · have := tkE_b (c := c) q; omega
    · unfold tkE; rw [pif_t (by omega)]; exact tb
  obtain ⟨f', a, b⟩ := x_advance d X T te F.1 F.2.2.2.1
  refine ⟨_, a, ⟨X, T.tr (wI_n _ _ (by decide)), by rw [wI_I]; exact b, by rw [wI_n _ _ (by decide)]; exact f0⟩, pXf.w _ _, wI_n _ _ (by decide)⟩
theorem JX.s3 {h : Hp} {c : Int → Int} {n : Int} {i : Nat} (J : JX h c n i) {k : Nat} (hk : k ≠ 2) (v : Int32) : JX (sI h 1 k v) c n i := by
  obtain ⟨X, T, F, f0⟩ := J
  exact ⟨X, T.tr (by rw [sI_w, wI_n _ _ (by decide)]), by rw [sI_w, wI_n _ _ (by decide)]; exact F, by rw [sI_w, wI_I, up_n _ _ (by omega)]; exact f0⟩
/-- what is wrong with a number -/
noncomputable def nfc (c : Int → Int) (n : Int) (i : Nat) (lo hi : Int) : Int := pif (kiX c n (Tok c n i) = 3) (pif (lo ≤ nvl c n (Tok c n i) ∧ nvl c n (Tok c n i) ≤ hi) 0 4) 1
theorem nfc_0 {c : Int → Int} {n : Int} {i : Nat} {lo hi : Int} : nfc c n i lo hi = 0 ↔ kiX c n (Tok c n i) = 3 ∧ lo ≤ nvl c n (Tok c n i) ∧ nvl c n (Tok c n i) ≤ hi := by
  unfold nfc
  by_cases a : kiX c n (Tok c n i) = 3
  · rw [pif_t a]
    by_cases b : lo ≤ nvl c n (Tok c n i) ∧ nvl c n (Tok c n i) ≤ hi
    · rw [pif_t b]; exact ⟨fun _ => ⟨a, b⟩, fun _ => rfl⟩
    · rw [pif_f b]; exact ⟨fun y => by omega, fun y => absurd y.2 b⟩
  · rw [pif_f a]; exact ⟨fun y => by omega, fun y => absurd y.1 a⟩
theorem nfc_b (c : Int → Int) (n : Int) (i : Nat) (lo hi : Int) : nfc c n i lo hi = 0 ∨ nfc c n i lo hi = 1 ∨ nfc c n i lo hi = 4 := by
  unfold nfc pif
  repeat' split
  all_goals omega
theorem x_in {d : Nat} (hd : 2 ≤ d) {h : Hp} {c : Int → Int} {n : Int} {i : Nat} (J : JX h c n i) {lo hi : Int} (hl : -2147483648 ≤ lo ∧ lo < 2147483648) (hh : -2147483648 ≤ hi ∧ hi < 2147483648) : (nfc c n i lo hi = 0 → evm d 56 [vR 6 1, vI (iZ lo), vI (iZ hi)] h = some (some (vI (iZ 1)), h)) ∧ (nfc c n i lo hi ≠ 0 → evm d 56 [vR 6 1, vI (iZ lo), vI (iZ hi)] h = some (some (vI (iZ 0)), sI h 1 2 (iZ (nfc c n i lo hi + 16 * Tok c n i)))) := by
  obtain ⟨d, rfl⟩ : ∃ e, d = e + 2 := ⟨d - 2, by omega⟩
  have T := J.2.1
  have F := J.2.2.1
  have kb := kX_b T (Tok_b (c := c) T.1.1 i).1
  have f4 : nfc c n i lo hi = 4 → L_StairReader_isNumber_39 (d + 1) 1 h = some (some (vI (iZ 0)), sI h 1 2 (iZ (nfc c n i lo hi + 16 * Tok c n i))) := by
    intro e
    rw [e_StairReader_isNumber_39, lit32, x_fl (by omega) J]
    simp only [bI_s]
    rw [ifp_t (by rfl), e]
    rfl
  rw [e_StairReader_isNumber]
  simp only [J.1.r 1 0 2, bR_s, F.2.1]
  by_cases k : kiX c n (Tok c n i) = 3
  · have v := kX_n T.2.2 (Tok_b (c := c) T.1.1 i).1 k
    rw [ifp_t (by rw [k]; rfl), F.2.2.2.2 k]
    by_cases b : lo ≤ nvl c n (Tok c n i) ∧ nvl c n (Tok c n i) ≤ hi
    · rw [ifp_f (fun y => by have := (iz_lt (by omega)).mp y; omega), ifp_f (fun y => by have := (iz_lt (by omega)).mp y; omega)]
      refine ⟨fun _ => rfl, fun y => absurd (nfc_0.mpr ⟨k, b⟩) y⟩
    · have e : nfc c n i lo hi = 4 := by unfold nfc; rw [pif_t k, pif_f b]
      refine ⟨fun y => by omega, fun _ => ?_⟩
      by_cases q : nvl c n (Tok c n i) < lo
      · rw [ifp_t ((iz_lt (by omega)).mpr q)]; exact f4 e
      · rw [ifp_f (fun y => q ((iz_lt (by omega)).mp y)), ifp_t ((iz_lt (by omega)).mpr (by omega))]; exact f4 e
  · have e : nfc c n i lo hi = 1 := by unfold nfc; rw [pif_f k]
    refine ⟨fun y => by omega, fun _ => ?_⟩
    rw [ifp_f (fun y => k (by rw [lit32] at y; exact (iz_eq (by omega)).mp y)), lit32, x_fl (by omega) J]
    simp only [bI_s, isB_0, cond_true]
    rw [e]
theorem x_tn {d : Nat} (hd : 7 ≤ d) {h : Hp} {c : Int → Int} {n : Int} {i : Nat} (J : JX h c n i) {lo hi : Int} (hl : -2147483648 ≤ lo ∧ lo < 2147483648) (hh : -2147483648 ≤ hi ∧ hi < 2147483648) : (nfc c n i lo hi = 0 → ∃ h', evm d 57 [vR 6 1, vI (iZ lo), vI (iZ hi)] h = some (some (vI (iZ 1)), h') ∧ JX h' c n (i + 1) ∧ pXf h h' ∧ hI h' 1 3 = iZ (nvl c n (Tok c n i))) ∧ (nfc c n i lo hi ≠ 0 → evm d 57 [vR 6 1, vI (iZ lo), vI (iZ hi)] h = some (some (vI (iZ 0)), sI h 1 2 (iZ (nfc c n i lo hi + 16 * Tok c n i)))) := by
  obtain ⟨d, rfl⟩ : ∃ e, d = e + 1 := ⟨d - 1, by omega⟩
  have I := x_in (d := d) (by omega) J hl hh
  rw [e_StairReader_takeNumber]
  refine ⟨fun z => ?_, fun z => ?_⟩
  · rw [I.1 z]
    simp only [bI_s]
    rw [ifp_f (by decide)]
    have e5 := J.2.2.1.2.2.2.2 (nfc_0.mp z).1
    have J' := J.s3 (k := 3) (by decide) (hI h 2 5)
    obtain ⟨h', a, b, p, q⟩ := x_av (d := d) (by omega) J'
    refine ⟨h', ?_, b, (pXf.s _ _ (by decide)).tr p, ?_⟩
    · simp only [J.1.r 1 0 2, J'.1.r 1 0 2, bR_s, a, bV_s]
      rfl
    · rw [q, sI_w, wI_I, up_e, e5]
  · rw [I.2 z]
    simp only [bI_s]
    rw [ifp_t (by rfl)]
    rfl
theorem x_tw {d : Nat} (hd : 7 ≤ d) {h : Hp} {c : Int → Int} {n : Int} {i : Nat} (J : JX h c n i) {r : Nat} (hr : r < 23) : (WdS c n (Tok c n i) r → ∃ h', evm d 58 [vR 6 1, vR 40 r] h = some (some (vI (iZ 1)), h') ∧ JX h' c n (i + 1) ∧ pXf h h' ∧ hI h' 1 = hI h 1) ∧ (¬ WdS c n (Tok c n i) r → evm d 58 [vR 6 1, vR 40 r] h = some (some (vI (iZ 0)), sI h 1 2 (iZ (1 + 16 * Tok c n i)))) := by
  obtain ⟨d, rfl⟩ : ∃ e, d = e + 6 := ⟨d - 6, by omega⟩
  have T := J.2.1
  have W := x_isWord d J.1 T (Tok_b (c := c) T.1.1 i) J.2.2.1 hr
  rw [e_StairReader_takeWord]
  simp only [J.1.r 1 0 2, bR_s, W, bI_s]
  refine ⟨fun z => ?_, fun z => ?_⟩
  · obtain ⟨h', a, b, p, q⟩ := x_av (d := d + 5) (by omega) J
    rw [bZ_t z, ifp_f (by decide), a]
    exact ⟨h', rfl, b, p, q⟩
  · rw [bZ_f z, ifp_t (by rfl), lit32, x_fl (by omega) J]
    simp only [bI_s, isB_0, cond_true]
theorem x_ts {d : Nat} (hd : 7 ≤ d) {h : Hp} {c : Int → Int} {n : Int} {i : Nat} (J : JX h c n i) {r : Int} (hr : 0 ≤ r ∧ r < 128) : (kiX c n (Tok c n i) = r → ∃ h', evm d 59 [vR 6 1, vI (iZ r)] h = some (some (vI (iZ 1)), h') ∧ JX h' c n (i + 1) ∧ pXf h h' ∧ hI h' 1 = hI h 1) ∧ (kiX c n (Tok c n i) ≠ r → evm d 59 [vR 6 1, vI (iZ r)] h = some (some (vI (iZ 0)), sI h 1 2 (iZ (1 + 16 * Tok c n i)))) := by
  obtain ⟨d, rfl⟩ : ∃ e, d = e + 1 := ⟨d - 1, by omega⟩
  have T := J.2.1
  have kb := kX_b T (Tok_b (c := c) T.1.1 i).1
  rw [e_StairReader_takeSign]
  simp only [J.1.r 1 0 2, bR_s, J.2.2.1.2.1]
  refine ⟨fun z => ?_, fun z => ?_⟩
  · obtain ⟨h', a, b, p, q⟩ := x_av (d := d) (by omega) J
    rw [ifp_t (by rw [z]), a]
    exact ⟨h', rfl, b, p, q⟩
  · rw [ifp_f (fun y => z ((iz_eq (by omega)).mp y)), lit32, x_fl (by omega) J]
    simp only [bI_s, isB_0, cond_true]
/-! the model's reader -/
def JM (h : Hp) (c : Int → Int) (n : Int) (N i : Nat) : Prop := (SM h ∧ MWd h ∧ TTm h c n N ∧ 0 ≤ n ∧ n ≤ 1000 ∧ ∀ j, 0 ≤ j → j < n → okS (c j)) ∧ (hI h 68 7 = iZ i ∧ i ≤ N) ∧ hI h 68 8 = iZ 0
/-- the model's reader has found a fault -/
def JF (h : Hp) (F : Int) : Prop := SM h ∧ hI h 68 8 = iZ F ∧ 1 ≤ F ∧ F ≤ 20000
def pMf (a b : Hp) : Prop := b.2 = a.2 ∧ ∀ r k, ¬ (r = 68 ∧ (k = 7 ∨ k = 8)) → hI b r k = hI a r k
theorem pMf.rf (a : Hp) : pMf a a := ⟨rfl, fun _ _ _ => rfl⟩
theorem pMf.tr {a b c : Hp} (x : pMf a b) (y : pMf b c) : pMf a c := ⟨y.1.trans x.1, fun r k z => (y.2 r k z).trans (x.2 r k z)⟩
theorem sI_o (h : Hp) {r k r' k' : Nat} (v : Int32) (z : ¬ (r' = r ∧ k' = k)) : hI (sI h r k v) r' k' = hI h r' k' := if_neg z
theorem sI_e (h : Hp) (r k : Nat) (v : Int32) : hI (sI h r k v) r k = v := if_pos ⟨rfl, rfl⟩
theorem pMf.s (a : Hp) {k : Nat} (v : Int32) (hk : k = 7 ∨ k = 8) : pMf a (sI a 68 k v) := ⟨rfl, fun r j z => sI_o a v (fun y => z ⟨y.1, by omega⟩)⟩
theorem TTm.tr {a b : Hp} {c : Int → Int} {n : Int} {N : Nat} (T : TTm a c n N) (e : b.2 = a.2) (e1 : ∀ k, hI b 70 k = hI a 70 k) (e2 : ∀ k, hI b 71 k = hI a 71 k) : TTm b c n N := by
  have e3 : hL b = hL a := congrArg (fun x => x.1) e
  obtain ⟨t1, t2, t3, t4, t5⟩ := T
  refine ⟨t1, t2, t3, fun i hi => ?_, fun i hi => ?_⟩
  · rw [e1, e2]; exact t4 i hi
  · rw [e3]; exact t5 i hi
theorem JM.tr {a b : Hp} {c : Int → Int} {n : Int} {N i j : Nat} (J : JM a c n N i) (e : b.2 = a.2) (e1 : ∀ r k, r = 70 ∨ r = 71 → hI b r k = hI a r k) (e2 : hI b 68 7 = iZ j) (ej : j ≤ N) (e3 : hI b 68 8 = iZ 0) : JM b c n N j := by
  obtain ⟨⟨m1, m2, m3, m4⟩, m5, m6⟩ := J
  have e4 : hL b = hL a := congrArg (fun x => x.1) e
  refine ⟨⟨sm_e e m1, fun w hw => ?_, m3.tr e (fun k => e1 _ _ (Or.inl rfl)) (fun k => e1 _ _ (Or.inr rfl)), m4⟩, ⟨e2, ej⟩, e3⟩
  rw [e4]; exact m2 w hw
theorem u_wr {d : Nat} (hd : 1 ≤ d) {h : Hp} {c : Int → Int} {n : Int} {N i : Nat} (J : JM h c n N i) (k : Int) : evm d 147 [vR 12 68, vI (iZ k)] h = some (none, sI h 68 8 (iZ (k + 16 * Tok c n i))) := by
  obtain ⟨d, rfl⟩ : ∃ e, d = e + 1 := ⟨d - 1, by omega⟩
  obtain ⟨⟨m1, m2, m3, m4⟩, ⟨m5, m6⟩, m7⟩ := J
  have := m3.1
  rw [e_M_wrong, m7, ifp_t (by rfl)]
  simp only [m1.r 5 71, bR_s, m5, m1.n 71 1002]
  rw [ifp_t ((inb_iz (by omega)).mpr (by omega)), ix_iz (by omega), Int.toNat_natCast, (m3.2.2.2.1 i m6).2, lit32, iz_mul, iz_add]
theorem u_wrF {d : Nat} (hd : 1 ≤ d) {h : Hp} {F : Int} (J : JF h F) (k : Int32) : evm d 147 [vR 12 68, vI k] h = some (none, h) := by
  obtain ⟨d, rfl⟩ : ∃ e, d = e + 1 := ⟨d - 1, by omega⟩
  obtain ⟨m1, m2, m3, m4⟩ := J
  rw [e_M_wrong, m2, ifp_f (fun y => by rw [lit32] at y; have := (iz_eq (by omega)).mp y; omega)]
theorem kM_s {c : Int → Int} {n s : Int} (k : kiM c n s = 3) : s < n ∧ ¬ ltr c s ∧ ¬ dgt c s ∧ sgn (c s) := by
  unfold kiM at k
  by_cases q : n ≤ s
  · rw [pif_t q] at k; omega
  · rw [pif_f q] at k
    by_cases l : ltr c s
    · rw [pif_t l] at k; unfold pif at k; split at k <;> omega
    · rw [pif_f l] at k
      by_cases g : dgt c s
      · rw [pif_t g] at k; unfold pif at k; split at k <;> omega
      · rw [pif_f g] at k
        by_cases z : sgn (c s)
        · exact ⟨by omega, l, g, z⟩
        · rw [pif_f z] at k; omega
theorem kM_b (c : Int → Int) (n s : Int) : 0 ≤ kiM c n s ∧ kiM c n s ≤ 4 := by
  unfold kiM pif
  repeat' split
  all_goals omega
theorem k_sg {c : Int → Int} {n s r : Int} (hs : 0 ≤ s) (T : ∀ j, 0 ≤ j → j < n → okS (c j)) (hr : sgn r) : kiX c n s = r ↔ kiM c n s = 3 ∧ c s = r := by
  have r40 : 40 ≤ r := by unfold sgn at hr; omega
  unfold kiX kiM
  by_cases q : n ≤ s
  · rw [pif_t q, pif_t q]; omega
  · rw [pif_f q, pif_f q]
    by_cases l : ltr c s
    · rw [pif_t l, pif_t l]; unfold pif; repeat' split
      all_goals omega
    · rw [pif_f l, pif_f l]
      by_cases g : dgt c s
      · rw [pif_t g, pif_t g]; unfold pif; repeat' split
        all_goals omega
      · rw [pif_f g, pif_f g]
        by_cases z : sgn (c s)
        · rw [pif_t z, pif_t z]; omega
        · rw [pif_f z, pif_f z]
          refine ⟨fun y => by omega, fun y => absurd (by rw [y.2]; exact hr) z⟩
theorem k_nu {c : Int → Int} {n s : Int} (hs : 0 ≤ s) (T : ∀ j, 0 ≤ j → j < n → okS (c j)) : kiX c n s = 3 ↔ kiM c n s = 2 := by
  unfold kiX kiM
  by_cases q : n ≤ s
  · rw [pif_t q, pif_t q]; omega
  · rw [pif_f q, pif_f q]
    by_cases l : ltr c s
    · rw [pif_t l, pif_t l]; unfold pif; repeat' split
      all_goals omega
    · rw [pif_f l, pif_f l]
      by_cases g : dgt c s
      · rw [pif_t g, pif_t g]; unfold pif; repeat' split
        all_goals omega
      · rw [pif_f g, pif_f g]
        by_cases z : sgn (c s)
        · rw [pif_t z, pif_t z]; unfold sgn at z; omega
        · rw [pif_f z, pif_f z]; omega
theorem k_wo {c : Int → Int} {n s : Int} (hs : 0 ≤ s) (T : ∀ j, 0 ≤ j → j < n → okS (c j)) : kiX c n s = 2 ↔ kiM c n s = 1 := by
  unfold kiX kiM
  by_cases q : n ≤ s
  · rw [pif_t q, pif_t q]; omega
  · rw [pif_f q, pif_f q]
    by_cases l : ltr c s
    · rw [pif_t l, pif_t l]; unfold pif; repeat' split
      all_goals omega
    · rw [pif_f l, pif_f l]
      by_cases g : dgt c s
      · rw [pif_t g, pif_t g]; unfold pif; repeat' split
        all_goals omega
      · rw [pif_f g, pif_f g]
        by_cases z : sgn (c s)
        · rw [pif_t z, pif_t z]; unfold sgn at z; omega
        · rw [pif_f z, pif_f z]; omega
theorem k_en {c : Int → Int} {n s : Int} (hs : 0 ≤ s) (T : ∀ j, 0 ≤ j → j < n → okS (c j)) : (kiX c n s = 0 ↔ n ≤ s) ∧ (kiM c n s = 0 ↔ n ≤ s) := by
  unfold kiX kiM
  by_cases q : n ≤ s
  · rw [pif_t q, pif_t q]; exact ⟨⟨fun _ => q, fun _ => rfl⟩, ⟨fun _ => q, fun _ => rfl⟩⟩
  · rw [pif_f q, pif_f q]
    have := T s hs (by omega)
    unfold okS at this
    unfold pif
    refine ⟨⟨fun y => ?_, fun y => absurd y q⟩, ⟨fun y => ?_, fun y => absurd y q⟩⟩
    all_goals
      exfalso
      repeat' split at y
      all_goals omega
theorem u_is {d : Nat} (hd : 1 ≤ d) {h : Hp} {c : Int → Int} {n : Int} {N i : Nat} (J : JM h c n N i) {r : Int} (hr : sgn r) : evm d 148 [vR 12 68, vI (iZ r)] h = some (some (vI (bZ (kiX c n (Tok c n i) = r))), h) := by
  obtain ⟨d, rfl⟩ : ∃ e, d = e + 1 := ⟨d - 1, by omega⟩
  obtain ⟨⟨m1, m2, m3, m4, m8, m9⟩, ⟨m5, m6⟩, m7⟩ := J
  have n1 := m3.1
  have tb := Tok_b (c := c) m4 i
  have kb := kM_b c n (Tok c n i)
  have rb : 0 ≤ r ∧ r < 128 := by unfold sgn at hr; omega
  have ib : inb (iZ (i : Int)) 1002 = true := (inb_iz (by omega)).mpr (by omega)
  rw [e_M_isSign, m7, ifp_t (by rfl)]
  simp only [m1.r 4 70, bR_s, m5, m1.n 70 1002, m1.r 6 72, m1.n 72 1002]
  rw [ifp_t ib, ix_iz (by omega), Int.toNat_natCast, (m3.2.2.2.1 i m6).1, bZ_c (k_sg tb.1 m9 hr)]
  by_cases k : kiM c n (Tok c n i) = 3
  · have ks := kM_s k
    have iN : i < N := by
      rcases Nat.lt_or_ge i N with y | y
      · exact y
      · have : i = N := by omega
        subst this
        have := m3.2.1
        omega
    have cb := m9 _ tb.1 ks.1
    unfold okS at cb
    have va : vaM c n (Tok c n i) = c (Tok c n i) := by unfold vaM; rw [pif_f ks.2.1, pif_f ks.2.2.1]
    rw [ifp_t (by rw [k]; rfl), ifp_t ib, m3.2.2.2.2 i iN, va, iz_l (by omega), cmp_jz (by omega)]
    by_cases q : c (Tok c n i) = r
    · rw [if_neg (by omega), if_pos q, ifp_t (by rfl)]; exact rb_t ⟨k, q⟩
    · refine ifp_r (fun y => ?_) (fun y => rb_f (fun z => q z.2))
      exfalso
      by_cases z : c (Tok c n i) < r
      · rw [if_pos z] at y; exact absurd y (by decide)
      · rw [if_neg z, if_neg q] at y; exact absurd y (by decide)
  · rw [ifp_f (fun y => k (by rw [lit32] at y; exact (iz_eq (by omega)).mp y))]
    exact rb_f (fun y => k y.1)
theorem u_isF {d : Nat} (hd : 1 ≤ d) {h : Hp} {F : Int} (J : JF h F) (k : Int32) : evm d 148 [vR 12 68, vI k] h = some (some (vI (iZ 0)), h) := by
  obtain ⟨d, rfl⟩ : ∃ e, d = e + 1 := ⟨d - 1, by omega⟩
  obtain ⟨m1, m2, m3, m4⟩ := J
  rw [e_M_isSign, m2, ifp_f (fun y => by rw [lit32] at y; have := (iz_eq (by omega)).mp y; omega)]
  rfl
theorem whvN : ∀ w : Nat, w < 22 → 0 ≤ whv w ∧ whv w < 3512479453921 := by decide +kernel
theorem u_iw {d : Nat} (hd : 1 ≤ d) {h : Hp} {c : Int → Int} {n : Int} {N i : Nat} (J : JM h c n N i) {w : Nat} (hw : w < 22) : evm d 149 [vR 12 68, vI (iZ w)] h = some (some (vI (bZ (WdS c n (Tok c n i) (wsr w)))), h) := by
  obtain ⟨d, rfl⟩ : ∃ e, d = e + 1 := ⟨d - 1, by omega⟩
  obtain ⟨⟨m1, m2, m3, m4, m8, m9⟩, ⟨m5, m6⟩, m7⟩ := J
  have n1 := m3.1
  have tb := Tok_b (c := c) m4 i
  have kb := kM_b c n (Tok c n i)
  have ib : inb (iZ (i : Int)) 1002 = true := (inb_iz (by omega)).mpr (by omega)
  rw [e_M_isWord, m7, ifp_t (by rfl)]
  simp only [m1.r 4 70, bR_s, m5, m1.n 70 1002, m1.r 6 72, m1.n 72 1002, m1.r 9 73, m1.n 73 22]
  rw [ifp_t ib, ix_iz (by omega), Int.toNat_natCast, (m3.2.2.2.1 i m6).1]
  by_cases k : kiM c n (Tok c n i) = 1
  · have kx := (k_wo tb.1 m9).mpr k
    have ks := kX_w m9 tb.1 kx
    have iN : i < N := by
      rcases Nat.lt_or_ge i N with y | y
      · exact y
      · have : i = N := by omega
        subst this
        have := m3.2.1
        omega
    have eb := tkE_b (c := c) ks.1
    have va : vaM c n (Tok c n i) = hvl c (Tok c n i) (tkE c n (Tok c n i) - Tok c n i).toNat := by
      unfold vaM; rw [pif_t ks.2.1, show min 8 (tkE c n (Tok c n i) - Tok c n i).toNat = (tkE c n (Tok c n i) - Tok c n i).toNat by omega]
    have te : tkE c n (Tok c n i) = fsk (ltr c) n (Tok c n i) := by unfold tkE; rw [pif_f (by omega), pif_t ks.2.1]
    have b := hvl_b (c := c) (s := Tok c n i) (tkE c n (Tok c n i) - Tok c n i).toNat (fun j hj => fsk_a (P := ltr c) (n := n) (Tok c n i) (by omega) (Tok c n i + j) (by omega) (by rw [← te]; omega))
    have p8 : (37 : Nat) ^ (tkE c n (Tok c n i) - Tok c n i).toNat ≤ 37 ^ 8 := Nat.pow_le_pow_right (by decide) (by omega)
    have e8 : (37 : Nat) ^ 8 = 3512479453921 := by decide
    have wb := whvN w hw
    have ww := wd_h ⟨tb.1, ks.1⟩ kx hw ks.2.1 ks.2.2
    rw [ifp_t (by rw [k]; rfl), ifp_t ib, ifp_t ((inb_iz (by omega)).mpr (by omega)), m3.2.2.2.2 i iN, ix_iz (by omega), Int.toNat_natCast, m2 w hw, va, cmp_jz (by omega)]
    by_cases q : hvl c (Tok c n i) (tkE c n (Tok c n i) - Tok c n i).toNat = whv w
    · rw [if_neg (by omega), if_pos q, ifp_t (by rfl)]; exact rb_t (ww.mp q)
    · refine ifp_r (fun y => ?_) (fun y => rb_f (fun z => q (ww.mpr z)))
      exfalso
      by_cases z : hvl c (Tok c n i) (tkE c n (Tok c n i) - Tok c n i).toNat < whv w
      · rw [if_pos z] at y; exact absurd y (by decide)
      · rw [if_neg z, if_neg q] at y; exact absurd y (by decide)
  · rw [ifp_f (fun y => k (by rw [lit32] at y; exact (iz_eq (by omega)).mp y))]
    exact rb_f (fun y => k ((k_wo tb.1 m9).mp y.1))
theorem u_iwF {d : Nat} (hd : 1 ≤ d) {h : Hp} {F : Int} (J : JF h F) (k : Int32) : evm d 149 [vR 12 68, vI k] h = some (some (vI (iZ 0)), h) := by
  obtain ⟨d, rfl⟩ : ∃ e, d = e + 1 := ⟨d - 1, by omega⟩
  obtain ⟨m1, m2, m3, m4⟩ := J
  rw [e_M_isWord, m2, ifp_f (fun y => by rw [lit32] at y; have := (iz_eq (by omega)).mp y; omega)]
  rfl
theorem JM.nx {h : Hp} {c : Int → Int} {n : Int} {N i : Nat} (J : JM h c n N i) (k : kiX c n (Tok c n i) ≠ 0) : JM (sI h 68 7 (iZ ((i : Int) + 1))) c n N (i + 1) := by
  have iN : i < N := by
    rcases Nat.lt_or_ge i N with y | y
    · exact y
    · exfalso
      have e : i = N := by have := J.2.1.2; omega
      apply k
      rw [(k_en (Tok_b (c := c) J.1.2.2.2.1 i).1 J.1.2.2.2.2.2).1, e, J.1.2.2.1.2.1]
      exact Int.le_refl _
  refine J.tr rfl (fun r k hr => sI_o _ _ (by omega)) ?_ iN ?_
  · rw [sI_e]; rfl
  · rw [sI_o _ _ (by omega)]; exact J.2.2
theorem JM.fl {h : Hp} {c : Int → Int} {n : Int} {N i : Nat} (J : JM h c n N i) {k : Int} (hk : 1 ≤ k ∧ k ≤ 5) : JF (sI h 68 8 (iZ (k + 16 * Tok c n i))) (k + 16 * Tok c n i) := by
  have tb := Tok_b (c := c) J.1.2.2.2.1 i
  have := J.1.2.2.2.2.1
  exact ⟨J.1.1, sI_e _ _ _ _, by omega, by omega⟩
theorem u_ts {d : Nat} (hd : 2 ≤ d) {h : Hp} {c : Int → Int} {n : Int} {N i : Nat} (J : JM h c n N i) {r : Int} (hr : sgn r) : (kiX c n (Tok c n i) = r → evm d 150 [vR 12 68, vI (iZ r)] h = some (none, sI h 68 7 (iZ ((i : Int) + 1)))) ∧ (kiX c n (Tok c n i) ≠ r → evm d 150 [vR 12 68, vI (iZ r)] h = some (none, sI h 68 8 (iZ (1 + 16 * Tok c n i)))) := by
  obtain ⟨d, rfl⟩ : ∃ e, d = e + 1 := ⟨d - 1, by omega⟩
  rw [e_M_takeSign, u_is (by omega) J hr]
  simp only [bI_s]
  refine ⟨fun z => ?_, fun z => ?_⟩
  · rw [bZ_t z, ifp_f (by decide), J.2.1.1, lit32, iz_add]
  · rw [bZ_f z, ifp_t (by rfl), lit32, u_wr (by omega) J]; rfl
theorem u_tsF {d : Nat} (hd : 2 ≤ d) {h : Hp} {F : Int} (J : JF h F) (k : Int32) : evm d 150 [vR 12 68, vI k] h = some (none, h) := by
  obtain ⟨d, rfl⟩ : ∃ e, d = e + 1 := ⟨d - 1, by omega⟩
  rw [e_M_takeSign, u_isF (by omega) J]
  simp only [bI_s]
  rw [ifp_t (by rfl), u_wrF (by omega) J]; rfl
theorem sI_id (h : Hp) (r k : Nat) : sI h r k (hI h r k + (0 : Int32)) = h := by
  rw [sI_w]
  have : up (hI h r) k (hI h r k + (0 : Int32)) = hI h r := by
    funext j
    by_cases e : j = k
    · rw [e, up_e]; exact Int32.add_zero _
    · rw [up_n _ _ e]
  rw [this]
  exact wI_self h r
theorem u_hs {d : Nat} (hd : 2 ≤ d) {h : Hp} {c : Int → Int} {n : Int} {N i : Nat} (J : JM h c n N i) {r : Int} (hr : sgn r) : (kiX c n (Tok c n i) = r → evm d 151 [vR 12 68, vI (iZ r)] h = some (some (vI (iZ 1)), sI h 68 7 (iZ ((i : Int) + 1)))) ∧ (kiX c n (Tok c n i) ≠ r → evm d 151 [vR 12 68, vI (iZ r)] h = some (some (vI (iZ 0)), h)) := by
  obtain ⟨d, rfl⟩ : ∃ e, d = e + 1 := ⟨d - 1, by omega⟩
  rw [e_M_hasSign, u_is (by omega) J hr]
  simp only [bI_s]
  refine ⟨fun z => ?_, fun z => ?_⟩
  · rw [bZ_t z, ifp_f (by decide), isB_1, J.2.1.1, lit32, iz_add]; rfl
  · rw [bZ_f z, ifp_t (by rfl), isB_0, sI_id]; rfl
theorem u_hsF {d : Nat} (hd : 2 ≤ d) {h : Hp} {F : Int} (J : JF h F) (k : Int32) : evm d 151 [vR 12 68, vI k] h = some (some (vI (iZ 0)), h) := by
  obtain ⟨d, rfl⟩ : ∃ e, d = e + 1 := ⟨d - 1, by omega⟩
  rw [e_M_hasSign, u_isF (by omega) J]
  simp only [bI_s]
  rw [ifp_t (by rfl), isB_0, sI_id]; rfl
theorem u_hw {d : Nat} (hd : 2 ≤ d) {h : Hp} {c : Int → Int} {n : Int} {N i : Nat} (J : JM h c n N i) {w : Nat} (hw : w < 22) : (WdS c n (Tok c n i) (wsr w) → evm d 152 [vR 12 68, vI (iZ w)] h = some (some (vI (iZ 1)), sI h 68 7 (iZ ((i : Int) + 1)))) ∧ (¬ WdS c n (Tok c n i) (wsr w) → evm d 152 [vR 12 68, vI (iZ w)] h = some (some (vI (iZ 0)), h)) := by
  obtain ⟨d, rfl⟩ : ∃ e, d = e + 1 := ⟨d - 1, by omega⟩
  rw [e_M_hasWord, u_iw (by omega) J hw]
  simp only [bI_s]
  refine ⟨fun z => ?_, fun z => ?_⟩
  · rw [bZ_t z, ifp_f (by decide), isB_1, J.2.1.1, lit32, iz_add]; rfl
  · rw [bZ_f z, ifp_t (by rfl), isB_0, sI_id]; rfl
theorem u_hwF {d : Nat} (hd : 2 ≤ d) {h : Hp} {F : Int} (J : JF h F) (k : Int32) : evm d 152 [vR 12 68, vI k] h = some (some (vI (iZ 0)), h) := by
  obtain ⟨d, rfl⟩ : ∃ e, d = e + 1 := ⟨d - 1, by omega⟩
  rw [e_M_hasWord, u_iwF (by omega) J]
  simp only [bI_s]
  rw [ifp_t (by rfl), isB_0, sI_id]; rfl
theorem u_tw {d : Nat} (hd : 3 ≤ d) {h : Hp} {c : Int → Int} {n : Int} {N i : Nat} (J : JM h c n N i) {w : Nat} (hw : w < 22) : (WdS c n (Tok c n i) (wsr w) → evm d 153 [vR 12 68, vI (iZ w)] h = some (none, sI h 68 7 (iZ ((i : Int) + 1)))) ∧ (¬ WdS c n (Tok c n i) (wsr w) → evm d 153 [vR 12 68, vI (iZ w)] h = some (none, sI h 68 8 (iZ (1 + 16 * Tok c n i)))) := by
  obtain ⟨d, rfl⟩ : ∃ e, d = e + 1 := ⟨d - 1, by omega⟩
  rw [e_M_takeWord]
  have W := u_hw (d := d) (by omega) J hw
  refine ⟨fun z => ?_, fun z => ?_⟩
  · rw [W.1 z]
    simp only [bI_s]
    rw [ifp_f (by decide)]
  · rw [W.2 z]
    simp only [bI_s]
    rw [ifp_t (by rfl), lit32, u_wr (by omega) J]; rfl
theorem u_twF {d : Nat} (hd : 3 ≤ d) {h : Hp} {F : Int} (J : JF h F) (k : Int32) : evm d 153 [vR 12 68, vI k] h = some (none, h) := by
  obtain ⟨d, rfl⟩ : ∃ e, d = e + 1 := ⟨d - 1, by omega⟩
  rw [e_M_takeWord, u_hwF (by omega) J]
  simp only [bI_s]
  rw [ifp_t (by rfl), u_wrF (by omega) J]; rfl
theorem u_tn {d : Nat} (hd : 2 ≤ d) {h : Hp} {c : Int → Int} {n : Int} {N i : Nat} (J : JM h c n N i) {lo hi : Int} (hl : -2147483648 ≤ lo ∧ lo < 2147483648) (hh : -2147483648 ≤ hi ∧ hi < 2147483648) : (nfc c n i lo hi = 0 → evm d 156 [vR 12 68, vI (iZ lo), vI (iZ hi)] h = some (some (vI (iZ (nvl c n (Tok c n i)))), sI h 68 7 (iZ ((i : Int) + 1)))) ∧ (nfc c n i lo hi ≠ 0 → evm d 156 [vR 12 68, vI (iZ lo), vI (iZ hi)] h = some (some (vI (iZ 0)), sI h 68 8 (iZ (nfc c n i lo hi + 16 * Tok c n i)))) := by
  obtain ⟨d, rfl⟩ : ∃ e, d = e + 1 := ⟨d - 1, by omega⟩
  have J0 := J
  obtain ⟨⟨m1, m2, m3, m4, m8, m9⟩, ⟨m5, m6⟩, m7⟩ := J
  have n1 := m3.1
  have tb := Tok_b (c := c) m4 i
  have kb := kM_b c n (Tok c n i)
  have ib : inb (iZ (i : Int)) 1002 = true := (inb_iz (by omega)).mpr (by omega)
  have f70 : ∀ k : Int, 1 ≤ k ∧ k ≤ 5 → L_M_takeNumber_70 d 68 (sI h 68 8 (iZ (k + 16 * Tok c n i))) = some (some (vI (iZ 0)), sI h 68 8 (iZ (k + 16 * Tok c n i))) := by
    intro k hk
    rw [e_M_takeNumber_70, sI_e, ifp_t (by rw [lit32]; exact (iz_lt (by omega)).mpr (by show (0 : Int) < _; omega))]
    rfl
  rw [e_M_takeNumber, m7, ifp_t (by rfl)]
  simp only [m1.r 4 70, bR_s, m5, m1.n 70 1002]
  rw [ifp_t ib, ix_iz (by omega), Int.toNat_natCast, (m3.2.2.2.1 i m6).1]
  by_cases k : kiM c n (Tok c n i) = 2
  · have kx := (k_nu tb.1 m9).mpr k
    have ks := kX_n m9 tb.1 kx
    have eb := tkE_b (c := c) ks.1
    have iN : i < N := by
      rcases Nat.lt_or_ge i N with y | y
      · exact y
      · have : i = N := by omega
        subst this
        have := m3.2.1
        omega
    have va : vaM c n (Tok c n i) = nvl c n (Tok c n i) := by
      unfold vaM nvl; rw [pif_f ks.2.1, pif_t ks.2.2.1, show min 4 (tkE c n (Tok c n i) - Tok c n i).toNat = (tkE c n (Tok c n i) - Tok c n i).toNat by omega]
    rw [ifp_t (by rw [k]; rfl), e_M_takeNumber_28, m7, ifp_t (by rfl)]
    simp only [m1.r 6 72, bR_s, m5, m1.n 72 1002]
    rw [ifp_t ib, ix_iz (by omega), Int.toNat_natCast, m3.2.2.2.2 i iN, va, iz_l (by omega), iz_l (by omega), cmp_jz (by omega), cmp_jz (by omega)]
    obtain ⟨v, ev⟩ : ∃ v, v = nvl c n (Tok c n i) := ⟨_, rfl⟩
    rw [← ev]
    rw [← ev] at ks
    by_cases b1 : v < lo
    · have e : nfc c n i lo hi = 4 := by unfold nfc; rw [← ev, pif_t kx, pif_f (by omega)]
      rw [if_pos b1, ifp_t (by decide), lit32, u_wr (by omega) J0]
      simp only [bV_s]
      refine ⟨fun y => by omega, fun _ => ?_⟩
      rw [e]
      exact f70 4 (by omega)
    · have g1 : ¬ iZ (if v < lo then -1 else if v = lo then 0 else 1) < (0 : Int32) := by
        rw [if_neg b1]
        by_cases q : v = lo
        · rw [if_pos q]; decide
        · rw [if_neg q]; decide
      rw [ifp_f g1, ifp_t ib]
      by_cases b2 : hi < v
      · have e : nfc c n i lo hi = 4 := by unfold nfc; rw [← ev, pif_t kx, pif_f (by omega)]
        rw [if_neg (by omega), if_neg (by omega), ifp_t (by decide), lit32, u_wr (by omega) J0]
        simp only [bV_s]
        refine ⟨fun y => by omega, fun _ => ?_⟩
        rw [e]
        exact f70 4 (by omega)
      · have g2 : ¬ (0 : Int32) < iZ (if v < hi then -1 else if v = hi then 0 else 1) := by
          by_cases q : v < hi
          · rw [if_pos q]; decide
          · rw [if_neg q, if_pos (by omega)]; decide
        rw [ifp_f g2]
        refine ⟨fun _ => ?_, fun y => absurd (nfc_0.mpr ⟨kx, by rw [← ev]; omega⟩) y⟩
        rw [e_M_takeNumber_70, m7, ifp_f (by decide), sI_e, m5, lit32, iz_add, iz_sub]
        have M' : SM (sI h 68 7 (iZ ((i : Int) + OfNat.ofNat 1))) := m1
        simp only [M'.r 6 72, bR_s, M'.n 72 1002]
        have ei : (i : Int) + OfNat.ofNat 1 - OfNat.ofNat 1 = i := by show (i : Int) + 1 - 1 = i; omega
        rw [ei, ifp_t ib, ix_iz (by omega), Int.toNat_natCast]
        have : hL (sI h 68 7 (iZ ((i : Int) + OfNat.ofNat 1))) 72 i = jZ v := by
          show hL h 72 i = _
          rw [m3.2.2.2.2 i iN, va, ev]
        rw [this, jz_n (by omega)]
  · have e : nfc c n i lo hi = 1 := by unfold nfc; rw [pif_f (fun y => k ((k_nu tb.1 m9).mp y))]
    rw [ifp_f (fun y => k (by rw [lit32] at y; exact (iz_eq (by omega)).mp y)), lit32, u_wr (by omega) J0]
    simp only [bV_s]
    refine ⟨fun y => by omega, fun _ => ?_⟩
    rw [e]
    exact f70 1 (by omega)
theorem u_tnF {d : Nat} (hd : 1 ≤ d) {h : Hp} {F : Int} (J : JF h F) (lo hi : Int32) : evm d 156 [vR 12 68, vI lo, vI hi] h = some (some (vI (iZ 0)), h) := by
  obtain ⟨d, rfl⟩ : ∃ e, d = e + 1 := ⟨d - 1, by omega⟩
  obtain ⟨m1, m2, m3, m4⟩ := J
  have c0 : ¬ iZ F = (0 : Int32) := fun y => by rw [lit32] at y; have := (iz_eq (by omega)).mp y; omega
  rw [e_M_takeNumber, m2, ifp_f c0, e_M_takeNumber_28, m2, ifp_f c0, e_M_takeNumber_70, m2, ifp_t (by rw [lit32]; exact (iz_lt (by omega)).mpr (by show (0 : Int) < _; omega))]
  rfl
