/-! moods: what both write -/
def GCd (co ca : Int → Int) (n : Nat) : Prop := ∀ i : Nat, i < n → (1 ≤ co i ∧ co i ≤ 10) ∧ (co i = 1 → 0 ≤ ca i ∧ ca i ≤ 9999) ∧ (co i = 2 → 0 ≤ ca i ∧ ca i ≤ 3) ∧ (co i = 3 → 1 ≤ hgt co i) ∧ (4 ≤ co i → 2 ≤ hgt co i) ∧ hgt co i < 31
theorem hgt_c {a b : Int → Int} : ∀ n : Nat, (∀ i : Nat, i < n → a i = b i) → hgt a n = hgt b n := by
  intro n
  induction n with
  | zero => intro _; rfl
  | succ n ih =>
    intro e
    have h := ih (fun i hi => e i (by omega))
    show (if a n = 1 ∨ a n = 2 then hgt a n + 1 else if a n = 3 then hgt a n else hgt a n - 1) = (if b n = 1 ∨ b n = 2 then hgt b n + 1 else if b n = 3 then hgt b n else hgt b n - 1)
    rw [e n (by omega), h]
def Cdr (hx hm : Hp) (p cl : Nat) (co ca : Int → Int) : Prop := (hI hx (p + 7) 2 = iZ cl ∧ hI hm 68 13 = iZ cl) ∧ (∀ j : Nat, j < cl → hI hx (p + 8) j = iZ (deed (co j) (ca j)) ∧ hI hm 75 (1100 + j) = iZ (co j) ∧ hI hm 76 (1100 + j) = iZ (ca j)) ∧ GCd co ca cl
/-- both read a mood, all is well -/
def MSt (p : Nat) (c : Int → Int) (n : Int) (N m H i cl : Nat) (hx hm : Hp) : Prop := TO p ∧ JX hx c n i ∧ JM hm c n N i ∧ (∃ co ca, Cdr hx hm p cl co ca ∧ hgt co cl = H) ∧ cl + m ≤ i
def MFl (m : Nat) (hx hm : Hp) : Prop := ∃ F, hI hx 1 2 = iZ F ∧ JF hm F ∧ ∃ cl : Nat, hI hm 68 13 = iZ cl ∧ cl + m ≤ 1000
def XQm (p : Nat) (a b : Hp) : Prop := b.2 = a.2 ∧ (∀ r, r ≠ 1 → r ≠ 2 → r ≠ p + 7 → r ≠ p + 8 → hI b r = hI a r) ∧ hI b 1 1 = hI a 1 1
def MQm (a b : Hp) : Prop := b.2 = a.2 ∧ ∀ r k, ¬ (r = 68 ∧ (k = 7 ∨ k = 8 ∨ k = 13)) → ¬ ((r = 75 ∨ r = 76) ∧ 1100 ≤ k) → hI b r k = hI a r k
theorem XQm.rf (p : Nat) (a : Hp) : XQm p a a := ⟨rfl, fun _ _ _ _ _ => rfl, rfl⟩
theorem MQm.rf (a : Hp) : MQm a a := ⟨rfl, fun _ _ _ _ => rfl⟩
theorem XQm.tr {p : Nat} {a b c : Hp} (x : XQm p a b) (y : XQm p b c) : XQm p a c := ⟨y.1.trans x.1, fun r r1 r2 r3 r4 => (y.2.1 r r1 r2 r3 r4).trans (x.2.1 r r1 r2 r3 r4), y.2.2.trans x.2.2⟩
theorem MQm.tr {a b c : Hp} (x : MQm a b) (y : MQm b c) : MQm a c := ⟨y.1.trans x.1, fun r k r1 r2 => (y.2 r k r1 r2).trans (x.2 r k r1 r2)⟩
theorem pXf.m {a b : Hp} (x : pXf a b) (p : Nat) : XQm p a b := ⟨x.1, fun r r1 r2 _ _ => x.2.1 r r1 r2, x.2.2⟩
theorem pMf.m {a b : Hp} (x : pMf a b) : MQm a b := ⟨x.1, fun r k r1 _ => x.2 r k (fun y => r1 ⟨y.1, by omega⟩)⟩
def MOut (p : Nat) (c : Int → Int) (n : Int) (N m H i : Nat) (hx hm hx' hm' : Hp) (r : Int) : Prop := XQm p hx hx' ∧ MQm hm hm' ∧ ((r = 1 ∧ ∃ i', i ≤ i' ∧ ∃ cl, MSt p c n N m H i' cl hx' hm') ∨ (r = 0 ∧ MFl m hx' hm'))
def emH (h : Hp) (cl : Nat) (k a : Int) : Hp := sI (sI (sI h 75 (1100 + cl) (iZ k)) 76 (1100 + cl) (iZ a)) 68 13 (iZ ((cl : Int) + 1))
def adH (h : Hp) (p cl : Nat) (x : Int) : Hp := sI (sI h (p + 8) cl (iZ x)) (p + 7) 2 (iZ ((cl : Int) + 1))
theorem u_em {d : Nat} (hd : 1 ≤ d) {h : Hp} (M : SM h) {cl : Nat} (hc : hI h 68 13 = iZ cl) (hb : cl ≤ 1000) (k a : Int) : evm d 168 [vR 12 68, vI (iZ k), vI (iZ a)] h = some (none, emH h cl k a) := by
  obtain ⟨d, rfl⟩ : ∃ e, d = e + 1 := ⟨d - 1, by omega⟩
  have c1 : ∀ v, hI (sI h 75 (1100 + cl) v) 68 13 = iZ cl := fun v => by rw [sI_o _ _ (by omega)]; exact hc
  have c2 : ∀ v w, hI (sI (sI h 75 (1100 + cl) v) 76 (1100 + cl) w) 68 13 = iZ cl := fun v w => by rw [sI_o _ _ (by omega)]; exact c1 v
  have M1 : ∀ v, SM (sI h 75 (1100 + cl) v) := fun v => M
  have e1 : (1100 : Int32) + iZ cl = iZ (1100 + cl) := by rw [lit32, iz_add]
  have e2 : (1100 + (cl : Int)).toNat = 1100 + cl := by omega
  rw [e_M_emit]
  simp only [M.r 11 75, M.n 75 2200, bR_s, hc, e1]
  rw [ifp_t ((inb_iz (by omega)).mpr (by omega)), ix_iz (by omega), e2]
  simp only [(M1 _).r 12 76, (M1 _).n 76 2200, bR_s, c1, e1]
  rw [ifp_t ((inb_iz (by omega)).mpr (by omega)), ix_iz (by omega), e2, c2, show (1 : Int32) = iZ 1 from rfl, iz_add]
  rfl
theorem x_ad {d : Nat} (hd : 1 ≤ d) {h : Hp} (X : SX h) {p : Nat} (t : TO p) {cl : Nat} (hc : hI h (p + 7) 2 = iZ cl) (hb : cl < 1000) (x : Int) : evm d 12 [vR 2 (p + 7), vI (iZ x)] h = some (none, adH h p cl x) := by
  obtain ⟨d, rfl⟩ : ∃ e, d = e + 1 := ⟨d - 1, by omega⟩
  have c1 : ∀ v, hI (sI h (p + 8) cl v) (p + 7) 2 = iZ cl := fun v => by rw [sI_o _ _ (by omega)]; exact hc
  rw [e_Mood_add]
  simp only [X.d0 t, bR_s, X.n8 t, hc, nI_iz]
  rw [ifp_t ((iz_lt (by omega)).mpr (by omega)), ifp_t ((inb_iz (by omega)).mpr (by omega)), ix_iz (by omega), Int.toNat_natCast, c1, show (1 : Int32) = iZ 1 from rfl, iz_add]
  rfl
/-- both write one code -/
theorem MSt.em {p : Nat} {c : Int → Int} {n : Int} {N m H i cl : Nat} {hx hm : Hp} (S : MSt p c n N m H i cl hx hm) {k a : Int} (h1 : cl + m + 1 ≤ i) (hk : 1 ≤ k ∧ k ≤ 10) (h2 : k = 1 → 0 ≤ a ∧ a ≤ 9999) (h3 : k = 2 → 0 ≤ a ∧ a ≤ 3) (h4 : k = 3 → 1 ≤ H) (h5 : 4 ≤ k → 2 ≤ H) (h6 : H < 31) : MSt p c n N m (if k = 1 ∨ k = 2 then H + 1 else if k = 3 then H else H - 1) i (cl + 1) (adH hx p cl (deed k a)) (emH hm cl k a) := by
  obtain ⟨t, X, M, ⟨co, ca, C, hh⟩, cm⟩ := S
  have tp : 48 ≤ p := by unfold TO at t; omega
  obtain ⟨⟨c1, c2⟩, c3, c4⟩ := C
  have xo : ∀ r k', r ≠ p + 8 → r ≠ p + 7 → hI (adH hx p cl (deed k a)) r k' = hI hx r k' := fun r k' r1 r2 => by
    unfold adH; rw [sI_o _ _ (by omega), sI_o _ _ (by omega)]
  have mo : ∀ r k', r ≠ 75 → r ≠ 76 → ¬ (r = 68 ∧ k' = 13) → hI (emH hm cl k a) r k' = hI hm r k' := fun r k' r1 r2 r3 => by
    unfold emH; rw [sI_o _ _ r3, sI_o _ _ (by omega), sI_o _ _ (by omega)]
  refine ⟨t, ⟨X.1, X.2.1.tr (funext fun j => xo 3 j (by omega) (by omega)), ?_, ?_⟩, M.tr rfl (fun r k' hr => mo r k' (by omega) (by omega) (by omega)) ?_ M.2.1.2 ?_, ⟨upv co cl k, upv ca cl a, ⟨⟨?_, ?_⟩, fun j hj => ?_, fun j hj => ?_⟩, ?_⟩, by omega⟩
  · rw [show hI (adH hx p cl (deed k a)) 2 = hI hx 2 from funext fun j => xo 2 j (by omega) (by omega)]; exact X.2.2.1
  · rw [xo 1 2 (by omega) (by omega)]; exact X.2.2.2
  · rw [mo 68 7 (by omega) (by omega) (by omega)]; exact M.2.1.1
  · rw [mo 68 8 (by omega) (by omega) (by omega)]; exact M.2.2
  · unfold adH; rw [sI_e]; rfl
  · unfold emH; rw [sI_e]; rfl
  · by_cases q : j = cl
    · subst q
      rw [upv_e, upv_e]
      refine ⟨?_, ?_, ?_⟩
      · unfold adH; rw [sI_o _ _ (by omega), sI_e]
      · unfold emH; rw [sI_o _ _ (by omega), sI_o _ _ (by omega), sI_e]
      · unfold emH; rw [sI_o _ _ (by omega), sI_e]
    · have g := c3 j (by omega)
      rw [upv_n _ _ (by omega), upv_n _ _ (by omega)]
      refine ⟨?_, ?_, ?_⟩
      · unfold adH; rw [sI_o _ _ (by omega), sI_o _ _ (by omega)]; exact g.1
      · unfold emH; rw [sI_o _ _ (by omega), sI_o _ _ (by omega), sI_o _ _ (by omega)]; exact g.2.1
      · unfold emH; rw [sI_o _ _ (by omega), sI_o _ _ (by omega), sI_o _ _ (by omega)]; exact g.2.2
  · have hc : hgt (upv co cl k) j = hgt co j := hgt_c j (fun i' hi' => upv_n _ _ (by omega))
    rw [hc]
    by_cases q : j = cl
    · subst q
      rw [upv_e, upv_e, hh]
      exact ⟨hk, h2, h3, h4, h5, h6⟩
    · rw [upv_n _ _ (by omega), upv_n _ _ (by omega)]
      exact c4 j (by omega)
  · show (if upv co cl k cl = 1 ∨ upv co cl k cl = 2 then hgt (upv co cl k) cl + 1 else if upv co cl k cl = 3 then hgt (upv co cl k) cl else hgt (upv co cl k) cl - 1) = _
    rw [upv_e, hgt_c cl (fun i' hi' => upv_n co k (by omega)), hh]
theorem adH_q {hx : Hp} {p : Nat} (t : TO p) (cl : Nat) (x : Int) : XQm p hx (adH hx p cl x) := by
  have tp : 48 ≤ p := by unfold TO at t; omega
  refine ⟨rfl, fun r _ _ r3 r4 => funext fun k => ?_, ?_⟩
  · unfold adH; rw [sI_o _ _ (by omega), sI_o _ _ (by omega)]
  · unfold adH; rw [sI_o _ _ (by omega), sI_o _ _ (by omega)]
theorem emH_q {hm : Hp} (cl : Nat) (k a : Int) : MQm hm (emH hm cl k a) := by
  refine ⟨rfl, fun r j r1 r2 => ?_⟩
  unfold emH; rw [sI_o _ _ (by omega), sI_o _ _ (by omega), sI_o _ _ (by omega)]
/-- in the fault the model still writes -/
theorem MFl.em {m : Nat} {hx hm : Hp} (F : MFl (m + 1) hx hm) (k a : Int) : ∃ hm', (∀ d, 1 ≤ d → evm d 168 [vR 12 68, vI (iZ k), vI (iZ a)] hm = some (none, hm')) ∧ MQm hm hm' ∧ MFl m hx hm' := by
  obtain ⟨F, f1, f2, cl, f3, f4⟩ := F
  refine ⟨emH hm cl k a, fun d hd => u_em hd f2.1 f3 (by omega) k a, emH_q cl k a, F, f1, ⟨f2.1, ?_, f2.2.2⟩, cl + 1, ?_, by omega⟩
  · unfold emH; rw [sI_o _ _ (by omega), sI_o _ _ (by omega), sI_o _ _ (by omega)]; exact f2.2.1
  · unfold emH; rw [sI_e]; rfl
/-- both go on by a token -/
theorem MSt.av {d : Nat} (hd : 6 ≤ d) {p : Nat} {c : Int → Int} {n : Int} {N m H i cl : Nat} {hx hm : Hp} (S : MSt p c n N m H i cl hx hm) (k : kiX c n (Tok c n i) ≠ 0) : ∃ hx', evm d 69 [vR 8 2] hx = some (none, hx') ∧ XQm p hx hx' ∧ MQm hm (sI hm 68 7 (iZ ((i : Int) + 1))) ∧ MSt p c n N (m + 1) H (i + 1) cl hx' (sI hm 68 7 (iZ ((i : Int) + 1))) := by
  obtain ⟨t, X, M, ⟨co, ca, C, hh⟩, cm⟩ := S
  have tp : 48 ≤ p := by unfold TO at t; omega
  obtain ⟨hx', a, b, q, _⟩ := x_av hd X
  refine ⟨hx', a, q.m p, (pMf.s hm _ (Or.inl rfl)).m, t, b, M.nx k, ⟨co, ca, ?_, hh⟩, by omega⟩
  obtain ⟨⟨c1, c2⟩, c3, c4⟩ := C
  have e7 : hI hx' (p + 7) = hI hx (p + 7) := q.2.1 _ (by omega) (by omega)
  have e8 : hI hx' (p + 8) = hI hx (p + 8) := q.2.1 _ (by omega) (by omega)
  refine ⟨⟨by rw [e7]; exact c1, by rw [sI_o _ _ (by omega)]; exact c2⟩, fun j hj => ?_, c4⟩
  rw [e8, sI_o _ _ (by omega), sI_o _ _ (by omega)]
  exact c3 j hj
theorem MSt.wk {p : Nat} {c : Int → Int} {n : Int} {N m H i cl : Nat} {hx hm : Hp} (S : MSt p c n N (m + 1) H i cl hx hm) : MSt p c n N m H i cl hx hm := ⟨S.1, S.2.1, S.2.2.1, S.2.2.2.1, by have := S.2.2.2.2; omega⟩
theorem MFl.wk {m : Nat} {hx hm : Hp} (F : MFl (m + 1) hx hm) : MFl m hx hm := by
  obtain ⟨F, f1, f2, cl, f3, f4⟩ := F
  exact ⟨F, f1, f2, cl, f3, by omega⟩
theorem JM.lt {h : Hp} {c : Int → Int} {n : Int} {N i : Nat} (J : JM h c n N i) (k : kiX c n (Tok c n i) ≠ 0) : i < N := by
  rcases Nat.lt_or_ge i N with y | y
  · exact y
  · exfalso
    have e : i = N := by have := J.2.1.2; omega
    apply k
    rw [(k_en (Tok_b (c := c) J.1.2.2.2.1 i).1 J.1.2.2.2.2.2).1, e, J.1.2.2.1.2.1]
    exact Int.le_refl _
/-- a fault of both at this token -/
theorem MSt.fl {p : Nat} {c : Int → Int} {n : Int} {N m H i cl : Nat} {hx hm : Hp} (S : MSt p c n N m H i cl hx hm) {k : Int} (hk : 1 ≤ k ∧ k ≤ 5) : XQm p hx (sI hx 1 2 (iZ (k + 16 * Tok c n i))) ∧ MQm hm (sI hm 68 8 (iZ (k + 16 * Tok c n i))) ∧ MFl m (sI hx 1 2 (iZ (k + 16 * Tok c n i))) (sI hm 68 8 (iZ (k + 16 * Tok c n i))) := by
  obtain ⟨t, X, M, ⟨co, ca, C, hh⟩, cm⟩ := S
  refine ⟨(pXf.s hx _ (by decide)).m p, (pMf.s hm _ (Or.inr rfl)).m, _, sI_e _ _ _ _, M.fl hk, cl, ?_, ?_⟩
  · rw [sI_o _ _ (by omega)]; exact C.1.2
  · have := M.2.1.2
    have := M.1.2.2.1.1
    omega
/-- operands and what joins them -/
theorem mlp {d dm : Nat} (hd : 6 ≤ d) (hm0 : 6 ≤ dm) {p : Nat} {c : Int → Int} {n : Int} {N : Nat} (XL : Int → Hp → Option Rs) (ML opX opM : Hp → Option Rs) (ok : Nat → Int) {B : Nat} (hB : B < 30)
    (okb : ∀ i, ok i = 0 ∨ (4 ≤ ok i ∧ ok i ≤ 10 ∧ kiX c n (Tok c n i) ≠ 0))
    (hX0 : ∀ hx i x3, JX hx c n i → ok i = 0 → XL x3 hx = some (some (vI (iZ 1)), hx))
    (hX1 : ∀ hx i x3, JX hx c n i → ok i ≠ 0 → 0 ≤ x3 → x3 < 1000 → XL x3 hx = bV (evm d 69 [vR 8 2] hx) fun h2 => bI (opX h2) fun x4 h3 => ifp (x4 = 0) (some (some (vI (0 : Int32)), h3)) (bV (evm d 12 [vR 2 (p + 7), vI (iZ (deed (ok i) 0))] h3) fun h5 => XL (x3 + 1) h5))
    (hM0 : ∀ hm i, JM hm c n N i → ok i = 0 → ML hm = some (none, hm))
    (hMF : ∀ hm F, JF hm F → ML hm = some (none, hm))
    (hM1 : ∀ hm i, JM hm c n N i → ok i ≠ 0 → ML hm = bV (opM (sI hm 68 7 (iZ ((i : Int) + 1)))) fun h3 => bV (evm dm 168 [vR 12 68, vI (iZ (ok i)), vI (iZ 0)] h3) fun h4 => ML h4)
    (hOp : ∀ hx hm m H i cl, MSt p c n N m H i cl hx hm → H ≤ B → ∃ hx' hm' r, opX hx = some (some (vI (iZ r)), hx') ∧ opM hm = some (none, hm') ∧ MOut p c n N m (H + 1) i hx hm hx' hm' r) :
    ∀ (t i : Nat), N - i ≤ t → ∀ (x3 : Int) (hx hm : Hp) (m H cl : Nat), 0 ≤ x3 → x3 ≤ i → MSt p c n N m (H + 1) i cl hx hm → H + 1 ≤ B → ∃ hx' hm' r, XL x3 hx = some (some (vI (iZ r)), hx') ∧ ML hm = some (none, hm') ∧ MOut p c n N m (H + 1) i hx hm hx' hm' r := by
  intro t
  induction t with
  | zero =>
    intro i ht x3 hx hm m H cl x0 x1 S hH
    have e : ok i = 0 := by
      rcases okb i with y | y
      · exact y
      · have := S.2.2.1.lt y.2.2; omega
    exact ⟨hx, hm, 1, hX0 hx i x3 S.2.1 e, hM0 hm i S.2.2.1 e, XQm.rf _ _, MQm.rf _, Or.inl ⟨rfl, i, Nat.le_refl _, cl, S⟩⟩
  | succ t ih =>
    intro i ht x3 hx hm m H cl x0 x1 S hH
    by_cases e : ok i = 0
    · exact ⟨hx, hm, 1, hX0 hx i x3 S.2.1 e, hM0 hm i S.2.2.1 e, XQm.rf _ _, MQm.rf _, Or.inl ⟨rfl, i, Nat.le_refl _, cl, S⟩⟩
    · have ob := (okb i).resolve_left e
      have iN := S.2.2.1.lt ob.2.2
      have N1 := S.2.2.1.1.2.2.1.1
      obtain ⟨x1', a1, a2, a3, S1⟩ := S.av hd ob.2.2
      obtain ⟨x2', m2', r, b1, b2, b3, b4, b5⟩ := hOp _ _ _ _ _ _ S1 hH
      rw [hX1 hx i x3 S.2.1 e x0 (by omega), hM1 hm i S.2.2.1 e, a1, b2]
      simp only [bV_s]
      rw [b1]
      simp only [bI_s]
      rcases b5 with ⟨r1, i', ii, cl', S2⟩ | ⟨r0, F⟩
      · subst r1
        have cm := S2.2.2.2.2
        have iN' := S2.2.2.1.2.1.2
        obtain ⟨co, ca, C, hh⟩ := S2.2.2.2.1
        rw [ifp_f (by decide), x_ad (by omega) S2.2.1.1 S2.1 C.1.1 (by omega), u_em (by omega) S2.2.2.1.1.1 C.1.2 (by omega)]
        simp only [bV_s]
        have S3 := S2.wk.em (k := ok i) (a := 0) (by omega) (by omega) (by omega) (by omega) (by omega) (by omega) (by omega)
        rw [if_neg (by omega), if_neg (by omega), show H + 1 + 1 - 1 = H + 1 by omega] at S3
        obtain ⟨x4', m4', r', d1, d2, d3, d4, d5⟩ := ih i' (by omega) (x3 + 1) _ _ m H _ (by omega) (by omega) S3 hH
        refine ⟨x4', m4', r', d1, d2, ((a2.tr b3).tr (adH_q S2.1 _ _)).tr d3, ((a3.tr b4).tr (emH_q _ _ _)).tr d4, ?_⟩
        rcases d5 with ⟨g1, j, g2, g3⟩ | g
        · exact Or.inl ⟨g1, j, by omega, g3⟩
        · exact Or.inr g
      · subst r0
        obtain ⟨hm', e1, e2, e3⟩ := F.em (ok i) 0
        rw [ifp_t (by rfl), e1 dm (by omega)]
        simp only [bV_s]
        obtain ⟨F', f1, f2, f3⟩ := e3
        rw [hMF hm' F' f2]
        exact ⟨x2', hm', 0, rfl, rfl, a2.tr b3, (a3.tr b4).tr e2, Or.inr ⟨rfl, F', f1, f2, f3⟩⟩
theorem mlw {d dm : Nat} (hd : 6 ≤ d) (hm0 : 6 ≤ dm) {p : Nat} {c : Int → Int} {n : Int} {N : Nat} (EX EM : Hp → Option Rs) (XL : Int → Hp → Option Rs) (ML opX opM : Hp → Option Rs) (ok : Nat → Int) {B : Nat} (hB : B < 30)
    (hEX : ∀ hx, EX hx = bI (opX hx) fun x2 h1 => ifp (x2 = 0) (some (some (vI (0 : Int32)), h1)) (XL 0 h1))
    (hEM : ∀ hm, EM hm = bV (opM hm) fun h1 => ML h1)
    (okb : ∀ i, ok i = 0 ∨ (4 ≤ ok i ∧ ok i ≤ 10 ∧ kiX c n (Tok c n i) ≠ 0))
    (hX0 : ∀ hx i x3, JX hx c n i → ok i = 0 → XL x3 hx = some (some (vI (iZ 1)), hx))
    (hX1 : ∀ hx i x3, JX hx c n i → ok i ≠ 0 → 0 ≤ x3 → x3 < 1000 → XL x3 hx = bV (evm d 69 [vR 8 2] hx) fun h2 => bI (opX h2) fun x4 h3 => ifp (x4 = 0) (some (some (vI (0 : Int32)), h3)) (bV (evm d 12 [vR 2 (p + 7), vI (iZ (deed (ok i) 0))] h3) fun h5 => XL (x3 + 1) h5))
    (hM0 : ∀ hm i, JM hm c n N i → ok i = 0 → ML hm = some (none, hm))
    (hMF : ∀ hm F, JF hm F → ML hm = some (none, hm))
    (hM1 : ∀ hm i, JM hm c n N i → ok i ≠ 0 → ML hm = bV (opM (sI hm 68 7 (iZ ((i : Int) + 1)))) fun h3 => bV (evm dm 168 [vR 12 68, vI (iZ (ok i)), vI (iZ 0)] h3) fun h4 => ML h4)
    (hOp : ∀ hx hm m H i cl, MSt p c n N m H i cl hx hm → H ≤ B → ∃ hx' hm' r, opX hx = some (some (vI (iZ r)), hx') ∧ opM hm = some (none, hm') ∧ MOut p c n N m (H + 1) i hx hm hx' hm' r) :
    ∀ hx hm m H i cl, MSt p c n N m H i cl hx hm → H + 1 ≤ B → ∃ hx' hm' r, EX hx = some (some (vI (iZ r)), hx') ∧ EM hm = some (none, hm') ∧ MOut p c n N m (H + 1) i hx hm hx' hm' r := by
  intro hx hm m H i cl S hH
  obtain ⟨x2', m2', r, b1, b2, b3, b4, b5⟩ := hOp _ _ _ _ _ _ S (by omega)
  rw [hEX, hEM, b1, b2]
  simp only [bI_s, bV_s]
  rcases b5 with ⟨r1, i', ii, cl', S2⟩ | ⟨r0, F⟩
  · subst r1
    rw [ifp_f (by decide)]
    obtain ⟨x4', m4', r', d1, d2, d3, d4, d5⟩ := mlp hd hm0 XL ML opX opM ok hB okb hX0 hX1 hM0 hMF hM1 hOp (N - i') i' (Nat.le_refl _) 0 x2' m2' m H cl' (by omega) (by omega) S2 hH
    refine ⟨x4', m4', r', d1, d2, b3.tr d3, b4.tr d4, ?_⟩
    rcases d5 with ⟨g1, j, g2, g3⟩ | g
    · exact Or.inl ⟨g1, j, by omega, g3⟩
    · exact Or.inr g
  · subst r0
    rw [ifp_t (by rfl)]
    obtain ⟨F', f1, f2, f3⟩ := F
    rw [hMF m2' F' f2]
    exact ⟨x2', m2', 0, rfl, rfl, b3, b4, Or.inr ⟨rfl, F', f1, f2, f3⟩⟩
