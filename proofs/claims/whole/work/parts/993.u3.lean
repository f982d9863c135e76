/-! lines: what both know of the stair that is read -/
def P9 (h : Hp) (p : Nat) (q : Int → Int) : Prop := hI h p 7 = iZ (q 0) ∧ hI h p 8 = iZ (q 8) ∧ hI h p 10 = iZ (q 1) ∧ hI h p 11 = iZ (q 15) ∧ hI h p 12 = iZ (if q 2 < 0 then -1 else 1 - q 2) ∧ hI h p 13 = iZ (q 3) ∧ hI h p 14 = iZ (q 4) ∧ hI h p 15 = iZ (q 5) ∧ hI h p 16 = iZ (q 6)
def VPn (q : Int → Int) : Prop := (1 ≤ q 0 ∧ q 0 ≤ 40) ∧ (-1 ≤ q 1 ∧ q 1 ≤ 4) ∧ (-1 ≤ q 2 ∧ q 2 ≤ 1) ∧ (0 ≤ q 3 ∧ q 3 ≤ q 4 ∧ q 4 ≤ 40) ∧ (-1 ≤ q 5 ∧ q 5 ≤ 12 ∧ q 5 ≠ 0) ∧ (0 ≤ q 6 ∧ q 6 ≤ 4) ∧ (0 ≤ q 8 ∧ q 8 ≤ 6) ∧ (0 ≤ q 15 ∧ q 15 ≤ 8) ∧
  (∀ k, 0 ≤ k → k < q 8 → 1 ≤ q (9 + k) ∧ q (9 + k) ≤ 12) ∧ (∀ i j, 0 ≤ i → i < j → j < q 8 → q (9 + i) ≠ q (9 + j)) ∧ (∀ k, 0 ≤ k → k < q 15 → ∃ a b, (1 ≤ a ∧ a ≤ 12) ∧ (1 ≤ b ∧ b ≤ 12) ∧ q (16 + k) = 16 * a + b) ∧ (∀ i j, 0 ≤ i → i < j → j < q 15 → q (16 + i) ≠ q (16 + j)) ∧
  (∀ s, 0 ≤ s → s ≤ 40 → 0 ≤ q (26 + s) ∧ q (26 + s) ≤ 3) ∧ q 26 = 0 ∧ ∀ s, q 0 ≤ s → s ≤ 40 → q (26 + s) = 0
def PBt (h : Hp) (p : Nat) (q : Int → Int) : Prop := ∃ B : Nat, B < 8192 ∧ hI h p 9 = iZ B ∧ ∀ z : Nat, B.testBit z = true ↔ ∃ k : Int, 0 ≤ k ∧ k < q 8 ∧ q (9 + k) = z
def PSt (h : Hp) (p : Nat) (q : Int → Int) : Prop := ∃ s : Int → Int, (∀ k, 0 ≤ k → k < q 8 → hI h (p + 1) k.toNat = iZ (s k)) ∧ (∀ i j, 0 ≤ i → i < j → j < q 8 → s i < s j) ∧ ∀ z, (∃ k, 0 ≤ k ∧ k < q 8 ∧ s k = z) ↔ ∃ k, 0 ≤ k ∧ k < q 8 ∧ q (9 + k) = z
def PKi (h : Hp) (p : Nat) (q : Int → Int) : Prop := ∀ s : Int, 0 ≤ s → s ≤ 40 → hI h (p + 3) s.toNat = iZ (q (26 + s))
def PBr (h : Hp) (p : Nat) (q : Int → Int) : Prop := ∀ a : Nat, a ≤ 12 → ∃ B : Nat, B < 8192 ∧ hI h (p + 4) a = iZ B ∧ ∀ z : Nat, z < 16 → (B.testBit z = true ↔ Brd q 0 a z)
def PMd (h : Hp) (q : Int → Int) : Prop := ∀ j : Int, 0 ≤ j → j < 70 → hI h 74 (70 + j).toNat = iZ (q j)
def Pnd (hx hm : Hp) (p : Nat) (q : Int → Int) : Prop := P9 hx p q ∧ PBt hx p q ∧ PSt hx p q ∧ PKi hx p q ∧ PBr hx p q ∧ PMd hm q ∧ VPn q
def CdF (hx hm : Hp) (p : Nat) (q : Int → Int) : Prop := (q 7 = -1 ∧ hI hx (p + 7) 2 = iZ 0 ∧ hI hm 68 13 = iZ 0) ∨ (q 7 = 0 ∧ ∃ (cl : Nat) (co ca : Int → Int), WFc co ca cl ∧ hI hx (p + 7) 2 = iZ cl ∧ hI hm 68 13 = iZ ((cl : Int) + 1) ∧ (∀ j : Nat, j < cl → hI hx (p + 8) j = iZ (deed (co j) (ca j))) ∧ ∀ j : Nat, j ≤ cl → hI hm 75 (1100 + j) = iZ (co j) ∧ hI hm 76 (1100 + j) = iZ (ca j))
def LSt (p : Nat) (c : Int → Int) (n : Int) (N i L : Nat) (q : Int → Int) (hx hm : Hp) : Prop := TO p ∧ JX hx c n i ∧ JM hm c n N i ∧ (hI hx 1 1 = iZ L ∧ hI hm 68 14 = iZ L ∧ L < 64 ∧ (L.testBit 0 = false → q 8 = 0) ∧ (L.testBit 5 = false → q 7 = -1) ∧ (L.testBit 3 = false → q 4 = 40)) ∧ Pnd hx hm p q ∧ CdF hx hm p q
def XQf (p : Nat) (a b : Hp) : Prop := b.2 = a.2 ∧ ∀ r, r ≠ 1 → r ≠ 2 → (r < p ∨ p + 8 < r) → hI b r = hI a r
def MQf (a b : Hp) : Prop := b.2 = a.2 ∧ ∀ r k, ¬ (r = 68 ∧ (k = 7 ∨ k = 8 ∨ k = 13 ∨ k = 14)) → ¬ (r = 74 ∧ 70 ≤ k) → ¬ ((r = 75 ∨ r = 76) ∧ 1100 ≤ k) → hI b r k = hI a r k
theorem XQf.tr {p : Nat} {a b c : Hp} (x : XQf p a b) (y : XQf p b c) : XQf p a c := ⟨y.1.trans x.1, fun r r1 r2 r3 => (y.2 r r1 r2 r3).trans (x.2 r r1 r2 r3)⟩
theorem MQf.tr {a b c : Hp} (x : MQf a b) (y : MQf b c) : MQf a c := ⟨y.1.trans x.1, fun r k r1 r2 r3 => (y.2 r k r1 r2 r3).trans (x.2 r k r1 r2 r3)⟩
theorem pXf.f {a b : Hp} (x : pXf a b) (p : Nat) : XQf p a b := ⟨x.1, fun r r1 r2 _ => x.2.1 r r1 r2⟩
theorem pMf.f {a b : Hp} (x : pMf a b) : MQf a b := ⟨x.1, fun r k r1 _ _ => x.2 r k (fun y => r1 ⟨y.1, by omega⟩)⟩
theorem XQm.f {p : Nat} {a b : Hp} (x : XQm p a b) : XQf p a b := ⟨x.1, fun r r1 r2 r3 => x.2.1 r r1 r2 (by omega) (by omega)⟩
theorem MQm.f {a b : Hp} (x : MQm a b) : MQf a b := ⟨x.1, fun r k r1 _ r3 => x.2 r k (fun y => r1 ⟨y.1, by omega⟩) r3⟩
theorem XQf.s (p : Nat) (a : Hp) {r k : Nat} (v : Int32) (h : r = 1 ∨ r = 2 ∨ (p ≤ r ∧ r ≤ p + 8)) : XQf p a (sI a r k v) := ⟨rfl, fun r' r1 r2 r3 => by rw [sI_w, wI_n _ _ (by omega)]⟩
theorem MQf.s (a : Hp) {r k : Nat} (v : Int32) (h : (r = 68 ∧ (k = 7 ∨ k = 8 ∨ k = 13 ∨ k = 14)) ∨ (r = 74 ∧ 70 ≤ k) ∨ ((r = 75 ∨ r = 76) ∧ 1100 ≤ k)) : MQf a (sI a r k v) := ⟨rfl, fun r' k' r1 r2 r3 => by rw [sI_o _ _ (by omega)]⟩
def LFl (hx hm : Hp) : Prop := ∃ F, hI hx 1 2 = iZ F ∧ JF hm F
def LOut (p : Nat) (c : Int → Int) (n : Int) (N i : Nat) (hx hm hx' hm' : Hp) (r : Int) : Prop := XQf p hx hx' ∧ MQf hm hm' ∧ ((r = 1 ∧ ∃ i' L' q', i < i' ∧ LSt p c n N i' L' q' hx' hm') ∨ (r = 0 ∧ LFl hx' hm'))
theorem Pnd.tr {hx hm hx' hm' : Hp} {p : Nat} {q : Int → Int} (P : Pnd hx hm p q) (ex : ∀ r, p ≤ r → r ≤ p + 4 → hI hx' r = hI hx r) (em : ∀ k, hI hm' 74 k = hI hm 74 k) : Pnd hx' hm' p q := by
  obtain ⟨p1, p2, p3, p4, p5, p6, p7⟩ := P
  refine ⟨?_, ?_, ?_, ?_, ?_, ?_, p7⟩
  · unfold P9; rw [ex p (by omega) (by omega)]; exact p1
  · unfold PBt; rw [ex p (by omega) (by omega)]; exact p2
  · unfold PSt; rw [ex (p + 1) (by omega) (by omega)]; exact p3
  · unfold PKi; rw [ex (p + 3) (by omega) (by omega)]; exact p4
  · unfold PBr; rw [ex (p + 4) (by omega) (by omega)]; exact p5
  · intro j j1 j2; rw [em]; exact p6 j j1 j2
theorem CdF.tr {hx hm hx' hm' : Hp} {p : Nat} {q q' : Int → Int} (C : CdF hx hm p q) (e7 : q' 7 = q 7) (e1 : hI hx' (p + 7) = hI hx (p + 7)) (e2 : hI hx' (p + 8) = hI hx (p + 8)) (e3 : hI hm' 68 13 = hI hm 68 13) (e4 : ∀ k, hI hm' 75 k = hI hm 75 k) (e5 : ∀ k, hI hm' 76 k = hI hm 76 k) : CdF hx' hm' p q' := by
  unfold CdF
  rw [e7, e1, e2, e3]
  rcases C with a | ⟨a, cl, co, ca, b1, b2, b3, b4, b5⟩
  · exact Or.inl a
  · exact Or.inr ⟨a, cl, co, ca, b1, b2, b3, b4, fun j hj => by rw [e4, e5]; exact b5 j hj⟩
/-- only the readers have moved -/
theorem LSt.tr {p : Nat} {c : Int → Int} {n : Int} {N i i' L : Nat} {q : Int → Int} {hx hm hx' hm' : Hp} (S : LSt p c n N i L q hx hm) (x : pXf hx hx') (m : pMf hm hm') (J : JX hx' c n i') (M : JM hm' c n N i') : LSt p c n N i' L q hx' hm' := by
  obtain ⟨t, _, _, ⟨l1, l2, l3⟩, P, C⟩ := S
  have tp : 48 ≤ p := by unfold TO at t; omega
  have em : ∀ r k, r ≠ 68 → hI hm' r k = hI hm r k := fun r k hr => m.2 r k (by omega)
  refine ⟨t, J, M, ⟨x.2.2.trans l1, (m.2 68 14 (by omega)).trans l2, l3⟩, P.tr (fun r r1 r2 => x.2.1 r (by omega) (by omega)) (fun k => em 74 k (by decide)), C.tr rfl (x.2.1 _ (by omega) (by omega)) (x.2.1 _ (by omega) (by omega)) (m.2 68 13 (by omega)) (fun k => em 75 k (by decide)) (fun k => em 76 k (by decide))⟩
theorem LSt.fl {p : Nat} {c : Int → Int} {n : Int} {N i L : Nat} {q : Int → Int} {hx hm : Hp} (S : LSt p c n N i L q hx hm) {k : Int} (hk : 1 ≤ k ∧ k ≤ 5) : XQf p hx (sI hx 1 2 (iZ (k + 16 * Tok c n i))) ∧ MQf hm (sI hm 68 8 (iZ (k + 16 * Tok c n i))) ∧ LFl (sI hx 1 2 (iZ (k + 16 * Tok c n i))) (sI hm 68 8 (iZ (k + 16 * Tok c n i))) := ⟨(pXf.s hx _ (by decide)).f p, (pMf.s hm _ (Or.inr rfl)).f, _, sI_e _ _ _ _, S.2.2.1.fl hk⟩
/-- a line ends -/
theorem LSt.fin {d : Nat} (hd : 7 ≤ d) {p : Nat} {c : Int → Int} {n : Int} {N i L : Nat} {q : Int → Int} {hx hm : Hp} (S : LSt p c n N i L q hx hm) : ∃ hx' hm' r, evm d 59 [vR 6 1, vI (59 : Int32)] hx = some (some (vI (iZ r)), hx') ∧ (∀ e, 2 ≤ e → evm e 150 [vR 12 68, vI (59 : Int32)] hm = some (none, hm')) ∧ (r = 0 ∨ r = 1) ∧ LOut p c n N i hx hm hx' hm' r := by
  have X := x_ts (d := d) hd S.2.1 (r := 59) (by omega)
  have M := fun e he => u_ts (d := e) he S.2.2.1 (r := 59) (by unfold sgn; omega)
  by_cases k : kiX c n (Tok c n i) = 59
  · obtain ⟨hx', a, b, x, _⟩ := X.1 k
    refine ⟨hx', _, 1, a, fun e he => (M e he).1 k, Or.inr rfl, x.f p, (pMf.s hm _ (Or.inl rfl)).f, Or.inl ⟨rfl, i + 1, L, q, by omega, S.tr x (pMf.s hm _ (Or.inl rfl)) b (S.2.2.1.nx (by omega))⟩⟩
  · have f := S.fl (k := 1) (by omega)
    exact ⟨_, _, 0, X.2 k, fun e he => (M e he).2 k, Or.inl rfl, f.1, f.2.1, Or.inr ⟨rfl, f.2.2⟩⟩
theorem LOut.pre {p : Nat} {c : Int → Int} {n : Int} {N i j : Nat} {hx hm h1 m1 hx' hm' : Hp} {r : Int} (O : LOut p c n N j h1 m1 hx' hm' r) (x : XQf p hx h1) (m : MQf hm m1) (ij : i ≤ j) : LOut p c n N i hx hm hx' hm' r := by
  refine ⟨x.tr O.1, m.tr O.2.1, ?_⟩
  rcases O.2.2 with ⟨a, i', L', q', b, S⟩ | a
  · exact Or.inl ⟨a, i', L', q', by omega, S⟩
  · exact Or.inr a
theorem tb_and {L b : Nat} (hb : b < 6) : ((L &&& 2 ^ b : Nat) = 0) ↔ L.testBit b = false := by
  constructor
  · intro e
    have := congrArg (fun x => Nat.testBit x b) e
    simpa [Nat.testBit_and, Nat.testBit_two_pow_self] using this
  · intro e
    apply Nat.eq_of_testBit_eq
    intro i
    rw [Nat.testBit_and, Nat.testBit_two_pow, Nat.zero_testBit]
    by_cases q : b = i
    · subst q; simp [e]
    · simp [q]
theorem pw6 : ∀ b : Nat, b < 6 → 2 ^ b < 64 := by decide
/-- a line that is told once -/
theorem LSt.once {d dm : Nat} (hd : 8 ≤ d) (hm0 : 3 ≤ dm) {p : Nat} {c : Int → Int} {n : Int} {N i L : Nat} {q : Int → Int} {hx hm : Hp} (S : LSt p c n N i L q hx hm) (k : kiX c n (Tok c n i) ≠ 0) {b : Nat} (hb : b < 6) : (L.testBit b = true → evm d 55 [vR 6 1, vI (iZ ((2 ^ b : Nat) : Int))] hx = some (some (vI (iZ 0)), sI hx 1 2 (iZ (3 + 16 * Tok c n i))) ∧ ∃ hm', evm dm 160 [vR 12 68, vI (iZ b)] hm = some (some (vI (iZ 0)), hm') ∧ XQf p hx (sI hx 1 2 (iZ (3 + 16 * Tok c n i))) ∧ MQf hm hm' ∧ LFl (sI hx 1 2 (iZ (3 + 16 * Tok c n i))) hm') ∧
    (L.testBit b = false → ∃ hx' hm', evm d 55 [vR 6 1, vI (iZ ((2 ^ b : Nat) : Int))] hx = some (some (vI (iZ 1)), hx') ∧ evm dm 160 [vR 12 68, vI (iZ b)] hm = some (some (vI (iZ 1)), hm') ∧ XQf p hx hx' ∧ MQf hm hm' ∧ LSt p c n N (i + 1) (L ||| 2 ^ b) q hx' hm') := by
  obtain ⟨d, rfl⟩ : ∃ e, d = e + 1 := ⟨d - 1, by omega⟩
  obtain ⟨dm, rfl⟩ : ∃ e, dm = e + 1 := ⟨dm - 1, by omega⟩
  have S0 := S
  obtain ⟨t, J, M, ⟨l1, l2, l3, l4, l5, l6⟩, P, C⟩ := S
  have p6 := pw6 b hb
  have tst : ((iZ (L : Int) >>> (iZ (b : Int) &&& 31)) &&& (1 : Int32) = (1 : Int32)) ↔ L.testBit b = true := by
    have a := b_tst (n := L) (k := b) (by omega) (by omega)
    rw [show (31 : Int32) = iZ 31 from rfl, show (1 : Int32) = iZ 1 from rfl]
    rw [b_shr (by omega) (by omega), show (1 : Int) = ((1 : Nat) : Int) from rfl, b_and, Nat.and_one_is_mod, iz_eq (by omega), Nat.testBit_eq_decide_div_mod_eq, decide_eq_true_iff]
    omega
  have shl : (1 : Int32) <<< (iZ (b : Int) &&& 31) = iZ ((2 ^ b : Nat) : Int) := b_one (k := b) (by omega)
  have orl : iZ (L : Int) ||| iZ ((2 ^ b : Nat) : Int) = iZ ((L ||| 2 ^ b : Nat) : Int) := b_or _ _
  rw [e_StairReader_isFirst, e_M_isOnce, l1, l2, b_and]
  refine ⟨fun e => ?_, fun e => ?_⟩
  · have z : ¬ iZ ((L &&& 2 ^ b : Nat) : Int) = (0 : Int32) := by
      have := Nat.and_le_left (n := L) (m := 2 ^ b)
      rw [show (0 : Int32) = iZ 0 from rfl, iz_eq (by omega)]
      intro y
      have : (L &&& 2 ^ b : Nat) = 0 := by omega
      rw [(tb_and hb).mp this] at e
      exact absurd e (by decide)
    have F := M.fl (k := 3) (by omega)
    have f := S0.fl (k := 3) (by omega)
    have fb := F.2.2
    rw [ifp_f z, ifp_t (tst.mpr e), show (3 : Int32) = iZ 3 from rfl, x_fl (by omega) J, u_wr (by omega) M]
    simp only [bI_s, bV_s, isB_0, cond_true]
    refine ⟨trivial, ?_⟩
    rw [e_M_isOnce_17]
    have g8 : ∀ v, hI (sI (sI hm 68 8 (iZ (3 + 16 * Tok c n i))) 68 14 v) 68 8 = iZ (3 + 16 * Tok c n i) := fun v => by rw [sI_o _ _ (by omega)]; exact F.2.1
    rw [g8, ifp_t (by rw [show (0 : Int32) = iZ 0 from rfl]; exact (iz_lt (by omega)).mpr (by omega)), e_M_isOnce_46]
    rw [sI_o (k := 7) (k' := 8) _ _ (by omega), g8, ifp_f (fun y => by rw [show (0 : Int32) = iZ 0 from rfl] at y; have := (iz_eq (by omega)).mp y; omega)]
    refine ⟨_, rfl, f.1, (f.2.1.tr (MQf.s _ _ (by omega))).tr (MQf.s _ _ (by omega)), _, f.2.2.choose_spec.1, ?_⟩
    have fc : f.2.2.choose = 3 + 16 * Tok c n i := by
      have a := f.2.2.choose_spec
      have a1 := a.2.2.1
      have a2 := a.2.2.2
      rw [sI_e] at a1
      exact ((iz_eq (by omega)).mp a1).symm
    rw [fc]
    exact ⟨F.1, by rw [sI_o (k := 7) (k' := 8) _ _ (by omega)]; exact g8 _, fb⟩
  · have z : iZ ((L &&& 2 ^ b : Nat) : Int) = (0 : Int32) := by rw [(tb_and hb).mpr e]; rfl
    rw [ifp_t z, ifp_f (fun y => by rw [tst.mp y] at e; exact absurd e (by decide)), orl]
    have J1 := J.s3 (k := 1) (by decide) (iZ ((L ||| 2 ^ b : Nat) : Int))
    obtain ⟨hx', a, b', x, x1⟩ := x_av (d := d) (by omega) J1
    simp only [J1.1.r 1 0 2, bR_s, a, bV_s]
    rw [e_M_isOnce_17, l2, shl, orl]
    have g8 : ∀ v, hI (sI hm 68 14 v) 68 8 = iZ 0 := fun v => by rw [sI_o _ _ (by omega)]; exact M.2.2
    have g7 : ∀ v, hI (sI hm 68 14 v) 68 7 = iZ i := fun v => by rw [sI_o _ _ (by omega)]; exact M.2.1.1
    rw [g8, ifp_f (by decide), g7, e_M_isOnce_46, sI_o (k := 7) (k' := 8) _ _ (by omega), g8, ifp_t (by rfl), show (1 : Int32) = iZ 1 from rfl, iz_add]
    have M1 : JM (sI hm 68 14 (iZ ((L ||| 2 ^ b : Nat) : Int))) c n N i := M.tr rfl (fun r k hr => sI_o _ _ (by omega)) (g7 _) M.2.1.2 (g8 _)
    have M2 := M1.nx k
    refine ⟨hx', _, rfl, rfl, (XQf.s p hx _ (Or.inl rfl)).tr (x.f p), (MQf.s hm _ (by omega)).tr (MQf.s _ _ (by omega)), t, b', M2, ⟨?_, ?_, ?_, ?_, ?_, ?_⟩, ?_, ?_⟩
    · rw [x.2.2, sI_e]
    · rw [sI_o _ _ (by omega), sI_e]
    · exact or_lt (n := 6) l3 hb
    · intro y
      apply l4
      rw [Nat.testBit_or] at y
      exact (Bool.or_eq_false_iff.mp y).1
    · intro y
      apply l5
      rw [Nat.testBit_or] at y
      exact (Bool.or_eq_false_iff.mp y).1
    · intro y
      apply l6
      rw [Nat.testBit_or] at y
      exact (Bool.or_eq_false_iff.mp y).1
    · have tp : 48 ≤ p := by unfold TO at t; omega
      exact P.tr (fun r r1 r2 => (x.2.1 r (by omega) (by omega)).trans (by rw [sI_w, wI_n _ _ (by omega)])) (fun k => by rw [sI_o _ _ (by omega), sI_o _ _ (by omega)])
    · have tp : 48 ≤ p := by unfold TO at t; omega
      exact C.tr rfl ((x.2.1 _ (by omega) (by omega)).trans (by rw [sI_w, wI_n _ _ (by omega)])) ((x.2.1 _ (by omega) (by omega)).trans (by rw [sI_w, wI_n _ _ (by omega)])) (by rw [sI_o _ _ (by omega), sI_o _ _ (by omega)]) (fun k => by rw [sI_o _ _ (by omega), sI_o _ _ (by omega)]) (fun k => by rw [sI_o _ _ (by omega), sI_o _ _ (by omega)])
