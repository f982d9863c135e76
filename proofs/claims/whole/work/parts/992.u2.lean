/-! moods: a part -/
noncomputable def fkt (c : Int → Int) (n s : Int) : Int := pif (WdS c n s 17) 0 (pif (WdS c n s 18) 1 (pif (WdS c n s 19) 2 (pif (WdS c n s 20) 3 (-1))))
theorem fkt_b (c : Int → Int) (n s : Int) : -1 ≤ fkt c n s ∧ fkt c n s ≤ 3 := by
  unfold fkt pif
  repeat' split
  all_goals omega
theorem fkt_k {c : Int → Int} {n s : Int} (h : 0 ≤ fkt c n s) : kiX c n s = 2 ∧ ¬ WdS c n s 16 := by
  unfold fkt at h
  have ne : ∀ r, 17 ≤ r → r < 23 → WdS c n s r → ¬ WdS c n s 16 := fun r r1 r2 a b => by have := a.u b r2 (by decide); omega
  by_cases a : WdS c n s 17
  · exact ⟨a.1, ne _ (by decide) (by decide) a⟩
  · rw [pif_f a] at h
    by_cases a : WdS c n s 18
    · exact ⟨a.1, ne _ (by decide) (by decide) a⟩
    · rw [pif_f a] at h
      by_cases a : WdS c n s 19
      · exact ⟨a.1, ne _ (by decide) (by decide) a⟩
      · rw [pif_f a] at h
        by_cases a : WdS c n s 20
        · exact ⟨a.1, ne _ (by decide) (by decide) a⟩
        · rw [pif_f a] at h; omega
theorem x_nf {d : Nat} (hd : 6 ≤ d) {h : Hp} {c : Int → Int} {n : Int} {i : Nat} (J : JX h c n i) : evm d 54 [vR 6 1] h = some (some (vI (iZ (pif (fkt c n (Tok c n i) = -1) (-5) (-(1 + fkt c n (Tok c n i)))))), h) := by
  obtain ⟨d, rfl⟩ : ∃ e, d = e + 1 := ⟨d - 1, by omega⟩
  rw [e_StairReader_namedFact]
  simp only [J.1.r 1 0 2, bR_s]
  rw [wX (by omega) J (by decide)]
  simp only [bI_s, J.1.r 1 0 2, bR_s]
  unfold fkt
  by_cases a : WdS c n (Tok c n i) 17
  · rw [bZ_t a, ifp_f (by decide), pif_t a, pif_f (by omega)]; rfl
  · rw [bZ_f a, ifp_t (by rfl), pif_f a, wX (by omega) J (by decide)]
    simp only [bI_s, J.1.r 1 0 2, bR_s]
    by_cases a : WdS c n (Tok c n i) 18
    · rw [bZ_t a, ifp_f (by decide), pif_t a, pif_f (by omega)]; rfl
    · rw [bZ_f a, ifp_t (by rfl), pif_f a, wX (by omega) J (by decide)]
      simp only [bI_s, J.1.r 1 0 2, bR_s]
      by_cases a : WdS c n (Tok c n i) 19
      · rw [bZ_t a, ifp_f (by decide), pif_t a, pif_f (by omega)]; rfl
      · rw [bZ_f a, ifp_t (by rfl), pif_f a, wX (by omega) J (by decide)]
        simp only [bI_s]
        by_cases a : WdS c n (Tok c n i) 20
        · rw [bZ_t a, ifp_f (by decide), pif_t a, pif_f (by omega)]; rfl
        · rw [bZ_f a, ifp_t (by rfl), pif_f a, pif_t rfl]; rfl
theorem u_ft {d : Nat} (hd : 1 ≤ d) {h : Hp} {c : Int → Int} {n : Int} {N i : Nat} (J : JM h c n N i) (w x : Int32) : L_M_takePart_32 d 68 w x (-1 : Int32) (0 : Int32) h = L_M_takePart_63 d 68 w x (iZ (fkt c n (Tok c n i))) h := by
  have W : ∀ k : Nat, k < 4 → evm d 149 [vR 12 68, vI ((18 : Int32) + iZ k)] h = some (some (vI (bZ (WdS c n (Tok c n i) (wsr (18 + k))))), h) := by
    intro k hk
    have := u_iw hd J (w := 18 + k) (by omega)
    rw [show (18 : Int32) + iZ k = iZ ((18 + k : Nat) : Int) by rw [show (18 : Int32) = iZ 18 from rfl, iz_add]; rfl]
    exact this
  have W0 : evm d 149 [vR 12 68, vI ((18 : Int32) + (0 : Int32))] h = some (some (vI (bZ (WdS c n (Tok c n i) 17))), h) := W 0 (by decide)
  have W1 : evm d 149 [vR 12 68, vI ((18 : Int32) + iZ 1)] h = some (some (vI (bZ (WdS c n (Tok c n i) 18))), h) := W 1 (by decide)
  have W2 : evm d 149 [vR 12 68, vI ((18 : Int32) + iZ 2)] h = some (some (vI (bZ (WdS c n (Tok c n i) 19))), h) := W 2 (by decide)
  have W3 : evm d 149 [vR 12 68, vI ((18 : Int32) + iZ 3)] h = some (some (vI (bZ (WdS c n (Tok c n i) 20))), h) := W 3 (by decide)
  have ne : ∀ r r', r < 23 → r' < 23 → r ≠ r' → WdS c n (Tok c n i) r → ¬ WdS c n (Tok c n i) r' := fun r r' r1 r2 q a b => q (a.u b r1 r2)
  have st : ∀ (x3 : Int32) (k k' : Int32) (P : Prop), k < (4 : Int32) → k + (1 : Int32) = k' → evm d 149 [vR 12 68, vI ((18 : Int32) + k)] h = some (some (vI (bZ P)), h) → (P → L_M_takePart_32 d 68 w x x3 k h = L_M_takePart_32 d 68 w x k k' h) ∧ (¬ P → L_M_takePart_32 d 68 w x x3 k h = L_M_takePart_32 d 68 w x x3 k' h) := by
    intro x3 k k' P kb ek e
    refine ⟨fun y => ?_, fun y => ?_⟩
    · rw [e_M_takePart_32, ifp_t kb, e]
      simp only [bI_s]
      rw [bZ_t y, ifp_f (by decide), ek]
    · rw [e_M_takePart_32, ifp_t kb, e]
      simp only [bI_s]
      rw [bZ_f y, ifp_t (by rfl), ek]
  have s0 := fun x3 => st x3 (0 : Int32) (iZ 1) _ (by decide) (by decide) W0
  have s1 := fun x3 => st x3 (iZ 1) (iZ 2) _ (by decide) (by decide) W1
  have s2 := fun x3 => st x3 (iZ 2) (iZ 3) _ (by decide) (by decide) W2
  have s3 := fun x3 => st x3 (iZ 3) (iZ 4) _ (by decide) (by decide) W3
  have s4 : ∀ x3, L_M_takePart_32 d 68 w x x3 (iZ 4) h = L_M_takePart_63 d 68 w x x3 h := fun x3 => by
    rw [e_M_takePart_32, ifp_f (by decide)]
  unfold fkt
  by_cases a : WdS c n (Tok c n i) 17
  · rw [(s0 _).1 a, (s1 _).2 (ne _ _ (by decide) (by decide) (by decide) a), (s2 _).2 (ne _ _ (by decide) (by decide) (by decide) a), (s3 _).2 (ne _ _ (by decide) (by decide) (by decide) a), s4, pif_t a]; rfl
  · rw [(s0 _).2 a, pif_f a]
    by_cases a : WdS c n (Tok c n i) 18
    · rw [(s1 _).1 a, (s2 _).2 (ne _ _ (by decide) (by decide) (by decide) a), (s3 _).2 (ne _ _ (by decide) (by decide) (by decide) a), s4, pif_t a]
    · rw [(s1 _).2 a, pif_f a]
      by_cases a : WdS c n (Tok c n i) 19
      · rw [(s2 _).1 a, (s3 _).2 (ne _ _ (by decide) (by decide) (by decide) a), s4, pif_t a]
      · rw [(s2 _).2 a, pif_f a]
        by_cases a : WdS c n (Tok c n i) 20
        · rw [(s3 _).1 a, s4, pif_t a]
        · rw [(s3 _).2 a, s4, pif_f a]; rfl
theorem sI_c (h : Hp) {r k r' k' : Nat} (v v' : Int32) (z : ¬ (r = r' ∧ k = k')) : sI (sI h r k v) r' k' v' = sI (sI h r' k' v') r k v := by
  refine Prod.ext (funext fun a => funext fun b => ?_) rfl
  show (if a = r' ∧ b = k' then v' else if a = r ∧ b = k then v else h.1 a b) = (if a = r ∧ b = k then v else if a = r' ∧ b = k' then v' else h.1 a b)
  by_cases q : a = r ∧ b = k
  · rw [if_pos q, if_neg (fun y => z ⟨q.1.symm.trans y.1, q.2.symm.trans y.2⟩), if_pos q]
  · rw [if_neg q, if_neg q]
theorem sI_sw (h : Hp) (cl : Nat) (k a x y : Int32) : sI (sI (sI (sI h 75 (1100 + cl) k) 76 (1100 + cl) a) 68 13 x) 68 7 y = sI (sI (sI (sI h 68 7 y) 75 (1100 + cl) k) 76 (1100 + cl) a) 68 13 x := by
  rw [sI_c _ x y (by omega), sI_c _ a y (by omega), sI_c _ k y (by omega)]
/-- what stands for itself -/
def atm (c : Int → Int) (n s : Int) : Prop := kiX c n s = 3 ∨ 0 ≤ fkt c n s
theorem j_part {d dm : Nat} (hd : 12 ≤ d) (hm0 : 12 ≤ dm) {p : Nat} {c : Int → Int} {n : Int} {N w : Nat} (hw : w ≤ 5) (tp : TO p)
    (O1 : w < 5 → OpS p c n N (4 * (w + 1) + 4) (fun h => evm d 53 [vR 6 1, vR 2 (p + 7), vI (iZ ((w : Int) + 1))] h) (fun h => evm dm 173 [vR 12 68, vI (iZ ((w : Int) + 1))] h))
    (O2 : w < 5 → OpS p c n N (4 * (w + 1)) (fun h => evm d 49 [vR 6 1, vR 2 (p + 7), vI (iZ ((w : Int) + 1))] h) (fun h => evm dm 169 [vR 12 68, vI (iZ ((w : Int) + 1))] h)) : OpS p c n N (4 * w + 4) (fun h => evm (d + 1) 53 [vR 6 1, vR 2 (p + 7), vI (iZ w)] h) (fun h => evm (dm + 1) 173 [vR 12 68, vI (iZ w)] h) := by
  intro hx hm m H i cl S hH
  have J := S.2.1
  have M := S.2.2.1
  have tb := Tok_b (c := c) J.2.1.1.1 i
  have okk := J.2.1.2.2
  have n1 := M.1.2.2.1.1
  have iN := M.2.1.2
  have fb := fkt_b c n (Tok c n i)
  have kb := kM_b c n (Tok c n i)
  have nfv : ∀ v, 0 ≤ v → iZ v = (-5 : Int32) → v < 10000 → False := fun v v0 e v1 => by
    rw [show (-5 : Int32) = iZ (-5) from rfl, iz_eq (by omega)] at e; omega
  obtain ⟨fv, hfv⟩ : ∃ fv, fv = pif (kiX c n (Tok c n i) = 3) (nvl c n (Tok c n i)) (pif (fkt c n (Tok c n i) = -1) (-5) (-(1 + fkt c n (Tok c n i)))) := ⟨_, rfl⟩
  have fvb : -5 ≤ fv ∧ fv < 10000 := by
    rw [hfv]
    by_cases k3 : kiX c n (Tok c n i) = 3
    · have := kX_n okk tb.1 k3
      rw [pif_t k3]; omega
    · rw [pif_f k3]; unfold pif; split <;> omega
  have fv5 : fv = -5 ↔ ¬ atm c n (Tok c n i) := by
    rw [hfv]
    unfold atm
    by_cases k3 : kiX c n (Tok c n i) = 3
    · have := kX_n okk tb.1 k3
      rw [pif_t k3]; omega
    · rw [pif_f k3]
      by_cases f1 : fkt c n (Tok c n i) = -1
      · rw [pif_t f1]; omega
      · rw [pif_f f1]; omega
  -- the class up to its choice
  have eX : evm (d + 1) 53 [vR 6 1, vR 2 (p + 7), vI (iZ w)] hx = L_StairReader_readPart_54 d 1 (p + 7) (iZ w) (bZ (WdS c n (Tok c n i) 16)) (bZ (kiX c n (Tok c n i) = 40)) (iZ fv) hx := by
    rw [e_StairReader_readPart]
    simp only [J.1.r 1 0 2, bR_s]
    rw [wX (by omega) J (by decide)]
    simp only [bI_s, J.1.r 1 0 2, bR_s]
    have e27 : ∀ b : Int32, L_StairReader_readPart_27 d 1 (p + 7) (iZ w) (bZ (WdS c n (Tok c n i) 16)) b hx = L_StairReader_readPart_54 d 1 (p + 7) (iZ w) (bZ (WdS c n (Tok c n i) 16)) b (iZ fv) hx := by
      intro b
      rw [e_StairReader_readPart_27]
      simp only [J.1.r 1 0 2, bR_s]
      by_cases k3 : kiX c n (Tok c n i) = 3
      · rw [ifp_t ((kX3 J).mpr k3), J.2.2.1.2.2.2.2 k3, hfv, pif_t k3]
      · rw [ifp_f (fun y => k3 ((kX3 J).mp y)), x_nf (by omega) J, hfv, pif_f k3]
        rfl
    by_cases k40 : kiX c n (Tok c n i) = 40
    · rw [ifp_t ((kX40 J).mpr k40), bZ_t k40]; exact e27 _
    · rw [ifp_f (fun y => k40 ((kX40 J).mp y)), bZ_f k40]; exact e27 _
  have eM : evm (dm + 1) 173 [vR 12 68, vI (iZ w)] hm = L_M_takePart_63 dm 68 (iZ w) (bZ (kiX c n (Tok c n i) = 3)) (iZ (fkt c n (Tok c n i))) hm := by
    rw [e_M_takePart, M.2.2, ifp_f (by decide)]
    simp only [M.1.1.r 4 70, M.1.1.n 70 1002, bR_s, M.2.1.1]
    rw [ifp_t ((inb_iz (by omega)).mpr (by omega)), ix_iz (by omega), Int.toNat_natCast, (M.1.2.2.1.2.2.2.1 i iN).1, u_ft (by omega) M, u_ft (by omega) M]
    by_cases k3 : kiX c n (Tok c n i) = 3
    · rw [ifp_t (by rw [(k_nu tb.1 okk).mp k3]; rfl), bZ_t k3]; rfl
    · rw [ifp_f (fun y => k3 ((k_nu tb.1 okk).mpr (by rw [show (2 : Int32) = iZ 2 from rfl] at y; exact (iz_eq (by omega)).mp y))), bZ_f k3]; rfl
  dsimp only
  rw [eX, eM, e_StairReader_readPart_54, e_M_takePart_63]
  have l0 : (iZ (fkt c n (Tok c n i)) < (0 : Int32)) ↔ fkt c n (Tok c n i) = -1 := by
    rw [show (0 : Int32) = iZ 0 from rfl, iz_lt (by omega)]; omega
  have l5 : (iZ (w : Int) = (5 : Int32)) ↔ w = 5 := by
    rw [show (5 : Int32) = iZ 5 from rfl, iz_eq (by omega)]; omega
  have l5' : (iZ (w : Int) < (5 : Int32)) ↔ w < 5 := by
    rw [show (5 : Int32) = iZ 5 from rfl, iz_lt (by omega)]; omega
  have w15 : evm dm 149 [vR 12 68, vI (15 : Int32)] hm = some (some (vI (bZ (WdS c n (Tok c n i) 16))), hm) := u_iw (w := 15) (by omega) M (by decide)
  have s40 : evm dm 148 [vR 12 68, vI (40 : Int32)] hm = some (some (vI (bZ (kiX c n (Tok c n i) = 40))), hm) := u_is (r := 40) (by omega) M (by unfold sgn; omega)
  by_cases A : atm c n (Tok c n i) ∨ kiX c n (Tok c n i) = 40 ∨ WdS c n (Tok c n i) 16
  · -- it may stand: only the depth
    have f5 : evm dm 147 [vR 12 68, vI (5 : Int32)] hm = some (none, sI hm 68 8 (iZ (5 + 16 * Tok c n i))) := u_wr (by omega) M 5
    have eX' : ∀ z : Option Rs, L_StairReader_readPart_78 d 1 (p + 7) (iZ w) (bZ (WdS c n (Tok c n i) 16)) (bZ (kiX c n (Tok c n i) = 40)) (iZ fv) hx = z → ifp (bZ (WdS c n (Tok c n i) 16) = 0) (ifp (bZ (kiX c n (Tok c n i) = 40) = 0) (ifp (iZ fv = (-5 : Int32)) (bI (evm d 60 [vR 6 1, vI (1 : Int32)] hx) fun x2 h1 => bif isB x2 then some (some (vI x2), h1) else none) (L_StairReader_readPart_78 d 1 (p + 7) (iZ w) (bZ (WdS c n (Tok c n i) 16)) (bZ (kiX c n (Tok c n i) = 40)) (iZ fv) hx)) (L_StairReader_readPart_78 d 1 (p + 7) (iZ w) (bZ (WdS c n (Tok c n i) 16)) (bZ (kiX c n (Tok c n i) = 40)) (iZ fv) hx)) (L_StairReader_readPart_78 d 1 (p + 7) (iZ w) (bZ (WdS c n (Tok c n i) 16)) (bZ (kiX c n (Tok c n i) = 40)) (iZ fv) hx) = z := by
      intro z e
      refine ifp_r (fun y1 => ifp_r (fun y2 => ifp_r (fun y3 => ?_) (fun _ => e)) (fun _ => e)) (fun _ => e)
      exfalso
      have y3' : fv = -5 := by rw [show (-5 : Int32) = iZ (-5) from rfl] at y3; exact (iz_eq (by omega)).mp y3
      have n16 : ¬ WdS c n (Tok c n i) 16 := bZ_0.mp y1
      have n40 : ¬ kiX c n (Tok c n i) = 40 := bZ_0.mp y2
      rcases A with a | a | a
      · exact fv5.mp y3' a
      · exact n40 a
      · exact n16 a
    have eM' : ∀ z : Option Rs, ifp (iZ (w : Int) = (5 : Int32)) (bV (evm dm 147 [vR 12 68, vI (5 : Int32)] hm) fun h2 => L_M_takePart_107 dm 68 (iZ w) (bZ (kiX c n (Tok c n i) = 3)) (iZ (fkt c n (Tok c n i))) h2) (L_M_takePart_107 dm 68 (iZ w) (bZ (kiX c n (Tok c n i) = 3)) (iZ (fkt c n (Tok c n i))) hm) = z → (ifp (iZ (fkt c n (Tok c n i)) < (0 : Int32))
      (ifp (bZ (kiX c n (Tok c n i) = 3) = 0)
        (bI (evm dm 148 [vR 12 68, vI (40 : Int32)] hm) fun x4 h3 =>
        ifp (x4 = 0)
          (bI (evm dm 149 [vR 12 68, vI (15 : Int32)] h3) fun x7 h6 =>
          ifp (x7 = 0)
            (bV (evm dm 147 [vR 12 68, vI (1 : Int32)] h6) fun h9 =>
            L_M_takePart_107 dm 68 (iZ w) (bZ (kiX c n (Tok c n i) = 3)) (iZ (fkt c n (Tok c n i))) h9)
            (ifp (iZ (w : Int) = (5 : Int32))
              (bV (evm dm 147 [vR 12 68, vI (5 : Int32)] h6) fun h8 =>
              L_M_takePart_107 dm 68 (iZ w) (bZ (kiX c n (Tok c n i) = 3)) (iZ (fkt c n (Tok c n i))) h8)
              (L_M_takePart_107 dm 68 (iZ w) (bZ (kiX c n (Tok c n i) = 3)) (iZ (fkt c n (Tok c n i))) h6)))
          (ifp (iZ (w : Int) = (5 : Int32))
            (bV (evm dm 147 [vR 12 68, vI (5 : Int32)] h3) fun h5 =>
            L_M_takePart_107 dm 68 (iZ w) (bZ (kiX c n (Tok c n i) = 3)) (iZ (fkt c n (Tok c n i))) h5)
            (L_M_takePart_107 dm 68 (iZ w) (bZ (kiX c n (Tok c n i) = 3)) (iZ (fkt c n (Tok c n i))) h3)))
        (ifp (iZ (w : Int) = (5 : Int32))
          (bV (evm dm 147 [vR 12 68, vI (5 : Int32)] hm) fun h2 =>
          L_M_takePart_107 dm 68 (iZ w) (bZ (kiX c n (Tok c n i) = 3)) (iZ (fkt c n (Tok c n i))) h2)
          (L_M_takePart_107 dm 68 (iZ w) (bZ (kiX c n (Tok c n i) = 3)) (iZ (fkt c n (Tok c n i))) hm)))
      (ifp (iZ (w : Int) = (5 : Int32))
        (bV (evm dm 147 [vR 12 68, vI (5 : Int32)] hm) fun h1 =>
        L_M_takePart_107 dm 68 (iZ w) (bZ (kiX c n (Tok c n i) = 3)) (iZ (fkt c n (Tok c n i))) h1)
        (L_M_takePart_107 dm 68 (iZ w) (bZ (kiX c n (Tok c n i) = 3)) (iZ (fkt c n (Tok c n i))) hm))) = z := by
      intro z e
      rw [s40]
      simp only [bI_s]
      rw [w15]
      simp only [bI_s]
      refine ifp_r (fun y1 => ifp_r (fun y2 => ifp_r (fun y3 => ifp_r (fun y4 => ?_) (fun _ => e)) (fun _ => e)) (fun _ => e)) (fun _ => e)
      exfalso
      have a1 := l0.mp y1
      have a2 : ¬ kiX c n (Tok c n i) = 3 := bZ_0.mp y2
      have a3 : ¬ kiX c n (Tok c n i) = 40 := bZ_0.mp y3
      have a4 : ¬ WdS c n (Tok c n i) 16 := bZ_0.mp y4
      unfold atm at A
      rcases A with (a | a) | a | a
      · exact a2 a
      · omega
      · exact a3 a
      · exact a4 a
    by_cases h5 : w = 5
    · refine ⟨sI hx 1 2 (iZ (5 + 16 * Tok c n i)), sI hm 68 8 (iZ (5 + 16 * Tok c n i)), 0, eX' _ ?_, eM' _ ?_, ?_⟩
      · rw [e_StairReader_readPart_78, ifp_f (fun y => by have := l5'.mp y; omega), show (5 : Int32) = iZ 5 from rfl, x_fl (by omega) J]
        simp only [bI_s, isB_0, cond_true]
      · rw [ifp_t (l5.mpr h5), f5]
        simp only [bV_s]
        have F := M.fl (k := 5) (by omega)
        rw [e_M_takePart_107, F.2.1, ifp_t (by rw [show (0 : Int32) = iZ 0 from rfl]; exact (iz_lt (by have := F.2.2; omega)).mpr (by have := F.2.2; omega))]
      · have f := S.fl (k := 5) (by omega)
        exact ⟨f.1, f.2.1, Or.inr ⟨rfl, f.2.2⟩⟩
    · have w5 : w < 5 := by omega
      have k0 : kiX c n (Tok c n i) ≠ 0 := by
        intro k0
        rcases A with a | a | a
        · rcases a with a | a
          · omega
          · have := (fkt_k a).1; omega
        · omega
        · have := a.1; omega
      obtain ⟨x1, a1, a2, a3, S1⟩ := S.av (d := d) (by omega) k0
      have J1 := S1.2.1
      have M1 := S1.2.2.1
      have eMw : ∀ z : Option Rs, L_M_takePart_107 dm 68 (iZ w) (bZ (kiX c n (Tok c n i) = 3)) (iZ (fkt c n (Tok c n i))) hm = z → ifp (iZ (w : Int) = (5 : Int32)) (bV (evm dm 147 [vR 12 68, vI (5 : Int32)] hm) fun h2 => L_M_takePart_107 dm 68 (iZ w) (bZ (kiX c n (Tok c n i) = 3)) (iZ (fkt c n (Tok c n i))) h2) (L_M_takePart_107 dm 68 (iZ w) (bZ (kiX c n (Tok c n i) = 3)) (iZ (fkt c n (Tok c n i))) hm) = z := fun z e => by
        rw [ifp_f (fun y => h5 (l5.mp y))]; exact e
      have hw15 := u_hw (d := dm) (by omega) M (w := 15) (by decide)
      have hs40 := u_hs (d := dm) (by omega) M (r := 40) (by unfold sgn; omega)
      by_cases W : WdS c n (Tok c n i) 16
      · -- not
        have k40 : ¬ kiX c n (Tok c n i) = 40 := by have := W.1; omega
        obtain ⟨x2, m2, r, b1, b2, b3, b4, b5⟩ := O1 w5 _ _ _ _ _ _ S1 (by omega)
        dsimp only at b1 b2
        have ex : L_StairReader_readPart_78 d 1 (p + 7) (iZ w) (bZ (WdS c n (Tok c n i) 16)) (bZ (kiX c n (Tok c n i) = 40)) (iZ fv) hx = ifp (iZ r = (0 : Int32)) (some (some (vI (0 : Int32)), x2)) (bV (evm d 12 [vR 2 (p + 7), vI (-5 : Int32)] x2) fun h2 => some (some (vI (1 : Int32)), h2)) := by
          rw [e_StairReader_readPart_78, ifp_t (l5'.mpr w5)]
          simp only [J.1.r 1 0 2, bR_s, a1, bV_s]
          rw [bZ_f k40, ifp_t (by rfl), bZ_t W, ifp_f (by decide), show (1 : Int32) = iZ 1 from rfl, iz_add, b1]
          simp only [bI_s]
          rw [e_StairReader_readPart_144, ifp_f (show ¬ iZ 1 = (0 : Int32) by decide)]
          rfl
        have em : L_M_takePart_107 dm 68 (iZ w) (bZ (kiX c n (Tok c n i) = 3)) (iZ (fkt c n (Tok c n i))) hm = bV (evm dm 168 [vR 12 68, vI (iZ 3), vI (iZ 0)] m2) fun h => some (none, h) := by
          rw [e_M_takePart_107, M.2.2, ifp_f (by decide), show (15 : Int32) = iZ ((15 : Nat) : Int) from rfl, hw15.1 W]
          simp only [bI_s]
          rw [ifp_f (by decide), show (1 : Int32) = iZ 1 from rfl, iz_add, b2]
          rfl
        rcases b5 with ⟨r1, i', ii, cl', S2⟩ | ⟨r0, F⟩
        · subst r1
          have cm := S2.2.2.2.2
          have iN' := S2.2.2.1.2.1.2
          obtain ⟨co, ca, C, hh⟩ := S2.2.2.2.1
          have S3 := S2.wk.em (k := 3) (a := 0) (by omega) (by omega) (by omega) (by omega) (by omega) (by omega) (by omega)
          rw [if_neg (by omega), if_pos rfl] at S3
          refine ⟨_, _, 1, eX' _ (ex.trans ?_), eM' _ (eMw _ (em.trans ?_)), (a2.tr b3).tr (adH_q tp cl' (deed 3 0)), (a3.tr b4).tr (emH_q cl' 3 0), Or.inl ⟨rfl, i', by omega, _, S3⟩⟩
          · rw [ifp_f (by decide), show (-5 : Int32) = iZ (deed 3 0) from rfl, x_ad (by omega) S2.2.1.1 S2.1 C.1.1 (by omega)]
            rfl
          · rw [u_em (by omega) S2.2.2.1.1.1 C.1.2 (by omega)]
            rfl
        · subst r0
          obtain ⟨hm', e1, e2, e3⟩ := F.em 3 0
          refine ⟨x2, hm', 0, eX' _ (ex.trans ?_), eM' _ (eMw _ (em.trans ?_)), a2.tr b3, (a3.tr b4).tr e2, Or.inr ⟨rfl, e3⟩⟩
          · rw [ifp_t (by rfl)]; rfl
          · rw [e1 dm (by omega)]; rfl
      · by_cases k40 : kiX c n (Tok c n i) = 40
        · -- (
          obtain ⟨x2, m2, r, b1, b2, b3, b4, b5⟩ := O2 w5 _ _ _ _ _ _ S1 (by omega)
          dsimp only at b1 b2
          have ex : L_StairReader_readPart_78 d 1 (p + 7) (iZ w) (bZ (WdS c n (Tok c n i) 16)) (bZ (kiX c n (Tok c n i) = 40)) (iZ fv) hx = ifp (iZ r = (0 : Int32)) (some (some (vI (0 : Int32)), x2)) (bI (evm d 59 [vR 6 1, vI (iZ 41)] x2) fun x8 h7 => ifp (x8 = 0) (some (some (vI (0 : Int32)), h7)) (some (some (vI (1 : Int32)), h7))) := by
            rw [e_StairReader_readPart_78, ifp_t (l5'.mpr w5)]
            simp only [J.1.r 1 0 2, bR_s, a1, bV_s]
            rw [bZ_t k40, ifp_f (by decide), show (1 : Int32) = iZ 1 from rfl, iz_add, b1]
            rfl
          have em : L_M_takePart_107 dm 68 (iZ w) (bZ (kiX c n (Tok c n i) = 3)) (iZ (fkt c n (Tok c n i))) hm = bV (evm dm 150 [vR 12 68, vI (iZ 41)] m2) fun h => some (none, h) := by
            rw [e_M_takePart_107, M.2.2, ifp_f (by decide), show (15 : Int32) = iZ ((15 : Nat) : Int) from rfl, hw15.2 W]
            simp only [bI_s]
            rw [ifp_t (by rfl), show (40 : Int32) = iZ 40 from rfl, hs40.1 k40]
            simp only [bI_s]
            rw [ifp_f (by decide), show (1 : Int32) = iZ 1 from rfl, iz_add, b2]
            rfl
          rcases b5 with ⟨r1, i', ii, cl', S2⟩ | ⟨r0, F⟩
          · subst r1
            have X41 := x_ts (d := d) (by omega) S2.2.1 (r := 41) (by omega)
            have M41 := u_ts (d := dm) (by omega) S2.2.2.1 (r := 41) (by unfold sgn; omega)
            by_cases k41 : kiX c n (Tok c n i') = 41
            · obtain ⟨x3, c1, c2, c3, S3⟩ := S2.av (d := d) (by omega) (by omega)
              obtain ⟨x3', d1, d2, d3, d4⟩ := X41.1 k41
              have S3' : MSt p c n N (m + 1 + 1) (H + 1) (i' + 1) cl' x3' (sI m2 68 7 (iZ ((i' : Int) + 1))) := by
                obtain ⟨_, _, q1, ⟨co, ca, C, hh⟩, q2⟩ := S3
                have tp' : 48 ≤ p := by unfold TO at tp; omega
                obtain ⟨co', ca', C', hh'⟩ := S2.2.2.2.1
                refine ⟨tp, d2, q1, ⟨co', ca', ⟨⟨?_, ?_⟩, fun j hj => ?_, C'.2.2⟩, hh'⟩, q2⟩
                · rw [d3.2.1 _ (by omega) (by omega)]; exact C'.1.1
                · rw [sI_o _ _ (by omega)]; exact C'.1.2
                · rw [d3.2.1 _ (by omega) (by omega), sI_o _ _ (by omega), sI_o _ _ (by omega)]; exact C'.2.1 j hj
              refine ⟨x3', sI m2 68 7 (iZ ((i' : Int) + 1)), 1, eX' _ (ex.trans ?_), eM' _ (eMw _ (em.trans ?_)), (a2.tr b3).tr (d3.m p), (a3.tr b4).tr c3, Or.inl ⟨rfl, i' + 1, by omega, _, S3'.wk.wk⟩⟩
              · rw [ifp_f (by decide), d1]
                simp only [bI_s]
                rw [ifp_f (by decide)]
                rfl
              · rw [M41.1 k41]; rfl
            · have f := S2.fl (k := 1) (by omega)
              refine ⟨_, _, 0, eX' _ (ex.trans ?_), eM' _ (eMw _ (em.trans ?_)), (a2.tr b3).tr f.1, (a3.tr b4).tr f.2.1, Or.inr ⟨rfl, f.2.2.wk⟩⟩
              · rw [ifp_f (by decide), X41.2 k41]
                simp only [bI_s]
                rw [ifp_t (by rfl)]
                rfl
              · rw [M41.2 k41]; rfl
          · subst r0
            have F0 := F
            obtain ⟨F', f1, f2, f3⟩ := F
            refine ⟨x2, m2, 0, eX' _ (ex.trans ?_), eM' _ (eMw _ (em.trans ?_)), a2.tr b3, a3.tr b4, Or.inr ⟨rfl, F0.wk⟩⟩
            · rw [ifp_t (by rfl)]; rfl
            · rw [u_tsF (by omega) f2]; rfl
        · -- a number or a fact
          have at' : atm c n (Tok c n i) := by
            rcases A with a | a | a
            · exact a
            · exact absurd a k40
            · exact absurd a W
          have ex : L_StairReader_readPart_78 d 1 (p + 7) (iZ w) (bZ (WdS c n (Tok c n i) 16)) (bZ (kiX c n (Tok c n i) = 40)) (iZ fv) hx = bV (evm d 12 [vR 2 (p + 7), vI (iZ fv)] x1) fun h2 => some (some (vI (1 : Int32)), h2) := by
            rw [e_StairReader_readPart_78, ifp_t (l5'.mpr w5)]
            simp only [J.1.r 1 0 2, bR_s, a1, bV_s]
            rw [bZ_f k40, ifp_t (by rfl), bZ_f W, ifp_t (by rfl), e_StairReader_readPart_144, ifp_t (by rfl)]
          obtain ⟨k, a, hk, ka, ef⟩ : ∃ k a : Int, (k = 1 ∧ 0 ≤ a ∧ a ≤ 9999 ∨ k = 2 ∧ 0 ≤ a ∧ a ≤ 3) ∧ L_M_takePart_107 dm 68 (iZ w) (bZ (kiX c n (Tok c n i) = 3)) (iZ (fkt c n (Tok c n i))) hm = L_M_takePart_193 dm 68 (iZ a) (iZ k) 68 hm ∧ fv = deed k a := by
            have e0 : L_M_takePart_107 dm 68 (iZ w) (bZ (kiX c n (Tok c n i) = 3)) (iZ (fkt c n (Tok c n i))) hm = ifp (bZ (kiX c n (Tok c n i) = 3) = 0) (L_M_takePart_175 dm 68 (bZ (kiX c n (Tok c n i) = 3)) (iZ (fkt c n (Tok c n i))) (2 : Int32) 68 hm) (L_M_takePart_175 dm 68 (bZ (kiX c n (Tok c n i) = 3)) (iZ (fkt c n (Tok c n i))) (1 : Int32) 68 hm) := by
              rw [e_M_takePart_107, M.2.2, ifp_f (by decide), show (15 : Int32) = iZ ((15 : Nat) : Int) from rfl, hw15.2 W]
              simp only [bI_s]
              rw [ifp_t (show iZ 0 = (0 : Int32) from rfl), show (40 : Int32) = iZ 40 from rfl, hs40.2 k40]
              simp only [bI_s]
              rw [ifp_t (show iZ 0 = (0 : Int32) from rfl)]
            by_cases k3 : kiX c n (Tok c n i) = 3
            · have kn := kX_n okk tb.1 k3
              have iN' := M.lt k0
              have eb := tkE_b (c := c) kn.1
              refine ⟨1, nvl c n (Tok c n i), Or.inl ⟨rfl, kn.2.2.2.2⟩, ?_, ?_⟩
              · have va : vaM c n (Tok c n i) = nvl c n (Tok c n i) := by
                  unfold vaM nvl; rw [pif_f kn.2.1, pif_t kn.2.2.1, show min 4 (tkE c n (Tok c n i) - Tok c n i).toNat = (tkE c n (Tok c n i) - Tok c n i).toNat by omega]
                rw [e0, bZ_t k3, ifp_f (by decide), e_M_takePart_175, ifp_f (by decide)]
                simp only [M.1.1.r 6 72, M.1.1.n 72 1002, bR_s, M.2.1.1]
                rw [ifp_t ((inb_iz (by omega)).mpr (by omega)), ix_iz (by omega), Int.toNat_natCast, M.1.2.2.1.2.2.2.2 i iN', va, jz_n (by omega)]
                rfl
              · rw [hfv, pif_t k3]; rfl
            · have f0 : 0 ≤ fkt c n (Tok c n i) := by
                rcases at' with a | a
                · exact absurd a k3
                · exact a
              refine ⟨2, fkt c n (Tok c n i), Or.inr ⟨rfl, by omega⟩, ?_, ?_⟩
              · rw [e0, bZ_f k3, ifp_t (by rfl), e_M_takePart_175, ifp_t (by rfl)]
                rfl
              · rw [hfv, pif_f k3, pif_f (by omega)]; rfl
          have cm := S.2.2.2.2
          have iN' := M.lt k0
          obtain ⟨co, ca, C, hh⟩ := S.2.2.2.1
          have C1 := S1.2.2.2.1
          obtain ⟨co1, ca1, C1, hh1⟩ := C1
          have S3 := S1.wk.em (k := k) (a := a) (by omega) (by omega) (by omega) (by omega) (by omega) (by omega) (by omega)
          rw [if_pos (by omega)] at S3
          have eh : sI (emH hm cl k a) 68 7 (iZ ((i : Int) + 1)) = emH (sI hm 68 7 (iZ ((i : Int) + 1))) cl k a := by
            unfold emH
            exact sI_sw hm cl (iZ k) (iZ a) (iZ ((cl : Int) + 1)) (iZ ((i : Int) + 1))
          refine ⟨adH x1 p cl (deed k a), emH (sI hm 68 7 (iZ ((i : Int) + 1))) cl k a, 1, eX' _ (ex.trans ?_), eM' _ (eMw _ (ka.trans ?_)), a2.tr (adH_q tp cl (deed k a)), a3.tr (emH_q cl k a), Or.inl ⟨rfl, i + 1, by omega, _, S3⟩⟩
          · rw [ef, x_ad (by omega) S1.2.1.1 S1.1 C1.1.1 (by omega)]
            rfl
          · rw [e_M_takePart_193, u_em (by omega) M.1.1 C.1.2 (by omega)]
            simp only [bV_s]
            rw [← eh, show hI (emH hm cl k a) 68 7 = iZ i by unfold emH; rw [sI_o _ _ (by omega), sI_o _ _ (by omega), sI_o _ _ (by omega)]; exact M.2.1.1, show (1 : Int32) = iZ 1 from rfl, iz_add]
  · -- a fault
    have n1' : ¬ atm c n (Tok c n i) := fun a => A (Or.inl a)
    have n2 : ¬ kiX c n (Tok c n i) = 40 := fun a => A (Or.inr (Or.inl a))
    have n3 : ¬ WdS c n (Tok c n i) 16 := fun a => A (Or.inr (Or.inr a))
    have n4 : ¬ kiX c n (Tok c n i) = 3 := fun a => n1' (Or.inl a)
    have n5 : fkt c n (Tok c n i) = -1 := by
      have : ¬ 0 ≤ fkt c n (Tok c n i) := fun a => n1' (Or.inr a)
      omega
    have f := S.fl (k := 1) (by omega)
    refine ⟨sI hx 1 2 (iZ (1 + 16 * Tok c n i)), sI hm 68 8 (iZ (1 + 16 * Tok c n i)), 0, ?_, ?_, f.1, f.2.1, Or.inr ⟨rfl, f.2.2⟩⟩
    · rw [bZ_f n3, ifp_t (by rfl), bZ_f n2, ifp_t (by rfl), ifp_t (by rw [fv5.mpr n1']; rfl), show (1 : Int32) = iZ 1 from rfl, x_fl (by omega) J]
      simp only [bI_s, isB_0, cond_true]
    · rw [ifp_t (l0.mpr n5), bZ_f n4, ifp_t (by rfl), s40, bZ_f n2]
      simp only [bI_s]
      rw [ifp_t (by rfl), w15, bZ_f n3]
      simp only [bI_s]
      rw [ifp_t (by rfl), show (1 : Int32) = iZ 1 from rfl, u_wr (by omega) M]
      simp only [bV_s]
      have F := M.fl (k := 1) (by omega)
      rw [e_M_takePart_107, F.2.1, ifp_t (by rw [show (0 : Int32) = iZ 0 from rfl]; exact (iz_lt (by have := F.2.2; omega)).mpr (by have := F.2.2; omega))]
theorem j_moods {p : Nat} {c : Int → Int} {n : Int} {N : Nat} (tp : TO p) : ∀ u w : Nat, w + u = 5 → ∀ d dm, 14 + 5 * u ≤ d → 14 + 5 * u ≤ dm → OpS p c n N (4 * w + 4) (fun h => evm d 53 [vR 6 1, vR 2 (p + 7), vI (iZ w)] h) (fun h => evm dm 173 [vR 12 68, vI (iZ w)] h) ∧ OpS p c n N (4 * w) (fun h => evm (d + 4) 49 [vR 6 1, vR 2 (p + 7), vI (iZ w)] h) (fun h => evm (dm + 4) 169 [vR 12 68, vI (iZ w)] h) := by
  have up4 : ∀ w d dm : Nat, w ≤ 5 → 6 ≤ d → 6 ≤ dm → OpS p c n N (4 * w + 4) (fun h => evm d 53 [vR 6 1, vR 2 (p + 7), vI (iZ w)] h) (fun h => evm dm 173 [vR 12 68, vI (iZ w)] h) → OpS p c n N (4 * w) (fun h => evm (d + 4) 49 [vR 6 1, vR 2 (p + 7), vI (iZ w)] h) (fun h => evm (dm + 4) 169 [vR 12 68, vI (iZ w)] h) := by
    intro w d dm hw hd hm0 O
    exact j_either (d := d + 3) (dm := dm + 3) (by omega) (by omega) hw (j_test (d := d + 2) (dm := dm + 2) (by omega) (by omega) hw (j_sum (d := d + 1) (dm := dm + 1) (by omega) (by omega) hw (j_prod (d := d) (dm := dm) hd hm0 hw O)))
  intro u
  induction u with
  | zero =>
    intro w hw d dm hd hm0
    obtain ⟨d, rfl⟩ : ∃ e, d = e + 1 := ⟨d - 1, by omega⟩
    obtain ⟨dm, rfl⟩ : ∃ e, dm = e + 1 := ⟨dm - 1, by omega⟩
    have P := j_part (d := d) (dm := dm) (by omega) (by omega) (p := p) (c := c) (n := n) (N := N) (w := w) (by omega) tp (fun y => by omega) (fun y => by omega)
    exact ⟨P, up4 w (d + 1) (dm + 1) (by omega) (by omega) (by omega) P⟩
  | succ u ih =>
    intro w hw d dm hd hm0
    obtain ⟨d, rfl⟩ : ∃ e, d = e + 5 := ⟨d - 5, by omega⟩
    obtain ⟨dm, rfl⟩ : ∃ e, dm = e + 5 := ⟨dm - 5, by omega⟩
    have I1 := ih (w + 1) (by omega) (d + 4) (dm + 4) (by omega) (by omega)
    have I2 := ih (w + 1) (by omega) d dm (by omega) (by omega)
    have P := j_part (d := d + 4) (dm := dm + 4) (by omega) (by omega) (p := p) (c := c) (n := n) (N := N) (w := w) (by omega) tp (fun _ => I1.1) (fun _ => I2.2)
    exact ⟨P, up4 w (d + 5) (dm + 5) (by omega) (by omega) (by omega) P⟩
