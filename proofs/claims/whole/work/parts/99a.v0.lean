/-! lines: mood -/
theorem Pnd.q7 {hx hm hx' hm' : Hp} {p : Nat} {q q' : Int → Int} (P : Pnd hx hm p q) (ex : ∀ r, p ≤ r → r ≤ p + 4 → hI hx' r = hI hx r) (pm : PMd hm' q') (e' : ∀ k, k ≠ 7 → q' k = q k) : Pnd hx' hm' p q' := by
  obtain ⟨p1, p2, p3, p4, p5, p6, V⟩ := P
  have v8 := V.2.2.2.2.2.2.1
  have v15 := V.2.2.2.2.2.2.2.1
  refine ⟨?_, ?_, ?_, ?_, ?_, pm, ?_⟩
  · unfold P9
    rw [ex p (by omega) (by omega), e' 0 (by omega), e' 8 (by omega), e' 1 (by omega), e' 15 (by omega), e' 2 (by omega), e' 3 (by omega), e' 4 (by omega), e' 5 (by omega), e' 6 (by omega)]
    exact p1
  · obtain ⟨B, c1, c2, c3⟩ := p2
    refine ⟨B, c1, by rw [ex p (by omega) (by omega)]; exact c2, fun z => (c3 z).trans ?_⟩
    rw [e' 8 (by omega)]
    exact ⟨fun ⟨k, k1, k2, k3⟩ => ⟨k, k1, k2, by rw [e' _ (by omega)]; exact k3⟩, fun ⟨k, k1, k2, k3⟩ => ⟨k, k1, k2, by rw [e' _ (by omega)] at k3; exact k3⟩⟩
  · obtain ⟨s, c1, c2, c3⟩ := p3
    unfold PSt
    rw [ex (p + 1) (by omega) (by omega), e' 8 (by omega)]
    exact ⟨s, c1, c2, fun z => (c3 z).trans ⟨fun ⟨k, k1, k2, k3⟩ => ⟨k, k1, k2, by rw [e' _ (by omega)]; exact k3⟩, fun ⟨k, k1, k2, k3⟩ => ⟨k, k1, k2, by rw [e' _ (by omega)] at k3; exact k3⟩⟩⟩
  · intro s s1 s2
    rw [e' _ (by omega), ex (p + 3) (by omega) (by omega)]; exact p4 s s1 s2
  · intro a ha
    obtain ⟨B, c1, c2, c3⟩ := p5 a ha
    refine ⟨B, c1, by rw [ex (p + 4) (by omega) (by omega)]; exact c2, fun z hz => (c3 z hz).trans ?_⟩
    unfold Brd
    rw [show (0 : Int) + 15 = 15 from rfl, e' 15 (by omega)]
    exact ⟨fun ⟨k, k1, k2, k3⟩ => ⟨k, k1, k2, by rw [e' _ (by omega)]; exact k3⟩, fun ⟨k, k1, k2, k3⟩ => ⟨k, k1, k2, by rw [e' _ (by omega)] at k3; exact k3⟩⟩
  · obtain ⟨w0, w1, w2, w3, w5, w6, w8, w15, u1, u2, u3, u4, u5, u6, u7⟩ := V
    unfold VPn
    rw [e' 0 (by omega), e' 1 (by omega), e' 2 (by omega), e' 3 (by omega), e' 4 (by omega), e' 5 (by omega), e' 6 (by omega), e' 8 (by omega), e' 15 (by omega), e' 26 (by omega)]
    refine ⟨w0, w1, w2, w3, w5, w6, w8, w15, fun k k1 k2 => ?_, fun i j i1 i2 i3 => ?_, fun k k1 k2 => ?_, fun i j i1 i2 i3 => ?_, fun s s1 s2 => ?_, u6, fun s s1 s2 => ?_⟩
    · rw [e' _ (by omega)]; exact u1 k k1 k2
    · rw [e' _ (by omega), e' _ (by omega)]; exact u2 i j i1 i2 i3
    · rw [e' _ (by omega)]; exact u3 k k1 k2
    · rw [e' _ (by omega), e' _ (by omega)]; exact u4 i j i1 i2 i3
    · rw [e' _ (by omega)]; exact u5 s s1 s2
    · rw [e' _ (by omega)]; exact u7 s s1 s2
theorem l_mood {d e : Nat} (hd : 45 ≤ d) (he : 45 ≤ e) {p : Nat} {c : Int → Int} {n : Int} {N i L : Nat} {q : Int → Int} {hx hm : Hp} (S : LSt p c n N i L q hx hm) (hL : L.testBit 5 = true) (q7 : q 7 = -1) : LLn p c n N i hx hm (bI (evm d 49 [vR 6 1, vR 2 (p + 7), vI (0 : Int32)] hx) fun x10 h9 => ifp (x10 = 0) (some (some (vI (0 : Int32)), h9)) (bI (evm d 59 [vR 6 1, vI (59 : Int32)] h9) fun x12 h11 => ifp (x12 = 0) (some (some (vI (0 : Int32)), h11)) (some (some (vI (1 : Int32)), h11)))) (bV (evm e 169 [vR 12 68, vI (0 : Int32)] (sI hm 74 77 (hI hm 68 13))) fun h7 => bV (evm e 168 [vR 12 68, vI (0 : Int32), vI (0 : Int32)] h7) fun h8 => some (none, h8)) := by
  obtain ⟨tt, J, M, ⟨l1, l2, l3, l4, l5, l6⟩, P, C⟩ := S
  have tp : 48 ≤ p := by unfold TO at tt; omega
  obtain ⟨c1, c2⟩ : hI hx (p + 7) 2 = iZ 0 ∧ hI hm 68 13 = iZ 0 := by
    rcases C with ⟨_, a, b⟩ | ⟨a, _⟩
    · exact ⟨a, b⟩
    · omega
  rw [c2]
  have mq : MQf hm (sI hm 74 77 (iZ 0)) := MQf.s _ _ (by omega)
  have M0 : JM (sI hm 74 77 (iZ 0)) c n N i := M.tr rfl (fun r k hr => sI_o _ _ (by omega)) (by rw [sI_o _ _ (by omega)]; exact M.2.1.1) M.2.1.2 (by rw [sI_o _ _ (by omega)]; exact M.2.2)
  have S0 : MSt p c n N 0 0 i 0 hx (sI hm 74 77 (iZ 0)) := ⟨tt, J, M0, ⟨fun _ => 0, fun _ => 0, ⟨⟨c1, by rw [sI_o _ _ (by omega)]; exact c2⟩, fun j hj => by omega, fun j hj => by omega⟩, rfl⟩, by omega⟩
  have O := (j_moods (p := p) (c := c) (n := n) (N := N) tt 5 0 rfl (d - 4) (e - 4) (by omega) (by omega)).2
  rw [show d - 4 + 4 = d by omega, show e - 4 + 4 = e by omega] at O
  obtain ⟨x2, m2, r, b1, b2, b3, b4, b5⟩ := O hx _ 0 0 i 0 S0 (by omega)
  dsimp only at b1 b2
  rw [show evm d 49 [vR 6 1, vR 2 (p + 7), vI (0 : Int32)] hx = _ from b1, show evm e 169 [vR 12 68, vI (0 : Int32)] (sI hm 74 77 (iZ 0)) = _ from b2]
  simp only [bI_s, bV_s]
  rcases b5 with ⟨r1, i', ii, cl, S1⟩ | ⟨r0, F⟩
  · subst r1
    obtain ⟨_, J1, M1, ⟨co, ca, ⟨⟨d1, d2⟩, d3, d4⟩, hh⟩, cm⟩ := S1
    have N1 := M1.1.2.2.1.1
    have iN := M1.2.1.2
    have cl1 : 1 ≤ cl := by
      rcases Nat.eq_zero_or_pos cl with y | y
      · subst y; exact absurd hh (by show ¬ (0 : Nat) = 1; decide)
      · exact y
    rw [ifp_f (show ¬ iZ 1 = (0 : Int32) by decide), show evm e 168 [vR 12 68, vI (0 : Int32), vI (0 : Int32)] m2 = _ from u_em (by omega) M1.1.1 d2 (by omega) 0 0]
    simp only [bV_s]
    have mo : ∀ r k', r ≠ 75 → r ≠ 76 → ¬ (r = 68 ∧ k' = 13) → hI (emH m2 cl 0 0) r k' = hI m2 r k' := fun r k' r1 r2 r3 => by
      unfold emH; rw [sI_o _ _ r3, sI_o _ _ (by omega), sI_o _ _ (by omega)]
    have S2 : LSt p c n N i' L (upv q 7 0) x2 (emH m2 cl 0 0) := by
      refine ⟨tt, J1, M1.tr rfl (fun r k' hr => mo r k' (by omega) (by omega) (by omega)) (by rw [mo _ _ (by omega) (by omega) (by omega)]; exact M1.2.1.1) M1.2.1.2 (by rw [mo _ _ (by omega) (by omega) (by omega)]; exact M1.2.2), ⟨b3.2.2.trans l1, ?_, l3, fun y => by rw [upv_n _ _ (by omega)]; exact l4 y, fun y => (by rw [hL] at y; cases y), fun y => by rw [upv_n _ _ (by omega)]; exact l6 y⟩, ?_, ?_⟩
      · rw [mo _ _ (by omega) (by omega) (by omega), b4.2 68 14 (by omega) (by omega), sI_o _ _ (by omega)]; exact l2
      · refine P.q7 (fun r r1 r2 => b3.2.1 r (by omega) (by omega) (by omega) (by omega)) ?_ (fun k hk => upv_n _ _ hk)
        have pm := P.2.2.2.2.2.1.s (j := 7) (by omega) 0 (k := 77) (by omega)
        intro j j1 j2
        rw [mo _ _ (by omega) (by omega) (by omega), b4.2 74 _ (by omega) (by omega)]
        exact pm j j1 j2
      · refine Or.inr ⟨upv_e _ _ _, cl, upv co cl 0, upv ca cl 0, ⟨⟨cl1, by omega, upv_e _ _ _, ?_⟩, fun j hj => ?_⟩, d1, ?_, fun j hj => ?_, fun j hj => ?_⟩
        · rw [hgt_c cl (fun i' hi' => upv_n co 0 (by omega))]; exact hh
        · rw [hgt_c j (fun i' hi' => upv_n co 0 (by omega)), upv_n _ _ (by omega), upv_n _ _ (by omega)]; exact d4 j hj
        · unfold emH; rw [sI_e]
        · rw [upv_n _ _ (by omega), upv_n _ _ (by omega)]; exact (d3 j hj).1
        · by_cases ej : j = cl
          · subst ej
            rw [upv_e, upv_e]
            refine ⟨?_, ?_⟩
            · unfold emH; rw [sI_o _ _ (by omega), sI_o _ _ (by omega), sI_e]
            · unfold emH; rw [sI_o _ _ (by omega), sI_e]
          · rw [upv_n _ _ (by omega), upv_n _ _ (by omega)]
            refine ⟨?_, ?_⟩
            · unfold emH; rw [sI_o _ _ (by omega), sI_o _ _ (by omega), sI_o _ _ (by omega)]; exact (d3 j (by omega)).2.1
            · unfold emH; rw [sI_o _ _ (by omega), sI_o _ _ (by omega), sI_o _ _ (by omega)]; exact (d3 j (by omega)).2.2
    obtain ⟨hx', hm', r, a1, a2, a3, a4⟩ := S2.fin (d := d) (by omega)
    refine ⟨hx', _, hm', r, ?_, rfl, a2, a3, a4.pre b3.f ((mq.tr b4.f).tr (emH_q cl 0 0).f) ii⟩
    rw [a1]
    simp only [bI_s]
    rcases a3 with rfl | rfl
    · rw [ifp_t (show iZ 0 = (0 : Int32) from rfl)]; rfl
    · rw [ifp_f (show ¬ iZ 1 = (0 : Int32) by decide)]; rfl
  · subst r0
    obtain ⟨F', f1, f2, cl, f3, f4⟩ := F
    rw [ifp_t (show iZ 0 = (0 : Int32) from rfl), show evm e 168 [vR 12 68, vI (0 : Int32), vI (0 : Int32)] m2 = _ from u_em (by omega) f2.1 f3 (by omega) 0 0]
    simp only [bV_s]
    refine LLn.flt rfl rfl b3.f ((mq.tr b4.f).tr (emH_q cl 0 0).f) ⟨F', f1, f2.1, ?_, f2.2.2⟩
    unfold emH; rw [sI_o _ _ (by omega), sI_o _ _ (by omega), sI_o _ _ (by omega)]; exact f2.2.1
/-! lines: which -/
theorem l_once {d e : Nat} (hd : 8 ≤ d) (he : 3 ≤ e) {p : Nat} {c : Int → Int} {n : Int} {N i L : Nat} {q : Int → Int} {hx hm : Hp} (S : LSt p c n N i L q hx hm) (k0 : kiX c n (Tok c n i) ≠ 0) {b : Nat} (hb : b < 6) (XR MR : Hp → Option Rs) (ih : L.testBit b = false → ∀ hx' hm', LSt p c n N (i + 1) (L ||| 2 ^ b) q hx' hm' → LLn p c n N (i + 1) hx' hm' (XR hx') (MR hm')) : LLn p c n N i hx hm (bI (evm d 55 [vR 6 1, vI (iZ ((2 ^ b : Nat) : Int))] hx) fun x h => ifp (x = 0) (some (some (vI (0 : Int32)), h)) (XR h)) (bI (evm e 160 [vR 12 68, vI (iZ b)] hm) fun x h => ifp (x = 0) (some (none, h)) (MR h)) := by
  have O := S.once hd he k0 hb
  cases hbit : L.testBit b with
  | true =>
    obtain ⟨a1, hm', a2, a3, a4, a5⟩ := O.1 hbit
    rw [a1, a2]
    simp only [bI_s]
    rw [ifp_t (show iZ 0 = (0 : Int32) from rfl), ifp_t (show iZ 0 = (0 : Int32) from rfl)]
    exact LLn.flt rfl rfl a3 a4 a5
  | false =>
    obtain ⟨hx', hm', a1, a2, a3, a4, S'⟩ := O.2 hbit
    rw [a1, a2]
    simp only [bI_s]
    rw [ifp_f (show ¬ iZ 1 = (0 : Int32) by decide), ifp_f (show ¬ iZ 1 = (0 : Int32) by decide)]
    obtain ⟨h1', h2', h3', rr, r1, r2, r3, r4, r5⟩ := ih hbit hx' hm' S'
    exact ⟨h1', h2', h3', rr, r1, r2, r3, r4, r5.pre a3 a4 (by omega)⟩
theorem LLn.yn {p : Nat} {c : Int → Int} {n : Int} {N i : Nat} {hx hm : Hp} {X M : Option Rs} (H : LLn p c n N i hx hm X M) : LLn p c n N i hx hm (bI X fun x h => ifp (x = 0) (some (some (vI (0 : Int32)), h)) (some (some (vI (1 : Int32)), h))) M := by
  obtain ⟨h1', h2', h3', rr, r1, r2, r3, r4, r5⟩ := H
  refine ⟨h1', h2', h3', rr, ?_, r2, r3, r4, r5⟩
  rw [r1]
  simp only [bI_s]
  rcases r4 with rfl | rfl
  · rw [ifp_t (show iZ 0 = (0 : Int32) from rfl)]; rfl
  · rw [ifp_f (show ¬ iZ 1 = (0 : Int32) by decide)]; rfl
theorem LLn.bf {p : Nat} {c : Int → Int} {n : Int} {N i : Nat} {hx hm : Hp} {X M : Option Rs} (H : LLn p c n N i hx hm X M) : LLn p c n N i hx hm (bI X fun x h => bif isB x then some (some (vI x), h) else none) M := by
  obtain ⟨h1', h2', h3', rr, r1, r2, r3, r4, r5⟩ := H
  refine ⟨h1', h2', h3', rr, ?_, r2, r3, r4, r5⟩
  rw [r1]
  rcases r4 with rfl | rfl
  · rfl
  · rfl
theorem LLn.mv {p : Nat} {c : Int → Int} {n : Int} {N i : Nat} {hx hm : Hp} {X M : Option Rs} (H : LLn p c n N i hx hm X M) : LLn p c n N i hx hm X (bV M fun h => some (none, h)) := by
  obtain ⟨h1', h2', h3', rr, r1, r2, r3, r4, r5⟩ := H
  exact ⟨h1', h2', h3', rr, r1, by rw [r2]; rfl, r3, r4, r5⟩
theorem j_line {d e : Nat} (hd : 46 ≤ d) (he : 46 ≤ e) {p : Nat} {c : Int → Int} {n : Int} {N i L : Nat} {q : Int → Int} {hx hm : Hp} (S : LSt p c n N i L q hx hm) (k0 : kiX c n (Tok c n i) ≠ 0) : LLn p c n N i hx hm (evm d 41 [vR 6 1, vR 5 p] hx) (evm e 161 [vR 12 68] hm) := by
  obtain ⟨d, rfl⟩ : ∃ e, d = e + 1 := ⟨d - 1, by omega⟩
  obtain ⟨e, rfl⟩ : ∃ e', e = e' + 1 := ⟨e - 1, by omega⟩
  have J := S.2.1
  have M := S.2.2.1
  have tt := S.1
  have LC := S.2.2.2.1
  have f2 : evm e 149 [vR 12 68, vI (2 : Int32)] hm = some (some (vI (bZ (WdS c n (Tok c n i) 3))), hm) := u_iw (w := 2) (by omega) M (by decide)
  have f3 : evm e 149 [vR 12 68, vI (3 : Int32)] hm = some (some (vI (bZ (WdS c n (Tok c n i) 4))), hm) := u_iw (w := 3) (by omega) M (by decide)
  have f5 : evm e 149 [vR 12 68, vI (5 : Int32)] hm = some (some (vI (bZ (WdS c n (Tok c n i) 5))), hm) := u_iw (w := 5) (by omega) M (by decide)
  have f6 : evm e 149 [vR 12 68, vI (6 : Int32)] hm = some (some (vI (bZ (WdS c n (Tok c n i) 7))), hm) := u_iw (w := 6) (by omega) M (by decide)
  have f1 : evm e 149 [vR 12 68, vI (1 : Int32)] hm = some (some (vI (bZ (WdS c n (Tok c n i) 2))), hm) := u_iw (w := 1) (by omega) M (by decide)
  have f4 : evm e 149 [vR 12 68, vI (4 : Int32)] hm = some (some (vI (bZ (WdS c n (Tok c n i) 6))), hm) := u_iw (w := 4) (by omega) M (by decide)
  have f7 : evm e 149 [vR 12 68, vI (7 : Int32)] hm = some (some (vI (bZ (WdS c n (Tok c n i) 8))), hm) := u_iw (w := 7) (by omega) M (by decide)
  have f10 : evm e 149 [vR 12 68, vI (10 : Int32)] hm = some (some (vI (bZ (WdS c n (Tok c n i) 11))), hm) := u_iw (w := 10) (by omega) M (by decide)
  have f12 : evm e 149 [vR 12 68, vI (12 : Int32)] hm = some (some (vI (bZ (WdS c n (Tok c n i) 13))), hm) := u_iw (w := 12) (by omega) M (by decide)
  have f14 : evm e 149 [vR 12 68, vI (14 : Int32)] hm = some (some (vI (bZ (WdS c n (Tok c n i) 15))), hm) := u_iw (w := 14) (by omega) M (by decide)
  by_cases W2 : WdS c n (Tok c n i) 2
  · have no : ∀ r, r ≠ 2 → r < 23 → ¬ WdS c n (Tok c n i) r := fun r r1 r2 a => r1 (a.u W2 r2 (by decide))
    rw [e_StairReader_readLine]
    simp only [J.1.r 1 0 2, bR_s]
    rw [wX (by omega) J (r := 2) (by decide), bZ_t W2]
    simp only [bI_s]
    rw [ifp_f (show ¬ iZ 1 = (0 : Int32) by decide)]
    rw [e_M_readLine]
    rw [f2, bZ_f (no 3 (by decide) (by decide))]
    simp only [bI_s]
    rw [ifp_t (show iZ 0 = (0 : Int32) from rfl)]
    rw [f3, bZ_f (no 4 (by decide) (by decide))]
    simp only [bI_s]
    rw [ifp_t (show iZ 0 = (0 : Int32) from rfl)]
    rw [e_M_readLine_16]
    rw [f5, bZ_f (no 5 (by decide) (by decide))]
    simp only [bI_s]
    rw [ifp_t (show iZ 0 = (0 : Int32) from rfl)]
    rw [f6, bZ_f (no 7 (by decide) (by decide))]
    simp only [bI_s]
    rw [ifp_t (show iZ 0 = (0 : Int32) from rfl)]
    rw [f1, bZ_t W2]
    simp only [bI_s]
    rw [ifp_f (show ¬ iZ 1 = (0 : Int32) by decide)]
    obtain ⟨e, rfl⟩ : ∃ e', e = e' + 1 := ⟨e - 1, by omega⟩
    rw [e_M_readStrides]
    refine LLn.mv ?_
    refine l_once (d := d) (e := e) (by omega) (by omega) S k0 (b := 0) (by decide) (fun h => bI (evm d 42 [vR 6 1, vR 5 p] h) fun x h => ifp (x = 0) (some (some (vI (0 : Int32)), h)) (some (some (vI (1 : Int32)), h))) (fun h => bV (evm e 166 [vR 12 68] h) fun h3 => L_M_readStrides_13 e 68 h3) (fun hb hx' hm' S' => LLn.yn ?_)
    obtain ⟨d, rfl⟩ : ∃ e, d = e + 1 := ⟨d - 1, by omega⟩
    have q8 := LC.2.2.2.1 hb
    have := l_strides (d := d) (e := e) (by omega) (by omega) (L := L ||| 2 ^ 0) (tb_or.mpr (Or.inr rfl)) 6 (i + 1) q hx' hm' S' (by omega)
    rw [q8] at this
    rw [e_StairReader_readStrides, e_StairReader_readStrides_2, ifp_f (by decide), ifp_f (by decide)]
    exact this
  · skip
    by_cases W3 : WdS c n (Tok c n i) 3
    · have no : ∀ r, r ≠ 3 → r < 23 → ¬ WdS c n (Tok c n i) r := fun r r1 r2 a => r1 (a.u W3 r2 (by decide))
      rw [e_StairReader_readLine]
      simp only [J.1.r 1 0 2, bR_s]
      rw [wX (by omega) J (r := 2) (by decide), bZ_f (no 2 (by decide) (by decide))]
      simp only [bI_s]
      rw [ifp_t (show iZ 0 = (0 : Int32) from rfl)]
      rw [e_StairReader_readLine_34]
      simp only [J.1.r 1 0 2, bR_s]
      rw [wX (by omega) J (r := 3) (by decide), bZ_t W3]
      simp only [bI_s]
      rw [ifp_f (show ¬ iZ 1 = (0 : Int32) by decide)]
      rw [e_M_readLine]
      rw [f2, bZ_t W3]
      simp only [bI_s]
      rw [ifp_f (show ¬ iZ 1 = (0 : Int32) by decide)]
      obtain ⟨e, rfl⟩ : ∃ e', e = e' + 1 := ⟨e - 1, by omega⟩
      have g2 : evm e 149 [vR 12 68, vI (2 : Int32)] hm = some (some (vI (bZ (WdS c n (Tok c n i) 3))), hm) := u_iw (w := 2) (by omega) M (by decide)
      have g3 : evm e 149 [vR 12 68, vI (3 : Int32)] hm = some (some (vI (bZ (WdS c n (Tok c n i) 4))), hm) := u_iw (w := 3) (by omega) M (by decide)
      rw [e_M_readStep, g2, bZ_t W3]
      simp only [bI_s]
      rw [ifp_f (show ¬ iZ 1 = (0 : Int32) by decide)]
      exact (l_step (d := d) (e := e) (by omega) (by omega) S k0 (kd := 1) (by omega)).bf.mv
    · skip
      by_cases W4 : WdS c n (Tok c n i) 4
      · have no : ∀ r, r ≠ 4 → r < 23 → ¬ WdS c n (Tok c n i) r := fun r r1 r2 a => r1 (a.u W4 r2 (by decide))
        rw [e_StairReader_readLine]
        simp only [J.1.r 1 0 2, bR_s]
        rw [wX (by omega) J (r := 2) (by decide), bZ_f (no 2 (by decide) (by decide))]
        simp only [bI_s]
        rw [ifp_t (show iZ 0 = (0 : Int32) from rfl)]
        rw [e_StairReader_readLine_34]
        simp only [J.1.r 1 0 2, bR_s]
        rw [wX (by omega) J (r := 3) (by decide), bZ_f (no 3 (by decide) (by decide))]
        simp only [bI_s]
        rw [ifp_t (show iZ 0 = (0 : Int32) from rfl)]
        simp only [J.1.r 1 0 2, bR_s]
        rw [wX (by omega) J (r := 4) (by decide), bZ_t W4]
        simp only [bI_s]
        rw [ifp_f (show ¬ iZ 1 = (0 : Int32) by decide)]
        rw [e_M_readLine]
        rw [f2, bZ_f (no 3 (by decide) (by decide))]
        simp only [bI_s]
        rw [ifp_t (show iZ 0 = (0 : Int32) from rfl)]
        rw [f3, bZ_t W4]
        simp only [bI_s]
        rw [ifp_f (show ¬ iZ 1 = (0 : Int32) by decide)]
        obtain ⟨e, rfl⟩ : ∃ e', e = e' + 1 := ⟨e - 1, by omega⟩
        have g2 : evm e 149 [vR 12 68, vI (2 : Int32)] hm = some (some (vI (bZ (WdS c n (Tok c n i) 3))), hm) := u_iw (w := 2) (by omega) M (by decide)
        have g3 : evm e 149 [vR 12 68, vI (3 : Int32)] hm = some (some (vI (bZ (WdS c n (Tok c n i) 4))), hm) := u_iw (w := 3) (by omega) M (by decide)
        rw [e_M_readStep, g2, bZ_f (no 3 (by decide) (by decide))]
        simp only [bI_s]
        rw [ifp_t (show iZ 0 = (0 : Int32) from rfl), g3, bZ_t W4]
        simp only [bI_s]
        rw [ifp_f (show ¬ iZ 1 = (0 : Int32) by decide)]
        exact (l_step (d := d) (e := e) (by omega) (by omega) S k0 (kd := 2) (by omega)).bf.mv
      · skip
        by_cases W5 : WdS c n (Tok c n i) 5
        · have no : ∀ r, r ≠ 5 → r < 23 → ¬ WdS c n (Tok c n i) r := fun r r1 r2 a => r1 (a.u W5 r2 (by decide))
          rw [e_StairReader_readLine]
          simp only [J.1.r 1 0 2, bR_s]
          rw [wX (by omega) J (r := 2) (by decide), bZ_f (no 2 (by decide) (by decide))]
          simp only [bI_s]
          rw [ifp_t (show iZ 0 = (0 : Int32) from rfl)]
          rw [e_StairReader_readLine_34]
          simp only [J.1.r 1 0 2, bR_s]
          rw [wX (by omega) J (r := 3) (by decide), bZ_f (no 3 (by decide) (by decide))]
          simp only [bI_s]
          rw [ifp_t (show iZ 0 = (0 : Int32) from rfl)]
          simp only [J.1.r 1 0 2, bR_s]
          rw [wX (by omega) J (r := 4) (by decide), bZ_f (no 4 (by decide) (by decide))]
          simp only [bI_s]
          rw [ifp_t (show iZ 0 = (0 : Int32) from rfl)]
          simp only [J.1.r 1 0 2, bR_s]
          rw [wX (by omega) J (r := 5) (by decide), bZ_t W5]
          simp only [bI_s]
          rw [ifp_f (show ¬ iZ 1 = (0 : Int32) by decide)]
          rw [e_M_readLine]
          rw [f2, bZ_f (no 3 (by decide) (by decide))]
          simp only [bI_s]
          rw [ifp_t (show iZ 0 = (0 : Int32) from rfl)]
          rw [f3, bZ_f (no 4 (by decide) (by decide))]
          simp only [bI_s]
          rw [ifp_t (show iZ 0 = (0 : Int32) from rfl)]
          rw [e_M_readLine_16]
          rw [f5, bZ_t W5]
          simp only [bI_s]
          rw [ifp_f (show ¬ iZ 1 = (0 : Int32) by decide)]
          obtain ⟨e, rfl⟩ : ∃ e', e = e' + 1 := ⟨e - 1, by omega⟩
          have g2 : evm e 149 [vR 12 68, vI (2 : Int32)] hm = some (some (vI (bZ (WdS c n (Tok c n i) 3))), hm) := u_iw (w := 2) (by omega) M (by decide)
          have g3 : evm e 149 [vR 12 68, vI (3 : Int32)] hm = some (some (vI (bZ (WdS c n (Tok c n i) 4))), hm) := u_iw (w := 3) (by omega) M (by decide)
          rw [e_M_readStep, g2, bZ_f (no 3 (by decide) (by decide))]
          simp only [bI_s]
          rw [ifp_t (show iZ 0 = (0 : Int32) from rfl), g3, bZ_f (no 4 (by decide) (by decide))]
          simp only [bI_s]
          rw [ifp_t (show iZ 0 = (0 : Int32) from rfl)]
          exact (l_step (d := d) (e := e) (by omega) (by omega) S k0 (kd := 3) (by omega)).bf.mv
        · skip
          by_cases W6 : WdS c n (Tok c n i) 6
          · have no : ∀ r, r ≠ 6 → r < 23 → ¬ WdS c n (Tok c n i) r := fun r r1 r2 a => r1 (a.u W6 r2 (by decide))
            rw [e_StairReader_readLine]
            simp only [J.1.r 1 0 2, bR_s]
            rw [wX (by omega) J (r := 2) (by decide), bZ_f (no 2 (by decide) (by decide))]
            simp only [bI_s]
            rw [ifp_t (show iZ 0 = (0 : Int32) from rfl)]
            rw [e_StairReader_readLine_34]
            simp only [J.1.r 1 0 2, bR_s]
            rw [wX (by omega) J (r := 3) (by decide), bZ_f (no 3 (by decide) (by decide))]
            simp only [bI_s]
            rw [ifp_t (show iZ 0 = (0 : Int32) from rfl)]
            simp only [J.1.r 1 0 2, bR_s]
            rw [wX (by omega) J (r := 4) (by decide), bZ_f (no 4 (by decide) (by decide))]
            simp only [bI_s]
            rw [ifp_t (show iZ 0 = (0 : Int32) from rfl)]
            simp only [J.1.r 1 0 2, bR_s]
            rw [wX (by omega) J (r := 5) (by decide), bZ_f (no 5 (by decide) (by decide))]
            simp only [bI_s]
            rw [ifp_t (show iZ 0 = (0 : Int32) from rfl)]
            rw [e_StairReader_readLine_91]
            simp only [J.1.r 1 0 2, bR_s]
            rw [wX (by omega) J (r := 6) (by decide), bZ_t W6]
            simp only [bI_s]
            rw [ifp_f (show ¬ iZ 1 = (0 : Int32) by decide)]
            rw [e_M_readLine]
            rw [f2, bZ_f (no 3 (by decide) (by decide))]
            simp only [bI_s]
            rw [ifp_t (show iZ 0 = (0 : Int32) from rfl)]
            rw [f3, bZ_f (no 4 (by decide) (by decide))]
            simp only [bI_s]
            rw [ifp_t (show iZ 0 = (0 : Int32) from rfl)]
            rw [e_M_readLine_16]
            rw [f5, bZ_f (no 5 (by decide) (by decide))]
            simp only [bI_s]
            rw [ifp_t (show iZ 0 = (0 : Int32) from rfl)]
            rw [f6, bZ_f (no 7 (by decide) (by decide))]
            simp only [bI_s]
            rw [ifp_t (show iZ 0 = (0 : Int32) from rfl)]
            rw [f1, bZ_f (no 2 (by decide) (by decide))]
            simp only [bI_s]
            rw [ifp_t (show iZ 0 = (0 : Int32) from rfl)]
            rw [f4, bZ_t W6]
            simp only [bI_s]
            rw [ifp_f (show ¬ iZ 1 = (0 : Int32) by decide)]
            refine l_once (d := d) (e := e) (by omega) (by omega) S k0 (b := 1) (by decide) (fun h => bI (evm d 44 [vR 6 1, vR 5 p] h) fun x h => ifp (x = 0) (some (some (vI (0 : Int32)), h)) (some (some (vI (1 : Int32)), h))) (fun h9 => bR (hR h9 68 10) fun r11 => bI (evm e 156 [vR 12 68, vI (0 : Int32), vI (4 : Int32)] h9) fun x13 h12 => ifp (inb (71 : Int32) (hN h12 r11) = true) (some (none, sI h12 r11 (ix (71 : Int32)) x13)) none) (fun hb hx' hm' S' => LLn.yn ?_)
            rw [(sN74 S'.2.2.1.1.1).1]
            exact l_creaks (d := d) (e := e) (by omega) (by omega) S'
          · skip
            by_cases W7 : WdS c n (Tok c n i) 7
            · have no : ∀ r, r ≠ 7 → r < 23 → ¬ WdS c n (Tok c n i) r := fun r r1 r2 a => r1 (a.u W7 r2 (by decide))
              rw [e_StairReader_readLine]
              simp only [J.1.r 1 0 2, bR_s]
              rw [wX (by omega) J (r := 2) (by decide), bZ_f (no 2 (by decide) (by decide))]
              simp only [bI_s]
              rw [ifp_t (show iZ 0 = (0 : Int32) from rfl)]
              rw [e_StairReader_readLine_34]
              simp only [J.1.r 1 0 2, bR_s]
              rw [wX (by omega) J (r := 3) (by decide), bZ_f (no 3 (by decide) (by decide))]
              simp only [bI_s]
              rw [ifp_t (show iZ 0 = (0 : Int32) from rfl)]
              simp only [J.1.r 1 0 2, bR_s]
              rw [wX (by omega) J (r := 4) (by decide), bZ_f (no 4 (by decide) (by decide))]
              simp only [bI_s]
              rw [ifp_t (show iZ 0 = (0 : Int32) from rfl)]
              simp only [J.1.r 1 0 2, bR_s]
              rw [wX (by omega) J (r := 5) (by decide), bZ_f (no 5 (by decide) (by decide))]
              simp only [bI_s]
              rw [ifp_t (show iZ 0 = (0 : Int32) from rfl)]
              rw [e_StairReader_readLine_91]
              simp only [J.1.r 1 0 2, bR_s]
              rw [wX (by omega) J (r := 6) (by decide), bZ_f (no 6 (by decide) (by decide))]
              simp only [bI_s]
              rw [ifp_t (show iZ 0 = (0 : Int32) from rfl)]
              simp only [J.1.r 1 0 2, bR_s]
              rw [wX (by omega) J (r := 7) (by decide), bZ_t W7]
              simp only [bI_s]
              rw [ifp_f (show ¬ iZ 1 = (0 : Int32) by decide)]
              rw [e_M_readLine]
              rw [f2, bZ_f (no 3 (by decide) (by decide))]
              simp only [bI_s]
              rw [ifp_t (show iZ 0 = (0 : Int32) from rfl)]
              rw [f3, bZ_f (no 4 (by decide) (by decide))]
              simp only [bI_s]
              rw [ifp_t (show iZ 0 = (0 : Int32) from rfl)]
              rw [e_M_readLine_16]
              rw [f5, bZ_f (no 5 (by decide) (by decide))]
              simp only [bI_s]
              rw [ifp_t (show iZ 0 = (0 : Int32) from rfl)]
              rw [f6, bZ_t W7]
              simp only [bI_s]
              rw [ifp_f (show ¬ iZ 1 = (0 : Int32) by decide)]
              exact (l_bar (d := d) (e := e) (by omega) (by omega) S k0).bf.mv
            · skip
              by_cases W8 : WdS c n (Tok c n i) 8
              · have no : ∀ r, r ≠ 8 → r < 23 → ¬ WdS c n (Tok c n i) r := fun r r1 r2 a => r1 (a.u W8 r2 (by decide))
                rw [e_StairReader_readLine]
                simp only [J.1.r 1 0 2, bR_s]
                rw [wX (by omega) J (r := 2) (by decide), bZ_f (no 2 (by decide) (by decide))]
                simp only [bI_s]
                rw [ifp_t (show iZ 0 = (0 : Int32) from rfl)]
                rw [e_StairReader_readLine_34]
                simp only [J.1.r 1 0 2, bR_s]
                rw [wX (by omega) J (r := 3) (by decide), bZ_f (no 3 (by decide) (by decide))]
                simp only [bI_s]
                rw [ifp_t (show iZ 0 = (0 : Int32) from rfl)]
                simp only [J.1.r 1 0 2, bR_s]
                rw [wX (by omega) J (r := 4) (by decide), bZ_f (no 4 (by decide) (by decide))]
                simp only [bI_s]
                rw [ifp_t (show iZ 0 = (0 : Int32) from rfl)]
                simp only [J.1.r 1 0 2, bR_s]
                rw [wX (by omega) J (r := 5) (by decide), bZ_f (no 5 (by decide) (by decide))]
                simp only [bI_s]
                rw [ifp_t (show iZ 0 = (0 : Int32) from rfl)]
                rw [e_StairReader_readLine_91]
                simp only [J.1.r 1 0 2, bR_s]
                rw [wX (by omega) J (r := 6) (by decide), bZ_f (no 6 (by decide) (by decide))]
                simp only [bI_s]
                rw [ifp_t (show iZ 0 = (0 : Int32) from rfl)]
                simp only [J.1.r 1 0 2, bR_s]
                rw [wX (by omega) J (r := 7) (by decide), bZ_f (no 7 (by decide) (by decide))]
                simp only [bI_s]
                rw [ifp_t (show iZ 0 = (0 : Int32) from rfl)]
                simp only [J.1.r 1 0 2, bR_s]
                rw [wX (by omega) J (r := 8) (by decide), bZ_t W8]
                simp only [bI_s]
                rw [ifp_f (show ¬ iZ 1 = (0 : Int32) by decide)]
                rw [e_M_readLine]
                rw [f2, bZ_f (no 3 (by decide) (by decide))]
                simp only [bI_s]
                rw [ifp_t (show iZ 0 = (0 : Int32) from rfl)]
                rw [f3, bZ_f (no 4 (by decide) (by decide))]
                simp only [bI_s]
                rw [ifp_t (show iZ 0 = (0 : Int32) from rfl)]
                rw [e_M_readLine_16]
                rw [f5, bZ_f (no 5 (by decide) (by decide))]
                simp only [bI_s]
                rw [ifp_t (show iZ 0 = (0 : Int32) from rfl)]
                rw [f6, bZ_f (no 7 (by decide) (by decide))]
                simp only [bI_s]
                rw [ifp_t (show iZ 0 = (0 : Int32) from rfl)]
                rw [f1, bZ_f (no 2 (by decide) (by decide))]
                simp only [bI_s]
                rw [ifp_t (show iZ 0 = (0 : Int32) from rfl)]
                rw [f4, bZ_f (no 6 (by decide) (by decide))]
                simp only [bI_s]
                rw [ifp_t (show iZ 0 = (0 : Int32) from rfl)]
                rw [e_M_readLine_94]
                rw [f7, bZ_t W8]
                simp only [bI_s]
                rw [ifp_f (show ¬ iZ 1 = (0 : Int32) by decide)]
                obtain ⟨e, rfl⟩ : ∃ e', e = e' + 1 := ⟨e - 1, by omega⟩
                rw [e_M_readFoot]
                refine LLn.mv ?_
                refine l_once (d := d) (e := e) (by omega) (by omega) S k0 (b := 2) (by decide) (fun h => bI (evm d 46 [vR 6 1, vR 5 p] h) fun x h => ifp (x = 0) (some (some (vI (0 : Int32)), h)) (some (some (vI (1 : Int32)), h))) (fun h1 => bI (evm e 149 [vR 12 68, vI (8 : Int32)] h1) fun x4 h3 =>
                      ifp (x4 = 0)
                        (bI (evm e 149 [vR 12 68, vI (9 : Int32)] h3) fun x6 h5 =>
                        ifp (x6 = 0)
                          (bV (evm e 147 [vR 12 68, vI (1 : Int32)] h5) fun h7 =>
                          some (none, h7))
                          (L_M_readFoot_33 e 68 h5))
                        (L_M_readFoot_33 e 68 h3)) (fun hb hx' hm' S' => LLn.yn ?_)
                exact l_foot (d := d) (e := e) (by omega) (by omega) S'
              · skip
                by_cases W11 : WdS c n (Tok c n i) 11
                · have no : ∀ r, r ≠ 11 → r < 23 → ¬ WdS c n (Tok c n i) r := fun r r1 r2 a => r1 (a.u W11 r2 (by decide))
                  rw [e_StairReader_readLine]
                  simp only [J.1.r 1 0 2, bR_s]
                  rw [wX (by omega) J (r := 2) (by decide), bZ_f (no 2 (by decide) (by decide))]
                  simp only [bI_s]
                  rw [ifp_t (show iZ 0 = (0 : Int32) from rfl)]
                  rw [e_StairReader_readLine_34]
                  simp only [J.1.r 1 0 2, bR_s]
                  rw [wX (by omega) J (r := 3) (by decide), bZ_f (no 3 (by decide) (by decide))]
                  simp only [bI_s]
                  rw [ifp_t (show iZ 0 = (0 : Int32) from rfl)]
                  simp only [J.1.r 1 0 2, bR_s]
                  rw [wX (by omega) J (r := 4) (by decide), bZ_f (no 4 (by decide) (by decide))]
                  simp only [bI_s]
                  rw [ifp_t (show iZ 0 = (0 : Int32) from rfl)]
                  simp only [J.1.r 1 0 2, bR_s]
                  rw [wX (by omega) J (r := 5) (by decide), bZ_f (no 5 (by decide) (by decide))]
                  simp only [bI_s]
                  rw [ifp_t (show iZ 0 = (0 : Int32) from rfl)]
                  rw [e_StairReader_readLine_91]
                  simp only [J.1.r 1 0 2, bR_s]
                  rw [wX (by omega) J (r := 6) (by decide), bZ_f (no 6 (by decide) (by decide))]
                  simp only [bI_s]
                  rw [ifp_t (show iZ 0 = (0 : Int32) from rfl)]
                  simp only [J.1.r 1 0 2, bR_s]
                  rw [wX (by omega) J (r := 7) (by decide), bZ_f (no 7 (by decide) (by decide))]
                  simp only [bI_s]
                  rw [ifp_t (show iZ 0 = (0 : Int32) from rfl)]
                  simp only [J.1.r 1 0 2, bR_s]
                  rw [wX (by omega) J (r := 8) (by decide), bZ_f (no 8 (by decide) (by decide))]
                  simp only [bI_s]
                  rw [ifp_t (show iZ 0 = (0 : Int32) from rfl)]
                  rw [e_StairReader_readLine_177]
                  simp only [J.1.r 1 0 2, bR_s]
                  rw [wX (by omega) J (r := 11) (by decide), bZ_t W11]
                  simp only [bI_s]
                  rw [ifp_f (show ¬ iZ 1 = (0 : Int32) by decide)]
                  rw [e_M_readLine]
                  rw [f2, bZ_f (no 3 (by decide) (by decide))]
                  simp only [bI_s]
                  rw [ifp_t (show iZ 0 = (0 : Int32) from rfl)]
                  rw [f3, bZ_f (no 4 (by decide) (by decide))]
                  simp only [bI_s]
                  rw [ifp_t (show iZ 0 = (0 : Int32) from rfl)]
                  rw [e_M_readLine_16]
                  rw [f5, bZ_f (no 5 (by decide) (by decide))]
                  simp only [bI_s]
                  rw [ifp_t (show iZ 0 = (0 : Int32) from rfl)]
                  rw [f6, bZ_f (no 7 (by decide) (by decide))]
                  simp only [bI_s]
                  rw [ifp_t (show iZ 0 = (0 : Int32) from rfl)]
                  rw [f1, bZ_f (no 2 (by decide) (by decide))]
                  simp only [bI_s]
                  rw [ifp_t (show iZ 0 = (0 : Int32) from rfl)]
                  rw [f4, bZ_f (no 6 (by decide) (by decide))]
                  simp only [bI_s]
                  rw [ifp_t (show iZ 0 = (0 : Int32) from rfl)]
                  rw [e_M_readLine_94]
                  rw [f7, bZ_f (no 8 (by decide) (by decide))]
                  simp only [bI_s]
                  rw [ifp_t (show iZ 0 = (0 : Int32) from rfl)]
                  rw [f10, bZ_t W11]
                  simp only [bI_s]
                  rw [ifp_f (show ¬ iZ 1 = (0 : Int32) by decide)]
                  refine l_once (d := d) (e := e) (by omega) (by omega) S k0 (b := 3) (by decide) (fun h => bI (evm d 47 [vR 6 1, vR 5 p] h) fun x h => ifp (x = 0) (some (some (vI (0 : Int32)), h)) (some (some (vI (1 : Int32)), h))) (fun h5 => bR (hR h5 68 10) fun r7 =>
                            bI (evm e 156 [vR 12 68, vI (0 : Int32), vI (40 : Int32)] h5) fun x9 h8 =>
                            ifp (inb (73 : Int32) (hN h8 r7) = true) (
                            bR (hR (sI h8 r7 (ix (73 : Int32)) x9) 68 10) fun r10 =>
                            bR (hR (sI h8 r7 (ix (73 : Int32)) x9) 68 10) fun r11 =>
                            ifp (inb (73 : Int32) (hN (sI h8 r7 (ix (73 : Int32)) x9) r11) = true) (
                            bI (evm e 157 [vR 12 68, vI (11 : Int32), vI (hI (sI h8 r7 (ix (73 : Int32)) x9) r11 (ix (73 : Int32))), vI (40 : Int32)] (sI h8 r7 (ix (73 : Int32)) x9)) fun x13 h12 =>
                            ifp (inb (74 : Int32) (hN h12 r10) = true) (
                            some (none, sI h12 r10 (ix (74 : Int32)) x13)) none) none) none) (fun hb hx' hm' S' => LLn.yn ?_)
                  rw [(sN74 S'.2.2.1.1.1).1]
                  exact l_count (d := d) (e := e) (by omega) (by omega) S' (tb_or.mpr (Or.inr rfl)) (LC.2.2.2.2.2 hb)
                · skip
                  by_cases W13 : WdS c n (Tok c n i) 13
                  · have no : ∀ r, r ≠ 13 → r < 23 → ¬ WdS c n (Tok c n i) r := fun r r1 r2 a => r1 (a.u W13 r2 (by decide))
                    rw [e_StairReader_readLine]
                    simp only [J.1.r 1 0 2, bR_s]
                    rw [wX (by omega) J (r := 2) (by decide), bZ_f (no 2 (by decide) (by decide))]
                    simp only [bI_s]
                    rw [ifp_t (show iZ 0 = (0 : Int32) from rfl)]
                    rw [e_StairReader_readLine_34]
                    simp only [J.1.r 1 0 2, bR_s]
                    rw [wX (by omega) J (r := 3) (by decide), bZ_f (no 3 (by decide) (by decide))]
                    simp only [bI_s]
                    rw [ifp_t (show iZ 0 = (0 : Int32) from rfl)]
                    simp only [J.1.r 1 0 2, bR_s]
                    rw [wX (by omega) J (r := 4) (by decide), bZ_f (no 4 (by decide) (by decide))]
                    simp only [bI_s]
                    rw [ifp_t (show iZ 0 = (0 : Int32) from rfl)]
                    simp only [J.1.r 1 0 2, bR_s]
                    rw [wX (by omega) J (r := 5) (by decide), bZ_f (no 5 (by decide) (by decide))]
                    simp only [bI_s]
                    rw [ifp_t (show iZ 0 = (0 : Int32) from rfl)]
                    rw [e_StairReader_readLine_91]
                    simp only [J.1.r 1 0 2, bR_s]
                    rw [wX (by omega) J (r := 6) (by decide), bZ_f (no 6 (by decide) (by decide))]
                    simp only [bI_s]
                    rw [ifp_t (show iZ 0 = (0 : Int32) from rfl)]
                    simp only [J.1.r 1 0 2, bR_s]
                    rw [wX (by omega) J (r := 7) (by decide), bZ_f (no 7 (by decide) (by decide))]
                    simp only [bI_s]
                    rw [ifp_t (show iZ 0 = (0 : Int32) from rfl)]
                    simp only [J.1.r 1 0 2, bR_s]
                    rw [wX (by omega) J (r := 8) (by decide), bZ_f (no 8 (by decide) (by decide))]
                    simp only [bI_s]
                    rw [ifp_t (show iZ 0 = (0 : Int32) from rfl)]
                    rw [e_StairReader_readLine_177]
                    simp only [J.1.r 1 0 2, bR_s]
                    rw [wX (by omega) J (r := 11) (by decide), bZ_f (no 11 (by decide) (by decide))]
                    simp only [bI_s]
                    rw [ifp_t (show iZ 0 = (0 : Int32) from rfl)]
                    simp only [J.1.r 1 0 2, bR_s]
                    rw [wX (by omega) J (r := 13) (by decide), bZ_t W13]
                    simp only [bI_s]
                    rw [ifp_f (show ¬ iZ 1 = (0 : Int32) by decide)]
                    rw [e_M_readLine]
                    rw [f2, bZ_f (no 3 (by decide) (by decide))]
                    simp only [bI_s]
                    rw [ifp_t (show iZ 0 = (0 : Int32) from rfl)]
                    rw [f3, bZ_f (no 4 (by decide) (by decide))]
                    simp only [bI_s]
                    rw [ifp_t (show iZ 0 = (0 : Int32) from rfl)]
                    rw [e_M_readLine_16]
                    rw [f5, bZ_f (no 5 (by decide) (by decide))]
                    simp only [bI_s]
                    rw [ifp_t (show iZ 0 = (0 : Int32) from rfl)]
                    rw [f6, bZ_f (no 7 (by decide) (by decide))]
                    simp only [bI_s]
                    rw [ifp_t (show iZ 0 = (0 : Int32) from rfl)]
                    rw [f1, bZ_f (no 2 (by decide) (by decide))]
                    simp only [bI_s]
                    rw [ifp_t (show iZ 0 = (0 : Int32) from rfl)]
                    rw [f4, bZ_f (no 6 (by decide) (by decide))]
                    simp only [bI_s]
                    rw [ifp_t (show iZ 0 = (0 : Int32) from rfl)]
                    rw [e_M_readLine_94]
                    rw [f7, bZ_f (no 8 (by decide) (by decide))]
                    simp only [bI_s]
                    rw [ifp_t (show iZ 0 = (0 : Int32) from rfl)]
                    rw [f10, bZ_f (no 11 (by decide) (by decide))]
                    simp only [bI_s]
                    rw [ifp_t (show iZ 0 = (0 : Int32) from rfl)]
                    rw [e_M_readLine_166]
                    rw [f12, bZ_t W13]
                    simp only [bI_s]
                    rw [ifp_f (show ¬ iZ 1 = (0 : Int32) by decide)]
                    refine l_once (d := d) (e := e) (by omega) (by omega) S k0 (b := 4) (by decide) (fun h => bI (evm d 48 [vR 6 1, vR 5 p] h) fun x h => ifp (x = 0) (some (some (vI (0 : Int32)), h)) (some (some (vI (1 : Int32)), h))) (fun h3 => bR (hR h3 68 10) fun r5 =>
                            bI (evm e 156 [vR 12 68, vI (1 : Int32), vI (12 : Int32)] h3) fun x7 h6 =>
                            ifp (inb (75 : Int32) (hN h6 r5) = true) (
                            bR (hR (sI h6 r5 (ix (75 : Int32)) x7) 68 10) fun r8 =>
                            bI (evm e 157 [vR 12 68, vI (13 : Int32), vI (0 : Int32), vI (4 : Int32)] (sI h6 r5 (ix (75 : Int32)) x7)) fun x10 h9 =>
                            ifp (inb (76 : Int32) (hN h9 r8) = true) (
                            some (none, sI h9 r8 (ix (76 : Int32)) x10)) none) none) (fun hb hx' hm' S' => LLn.yn ?_)
                    rw [(sN74 S'.2.2.1.1.1).1]
                    exact l_great (d := d) (e := e) (by omega) (by omega) S'
                  · skip
                    by_cases W15 : WdS c n (Tok c n i) 15
                    · have no : ∀ r, r ≠ 15 → r < 23 → ¬ WdS c n (Tok c n i) r := fun r r1 r2 a => r1 (a.u W15 r2 (by decide))
                      rw [e_StairReader_readLine]
                      simp only [J.1.r 1 0 2, bR_s]
                      rw [wX (by omega) J (r := 2) (by decide), bZ_f (no 2 (by decide) (by decide))]
                      simp only [bI_s]
                      rw [ifp_t (show iZ 0 = (0 : Int32) from rfl)]
                      rw [e_StairReader_readLine_34]
                      simp only [J.1.r 1 0 2, bR_s]
                      rw [wX (by omega) J (r := 3) (by decide), bZ_f (no 3 (by decide) (by decide))]
                      simp only [bI_s]
                      rw [ifp_t (show iZ 0 = (0 : Int32) from rfl)]
                      simp only [J.1.r 1 0 2, bR_s]
                      rw [wX (by omega) J (r := 4) (by decide), bZ_f (no 4 (by decide) (by decide))]
                      simp only [bI_s]
                      rw [ifp_t (show iZ 0 = (0 : Int32) from rfl)]
                      simp only [J.1.r 1 0 2, bR_s]
                      rw [wX (by omega) J (r := 5) (by decide), bZ_f (no 5 (by decide) (by decide))]
                      simp only [bI_s]
                      rw [ifp_t (show iZ 0 = (0 : Int32) from rfl)]
                      rw [e_StairReader_readLine_91]
                      simp only [J.1.r 1 0 2, bR_s]
                      rw [wX (by omega) J (r := 6) (by decide), bZ_f (no 6 (by decide) (by decide))]
                      simp only [bI_s]
                      rw [ifp_t (show iZ 0 = (0 : Int32) from rfl)]
                      simp only [J.1.r 1 0 2, bR_s]
                      rw [wX (by omega) J (r := 7) (by decide), bZ_f (no 7 (by decide) (by decide))]
                      simp only [bI_s]
                      rw [ifp_t (show iZ 0 = (0 : Int32) from rfl)]
                      simp only [J.1.r 1 0 2, bR_s]
                      rw [wX (by omega) J (r := 8) (by decide), bZ_f (no 8 (by decide) (by decide))]
                      simp only [bI_s]
                      rw [ifp_t (show iZ 0 = (0 : Int32) from rfl)]
                      rw [e_StairReader_readLine_177]
                      simp only [J.1.r 1 0 2, bR_s]
                      rw [wX (by omega) J (r := 11) (by decide), bZ_f (no 11 (by decide) (by decide))]
                      simp only [bI_s]
                      rw [ifp_t (show iZ 0 = (0 : Int32) from rfl)]
                      simp only [J.1.r 1 0 2, bR_s]
                      rw [wX (by omega) J (r := 13) (by decide), bZ_f (no 13 (by decide) (by decide))]
                      simp only [bI_s]
                      rw [ifp_t (show iZ 0 = (0 : Int32) from rfl)]
                      rw [e_StairReader_readLine_247]
                      simp only [J.1.r 1 0 2, bR_s]
                      rw [wX (by omega) J (r := 15) (by decide), bZ_t W15]
                      simp only [bI_s]
                      rw [ifp_f (show ¬ iZ 1 = (0 : Int32) by decide)]
                      rw [e_M_readLine]
                      rw [f2, bZ_f (no 3 (by decide) (by decide))]
                      simp only [bI_s]
                      rw [ifp_t (show iZ 0 = (0 : Int32) from rfl)]
                      rw [f3, bZ_f (no 4 (by decide) (by decide))]
                      simp only [bI_s]
                      rw [ifp_t (show iZ 0 = (0 : Int32) from rfl)]
                      rw [e_M_readLine_16]
                      rw [f5, bZ_f (no 5 (by decide) (by decide))]
                      simp only [bI_s]
                      rw [ifp_t (show iZ 0 = (0 : Int32) from rfl)]
                      rw [f6, bZ_f (no 7 (by decide) (by decide))]
                      simp only [bI_s]
                      rw [ifp_t (show iZ 0 = (0 : Int32) from rfl)]
                      rw [f1, bZ_f (no 2 (by decide) (by decide))]
                      simp only [bI_s]
                      rw [ifp_t (show iZ 0 = (0 : Int32) from rfl)]
                      rw [f4, bZ_f (no 6 (by decide) (by decide))]
                      simp only [bI_s]
                      rw [ifp_t (show iZ 0 = (0 : Int32) from rfl)]
                      rw [e_M_readLine_94]
                      rw [f7, bZ_f (no 8 (by decide) (by decide))]
                      simp only [bI_s]
                      rw [ifp_t (show iZ 0 = (0 : Int32) from rfl)]
                      rw [f10, bZ_f (no 11 (by decide) (by decide))]
                      simp only [bI_s]
                      rw [ifp_t (show iZ 0 = (0 : Int32) from rfl)]
                      rw [e_M_readLine_166]
                      rw [f12, bZ_f (no 13 (by decide) (by decide))]
                      simp only [bI_s]
                      rw [ifp_t (show iZ 0 = (0 : Int32) from rfl)]
                      rw [e_M_readLine_215]
                      rw [f14, bZ_t W15]
                      simp only [bI_s]
                      rw [ifp_f (show ¬ iZ 1 = (0 : Int32) by decide)]
                      refine l_once (d := d) (e := e) (by omega) (by omega) S k0 (b := 5) (by decide) (fun h6 => bR (hR h6 p 6) fun r8 =>
                              bI (evm d 49 [vR 6 1, vR 2 r8, vI (0 : Int32)] h6) fun x10 h9 =>
                              ifp (x10 = 0)
                                (some (some (vI (0 : Int32)), h9))
                                (bI (evm d 59 [vR 6 1, vI (59 : Int32)] h9) fun x12 h11 =>
                                ifp (x12 = 0)
                                  (some (some (vI (0 : Int32)), h11))
                                  (some (some (vI (1 : Int32)), h11)))) (fun h4 => bR (hR h4 68 10) fun r6 =>
                              ifp (inb (77 : Int32) (hN h4 r6) = true) (
                              bV (evm e 169 [vR 12 68, vI (0 : Int32)] (sI h4 r6 (ix (77 : Int32)) (hI h4 68 13))) fun h7 =>
                              bV (evm e 168 [vR 12 68, vI (0 : Int32), vI (0 : Int32)] h7) fun h8 =>
                              some (none, h8)) none) (fun hb hx' hm' S' => ?_)
                      rw [(sN74 S'.2.2.1.1.1).1, S'.2.1.1.o6 tt]
                      simp only [bR_s, (sN74 S'.2.2.1.1.1).2]
                      rw [ifp_t (show inb (77 : Int32) 140 = true by decide)]
                      exact l_mood (d := d) (e := e) (by omega) (by omega) S' (tb_or.mpr (Or.inr rfl)) (LC.2.2.2.2.1 hb)
                    · skip
                      rw [e_StairReader_readLine]
                      simp only [J.1.r 1 0 2, bR_s]
                      rw [wX (by omega) J (r := 2) (by decide), bZ_f W2]
                      simp only [bI_s]
                      rw [ifp_t (show iZ 0 = (0 : Int32) from rfl)]
                      rw [e_StairReader_readLine_34]
                      simp only [J.1.r 1 0 2, bR_s]
                      rw [wX (by omega) J (r := 3) (by decide), bZ_f W3]
                      simp only [bI_s]
                      rw [ifp_t (show iZ 0 = (0 : Int32) from rfl)]
                      simp only [J.1.r 1 0 2, bR_s]
                      rw [wX (by omega) J (r := 4) (by decide), bZ_f W4]
                      simp only [bI_s]
                      rw [ifp_t (show iZ 0 = (0 : Int32) from rfl)]
                      simp only [J.1.r 1 0 2, bR_s]
                      rw [wX (by omega) J (r := 5) (by decide), bZ_f W5]
                      simp only [bI_s]
                      rw [ifp_t (show iZ 0 = (0 : Int32) from rfl)]
                      rw [e_StairReader_readLine_91]
                      simp only [J.1.r 1 0 2, bR_s]
                      rw [wX (by omega) J (r := 6) (by decide), bZ_f W6]
                      simp only [bI_s]
                      rw [ifp_t (show iZ 0 = (0 : Int32) from rfl)]
                      simp only [J.1.r 1 0 2, bR_s]
                      rw [wX (by omega) J (r := 7) (by decide), bZ_f W7]
                      simp only [bI_s]
                      rw [ifp_t (show iZ 0 = (0 : Int32) from rfl)]
                      simp only [J.1.r 1 0 2, bR_s]
                      rw [wX (by omega) J (r := 8) (by decide), bZ_f W8]
                      simp only [bI_s]
                      rw [ifp_t (show iZ 0 = (0 : Int32) from rfl)]
                      rw [e_StairReader_readLine_177]
                      simp only [J.1.r 1 0 2, bR_s]
                      rw [wX (by omega) J (r := 11) (by decide), bZ_f W11]
                      simp only [bI_s]
                      rw [ifp_t (show iZ 0 = (0 : Int32) from rfl)]
                      simp only [J.1.r 1 0 2, bR_s]
                      rw [wX (by omega) J (r := 13) (by decide), bZ_f W13]
                      simp only [bI_s]
                      rw [ifp_t (show iZ 0 = (0 : Int32) from rfl)]
                      rw [e_StairReader_readLine_247]
                      simp only [J.1.r 1 0 2, bR_s]
                      rw [wX (by omega) J (r := 15) (by decide), bZ_f W15]
                      simp only [bI_s]
                      rw [ifp_t (show iZ 0 = (0 : Int32) from rfl)]
                      rw [e_M_readLine]
                      rw [f2, bZ_f W3]
                      simp only [bI_s]
                      rw [ifp_t (show iZ 0 = (0 : Int32) from rfl)]
                      rw [f3, bZ_f W4]
                      simp only [bI_s]
                      rw [ifp_t (show iZ 0 = (0 : Int32) from rfl)]
                      rw [e_M_readLine_16]
                      rw [f5, bZ_f W5]
                      simp only [bI_s]
                      rw [ifp_t (show iZ 0 = (0 : Int32) from rfl)]
                      rw [f6, bZ_f W7]
                      simp only [bI_s]
                      rw [ifp_t (show iZ 0 = (0 : Int32) from rfl)]
                      rw [f1, bZ_f W2]
                      simp only [bI_s]
                      rw [ifp_t (show iZ 0 = (0 : Int32) from rfl)]
                      rw [f4, bZ_f W6]
                      simp only [bI_s]
                      rw [ifp_t (show iZ 0 = (0 : Int32) from rfl)]
                      rw [e_M_readLine_94]
                      rw [f7, bZ_f W8]
                      simp only [bI_s]
                      rw [ifp_t (show iZ 0 = (0 : Int32) from rfl)]
                      rw [f10, bZ_f W11]
                      simp only [bI_s]
                      rw [ifp_t (show iZ 0 = (0 : Int32) from rfl)]
                      rw [e_M_readLine_166]
                      rw [f12, bZ_f W13]
                      simp only [bI_s]
                      rw [ifp_t (show iZ 0 = (0 : Int32) from rfl)]
                      rw [e_M_readLine_215]
                      rw [f14, bZ_f W15]
                      simp only [bI_s]
                      rw [ifp_t (show iZ 0 = (0 : Int32) from rfl)]
                      rw [show (1 : Int32) = iZ 1 from rfl, x_fl (by omega) J, u_wr (by omega) M]
                      simp only [bI_s, bV_s, isB_0, cond_true]
                      have f := S.fl (k := 1) (by omega)
                      exact LLn.flt rfl rfl f.1 f.2.1 f.2.2
