/-! lines: creaks, foot, count, great -/
theorem sN74 {h : Hp} (M : SM h) : hR h 68 10 = some 74 ∧ hN h 74 = 140 := ⟨M.r 10 74, M.n 74 140⟩
theorem LSt.num {d e : Nat} (hd : 7 ≤ d) (he : 2 ≤ e) {p : Nat} {c : Int → Int} {n : Int} {N i L : Nat} {q : Int → Int} {hx hm : Hp} (S : LSt p c n N i L q hx hm) {lo hi : Int} (hl : -2147483648 ≤ lo ∧ lo < 2147483648) (hh : -2147483648 ≤ hi ∧ hi < 2147483648) : (nfc c n i lo hi = 0 ∧ (lo ≤ nvl c n (Tok c n i) ∧ nvl c n (Tok c n i) ≤ hi) ∧ ∃ hx', evm d 57 [vR 6 1, vI (iZ lo), vI (iZ hi)] hx = some (some (vI (iZ 1)), hx') ∧ evm e 156 [vR 12 68, vI (iZ lo), vI (iZ hi)] hm = some (some (vI (iZ (nvl c n (Tok c n i)))), sI hm 68 7 (iZ ((i : Int) + 1))) ∧ XQf p hx hx' ∧ MQf hm (sI hm 68 7 (iZ ((i : Int) + 1))) ∧ hI hx' 1 3 = iZ (nvl c n (Tok c n i)) ∧ LSt p c n N (i + 1) L q hx' (sI hm 68 7 (iZ ((i : Int) + 1)))) ∨
    (∃ hx' hm', evm d 57 [vR 6 1, vI (iZ lo), vI (iZ hi)] hx = some (some (vI (iZ 0)), hx') ∧ evm e 156 [vR 12 68, vI (iZ lo), vI (iZ hi)] hm = some (some (vI (iZ 0)), hm') ∧ XQf p hx hx' ∧ MQf hm hm' ∧ LFl hx' hm') := by
  have X := x_tn hd S.2.1 hl hh
  have M := u_tn he S.2.2.1 hl hh
  by_cases z : nfc c n i lo hi = 0
  · obtain ⟨hx', a1, a2, a3, a4⟩ := X.1 z
    have z' := nfc_0.mp z
    refine Or.inl ⟨z, z'.2, hx', a1, M.1 z, a3.f p, (pMf.s hm _ (Or.inl rfl)).f, a4, S.tr a3 (pMf.s hm _ (Or.inl rfl)) a2 (S.2.2.1.nx (by omega))⟩
  · have b := nfc_b c n i lo hi
    have f := S.fl (k := nfc c n i lo hi) (by omega)
    exact Or.inr ⟨_, _, X.2 z, M.2 z, f.1, f.2.1, f.2.2⟩
theorem LSt.wrd {d e : Nat} (hd : 7 ≤ d) (he : 3 ≤ e) {p : Nat} {c : Int → Int} {n : Int} {N i L : Nat} {q : Int → Int} {hx hm : Hp} (S : LSt p c n N i L q hx hm) {w : Nat} (hw : w < 22) : (∃ hx', evm d 58 [vR 6 1, vR 40 (wsr w)] hx = some (some (vI (iZ 1)), hx') ∧ evm e 153 [vR 12 68, vI (iZ w)] hm = some (none, sI hm 68 7 (iZ ((i : Int) + 1))) ∧ XQf p hx hx' ∧ MQf hm (sI hm 68 7 (iZ ((i : Int) + 1))) ∧ hI hx' 1 = hI hx 1 ∧ (∀ r, r ≠ 1 → r ≠ 2 → hI hx' r = hI hx r) ∧ LSt p c n N (i + 1) L q hx' (sI hm 68 7 (iZ ((i : Int) + 1)))) ∨
    (∃ hx' hm', evm d 58 [vR 6 1, vR 40 (wsr w)] hx = some (some (vI (iZ 0)), hx') ∧ evm e 153 [vR 12 68, vI (iZ w)] hm = some (none, hm') ∧ XQf p hx hx' ∧ MQf hm hm' ∧ LFl hx' hm') := by
  have wr := wsrN w hw
  have X := x_tw hd S.2.1 wr.2
  have M := u_tw he S.2.2.1 hw
  by_cases z : WdS c n (Tok c n i) (wsr w)
  · obtain ⟨hx', a1, a2, a3, a4⟩ := X.1 z
    refine Or.inl ⟨hx', a1, M.1 z, a3.f p, (pMf.s hm _ (Or.inl rfl)).f, a4, a3.2.1, S.tr a3 (pMf.s hm _ (Or.inl rfl)) a2 (S.2.2.1.nx (by have := z.1; omega))⟩
  · have f := S.fl (k := 1) (by omega)
    exact Or.inr ⟨_, _, X.2 z, M.2 z, f.1, f.2.1, f.2.2⟩
theorem i71 : ix (71 : Int32) = 71 := rfl
theorem l_creaks {d e : Nat} (hd : 9 ≤ d) (he : 2 ≤ e) {p : Nat} {c : Int → Int} {n : Int} {N i L : Nat} {q : Int → Int} {hx hm : Hp} (S : LSt p c n N i L q hx hm) : LLn p c n N i hx hm (evm d 44 [vR 6 1, vR 5 p] hx) (bI (evm e 156 [vR 12 68, vI (0 : Int32), vI (4 : Int32)] hm) fun x13 h12 => ifp (inb (71 : Int32) (hN h12 74) = true) (some (none, sI h12 74 (ix (71 : Int32)) x13)) none) := by
  obtain ⟨d, rfl⟩ : ∃ e, d = e + 1 := ⟨d - 1, by omega⟩
  rw [e_StairReader_readCreaks]
  rcases S.num (d := d) (e := e) (by omega) he (lo := 0) (hi := 4) (by omega) (by omega) with ⟨_, vb, hx', a1, a2, a3, a4, a5, S1⟩ | ⟨hx', hm', a1, a2, a3, a4, a5⟩
  · rw [show evm d 57 [vR 6 1, vI (0 : Int32), vI (4 : Int32)] hx = _ from a1, show evm e 156 [vR 12 68, vI (0 : Int32), vI (4 : Int32)] hm = _ from a2]
    simp only [bI_s, (sN74 S1.2.2.1.1.1).2]
    rw [ifp_f (by decide), ifp_t (by decide), a5]
    have S2 := S1.s1 (x := nvl c n (Tok c n i)) (by omega)
    refine LLn.end (d := d) (by omega) S2 rfl rfl (a3.tr (XQf.s p _ _ (by omega))) (a4.tr (MQf.s _ _ (by omega))) (by omega)
  · rw [show evm d 57 [vR 6 1, vI (0 : Int32), vI (4 : Int32)] hx = _ from a1, show evm e 156 [vR 12 68, vI (0 : Int32), vI (4 : Int32)] hm = _ from a2]
    simp only [bI_s, (sN74 a5.choose_spec.2.1).2]
    rw [ifp_t (by rfl), ifp_t (by decide)]
    exact LLn.flt rfl rfl a3 (a4.tr (MQf.s _ _ (by decide))) (a5.s _ (by omega))
theorem l_count {d e : Nat} (hd : 9 ≤ d) (he : 4 ≤ e) {p : Nat} {c : Int → Int} {n : Int} {N i L : Nat} {q : Int → Int} {hx hm : Hp} (S : LSt p c n N i L q hx hm) (hL3 : L.testBit 3 = true) (q4 : q 4 = 40) : LLn p c n N i hx hm (evm d 47 [vR 6 1, vR 5 p] hx) (bI (evm e 156 [vR 12 68, vI (0 : Int32), vI (40 : Int32)] hm) fun x9 h8 =>
          ifp (inb (73 : Int32) (hN h8 74) = true) (
          bR (hR (sI h8 74 (ix (73 : Int32)) x9) 68 10) fun r10 =>
          bR (hR (sI h8 74 (ix (73 : Int32)) x9) 68 10) fun r11 =>
          ifp (inb (73 : Int32) (hN (sI h8 74 (ix (73 : Int32)) x9) r11) = true) (
          bI (evm e 157 [vR 12 68, vI (11 : Int32), vI (hI (sI h8 74 (ix (73 : Int32)) x9) r11 (ix (73 : Int32))), vI (40 : Int32)] (sI h8 74 (ix (73 : Int32)) x9)) fun x13 h12 =>
          ifp (inb (74 : Int32) (hN h12 r10) = true) (
          some (none, sI h12 r10 (ix (74 : Int32)) x13)) none) none) none) := by
  obtain ⟨d, rfl⟩ : ∃ e, d = e + 1 := ⟨d - 1, by omega⟩
  obtain ⟨e, rfl⟩ : ∃ e', e = e' + 1 := ⟨e - 1, by omega⟩
  have ix3 : ix (73 : Int32) = 73 := rfl
  have ix4 : ix (74 : Int32) = 74 := rfl
  rw [e_StairReader_readCount]
  rcases S.num (d := d) (e := e + 1) (by omega) (by omega) (lo := 0) (hi := 40) (by omega) (by omega) with ⟨_, vb, hx', a1, a2, a3, a4, a5, S1⟩ | ⟨hx', hm', a1, a2, a3, a4, a5⟩
  · rw [show evm d 57 [vR 6 1, vI (0 : Int32), vI (40 : Int32)] hx = _ from a1, show evm (e + 1) 156 [vR 12 68, vI (0 : Int32), vI (40 : Int32)] hm = _ from a2]
    have S2 := S1.s3 (x := nvl c n (Tok c n i)) (by rw [q4]; omega)
    simp only [bI_s, ix3, (sN74 S1.2.2.1.1.1).2, (sN74 S2.2.2.1.1.1).1, (sN74 S2.2.2.1.1.1).2, bR_s, a5, sI_e]
    rw [ifp_f (by decide), ifp_t (by decide), ifp_t (by decide), e_M_takeAfter]
    rcases S2.wrd (d := d) (e := e) (by omega) (by omega) (w := 11) (by decide) with ⟨hx2, b1, b2, b3, b4, b5, b7, S3⟩ | ⟨hx2, hm2, b1, b2, b3, b4, b5⟩
    · have b1' : evm d 58 [vR 6 1, vR 40 12] (sI hx' p 13 (iZ (nvl c n (Tok c n i)))) = some (some (vI (iZ 1)), hx2) := b1
      have b2' : evm e 153 [vR 12 68, vI (11 : Int32)] (sI (sI hm 68 7 (iZ ((i : Int) + 1))) 74 73 (iZ (nvl c n (Tok c n i)))) = some (none, sI (sI (sI hm 68 7 (iZ ((i : Int) + 1))) 74 73 (iZ (nvl c n (Tok c n i)))) 68 7 (iZ (((i + 1 : Nat) : Int) + 1))) := b2
      have tp : 48 ≤ p := by have := S.1; unfold TO at this; omega
      have l13 : hI hx2 p 13 = iZ (nvl c n (Tok c n i)) := by rw [b7 p (by omega) (by omega), sI_e]
      rw [b1', b2']
      simp only [bI_s, bV_s, l13]
      rw [ifp_f (by decide)]
      rcases S3.num (d := d) (e := e) (by omega) (by omega) (lo := nvl c n (Tok c n i)) (hi := 40) (by omega) (by omega) with ⟨_, wb, hx3, c1, c2, c3, c4, c5, S4⟩ | ⟨hx3, hm3, c1, c2, c3, c4, c5⟩
      · rw [show evm d 57 [vR 6 1, vI (iZ (nvl c n (Tok c n i))), vI (40 : Int32)] hx2 = _ from c1, show evm e 156 [vR 12 68, vI (iZ (nvl c n (Tok c n i))), vI (40 : Int32)] _ = _ from c2]
        have S5 := S4.s4 (x := nvl c n (Tok c n (i + 1 + 1))) hL3 (by rw [upv_e]; omega)
        simp only [bI_s, ix4, (sN74 S4.2.2.1.1.1).2, c5]
        rw [ifp_f (by decide), ifp_t (by decide)]
        refine LLn.end (d := d) (by omega) S5 rfl rfl ((((a3.tr (XQf.s p _ _ (by omega))).tr b3).tr c3).tr (XQf.s p _ _ (by omega))) ((((a4.tr (MQf.s _ _ (by omega))).tr b4).tr c4).tr (MQf.s _ _ (by omega))) (by omega)
      · rw [show evm d 57 [vR 6 1, vI (iZ (nvl c n (Tok c n i))), vI (40 : Int32)] hx2 = _ from c1, show evm e 156 [vR 12 68, vI (iZ (nvl c n (Tok c n i))), vI (40 : Int32)] _ = _ from c2]
        simp only [bI_s, ix4, (sN74 c5.choose_spec.2.1).2]
        rw [ifp_t (by rfl), ifp_t (by decide)]
        exact LLn.flt rfl rfl (((a3.tr (XQf.s p _ _ (by omega))).tr b3).tr c3) ((((a4.tr (MQf.s _ _ (by omega))).tr b4).tr c4).tr (MQf.s _ _ (by omega))) (c5.s _ (by omega))
    · have b1' : evm d 58 [vR 6 1, vR 40 12] (sI hx' p 13 (iZ (nvl c n (Tok c n i)))) = some (some (vI (iZ 0)), hx2) := b1
      have b2' : evm e 153 [vR 12 68, vI (11 : Int32)] (sI (sI hm 68 7 (iZ ((i : Int) + 1))) 74 73 (iZ (nvl c n (Tok c n i)))) = some (none, hm2) := b2
      obtain ⟨F, f1, f2⟩ := b5
      rw [b1', b2']
      simp only [bI_s, bV_s]
      rw [u_tnF (by omega) f2]
      simp only [bI_s, ix4, (sN74 f2.1).2]
      rw [ifp_t (by rfl), ifp_t (by decide)]
      exact LLn.flt rfl rfl ((a3.tr (XQf.s p _ _ (by omega))).tr b3) (((a4.tr (MQf.s _ _ (by omega))).tr b4).tr (MQf.s _ _ (by omega))) (LFl.s ⟨F, f1, f2⟩ _ (by omega))
  · obtain ⟨F, f1, f2⟩ := a5
    have f3 : JF (sI hm' 74 73 (iZ 0)) F := f2.s _ (by omega)
    rw [show evm d 57 [vR 6 1, vI (0 : Int32), vI (40 : Int32)] hx = _ from a1, show evm (e + 1) 156 [vR 12 68, vI (0 : Int32), vI (40 : Int32)] hm = _ from a2]
    simp only [bI_s, ix3, (sN74 f2.1).2, (sN74 f3.1).1, (sN74 f3.1).2, bR_s, sI_e]
    rw [ifp_t (by rfl), ifp_t (by decide), ifp_t (by decide), e_M_takeAfter, u_twF (by omega) f3]
    simp only [bV_s]
    rw [u_tnF (by omega) f3]
    simp only [bI_s, ix4, (sN74 f3.1).2]
    rw [ifp_t (by decide)]
    exact LLn.flt rfl rfl a3 ((a4.tr (MQf.s _ _ (by omega))).tr (MQf.s _ _ (by omega))) (LFl.s ⟨F, f1, f3⟩ _ (by omega))
theorem l_great {d e : Nat} (hd : 9 ≤ d) (he : 4 ≤ e) {p : Nat} {c : Int → Int} {n : Int} {N i L : Nat} {q : Int → Int} {hx hm : Hp} (S : LSt p c n N i L q hx hm) : LLn p c n N i hx hm (evm d 48 [vR 6 1, vR 5 p] hx) (bI (evm e 156 [vR 12 68, vI (1 : Int32), vI (12 : Int32)] hm) fun x7 h6 =>
        ifp (inb (75 : Int32) (hN h6 74) = true) (
        bR (hR (sI h6 74 (ix (75 : Int32)) x7) 68 10) fun r8 =>
        bI (evm e 157 [vR 12 68, vI (13 : Int32), vI (0 : Int32), vI (4 : Int32)] (sI h6 74 (ix (75 : Int32)) x7)) fun x10 h9 =>
        ifp (inb (76 : Int32) (hN h9 r8) = true) (
        some (none, sI h9 r8 (ix (76 : Int32)) x10)) none) none) := by
  obtain ⟨d, rfl⟩ : ∃ e, d = e + 1 := ⟨d - 1, by omega⟩
  obtain ⟨e, rfl⟩ : ∃ e', e = e' + 1 := ⟨e - 1, by omega⟩
  have ix3 : ix (75 : Int32) = 75 := rfl
  have ix4 : ix (76 : Int32) = 76 := rfl
  rw [e_StairReader_readGreat]
  rcases S.num (d := d) (e := e + 1) (by omega) (by omega) (lo := 1) (hi := 12) (by omega) (by omega) with ⟨_, vb, hx', a1, a2, a3, a4, a5, S1⟩ | ⟨hx', hm', a1, a2, a3, a4, a5⟩
  · rw [show evm d 57 [vR 6 1, vI (1 : Int32), vI (12 : Int32)] hx = _ from a1, show evm (e + 1) 156 [vR 12 68, vI (1 : Int32), vI (12 : Int32)] hm = _ from a2]
    have S2 := S1.s5 (x := nvl c n (Tok c n i)) (by omega)
    simp only [bI_s, ix3, (sN74 S1.2.2.1.1.1).2, (sN74 S2.2.2.1.1.1).1, (sN74 S2.2.2.1.1.1).2, bR_s, a5, sI_e]
    rw [ifp_f (by decide), ifp_t (by decide), e_M_takeAfter]
    rcases S2.wrd (d := d) (e := e) (by omega) (by omega) (w := 13) (by decide) with ⟨hx2, b1, b2, b3, b4, b5, b7, S3⟩ | ⟨hx2, hm2, b1, b2, b3, b4, b5⟩
    · have b1' : evm d 58 [vR 6 1, vR 40 14] (sI hx' p 15 (iZ (nvl c n (Tok c n i)))) = some (some (vI (iZ 1)), hx2) := b1
      have b2' : evm e 153 [vR 12 68, vI (13 : Int32)] (sI (sI hm 68 7 (iZ ((i : Int) + 1))) 74 75 (iZ (nvl c n (Tok c n i)))) = some (none, sI (sI (sI hm 68 7 (iZ ((i : Int) + 1))) 74 75 (iZ (nvl c n (Tok c n i)))) 68 7 (iZ (((i + 1 : Nat) : Int) + 1))) := b2
      rw [b1', b2']
      simp only [bI_s, bV_s]
      rw [ifp_f (by decide)]
      rcases S3.num (d := d) (e := e) (by omega) (by omega) (lo := 0) (hi := 4) (by omega) (by omega) with ⟨_, wb, hx3, c1, c2, c3, c4, c5, S4⟩ | ⟨hx3, hm3, c1, c2, c3, c4, c5⟩
      · rw [show evm d 57 [vR 6 1, vI (0 : Int32), vI (4 : Int32)] hx2 = _ from c1, show evm e 156 [vR 12 68, vI (0 : Int32), vI (4 : Int32)] _ = _ from c2]
        have S5 := S4.s6 (x := nvl c n (Tok c n (i + 1 + 1))) (by omega)
        simp only [bI_s, ix4, (sN74 S4.2.2.1.1.1).2, c5]
        rw [ifp_f (by decide), ifp_t (by decide)]
        refine LLn.end (d := d) (by omega) S5 rfl rfl ((((a3.tr (XQf.s p _ _ (by omega))).tr b3).tr c3).tr (XQf.s p _ _ (by omega))) ((((a4.tr (MQf.s _ _ (by omega))).tr b4).tr c4).tr (MQf.s _ _ (by omega))) (by omega)
      · rw [show evm d 57 [vR 6 1, vI (0 : Int32), vI (4 : Int32)] hx2 = _ from c1, show evm e 156 [vR 12 68, vI (0 : Int32), vI (4 : Int32)] _ = _ from c2]
        simp only [bI_s, ix4, (sN74 c5.choose_spec.2.1).2]
        rw [ifp_t (by rfl), ifp_t (by decide)]
        exact LLn.flt rfl rfl (((a3.tr (XQf.s p _ _ (by omega))).tr b3).tr c3) ((((a4.tr (MQf.s _ _ (by omega))).tr b4).tr c4).tr (MQf.s _ _ (by omega))) (c5.s _ (by omega))
    · have b1' : evm d 58 [vR 6 1, vR 40 14] (sI hx' p 15 (iZ (nvl c n (Tok c n i)))) = some (some (vI (iZ 0)), hx2) := b1
      have b2' : evm e 153 [vR 12 68, vI (13 : Int32)] (sI (sI hm 68 7 (iZ ((i : Int) + 1))) 74 75 (iZ (nvl c n (Tok c n i)))) = some (none, hm2) := b2
      obtain ⟨F, f1, f2⟩ := b5
      rw [b1', b2']
      simp only [bI_s, bV_s]
      rw [u_tnF (by omega) f2]
      simp only [bI_s, ix4, (sN74 f2.1).2]
      rw [ifp_t (by rfl), ifp_t (by decide)]
      exact LLn.flt rfl rfl ((a3.tr (XQf.s p _ _ (by omega))).tr b3) (((a4.tr (MQf.s _ _ (by omega))).tr b4).tr (MQf.s _ _ (by omega))) (LFl.s ⟨F, f1, f2⟩ _ (by omega))
  · obtain ⟨F, f1, f2⟩ := a5
    have f3 : JF (sI hm' 74 75 (iZ 0)) F := f2.s _ (by omega)
    rw [show evm d 57 [vR 6 1, vI (1 : Int32), vI (12 : Int32)] hx = _ from a1, show evm (e + 1) 156 [vR 12 68, vI (1 : Int32), vI (12 : Int32)] hm = _ from a2]
    simp only [bI_s, ix3, (sN74 f2.1).2, (sN74 f3.1).1, (sN74 f3.1).2, bR_s]
    rw [ifp_t (by rfl), ifp_t (by decide), e_M_takeAfter, u_twF (by omega) f3]
    simp only [bV_s]
    rw [u_tnF (by omega) f3]
    simp only [bI_s, ix4, (sN74 f3.1).2]
    rw [ifp_t (by decide)]
    exact LLn.flt rfl rfl a3 ((a4.tr (MQf.s _ _ (by omega))).tr (MQf.s _ _ (by omega))) (LFl.s ⟨F, f1, f3⟩ _ (by omega))
theorem l_foot {d e : Nat} (hd : 9 ≤ d) (he : 2 ≤ e) {p : Nat} {c : Int → Int} {n : Int} {N i L : Nat} {q : Int → Int} {hx hm : Hp} (S : LSt p c n N i L q hx hm) : LLn p c n N i hx hm (evm d 46 [vR 6 1, vR 5 p] hx) (bI (evm e 149 [vR 12 68, vI (8 : Int32)] hm) fun x4 h3 =>
      ifp (x4 = 0)
        (bI (evm e 149 [vR 12 68, vI (9 : Int32)] h3) fun x6 h5 =>
        ifp (x6 = 0)
          (bV (evm e 147 [vR 12 68, vI (1 : Int32)] h5) fun h7 =>
          some (none, h7))
          (L_M_readFoot_33 e 68 h5))
        (L_M_readFoot_33 e 68 h3)) := by
  obtain ⟨d, rfl⟩ : ∃ e, d = e + 1 := ⟨d - 1, by omega⟩
  have J := S.2.1
  have M := S.2.2.1
  have w8 : evm e 149 [vR 12 68, vI (8 : Int32)] hm = some (some (vI (bZ (WdS c n (Tok c n i) 9))), hm) := u_iw (w := 8) (by omega) M (by decide)
  have w9 : evm e 149 [vR 12 68, vI (9 : Int32)] hm = some (some (vI (bZ (WdS c n (Tok c n i) 10))), hm) := u_iw (w := 9) (by omega) M (by decide)
  rw [e_StairReader_readFoot, w8]
  simp only [J.1.r 1 0 2, bR_s, bI_s]
  rw [wX (by omega) J (by decide)]
  simp only [bI_s, J.1.r 1 0 2, bR_s]
  have rr : ∀ v, hR (sI hx p 12 v) 1 0 = some 2 := fun v => J.1.r 1 0 2
  have go : ∀ x : Int, (x = 0 ∨ x = 1) → kiX c n (Tok c n i) = 2 → L_M_readFoot_33 e 68 hm = L_M_readFoot_53 e 68 (iZ x) (72 : Int32) 74 hm → LLn p c n N i hx hm (bV (evm d 69 [vR 8 2] (sI hx p 12 (iZ (1 - x)))) fun h14 => bI (evm d 59 [vR 6 1, vI (59 : Int32)] h14) fun x16 h15 => bif isB x16 then some (some (vI x16), h15) else none) (L_M_readFoot_33 e 68 hm) := by
    intro x hx' k2 e33
    have S1 := S.s2 (x := x) (by omega)
    obtain ⟨h2, a1, a2, a3, a4⟩ := x_av (d := d) (by omega) S1.2.1
    have m3 := pMf.s (sI hm 74 72 (iZ x)) (k := 7) (iZ ((i : Int) + 1)) (Or.inl rfl)
    have S2 := S1.tr a3 m3 a2 (S1.2.2.1.nx (by omega))
    rw [a1, e33]
    simp only [bV_s]
    refine LLn.end (d := d) (by omega) S2 rfl ?_ ((XQf.s p _ _ (by omega)).tr (a3.f p)) ((MQf.s _ _ (by omega)).tr m3.f) (by omega)
    rw [e_M_readFoot_53, (sN74 M.1.1).2, ifp_t (by decide)]
    have e7 : hI (sI hm 74 (ix (72 : Int32)) (iZ x)) 68 7 = iZ i := by rw [sI_o _ _ (by omega)]; exact M.2.1.1
    rw [e7, show (1 : Int32) = iZ 1 from rfl, iz_add]
    rfl
  by_cases W : WdS c n (Tok c n i) 9
  · rw [bZ_t W, ifp_f (by decide), ifp_f (by decide)]
    simp only [rr, bR_s]
    refine go 0 (Or.inl rfl) W.1 ?_
    rw [e_M_readFoot_33, (sN74 M.1.1).1]
    simp only [bR_s]
    rw [w8, bZ_t W]
    simp only [bI_s]
    rw [ifp_f (by decide)]
    rfl
  · rw [bZ_f W, ifp_t (by rfl), ifp_t (by rfl), w9, wX (by omega) J (by decide)]
    simp only [bI_s, J.1.r 1 0 2, bR_s]
    by_cases W' : WdS c n (Tok c n i) 10
    · rw [bZ_t W', ifp_f (by decide), ifp_f (by decide)]
      simp only [rr, bR_s]
      refine go 1 (Or.inr rfl) W'.1 ?_
      rw [e_M_readFoot_33, (sN74 M.1.1).1]
      simp only [bR_s]
      rw [w8, bZ_f W]
      simp only [bI_s]
      rw [ifp_t (by rfl)]
      rfl
    · rw [bZ_f W', ifp_t (by rfl), ifp_t (by rfl), show (1 : Int32) = iZ 1 from rfl, x_fl (by omega) J, u_wr (by omega) M]
      simp only [bI_s, bV_s, isB_0, cond_true]
      have f := S.fl (k := 1) (by omega)
      exact LLn.flt rfl rfl f.1 f.2.1 f.2.2
