/-! lines: the row of strides -/
theorem kX59 {h : Hp} {c : Int → Int} {n : Int} {i : Nat} (J : JX h c n i) : hI h 2 2 = (59 : Int32) ↔ kiX c n (Tok c n i) = 59 := kX_iz (r := 59) J (by omega)
theorem l_stridesS {d e : Nat} (hd : 9 ≤ d) (he : 4 ≤ e) {p : Nat} {c : Int → Int} {n : Int} {N i L : Nat} {q : Int → Int} {hx hm : Hp} (hL : L.testBit 0 = true) (S : LSt p c n N i L q hx hm) (ih : q 8 < 6 → ∀ (i' : Nat) (q' : Int → Int) (hx' hm' : Hp), LSt p c n N i' L q' hx' hm' → q' 8 = q 8 + 1 → LLn p c n N i' hx' hm' (L_StairReader_readStrides_27 d 1 p (iZ (q' 8)) hx') (bV (evm e 166 [vR 12 68] hm') fun h => L_M_readStrides_13 e 68 h)) : LLn p c n N i hx hm (L_StairReader_readStrides_27 d 1 p (iZ (q 8)) hx) (bV (evm e 166 [vR 12 68] hm) fun h => L_M_readStrides_13 e 68 h) := by
  have J := S.2.1
  have M := S.2.2.1
  have tt := S.1
  have tp : 48 ≤ p := by unfold TO at tt; omega
  have P := S.2.2.2.2.1
  have V := P.2.2.2.2.2.2
  have v8 := V.2.2.2.2.2.2.1
  have tb := Tok_b (c := c) J.2.1.1.1 i
  have ix78 : ix (78 : Int32) = 78 := rfl
  have s78 : hI hm 74 78 = iZ (q 8) := P.2.2.2.2.2.1 8 (by omega) (by omega)
  have lpF : ∀ {h : Hp} {F : Int}, JF h F → L_M_readStrides_13 e 68 h = some (none, h) := fun {h F} f => by
    have fb := f.2.2
    rw [e_M_readStrides_13, f.2.1, ifp_f (fun y => by rw [show (0 : Int32) = iZ 0 from rfl] at y; have := (iz_eq (by omega)).mp y; omega)]
  have eM : evm e 166 [vR 12 68] hm = bI (evm (e - 1) 156 [vR 12 68, vI (iZ 1), vI (iZ 12)] hm) fun x3 h2 => ifp ((0 : Int32) < (hI h2 68 8)) (L_M_readStride_39 (e - 1) 68 (iZ (q 8)) x3 (0 : Int32) (sI h2 68 7 ((hI h2 68 7) - (0 : Int32)))) (L_M_readStride_39 (e - 1) 68 (iZ (q 8)) x3 (0 : Int32) (sI h2 68 7 ((hI h2 68 7) - (1 : Int32)))) := by
    obtain ⟨e, rfl⟩ : ∃ e', e = e' + 1 := ⟨e - 1, by omega⟩
    rw [e_M_readStride]
    simp only [(sN74 M.1.1).1, (sN74 M.1.1).2, bR_s, ix78, s78]
    rw [ifp_t (show inb (78 : Int32) 140 = true by decide)]
    rfl
  have X := x_in (d := d) (by omega) J (lo := 1) (hi := 12) (by omega) (by omega)
  have U := u_tn (d := e - 1) (by omega) M (lo := 1) (hi := 12) (by omega) (by omega)
  rw [eM]
  by_cases z : nfc c n i 1 12 = 0
  · have z' := nfc_0.mp z
    obtain ⟨v, hv⟩ : ∃ v, v = nvl c n (Tok c n i) := ⟨_, rfl⟩
    have vb : 1 ≤ v ∧ v ≤ 12 := by rw [hv]; exact z'.2
    have h5 : hI hx 2 5 = iZ v := by rw [hv]; exact J.2.2.1.2.2.2.2 z'.1
    have U1 := U.1 z
    rw [← hv] at U1
    have M1 := M.nx (by omega : kiX c n (Tok c n i) ≠ 0)
    rw [U1]
    simp only [bI_s]
    rw [M1.2.2, ifp_f (by decide), M1.2.1.1, show (1 : Int32) = iZ 1 from rfl, iz_sub]
    obtain ⟨hm1, em1⟩ : ∃ hm1, hm1 = sI (sI hm 68 7 (iZ ((i : Int) + 1))) 68 7 (iZ (((i + 1 : Nat) : Int) - 1)) := ⟨_, rfl⟩
    have q1 : pMf hm hm1 := by rw [em1]; exact (pMf.s hm _ (Or.inl rfl)).tr (pMf.s _ _ (Or.inl rfl))
    have M2 : JM hm1 c n N i := by
      rw [em1]
      refine M1.tr rfl (fun r k hr => sI_o _ _ (by omega)) ?_ M.2.1.2 ?_
      · rw [sI_e]; congr 1; omega
      · rw [sI_o _ _ (by omega)]; exact M1.2.2
    rw [← em1]
    have P2 : PMd hm1 q := fun j j1 j2 => by rw [q1.2 74 _ (by omega)]; exact P.2.2.2.2.2.1 j j1 j2
    rw [e_StairReader_readStrides_27]
    simp only [J.1.r 1 0 2, bR_s]
    rw [ifp_t ((kX3 J).mpr z'.1), h5, x_tld (by omega) P.2.1 V (by omega)]
    simp only [bI_s]
    by_cases td : Tld q v
    · obtain ⟨hm2, b1, b2, b3⟩ := u_dup (e := e - 1) (by omega) M2 P2 V vb 0 (by omega) (by obtain ⟨k, k1, k2, k3⟩ := td; exact ⟨k, k1, k2, k3⟩)
      have f := S.fl (k := 3) (by omega)
      rw [show (0 : Int32) = iZ 0 from rfl, b1, bZ_t td, ifp_f (show ¬ iZ 1 = iZ 0 by decide), show (3 : Int32) = iZ 3 from rfl, x_fl (by omega) J]
      simp only [bI_s, bV_s, isB_0, cond_true]
      exact LLn.flt rfl (lpF b3) f.1 (q1.tr b2).f ⟨_, sI_e _ _ _ _, b3⟩
    · rw [show (0 : Int32) = iZ 0 from rfl, u_nodup (e := e - 1) M2 P2 V vb 0 (by omega) (by omega) (fun ⟨j, j1, j2, j3⟩ => td ⟨j, j1, j2, j3⟩), bZ_f td, ifp_t (show iZ 0 = iZ 0 from rfl), e_StairReader_readStrides_58, show (1 : Int32) = iZ 1 from rfl, show (12 : Int32) = iZ 12 from rfl, X.1 z]
      simp only [bI_s]
      rw [ifp_f (show ¬ iZ 1 = (0 : Int32) by decide)]
      have l6 : (iZ (q 8) = (6 : Int32)) ↔ q 8 = 6 := by rw [show (6 : Int32) = iZ 6 from rfl]; exact iz_eq (by omega)
      by_cases q6 : q 8 = 6
      · have F := M2.fl (k := 5) (by omega)
        have fb := F.2.2
        have f := S.fl (k := 5) (by omega)
        rw [ifp_t (l6.mpr q6), ifp_t (l6.mpr q6), show (5 : Int32) = iZ 5 from rfl, x_fl (by omega) J, u_wr (by omega) M2]
        simp only [bI_s, bV_s, isB_0, cond_true]
        rw [e_M_readStride_86, F.2.1, ifp_f (fun y => by rw [show (0 : Int32) = iZ 0 from rfl] at y; have := (iz_eq (by omega)).mp y; omega)]
        exact LLn.flt rfl (lpF F) f.1 (q1.tr (pMf.s _ _ (Or.inr rfl))).f ⟨_, sI_e _ _ _ _, F⟩
      · have n6 : ¬ iZ (q 8) = (6 : Int32) := fun y => q6 (l6.mp y)
        rw [ifp_f n6, ifp_f n6]
        -- the class adds it
        obtain ⟨B, B1, B2, B3⟩ := P.2.1
        obtain ⟨s, s1, s2, s3⟩ := P.2.2.1
        have sb : ∀ k, 0 ≤ k → k < q 8 → 1 ≤ s k ∧ s k ≤ 12 := by
          intro k k1 k2
          obtain ⟨j, j1, j2, j3⟩ := (s3 (s k)).mp ⟨k, k1, k2, rfl⟩
          rw [← j3]; exact V.2.2.2.2.2.2.2.2.1 j j1 j2
        obtain ⟨f, s', g1, g2, g3, g4⟩ := x_add (d := d) (by omega) J.1 tt (T := q 8) (by omega) P.1.2.1 B1 B2 s1 sb s2 vb (fun k k1 k2 y => td ((s3 v).mp ⟨k, k1, k2, y⟩))
        simp only [J.1.r 1 0 2, bR_s, h5, g1, bV_s]
        obtain ⟨hx1, ex1⟩ : ∃ hx1, hx1 = sI (sI (wI hx (p + 1) f) p 8 (iZ (q 8 + 1))) p 9 (iZ ((B ||| 2 ^ v.toNat : Nat) : Int)) := ⟨_, rfl⟩
        have xo : ∀ r, r ≠ p → r ≠ p + 1 → hI hx1 r = hI hx r := fun r r1 r2 => by rw [ex1, sI_w, wI_n _ _ r1, sI_w, wI_n _ _ r1, wI_n _ _ r2]
        have xp : ∀ k, k ≠ 8 → k ≠ 9 → hI hx1 p k = hI hx p k := fun k k1 k2 => by rw [ex1, sI_o _ _ (by omega), sI_o _ _ (by omega), wI_n _ _ (by omega)]
        have x8 : hI hx1 p 8 = iZ (q 8 + 1) := by rw [ex1, sI_o _ _ (by omega), sI_e]
        have x9 : hI hx1 p 9 = iZ ((B ||| 2 ^ v.toNat : Nat) : Int) := by rw [ex1, sI_e]
        have x1 : hI hx1 (p + 1) = f := by rw [ex1, sI_w, wI_n _ _ (by omega), sI_w, wI_n _ _ (by omega), wI_I]
        have x2 : hx1.2 = hx.2 := by rw [ex1]; rfl
        rw [← ex1]
        have J1 : JX hx1 c n i := ⟨sx_e x2 J.1, J.2.1.tr (xo 3 (by omega) (by omega)), by rw [xo 2 (by omega) (by omega)]; exact J.2.2.1, by rw [xo 1 (by omega) (by omega)]; exact J.2.2.2⟩
        obtain ⟨hx2, c1, c2, c3, c4⟩ := x_av (d := d) (by omega) J1
        simp only [J1.1.r 1 0 2, bR_s, c1, bV_s]
        -- the new row
        obtain ⟨q', hq'⟩ : ∃ q', q' = upv (upv q (9 + q 8) v) 8 (q 8 + 1) := ⟨_, rfl⟩
        have e' : ∀ k, k ≠ 8 → k ≠ 9 + q 8 → q' k = q k := fun k k1 k2 => by rw [hq', upv_n _ _ k1, upv_n _ _ k2]
        have e8 : q' 8 = q 8 + 1 := by rw [hq', upv_e]
        have en : q' (9 + q 8) = v := by rw [hq', upv_n _ _ (by omega), upv_e]
        have tel : ∀ z, (∃ k, 0 ≤ k ∧ k < q' 8 ∧ q' (9 + k) = z) ↔ (∃ k, 0 ≤ k ∧ k < q 8 ∧ q (9 + k) = z) ∨ z = v := by
          intro z
          rw [e8]
          constructor
          · rintro ⟨k, k1, k2, k3⟩
            by_cases ek : k = q 8
            · rw [ek, en] at k3; exact Or.inr k3.symm
            · rw [e' _ (by omega) (by omega)] at k3; exact Or.inl ⟨k, k1, by omega, k3⟩
          · rintro (⟨k, k1, k2, k3⟩ | y)
            · exact ⟨k, k1, by omega, by rw [e' _ (by omega) (by omega)]; exact k3⟩
            · exact ⟨q 8, by omega, by omega, by rw [en]; exact y.symm⟩
        obtain ⟨hm3, em3⟩ : ∃ hm3, hm3 = sI (sI hm1 74 (79 + q 8).toNat (iZ v)) 74 78 (iZ (q 8 + 1)) := ⟨_, rfl⟩
        have mo : ∀ r k, r ≠ 74 → hI hm3 r k = hI hm1 r k := fun r k hr => by rw [em3, sI_o _ _ (by omega), sI_o _ _ (by omega)]
        have S1 : LSt p c n N i L q' hx1 hm3 := by
          have S0 : LSt p c n N i L q hx hm1 := S.tr (pXf.rf hx) q1 J M2
          refine S0.gen x2 (fun r hr => xo r (by omega) (by omega)) (by rw [em3]; rfl) (fun r k' h1 h2 => mo r k' h1) (by rw [mo _ _ (by decide)]; exact M2.2.1.1) M.2.1.2 J.2.2.1 (fun y => by rw [hL] at y; cases y) (e' 7 (by omega) (by omega)) (e' 4 (by omega) (by omega)) ⟨?_, ?_, ?_, ?_, ?_, ?_, ?_⟩
          · obtain ⟨t7, t8, t10, t11, t12, t13, t14, t15, t16⟩ := P.1
            unfold P9
            rw [e' 0 (by omega) (by omega), e8, e' 1 (by omega) (by omega), e' 15 (by omega) (by omega), e' 2 (by omega) (by omega), e' 3 (by omega) (by omega), e' 4 (by omega) (by omega), e' 5 (by omega) (by omega), e' 6 (by omega) (by omega), xp 7 (by decide) (by decide), x8, xp 10 (by decide) (by decide), xp 11 (by decide) (by decide), xp 12 (by decide) (by decide), xp 13 (by decide) (by decide), xp 14 (by decide) (by decide), xp 15 (by decide) (by decide), xp 16 (by decide) (by decide)]
            exact ⟨t7, rfl, t10, t11, t12, t13, t14, t15, t16⟩
          · refine ⟨B ||| 2 ^ v.toNat, or_lt (n := 13) (by omega) (by omega), x9, fun z => ?_⟩
            rw [tb_or, tel, B3 z]
            constructor
            · rintro (y | y)
              · exact Or.inl y
              · exact Or.inr (by omega)
            · rintro (y | y)
              · exact Or.inl y
              · exact Or.inr (by omega)
          · unfold PSt
            rw [x1, e8]
            refine ⟨s', g2, g3, fun z => (g4 z).trans ?_⟩
            rw [s3 z, ← tel z, e8]
          · intro s s1 s2
            rw [e' _ (by omega) (by omega), xo _ (by omega) (by omega)]; exact P.2.2.2.1 s s1 s2
          · intro a ha
            obtain ⟨B', d1, d2, d3⟩ := P.2.2.2.2.1 a ha
            refine ⟨B', d1, by rw [xo _ (by omega) (by omega)]; exact d2, fun z hz => (d3 z hz).trans ?_⟩
            unfold Brd
            have v15 := V.2.2.2.2.2.2.2.1
            rw [show (0 : Int) + 15 = 15 from rfl, e' 15 (by omega) (by omega)]
            exact ⟨fun ⟨k, k1, k2, k3⟩ => ⟨k, k1, k2, by rw [e' _ (by omega) (by omega)]; exact k3⟩, fun ⟨k, k1, k2, k3⟩ => ⟨k, k1, k2, by rw [e' _ (by omega) (by omega)] at k3; exact k3⟩⟩
          · rw [hq', em3]
            exact (P2.s (j := 9 + q 8) (by omega) v (by omega)).s (j := 8) (by omega) (q 8 + 1) (by omega)
          · obtain ⟨w0, w1, w2, w3, w5, w6, w8, w15, u1, u2, u3, u4, u5, u6, u7⟩ := V
            unfold VPn
            rw [e' 0 (by omega) (by omega), e' 1 (by omega) (by omega), e' 2 (by omega) (by omega), e' 3 (by omega) (by omega), e' 4 (by omega) (by omega), e' 5 (by omega) (by omega), e' 6 (by omega) (by omega), e8, e' 15 (by omega) (by omega), e' 26 (by omega) (by omega)]
            refine ⟨w0, w1, w2, w3, w5, w6, by omega, w15, fun k k1 k2 => ?_, fun i j i1 i2 i3 => ?_, fun k k1 k2 => ?_, fun i j i1 i2 i3 => ?_, fun s s1 s2 => ?_, u6, fun s s1 s2 => ?_⟩
            · by_cases ek : k = q 8
              · rw [ek, en]; exact vb
              · rw [e' _ (by omega) (by omega)]; exact u1 k k1 (by omega)
            · rw [e' (9 + i) (by omega) (by omega)]
              by_cases ek : j = q 8
              · rw [ek, en]
                intro y
                exact td ⟨i, i1, by omega, y⟩
              · rw [e' _ (by omega) (by omega)]; exact u2 i j i1 i2 (by omega)
            · rw [e' _ (by omega) (by omega)]; exact u3 k k1 k2
            · rw [e' _ (by omega) (by omega), e' _ (by omega) (by omega)]; exact u4 i j i1 i2 i3
            · rw [e' _ (by omega) (by omega)]; exact u5 s s1 s2
            · rw [e' _ (by omega) (by omega)]; exact u7 s s1 s2
        have m3 := pMf.s hm3 (k := 7) (iZ ((i : Int) + 1)) (Or.inl rfl)
        have S2 := S1.tr c3 m3 c2 (S1.2.2.1.nx (by omega))
        obtain ⟨hm4, em4⟩ : ∃ hm4, hm4 = sI hm3 68 7 (iZ ((i : Int) + 1)) := ⟨_, rfl⟩
        rw [← em4] at S2 m3
        have f86 : L_M_readStride_86 (e - 1) 68 (iZ (q 8)) (iZ v) hm1 = some (none, hm4) := by
          have ib79 : inb (iZ (79 + q 8)) 140 = true := (inb_iz (by omega)).mpr (by omega)
          have M3 : ∀ w, SM (sI hm1 68 7 w) := fun w => M2.1.1
          have M3' : ∀ w v, SM (sI (sI hm1 68 7 w) 74 (79 + q 8).toNat v) := fun w v => M2.1.1
          have s78' : ∀ w v, hI (sI (sI hm1 68 7 w) 74 (79 + q 8).toNat v) 74 78 = iZ (q 8) := fun w v => by
            rw [sI_o _ _ (by omega), sI_o _ _ (by omega)]
            exact P2 8 (by omega) (by omega)
          rw [e_M_readStride_86, M2.2.2, ifp_t (show iZ 0 = (0 : Int32) from rfl), M2.2.1.1]
          simp only [(sN74 (M3 _)).1, (sN74 (M3 _)).2, bR_s, show (79 : Int32) = iZ 79 from rfl, show (1 : Int32) = iZ 1 from rfl, iz_add]
          rw [ifp_t ib79, ix_iz (show 0 ≤ 79 + q 8 ∧ 79 + q 8 < 2147483648 by omega)]
          simp only [(sN74 (M3' _ _)).1, (sN74 (M3' _ _)).2, bR_s, ix78, s78', iz_add]
          rw [ifp_t (show inb (78 : Int32) 140 = true by decide), ifp_t (show inb (78 : Int32) 140 = true by decide), em4, em3]
          rw [sI_c (r := 68) (k := 7) (r' := 74) _ _ _ (by omega), sI_c (r := 68) (k := 7) (r' := 74) _ _ _ (by omega)]
        have fx : XQf p hx hx2 := by
          refine XQf.tr ⟨x2, fun r r1 r2 r3 => xo r (by omega) (by omega)⟩ (c3.f p)
        have fm : MQf hm hm4 := by
          refine q1.f.tr (MQf.tr ?_ m3.f)
          rw [em3]
          exact (MQf.s _ _ (by omega)).tr (MQf.s _ _ (by omega))
        rw [f86]
        simp only [bV_s]
        -- what comes behind
        have J2 := S2.2.1
        have M4 := S2.2.2.1
        have tb2 := Tok_b (c := c) J.2.1.1.1 (i + 1)
        have kb := kM_b c n (Tok c n (i + 1))
        have M13 : L_M_readStrides_13 e 68 hm4 = ifp (kiX c n (Tok c n (i + 1)) = 3) (bV (evm e 166 [vR 12 68] hm4) fun h2 => L_M_readStrides_13 e 68 h2) (some (none, hm4)) := by
          have N1 := M4.1.2.2.1.1
          have iN := M4.2.1.2
          rw [e_M_readStrides_13, M4.2.2, ifp_t (show iZ 0 = (0 : Int32) from rfl)]
          simp only [M4.1.1.r 4 70, M4.1.1.n 70 1002, bR_s, M4.2.1.1]
          rw [ifp_t ((inb_iz (by omega)).mpr (by omega)), ix_iz (by omega), Int.toNat_natCast, (M4.1.2.2.1.2.2.2.1 (i + 1) iN).1]
          refine ifp_n ?_
          rw [show (2 : Int32) = iZ 2 from rfl, iz_eq (by omega)]
          exact (k_nu tb2.1 J.2.1.2.2).symm
        rw [M13, e_StairReader_readStrides_2, iz_add, ifp_f (fun y => by rw [show (6 : Int32) = iZ 6 from rfl] at y; have := (iz_lt (by omega)).mp y; omega), ifp_t (by rw [show (0 : Int32) = iZ 0 from rfl]; exact (iz_lt (by omega)).mpr (by omega))]
        simp only [J2.1.r 1 0 2, bR_s]
        by_cases k59 : kiX c n (Tok c n (i + 1)) = 59
        · rw [ifp_t ((kX59 J2).mpr k59), ifp_f (by omega)]
          exact LLn.end (d := d) (by omega) S2 rfl rfl fx fm (by omega)
        · rw [ifp_f (fun y => k59 ((kX59 J2).mp y))]
          by_cases k3 : kiX c n (Tok c n (i + 1)) = 3
          · rw [ifp_t k3]
            have r := ih (by omega) (i + 1) q' hx2 hm4 S2 e8
            rw [e8] at r
            obtain ⟨h1', h2', h3', rr, r1, r2, r3, r4, r5⟩ := r
            exact ⟨h1', h2', h3', rr, r1, r2, r3, r4, r5.pre fx fm (by omega)⟩
          · have e1 : nfc c n (i + 1) 1 12 = 1 := by unfold nfc; rw [pif_f k3]
            have X2 := (x_in (d := d) (by omega) J2 (lo := 1) (hi := 12) (by omega) (by omega)).2 (by omega)
            rw [ifp_f k3, e_StairReader_readStrides_27]
            simp only [J2.1.r 1 0 2, bR_s]
            rw [ifp_f (fun y => k3 ((kX3 J2).mp y)), e_StairReader_readStrides_58, show (1 : Int32) = iZ 1 from rfl, show (12 : Int32) = iZ 12 from rfl, X2]
            simp only [bI_s]
            rw [ifp_t (show iZ 0 = (0 : Int32) from rfl), e1]
            have f := S2.fl (k := 1) (by omega)
            exact ⟨_, hm4, sI hm4 68 8 (iZ (1 + 16 * Tok c n (i + 1))), 0, rfl, rfl, fun e he => (u_ts he M4 (r := 59) (by unfold sgn; omega)).2 k59, Or.inl rfl, fx.tr f.1, fm.tr f.2.1, Or.inr ⟨rfl, f.2.2⟩⟩
  · have nb := nfc_b c n i 1 12
    have F := M.fl (k := nfc c n i 1 12) (by omega)
    have fb := F.2.2
    have f := S.fl (k := nfc c n i 1 12) (by omega)
    rw [U.2 z]
    simp only [bI_s]
    rw [F.2.1, ifp_t (by rw [show (0 : Int32) = iZ 0 from rfl]; exact (iz_lt (by omega)).mpr (by omega))]
    obtain ⟨hm2, em2⟩ : ∃ hm2, hm2 = sI (sI hm 68 8 (iZ (nfc c n i 1 12 + 16 * Tok c n i))) 68 7 (hI (sI hm 68 8 (iZ (nfc c n i 1 12 + 16 * Tok c n i))) 68 7 - (0 : Int32)) := ⟨_, rfl⟩
    rw [← em2]
    have F2 : JF hm2 (nfc c n i 1 12 + 16 * Tok c n i) := by rw [em2]; exact F.s _ (by omega)
    have m2 : MQf hm hm2 := by rw [em2]; exact f.2.1.tr (MQf.s _ _ (by omega))
    have nz : ¬ iZ (nfc c n i 1 12 + 16 * Tok c n i) = (0 : Int32) := fun y => by rw [show (0 : Int32) = iZ 0 from rfl] at y; have := (iz_eq (by omega)).mp y; omega
    have e39 : L_M_readStride_39 (e - 1) 68 (iZ (q 8)) (iZ 0) (0 : Int32) hm2 = some (none, hm2) := by
      have e86 : L_M_readStride_86 (e - 1) 68 (iZ (q 8)) (iZ 0) hm2 = some (none, hm2) := by rw [e_M_readStride_86, F2.2.1, ifp_f nz]
      rw [e_M_readStride_39, F2.2.1, ifp_f nz, u_wrF (by omega) F2]
      simp only [bV_s]
      rw [e86]
      exact ifp_r (fun _ => ifp_r (fun _ => rfl) (fun _ => rfl)) (fun _ => ifp_r (fun _ => rfl) (fun _ => rfl))
    rw [e39]
    simp only [bV_s]
    -- the class
    have e58 : L_StairReader_readStrides_58 d 1 p (iZ (q 8)) hx = some (some (vI (iZ 0)), sI hx 1 2 (iZ (nfc c n i 1 12 + 16 * Tok c n i))) := by
      rw [e_StairReader_readStrides_58, show (1 : Int32) = iZ 1 from rfl, show (12 : Int32) = iZ 12 from rfl, X.2 z]
      simp only [bI_s]
      rw [ifp_t (show iZ 0 = (0 : Int32) from rfl)]
      rfl
    refine LLn.flt ?_ (lpF F2) f.1 m2 ⟨_, sI_e _ _ _ _, F2⟩
    rw [e_StairReader_readStrides_27]
    simp only [J.1.r 1 0 2, bR_s]
    by_cases k3 : kiX c n (Tok c n i) = 3
    · have kn := kX_n J.2.1.2.2 tb.1 k3
      rw [ifp_t ((kX3 J).mpr k3), J.2.2.1.2.2.2.2 k3, x_tld (by omega) P.2.1 V (by omega)]
      simp only [bI_s]
      have nt : ¬ Tld q (nvl c n (Tok c n i)) := by
        rintro ⟨k, k1, k2, k4⟩
        have := V.2.2.2.2.2.2.2.2.1 k k1 k2
        exact z (nfc_0.mpr ⟨k3, by omega, by omega⟩)
      rw [bZ_f nt, ifp_t (show iZ 0 = (0 : Int32) from rfl)]
      exact e58
    · rw [ifp_f (fun y => k3 ((kX3 J).mp y))]
      exact e58
theorem l_strides {d e : Nat} (hd : 9 ≤ d) (he : 4 ≤ e) {p : Nat} {c : Int → Int} {n : Int} {N L : Nat} (hL : L.testBit 0 = true) : ∀ (u i : Nat) (q : Int → Int) (hx hm : Hp), LSt p c n N i L q hx hm → 6 - q 8 ≤ u → LLn p c n N i hx hm (L_StairReader_readStrides_27 d 1 p (iZ (q 8)) hx) (bV (evm e 166 [vR 12 68] hm) fun h => L_M_readStrides_13 e 68 h) := by
  intro u
  induction u with
  | zero =>
    intro i q hx hm S hu
    exact l_stridesS hd he hL S (fun S' => absurd S' (by omega))
  | succ u ih =>
    intro i q hx hm S hu
    exact l_stridesS hd he hL S (fun _ i' q' hx' hm' S' hq => ih i' q' hx' hm' S' (by omega))
