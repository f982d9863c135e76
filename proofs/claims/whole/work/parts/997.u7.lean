/-! lines: bars -/
theorem l_bar {d e : Nat} (hd : 9 ≤ d) (he : 4 ≤ e) {p : Nat} {c : Int → Int} {n : Int} {N i L : Nat} {q : Int → Int} {hx hm : Hp} (S : LSt p c n N i L q hx hm) (k0 : kiX c n (Tok c n i) ≠ 0) : LLn p c n N i hx hm (evm d 45 [vR 6 1, vR 5 p] hx) (evm e 163 [vR 12 68] hm) := by
  obtain ⟨d, rfl⟩ : ∃ e, d = e + 1 := ⟨d - 1, by omega⟩
  obtain ⟨e, rfl⟩ : ∃ e', e = e' + 1 := ⟨e - 1, by omega⟩
  have J := S.2.1
  have M := S.2.2.1
  have tt := S.1
  have tp : 48 ≤ p := by unfold TO at tt; omega
  have P := S.2.2.2.2.1
  have V := P.2.2.2.2.2.2
  have v15 := V.2.2.2.2.2.2.2.1
  have ix85 : ix (85 : Int32) = 85 := rfl
  have s85 : hI hm 74 85 = iZ (q 15) := P.2.2.2.2.2.1 15 (by omega) (by omega)
  rw [e_StairReader_readBar, e_M_readBar]
  simp only [P.1.2.2.2.1, (sN74 M.1.1).1, (sN74 M.1.1).2, bR_s, ix85, s85, J.1.r 1 0 2]
  rw [ifp_t (show inb (85 : Int32) 140 = true by decide)]
  have l8 : (iZ (q 15) < (8 : Int32)) ↔ q 15 < 8 := by rw [show (8 : Int32) = iZ 8 from rfl]; exact iz_lt (by omega)
  have l8' : (iZ (q 15) = (8 : Int32)) ↔ q 15 = 8 := by rw [show (8 : Int32) = iZ 8 from rfl]; exact iz_eq (by omega)
  by_cases q8 : q 15 = 8
  · have n8 : ¬ iZ (q 15) < (8 : Int32) := fun y => by have := l8.mp y; omega
    rw [ifp_f n8, ifp_t (l8'.mpr q8), show (5 : Int32) = iZ 5 from rfl, x_fl (by omega) J, u_wr (by omega) M]
    simp only [bI_s, bV_s, isB_0, cond_true]
    have f := S.fl (k := 5) (by omega)
    exact LLn.flt rfl rfl f.1 f.2.1 f.2.2
  · have n8 : ¬ iZ (q 15) = (8 : Int32) := fun y => q8 (l8'.mp y)
    rw [ifp_t (l8.mpr (by omega)), ifp_f n8]
    obtain ⟨hx1, a1, a2, a3, a4⟩ := x_av (d := d) (by omega) J
    have m1 := pMf.s hm (k := 7) (iZ ((i : Int) + 1)) (Or.inl rfl)
    have S1 := S.tr a3 m1 a2 (M.nx k0)
    simp only [a1, bV_s, M.2.1.1, show (1 : Int32) = iZ 1 from rfl, iz_add, show (12 : Int32) = iZ 12 from rfl]
    rcases S1.num (d := d) (e := e) (by omega) (by omega) (lo := 1) (hi := 12) (by omega) (by omega) with ⟨_, ab, hx2, b1, b2, b3, b4, b5, S2⟩ | ⟨hx2, hm2, b1, b2, b3, b4, b5⟩
    · obtain ⟨a, ha⟩ : ∃ a, a = nvl c n (Tok c n (i + 1)) := ⟨_, rfl⟩
      rw [← ha] at ab b2 b5
      rw [b1, b2]
      simp only [bI_s]
      rw [ifp_f (show ¬ iZ 1 = (0 : Int32) by decide), e_StairReader_readBar_34]
      have J2 := S2.2.1
      have M2 := S2.2.2.1
      have P2 := S2.2.2.2.2.1
      have X := x_in (d := d) (by omega) J2 (lo := 1) (hi := 12) (by omega) (by omega)
      have U := u_tn (d := e) (by omega) M2 (lo := 1) (hi := 12) (by omega) (by omega)
      simp only [show (1 : Int32) = iZ 1 from rfl, show (12 : Int32) = iZ 12 from rfl]
      by_cases z : nfc c n (i + 1 + 1) 1 12 = 0
      · have z' := nfc_0.mp z
        have M3 := M2.nx (by omega : kiX c n (Tok c n (i + 1 + 1)) ≠ 0)
        obtain ⟨b, hb⟩ : ∃ b, b = nvl c n (Tok c n (i + 1 + 1)) := ⟨_, rfl⟩
        have bb : 1 ≤ b ∧ b ≤ 12 := by rw [hb]; exact z'.2
        have h5 : hI hx2 2 5 = iZ b := by rw [hb]; exact J2.2.2.1.2.2.2.2 z'.1
        have U1 := U.1 z
        rw [← hb] at U1
        rw [X.1 z, U1]
        simp only [bI_s]
        rw [ifp_f (show ¬ iZ 1 = (0 : Int32) by decide)]
        simp only [J2.1.r 1 0 2, bR_s, h5, b5]
        -- is it barred already
        obtain ⟨B, B1, B2, B3⟩ := P2.2.2.2.2.1 a.toNat (by omega)
        have ea : ((a.toNat : Nat) : Int) = a := by omega
        have eb : ((b.toNat : Nat) : Int) = b := by omega
        rw [ea] at B3
        have xb : evm d 29 [vR 5 p, vI (iZ a), vI (iZ b)] hx2 = some (some (vI (bZ (Brd q 0 a b))), hx2) := by
          obtain ⟨d, rfl⟩ : ∃ e, d = e + 1 := ⟨d - 1, by omega⟩
          rw [e_Stair_isBarred]
          simp (disch := omega) only [J2.1.o3 tt, J2.1.n4 tt, lit32, litJ, iz_add, iz_sub, iz_mul, iz_neg, nI_iz, ix_iz, inb_iz, ifp_t, ifp_f, ifp_T, ifp_F, iz_eq, iz_lt, bI_s, bL_s, bV_s, bR_s, B2]
          have bb' := B3 b.toNat (by omega)
          rw [eb] at bb'
          rw [show iZ b = iZ ((b.toNat : Nat) : Int) by rw [eb], ifp_n (b_tst (show B < 2147483648 by omega) (show b.toNat < 32 by omega))]
          refine ifp_r (fun h3 => rb_f (fun t => ?_)) (fun h3 => rb_t ?_)
          · rw [bb'.mpr t] at h3; cases h3
          · exact bb'.mp (by simpa using h3)
        have r74 : ∀ j, 0 ≤ j → j < 70 → rz (sI (sI (sI hm 68 7 (iZ ((i : Int) + 1))) 68 7 (iZ (((i + 1 : Nat) : Int) + 1))) 68 7 (iZ (((i + 1 + 1 : Nat) : Int) + 1))) 74 (70 + j) = (iZ (q j)).toInt := fun j j1 j2 => by
          unfold rz
          rw [sI_o _ _ (by omega)]
          rw [P2.2.2.2.2.2.1 j j1 j2]
        have q15 : rz (sI (sI (sI hm 68 7 (iZ ((i : Int) + 1))) 68 7 (iZ (((i + 1 : Nat) : Int) + 1))) 68 7 (iZ (((i + 1 + 1 : Nat) : Int) + 1))) 74 (70 + 15) = q 15 := by
          rw [r74 15 (by omega) (by omega), iz_i (by omega) (by omega)]
        have bq : ∀ k, 0 ≤ k → k < q 15 → rz (sI (sI (sI hm 68 7 (iZ ((i : Int) + 1))) 68 7 (iZ (((i + 1 : Nat) : Int) + 1))) 68 7 (iZ (((i + 1 + 1 : Nat) : Int) + 1))) 74 (70 + 16 + k) = q (16 + k) := fun k k1 k2 => by
          obtain ⟨x, y, h1, h2, h3⟩ := V.2.2.2.2.2.2.2.2.2.2.1 k k1 k2
          rw [show (70 : Int) + 16 + k = 70 + (16 + k) by omega, r74 (16 + k) (by omega) (by omega), iz_i (by omega) (by omega)]
        have ub : evm e 164 [vR 12 68, vI (70 : Int32), vI (iZ a), vI (iZ b)] (sI (sI (sI hm 68 7 (iZ ((i : Int) + 1))) 68 7 (iZ (((i + 1 : Nat) : Int) + 1))) 68 7 (iZ (((i + 1 + 1 : Nat) : Int) + 1))) = some (some (vI (bZ (Brd q 0 a b))), (sI (sI (sI hm 68 7 (iZ ((i : Int) + 1))) 68 7 (iZ (((i + 1 : Nat) : Int) + 1))) 68 7 (iZ (((i + 1 + 1 : Nat) : Int) + 1)))) := by
          obtain ⟨e, rfl⟩ : ∃ e', e = e' + 1 := ⟨e - 1, by omega⟩
          have := m_isBarred e M3.1.1 (b0 := 70) (a := a) (b := b) (by omega) (by omega) (by omega) (by rw [q15]; omega)
          rw [show (70 : Int32) = iZ 70 from rfl, this]
          refine congrArg (fun x => some (some (vI x), _)) (bZ_c ?_)
          unfold Brd
          rw [q15]
          constructor
          · rintro ⟨k, k1, k2, k3⟩
            exact ⟨k, k1, k2, by rw [bq k k1 k2] at k3; rw [show (0 : Int) + 16 + k = 16 + k by omega]; exact k3⟩
          · rintro ⟨k, k1, k2, k3⟩
            exact ⟨k, k1, k2, by rw [bq k k1 k2]; rw [show (0 : Int) + 16 + k = 16 + k by omega] at k3; exact k3⟩
        rw [xb, ub]
        simp only [bI_s]
        rw [M3.2.2, ifp_t (show iZ 0 = (0 : Int32) from rfl)]
        by_cases bd : Brd q 0 a b
        · rw [bZ_t bd, ifp_f (show ¬ iZ 1 = (0 : Int32) by decide), ifp_f (show ¬ iZ 1 = (0 : Int32) by decide), show (3 : Int32) = iZ 3 from rfl, x_fl (by omega) J2]
          rw [M3.2.1.1, iz_sub]
          have M4 : JM (sI (sI (sI (sI hm 68 7 (iZ ((i : Int) + 1))) 68 7 (iZ (((i + 1 : Nat) : Int) + 1))) 68 7 (iZ (((i + 1 + 1 : Nat) : Int) + 1))) 68 7 (iZ (((i + 1 + 1 + 1 : Nat) : Int) - 1))) c n N (i + 1 + 1) := by
            refine M3.tr rfl (fun r k hr => sI_o _ _ (by omega)) ?_ M2.2.1.2 ?_
            · rw [sI_e]; congr 1; omega
            · rw [sI_o _ _ (by omega)]; exact M3.2.2
          rw [u_wr (by omega) M4]
          simp only [bI_s, bV_s, isB_0, cond_true]
          have F := M4.fl (k := 3) (by omega)
          have fb := F.2.2
          refine LLn.flt rfl ?_ (((a3.f p).tr b3).tr (S2.fl (k := 3) (by omega)).1) ((((m1.f.tr b4).tr (pMf.s _ _ (Or.inl rfl)).f).tr (pMf.s _ _ (Or.inl rfl)).f).tr (pMf.s _ _ (Or.inr rfl)).f) ⟨_, sI_e _ _ _ _, F⟩
          rw [e_M_readBar_79, F.2.1, ifp_f (fun y => by rw [show (0 : Int32) = iZ 0 from rfl] at y; have := (iz_eq (by omega)).mp y; omega)]
        · rw [bZ_f bd, ifp_t (show iZ 0 = (0 : Int32) from rfl), ifp_t (show iZ 0 = (0 : Int32) from rfl)]
          have ia : ix (iZ a) = a.toNat := ix_iz (by omega)
          have iba : inb (iZ a) 13 = true := (inb_iz (by omega)).mpr (by omega)
          have sh : (iZ 1 : Int32) <<< (iZ b &&& 31) = iZ ((2 ^ b.toNat : Nat) : Int) := by
            have := b_one (k := b.toNat) (by omega)
            rw [eb] at this
            exact this
          have orB : iZ (B : Int) ||| iZ ((2 ^ b.toNat : Nat) : Int) = iZ ((B ||| 2 ^ b.toNat : Nat) : Int) := b_or _ _
          have p11 : hI (sI hx2 (p + 4) a.toNat (iZ ((B ||| 2 ^ b.toNat : Nat) : Int))) p 11 = iZ (q 15) := by rw [sI_o _ _ (by omega)]; exact P2.1.2.2.2.1
          simp only [J2.1.o3 tt, J2.1.n4 tt, J2.1.r 1 0 2, bR_s, h5, ia, B2, sh, orB, p11, iz_add]
          rw [ifp_t iba, ifp_t iba]
          -- the class goes on
          have J3 : JX (sI (sI hx2 (p + 4) a.toNat (iZ ((B ||| 2 ^ b.toNat : Nat) : Int))) p 11 (iZ (q 15 + 1))) c n (i + 1 + 1) := ⟨J2.1, J2.2.1.tr (by rw [sI_w, wI_n _ _ (by omega), sI_w, wI_n _ _ (by omega)]), by rw [sI_w, wI_n _ _ (by omega), sI_w, wI_n _ _ (by omega)]; exact J2.2.2.1, by rw [sI_w, wI_n _ _ (by omega), sI_w, wI_n _ _ (by omega)]; exact J2.2.2.2⟩
          obtain ⟨hx3, c1, c2, c3, c4⟩ := x_av (d := d) (by omega) J3
          simp only [J3.1.r 1 0 2, bR_s, c1, bV_s]
          obtain ⟨q', hq'⟩ : ∃ q', q' = upv (upv q (16 + q 15) (16 * a + b)) 15 (q 15 + 1) := ⟨_, rfl⟩
          have e' : ∀ k, k ≠ 15 → k ≠ 16 + q 15 → q' k = q k := fun k k1 k2 => by rw [hq', upv_n _ _ k1, upv_n _ _ k2]
          have e15 : q' 15 = q 15 + 1 := by rw [hq', upv_e]
          have en : q' (16 + q 15) = 16 * a + b := by rw [hq', upv_n _ _ (by omega), upv_e]
          have S2' : LSt p c n N (i + 1 + 1) L q' (sI (sI hx2 (p + 4) a.toNat (iZ ((B ||| 2 ^ b.toNat : Nat) : Int))) p 11 (iZ (q 15 + 1))) (sI (sI (sI (sI hm 68 7 (iZ ((i : Int) + 1))) 68 7 (iZ (((i + 1 : Nat) : Int) + 1))) 74 (86 + q 15).toNat (iZ (16 * a + b))) 74 85 (iZ (q 15 + 1))) := by
            refine S2.gen rfl (fun r hr => by rw [sI_w, wI_n _ _ (by omega), sI_w, wI_n _ _ (by omega)]) rfl (fun r k' h1 h2 => by rw [sI_o _ _ (by omega), sI_o _ _ (by omega)]) (by rw [sI_o _ _ (by omega), sI_o _ _ (by omega)]; exact M2.2.1.1) M2.2.1.2 J2.2.2.1 (fun y => by rw [e' 8 (by omega) (by omega)]; exact S2.2.2.2.1.2.2.2.1 y) (e' 7 (by omega) (by omega)) (e' 4 (by omega) (by omega)) ⟨?_, ?_, ?_, ?_, ?_, ?_, ?_⟩
            · obtain ⟨t7, t8, t10, t11, t12, t13, t14, t15, t16⟩ := P2.1
              unfold P9
              rw [e' 0 (by omega) (by omega), e' 8 (by omega) (by omega), e' 1 (by omega) (by omega), e15, e' 2 (by omega) (by omega), e' 3 (by omega) (by omega), e' 4 (by omega) (by omega), e' 5 (by omega) (by omega), e' 6 (by omega) (by omega)]
              have so : ∀ k, k ≠ 11 → hI (sI (sI hx2 (p + 4) a.toNat (iZ ((B ||| 2 ^ b.toNat : Nat) : Int))) p 11 (iZ (q 15 + 1))) p k = hI hx2 p k := fun k hk => by rw [sI_o _ _ (by omega), sI_o _ _ (by omega)]
              rw [so 7 (by decide), so 8 (by decide), so 10 (by decide), so 12 (by decide), so 13 (by decide), so 14 (by decide), so 15 (by decide), so 16 (by decide), sI_e]
              exact ⟨t7, t8, t10, rfl, t12, t13, t14, t15, t16⟩
            · obtain ⟨B', d1, d2, d3⟩ := P2.2.1
              have v8 := V.2.2.2.2.2.2.1
              refine ⟨B', d1, by rw [sI_o _ _ (by omega), sI_o _ _ (by omega)]; exact d2, fun z => (d3 z).trans ?_⟩
              rw [e' 8 (by omega) (by omega)]
              exact ⟨fun ⟨k, k1, k2, k3⟩ => ⟨k, k1, k2, by rw [e' _ (by omega) (by omega)]; exact k3⟩, fun ⟨k, k1, k2, k3⟩ => ⟨k, k1, k2, by rw [e' _ (by omega) (by omega)] at k3; exact k3⟩⟩
            · obtain ⟨s, d1, d2, d3⟩ := P2.2.2.1
              have v8 := V.2.2.2.2.2.2.1
              unfold PSt
              rw [sI_w, wI_n _ _ (by omega), sI_w, wI_n _ _ (by omega), e' 8 (by omega) (by omega)]
              refine ⟨s, d1, d2, fun z => (d3 z).trans ⟨fun ⟨k, k1, k2, k3⟩ => ⟨k, k1, k2, by rw [e' _ (by omega) (by omega)]; exact k3⟩, fun ⟨k, k1, k2, k3⟩ => ⟨k, k1, k2, by rw [e' _ (by omega) (by omega)] at k3; exact k3⟩⟩⟩
            · intro s s1 s2
              rw [e' _ (by omega) (by omega), sI_o _ _ (by omega), sI_o _ _ (by omega)]; exact P2.2.2.2.1 s s1 s2
            · have brd : ∀ x y, Brd q' 0 x y ↔ Brd q 0 x y ∨ 16 * x + y = 16 * a + b := by
                intro x y
                unfold Brd
                rw [show (0 : Int) + 15 = 15 from rfl, e15]
                constructor
                · rintro ⟨k, k1, k2, k3⟩
                  by_cases ek : k = q 15
                  · right
                    rw [show (0 : Int) + 16 + k = 16 + q 15 by omega, en] at k3
                    exact k3.symm
                  · left
                    exact ⟨k, k1, by omega, by rw [e' _ (by omega) (by omega)] at k3; exact k3⟩
                · rintro (⟨k, k1, k2, k3⟩ | y1)
                  · exact ⟨k, k1, by omega, by rw [e' _ (by omega) (by omega)]; exact k3⟩
                  · exact ⟨q 15, by omega, by omega, by rw [show (0 : Int) + 16 + q 15 = 16 + q 15 by omega, en]; exact y1.symm⟩
              intro x hx'
              by_cases ex : x = a.toNat
              · subst ex
                refine ⟨B ||| 2 ^ b.toNat, or_lt (n := 13) (by omega) (by omega), by rw [sI_o _ _ (by omega), sI_e], fun z hz => ?_⟩
                rw [tb_or, brd, ea, B3 z hz]
                constructor
                · rintro (y | y)
                  · exact Or.inl y
                  · exact Or.inr (by omega)
                · rintro (y | y)
                  · exact Or.inl y
                  · exact Or.inr (by omega)
              · obtain ⟨B', d1, d2, d3⟩ := P2.2.2.2.2.1 x hx'
                refine ⟨B', d1, by rw [sI_o _ _ (by omega), sI_o _ _ (by omega)]; exact d2, fun z hz => ?_⟩
                rw [d3 z hz, brd]
                constructor
                · exact Or.inl
                · rintro (y | y)
                  · exact y
                  · exfalso; omega
            · rw [hq']
              exact (P2.2.2.2.2.2.1.s (j := 16 + q 15) (by omega) (16 * a + b) (by omega)).s (j := 15) (by omega) (q 15 + 1) (by omega)
            · obtain ⟨w0, w1, w2, w3, w5, w6, w8, w15, u1, u2, u3, u4, u5, u6, u7⟩ := V
              unfold VPn
              rw [e' 0 (by omega) (by omega), e' 1 (by omega) (by omega), e' 2 (by omega) (by omega), e' 3 (by omega) (by omega), e' 4 (by omega) (by omega), e' 5 (by omega) (by omega), e' 6 (by omega) (by omega), e' 8 (by omega) (by omega), e15, e' 26 (by omega) (by omega)]
              refine ⟨w0, w1, w2, w3, w5, w6, w8, by omega, fun k k1 k2 => ?_, fun i j i1 i2 i3 => ?_, fun k k1 k2 => ?_, fun i j i1 i2 i3 => ?_, fun s s1 s2 => ?_, u6, fun s s1 s2 => ?_⟩
              · rw [e' _ (by omega) (by omega)]; exact u1 k k1 k2
              · rw [e' _ (by omega) (by omega), e' _ (by omega) (by omega)]; exact u2 i j i1 i2 i3
              · by_cases ek : k = q 15
                · rw [ek, en]; exact ⟨a, b, by omega, bb, rfl⟩
                · rw [e' _ (by omega) (by omega)]; exact u3 k k1 (by omega)
              · rw [e' (16 + i) (by omega) (by omega)]
                by_cases ek : j = q 15
                · rw [ek, en]
                  intro y
                  exact bd ⟨i, i1, by rw [show (0 : Int) + 15 = 15 from rfl]; omega, by rw [show (0 : Int) + 16 + i = 16 + i by omega]; exact y⟩
                · rw [e' _ (by omega) (by omega)]; exact u4 i j i1 i2 (by omega)
              · rw [e' _ (by omega) (by omega)]; exact u5 s s1 s2
              · rw [e' _ (by omega) (by omega)]; exact u7 s s1 s2
          have m3 := pMf.s (sI (sI (sI (sI hm 68 7 (iZ ((i : Int) + 1))) 68 7 (iZ (((i + 1 : Nat) : Int) + 1))) 74 (86 + q 15).toNat (iZ (16 * a + b))) 74 85 (iZ (q 15 + 1))) (k := 7) (iZ (((i + 1 + 1 : Nat) : Int) + 1)) (Or.inl rfl)
          have S3 := S2'.tr c3 m3 c2 (S2'.2.2.1.nx (by omega))
          refine LLn.end (d := d) (by omega) S3 rfl ?_ (((((a3.f p).tr b3).tr (XQf.s p _ _ (by omega))).tr (XQf.s p _ _ (by omega))).tr (c3.f p)) ((((m1.f.tr b4).tr (MQf.s _ _ (by omega))).tr (MQf.s _ _ (by omega))).tr m3.f) (by omega)
          rw [e_M_readBar_79, M3.2.2, ifp_t (show iZ 0 = (0 : Int32) from rfl)]
          have ib86 : inb (iZ (86 + q 15)) 140 = true := (inb_iz (by omega)).mpr (by omega)
          have M3' : ∀ v, SM (sI (sI (sI (sI hm 68 7 (iZ ((i : Int) + 1))) 68 7 (iZ (((i + 1 : Nat) : Int) + 1))) 68 7 (iZ (((i + 1 + 1 : Nat) : Int) + 1))) 74 (86 + q 15).toNat v) := fun v => M3.1.1
          have s85' : ∀ v, hI (sI (sI (sI (sI hm 68 7 (iZ ((i : Int) + 1))) 68 7 (iZ (((i + 1 : Nat) : Int) + 1))) 68 7 (iZ (((i + 1 + 1 : Nat) : Int) + 1))) 74 (86 + q 15).toNat v) 74 85 = iZ (q 15) := fun v => by
            rw [sI_o _ _ (by omega), sI_o _ _ (by omega)]
            exact P2.2.2.2.2.2.1 15 (by omega) (by omega)
          simp only [(sN74 M3.1.1).1, (sN74 M3.1.1).2, bR_s, show (86 : Int32) = iZ 86 from rfl, show (16 : Int32) = iZ 16 from rfl, show (1 : Int32) = iZ 1 from rfl, iz_mul, iz_add]
          rw [ifp_t ib86, ix_iz (show 0 ≤ 86 + q 15 ∧ 86 + q 15 < 2147483648 by omega)]
          simp only [(sN74 (M3' _)).1, (sN74 (M3' _)).2, bR_s, ix85, s85', iz_add]
          rw [ifp_t (show inb (85 : Int32) 140 = true by decide), ifp_t (show inb (85 : Int32) 140 = true by decide)]
          rw [sI_c (r := 68) (k := 7) (r' := 74) _ _ _ (by omega), sI_c (r := 68) (k := 7) (r' := 74) _ _ _ (by omega)]
      · have f := S2.fl (k := nfc c n (i + 1 + 1) 1 12) (by have := nfc_b c n (i + 1 + 1) 1 12; omega)
        have F := M2.fl (k := nfc c n (i + 1 + 1) 1 12) (by have := nfc_b c n (i + 1 + 1) 1 12; omega)
        have fb := F.2.2
        have nz : ¬ iZ (nfc c n (i + 1 + 1) 1 12 + 16 * Tok c n (i + 1 + 1)) = (0 : Int32) := fun y => by rw [show (0 : Int32) = iZ 0 from rfl] at y; have := (iz_eq (by omega)).mp y; omega
        rw [X.2 z, U.2 z]
        simp only [bI_s]
        rw [ifp_t (show iZ 0 = (0 : Int32) from rfl), F.2.1, ifp_f nz]
        refine LLn.flt rfl ?_ (((a3.f p).tr b3).tr f.1) ((m1.f.tr b4).tr f.2.1) f.2.2
        rw [e_M_readBar_79, F.2.1, ifp_f nz]
    · obtain ⟨F, f1, f2⟩ := b5
      have fb := f2.2.2
      have nz : ¬ iZ F = (0 : Int32) := fun y => by rw [show (0 : Int32) = iZ 0 from rfl] at y; have := (iz_eq (by omega)).mp y; omega
      rw [b1, b2]
      simp only [bI_s]
      rw [ifp_t (show iZ 0 = (0 : Int32) from rfl), u_tnF (by omega) f2]
      simp only [bI_s]
      rw [f2.2.1, ifp_f nz]
      refine LLn.flt rfl ?_ ((a3.f p).tr b3) (m1.f.tr b4) ⟨F, f1, f2⟩
      rw [e_M_readBar_79, f2.2.1, ifp_f nz]
