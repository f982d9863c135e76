/-! lines: steps -/
theorem LSt.gen {p : Nat} {c : Int → Int} {n : Int} {N i j L : Nat} {q q' : Int → Int} {hx hm hx' hm' : Hp} (S : LSt p c n N i L q hx hm) (e2 : hx'.2 = hx.2) (ex : ∀ r, r < p ∨ p + 4 < r → hI hx' r = hI hx r) (f2 : hm'.2 = hm.2) (em : ∀ r k, r ≠ 74 → ¬ (r = 68 ∧ k = 7) → hI hm' r k = hI hm r k) (f7 : hI hm' 68 7 = iZ j) (hj : j ≤ N) (hij : Txs (hI hx 2) c n (Tok c n j)) (q8 : L.testBit 0 = false → q' 8 = 0) (q7 : q' 7 = q 7) (q4 : q' 4 = q 4) (P : Pnd hx' hm' p q') : LSt p c n N j L q' hx' hm' := by
  obtain ⟨t, J, M, ⟨l1, l2, l3, l4, l5, l6⟩, _, C⟩ := S
  have tp : 48 ≤ p := by unfold TO at t; omega
  exact ⟨t, ⟨sx_e e2 J.1, J.2.1.tr (ex 3 (by omega)), by rw [ex 2 (by omega)]; exact hij, by rw [ex 1 (by omega)]; exact J.2.2.2⟩, M.tr f2 (fun r k' hr => em r k' (by omega) (by omega)) f7 hj (by rw [em _ _ (by decide) (by omega)]; exact M.2.2), ⟨by rw [ex 1 (by omega)]; exact l1, by rw [em _ _ (by decide) (by omega)]; exact l2, l3, q8, fun y => by rw [q7]; exact l5 y, fun y => by rw [q4]; exact l6 y⟩, P, C.tr q7 (ex _ (by omega)) (ex _ (by omega)) (em _ _ (by decide) (by omega)) (fun k => em _ _ (by decide) (by omega)) (fun k => em _ _ (by decide) (by omega))⟩
theorem l_step {d e : Nat} (hd : 9 ≤ d) (he : 4 ≤ e) {p : Nat} {c : Int → Int} {n : Int} {N i L : Nat} {q : Int → Int} {hx hm : Hp} (S : LSt p c n N i L q hx hm) (k0 : kiX c n (Tok c n i) ≠ 0) {kd : Int} (hk : 1 ≤ kd ∧ kd ≤ 3) : LLn p c n N i hx hm (evm d 43 [vR 6 1, vR 5 p, vI (iZ kd)] hx) (L_M_readStep_25 e 68 (iZ kd) hm) := by
  obtain ⟨d, rfl⟩ : ∃ e, d = e + 1 := ⟨d - 1, by omega⟩
  have J := S.2.1
  have M := S.2.2.1
  have tt := S.1
  have tp : 48 ≤ p := by unfold TO at tt; omega
  obtain ⟨hx1, a1, a2, a3, a4⟩ := x_av (d := d) (by omega) J
  have m1 := pMf.s hm (k := 7) (iZ ((i : Int) + 1)) (Or.inl rfl)
  have S1 := S.tr a3 m1 a2 (M.nx k0)
  have M1 := S1.2.2.1
  have P1 := S1.2.2.2.2.1
  have V1 := P1.2.2.2.2.2.2
  have v0 := V1.1
  have s70 : hI (sI hm 68 7 (iZ ((i : Int) + 1))) 74 70 = iZ (q 0) := P1.2.2.2.2.2.1 0 (by omega) (by omega)
  rw [e_StairReader_readStep, e_M_readStep_25]
  simp only [J.1.r 1 0 2, bR_s, a1, bV_s, M.2.1.1, show (1 : Int32) = iZ 1 from rfl, iz_add, P1.1.1, iz_sub]
  have ix70 : ix (70 : Int32) = 70 := rfl
  simp only [(sN74 M1.1.1).1, (sN74 M1.1.1).2, bR_s, ix70, s70, iz_sub]
  rw [ifp_t (show inb (70 : Int32) 140 = true by decide)]
  have X := x_in (d := d) (by omega) a2 (lo := 1) (hi := q 0 - 1) (by omega) (by omega)
  have U := u_tn (d := e) (by omega) M1 (lo := 1) (hi := q 0 - 1) (by omega) (by omega)
  by_cases z : nfc c n (i + 1) 1 (q 0 - 1) = 0
  · have z' := nfc_0.mp z
    have M2 := M1.nx (by omega : kiX c n (Tok c n (i + 1)) ≠ 0)
    obtain ⟨v, hv⟩ : ∃ v, v = nvl c n (Tok c n (i + 1)) := ⟨_, rfl⟩
    have vb : 1 ≤ v ∧ v ≤ q 0 - 1 := by rw [hv]; exact z'.2
    have h5 : hI hx1 2 5 = iZ v := by rw [hv]; exact a2.2.2.1.2.2.2.2 z'.1
    have U1 := U.1 z
    rw [← hv] at U1
    rw [X.1 z, U1]
    simp only [bI_s]
    rw [ifp_f (show ¬ iZ 1 = (0 : Int32) by decide)]
    have kin : hI hx1 (p + 3) v.toNat = iZ (q (26 + v)) := P1.2.2.2.1 v (by omega) (by omega)
    have kb := V1.2.2.2.2.2.2.2.2.2.2.2.2.1 v (by omega) (by omega)
    have ibx : inb (iZ v) 41 = true := (inb_iz (by omega)).mpr (by omega)
    have ibm : inb (iZ (96 + v)) 140 = true := (inb_iz (by omega)).mpr (by omega)
    simp only [a2.1.r 1 0 2, a2.1.o2 tt, a2.1.n3 tt, bR_s, h5]
    rw [ifp_t ibx, ix_iz (by omega), kin]
    have g8 : hI (sI (sI hm 68 7 (iZ ((i : Int) + 1))) 68 7 (iZ (((i + 1 : Nat) : Int) + 1))) 68 8 = iZ 0 := M2.2.2
    have g74 : hI (sI (sI hm 68 7 (iZ ((i : Int) + 1))) 68 7 (iZ (((i + 1 : Nat) : Int) + 1))) 74 (96 + v).toNat = iZ (q (26 + v)) := by
      rw [sI_o _ _ (by omega)]
      have := P1.2.2.2.2.2.1 (26 + v) (by omega) (by omega)
      rw [show (70 + (26 + v)).toNat = (96 + v).toNat by omega] at this
      exact this
    rw [g8, ifp_t (show iZ 0 = (0 : Int32) from rfl)]
    simp only [(sN74 M2.1.1).1, (sN74 M2.1.1).2, bR_s, show (96 : Int32) = iZ 96 from rfl, iz_add]
    rw [ifp_t ibm, ix_iz (show 0 ≤ 96 + v ∧ 96 + v < 2147483648 by omega), g74]
    have l0 : ((0 : Int32) < iZ (q (26 + v))) ↔ 0 < q (26 + v) := by rw [show (0 : Int32) = iZ 0 from rfl]; exact iz_lt (by omega)
    have l0' : (iZ (q (26 + v)) = (0 : Int32)) ↔ q (26 + v) = 0 := by rw [show (0 : Int32) = iZ 0 from rfl]; exact iz_eq (by omega)
    by_cases q0 : q (26 + v) = 0
    · have nl0 : ¬ (0 : Int32) < iZ (q (26 + v)) := fun y => by have := l0.mp y; omega
      rw [ifp_t (l0'.mpr q0), ifp_f nl0, ifp_t ibx, e_M_readStep_85, g8, ifp_t (show iZ 0 = (0 : Int32) from rfl)]
      simp only [(sN74 M2.1.1).1, (sN74 M2.1.1).2, bR_s, show (96 : Int32) = iZ 96 from rfl, iz_add]
      rw [ifp_t ibm, ix_iz (show 0 ≤ 96 + v ∧ 96 + v < 2147483648 by omega)]
      -- the class goes on
      have J2 : JX (sI hx1 (p + 3) v.toNat (iZ kd)) c n (i + 1) := ⟨a2.1, a2.2.1.tr (by rw [sI_w, wI_n _ _ (by omega)]), by rw [sI_w, wI_n _ _ (by omega)]; exact a2.2.2.1, by rw [sI_w, wI_n _ _ (by omega)]; exact a2.2.2.2⟩
      obtain ⟨hx2, b1, b2, b3, b4⟩ := x_av (d := d) (by omega) J2
      simp only [J2.1.r 1 0 2, bR_s, b1, bV_s]
      -- the new stair
      have e' : ∀ k, k ≠ 26 + v → upv q (26 + v) kd k = q k := fun k hk => upv_n _ _ hk
      have S1' : LSt p c n N (i + 1) L (upv q (26 + v) kd) (sI hx1 (p + 3) v.toNat (iZ kd)) (sI (sI hm 68 7 (iZ ((i : Int) + 1))) 74 (96 + v).toNat (iZ kd)) := by
        refine S1.gen rfl (fun r hr => by rw [sI_w, wI_n _ _ (by omega)]) rfl (fun r k' h1 h2 => sI_o _ _ (by omega)) (by rw [sI_o _ _ (by omega)]; exact M1.2.1.1) M1.2.1.2 a2.2.2.1 (fun y => by rw [e' 8 (by omega)]; exact S1.2.2.2.1.2.2.2.1 y) (e' 7 (by omega)) (e' 4 (by omega)) ⟨?_, ?_, ?_, ?_, ?_, ?_, ?_⟩
        · have := P1.1
          unfold P9
          rw [show hI (sI hx1 (p + 3) v.toNat (iZ kd)) p = hI hx1 p by rw [sI_w, wI_n _ _ (by omega)], e' 0 (by omega), e' 8 (by omega), e' 1 (by omega), e' 15 (by omega), e' 2 (by omega), e' 3 (by omega), e' 4 (by omega), e' 5 (by omega), e' 6 (by omega)]
          exact this
        · obtain ⟨B, c1, c2, c3⟩ := P1.2.1
          refine ⟨B, c1, by rw [sI_w, wI_n _ _ (by omega)]; exact c2, fun z => (c3 z).trans ?_⟩
          rw [e' 8 (by omega)]
          have v8 := V1.2.2.2.2.2.2.1
          exact ⟨fun ⟨k, k1, k2, k3⟩ => ⟨k, k1, k2, by rw [e' _ (by omega)]; exact k3⟩, fun ⟨k, k1, k2, k3⟩ => ⟨k, k1, k2, by rw [e' _ (by omega)] at k3; exact k3⟩⟩
        · obtain ⟨s, c1, c2, c3⟩ := P1.2.2.1
          unfold PSt
          rw [show hI (sI hx1 (p + 3) v.toNat (iZ kd)) (p + 1) = hI hx1 (p + 1) by rw [sI_w, wI_n _ _ (by omega)], e' 8 (by omega)]
          have v8 := V1.2.2.2.2.2.2.1
          refine ⟨s, c1, c2, fun z => (c3 z).trans ⟨fun ⟨k, k1, k2, k3⟩ => ⟨k, k1, k2, by rw [e' _ (by omega)]; exact k3⟩, fun ⟨k, k1, k2, k3⟩ => ⟨k, k1, k2, by rw [e' _ (by omega)] at k3; exact k3⟩⟩⟩
        · intro s s1 s2
          by_cases es : s = v
          · subst es; rw [upv_e, sI_e]
          · rw [e' _ (by omega), sI_o _ _ (by omega)]; exact P1.2.2.2.1 s s1 s2
        · intro a ha
          obtain ⟨B, c1, c2, c3⟩ := P1.2.2.2.2.1 a ha
          refine ⟨B, c1, by rw [sI_w, wI_n _ _ (by omega)]; exact c2, fun z hz => (c3 z hz).trans ?_⟩
          unfold Brd
          have v15 := V1.2.2.2.2.2.2.2.1
          rw [show (0 : Int) + 15 = 15 from rfl, e' 15 (by omega)]
          exact ⟨fun ⟨k, k1, k2, k3⟩ => ⟨k, k1, k2, by rw [e' _ (by omega)]; exact k3⟩, fun ⟨k, k1, k2, k3⟩ => ⟨k, k1, k2, by rw [e' _ (by omega)] at k3; exact k3⟩⟩
        · exact P1.2.2.2.2.2.1.s (j := 26 + v) (by omega) kd (by omega)
        · obtain ⟨w0, w1, w2, w3, w5, w6, w8, w15, u1, u2, u3, u4, u5, u6, u7⟩ := V1
          unfold VPn
          rw [e' 0 (by omega), e' 1 (by omega), e' 2 (by omega), e' 3 (by omega), e' 4 (by omega), e' 5 (by omega), e' 6 (by omega), e' 8 (by omega), e' 15 (by omega), e' 26 (by omega)]
          refine ⟨w0, w1, w2, w3, w5, w6, w8, w15, fun k k1 k2 => ?_, fun i j i1 i2 i3 => ?_, fun k k1 k2 => ?_, fun i j i1 i2 i3 => ?_, fun s s1 s2 => ?_, u6, fun s s1 s2 => ?_⟩
          · rw [e' _ (by omega)]; exact u1 k k1 k2
          · rw [e' _ (by omega), e' _ (by omega)]; exact u2 i j i1 i2 i3
          · rw [e' _ (by omega)]; exact u3 k k1 k2
          · rw [e' _ (by omega), e' _ (by omega)]; exact u4 i j i1 i2 i3
          · by_cases es : s = v
            · subst es; rw [upv_e]; omega
            · rw [e' _ (by omega)]; exact u5 s s1 s2
          · rw [e' _ (by omega)]; exact u7 s s1 s2
      have m2 := pMf.s (sI (sI hm 68 7 (iZ ((i : Int) + 1))) 74 (96 + v).toNat (iZ kd)) (k := 7) (iZ (((i + 1 : Nat) : Int) + 1)) (Or.inl rfl)
      have S2 := S1'.tr b3 m2 b2 (S1'.2.2.1.nx (by omega))
      refine LLn.end (d := d) (by omega) S2 rfl ?_ (((a3.f p).tr (XQf.s p _ _ (by omega))).tr (b3.f p)) ((m1.f.tr (MQf.s _ _ (by omega))).tr m2.f) (by omega)
      rw [sI_c (r := 68) (k := 7) _ _ _ (by omega)]
    · rw [ifp_f (fun y => q0 (l0'.mp y)), ifp_t (l0.mpr (by omega)), show (3 : Int32) = iZ 3 from rfl, x_fl (by omega) a2]
      -- back by one
      have e7 : hI (sI (sI hm 68 7 (iZ ((i : Int) + 1))) 68 7 (iZ (((i + 1 : Nat) : Int) + 1))) 68 7 = iZ (((i + 1 : Nat) : Int) + 1) := sI_e _ _ _ _
      rw [e7, iz_sub]
      have M3 : JM (sI (sI (sI hm 68 7 (iZ ((i : Int) + 1))) 68 7 (iZ (((i + 1 : Nat) : Int) + 1))) 68 7 (iZ (((i + 1 : Nat) : Int) + 1 - 1))) c n N (i + 1) := by
        refine M2.tr rfl (fun r k hr => sI_o _ _ (by omega)) ?_ M1.2.1.2 ?_
        · rw [sI_e]; congr 1; omega
        · rw [sI_o _ _ (by omega)]; exact M2.2.2
      rw [u_wr (by omega) M3]
      simp only [bI_s, bV_s, isB_0, cond_true]
      have F := M3.fl (k := 3) (by omega)
      refine LLn.flt rfl ?_ ((a3.f p).tr (S1.fl (k := 3) (by omega)).1) ((((m1.f.tr (pMf.s _ _ (Or.inl rfl)).f).tr (pMf.s _ _ (Or.inl rfl)).f)).tr (pMf.s _ _ (Or.inr rfl)).f) ⟨_, sI_e _ _ _ _, F⟩
      have fb := F.2.2
      rw [e_M_readStep_85, F.2.1, ifp_f (fun y => by rw [show (0 : Int32) = iZ 0 from rfl] at y; have := (iz_eq (by omega)).mp y; omega)]
  · have f := S1.fl (k := nfc c n (i + 1) 1 (q 0 - 1)) (by have := nfc_b c n (i + 1) 1 (q 0 - 1); omega)
    have F := M1.fl (k := nfc c n (i + 1) 1 (q 0 - 1)) (by have := nfc_b c n (i + 1) 1 (q 0 - 1); omega)
    rw [X.2 z, U.2 z]
    simp only [bI_s]
    have fb := F.2.2
    have nz : ¬ iZ (nfc c n (i + 1) 1 (q 0 - 1) + 16 * Tok c n (i + 1)) = (0 : Int32) := fun y => by rw [show (0 : Int32) = iZ 0 from rfl] at y; have := (iz_eq (by omega)).mp y; omega
    rw [ifp_t (show iZ 0 = (0 : Int32) from rfl), F.2.1, ifp_f nz]
    refine LLn.flt rfl ?_ ((a3.f p).tr f.1) (m1.f.tr f.2.1) f.2.2
    rw [e_M_readStep_85, F.2.1, ifp_f nz]
