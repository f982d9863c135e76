/-! all lines -/
theorem j_linesE {d e : Nat} {p : Nat} {c : Int → Int} {n : Int} {N i L : Nat} {q : Int → Int} {hx hm : Hp} (S : LSt p c n N i L q hx hm) (k0 : kiX c n (Tok c n i) = 0) (x3 : Int) : ∃ hx' hm', L_StairReader_read_29 d 1 p (iZ 1) (iZ x3) hx = L_StairReader_read_62 d 1 p hx' ∧ L_M_stair_50 e 68 hm = L_M_stair_82 e 68 hm' ∧ XQf p hx hx' ∧ MQf hm hm' ∧ ((∃ i' L' q', LSt p c n N i' L' q' hx' hm') ∨ LFl hx' hm') := by
  have J := S.2.1
  have M := S.2.2.1
  have N1 := M.1.2.2.1.1
  have iN := M.2.1.2
  have tb := Tok_b (c := c) J.2.1.1.1 i
  refine ⟨hx, hm, ?_, ?_, ⟨rfl, fun _ _ _ _ => rfl⟩, ⟨rfl, fun _ _ _ _ _ => rfl⟩, Or.inl ⟨i, L, q, S⟩⟩
  · rw [e_StairReader_read_29]
    refine ifp_r (fun _ => ?_) (fun _ => rfl)
    rw [ifp_f (show ¬ iZ 1 = (0 : Int32) by decide)]
    simp only [J.1.r 1 0 2, bR_s, J.2.2.1.2.1]
    rw [k0, ifp_t (show iZ 0 = (0 : Int32) from rfl)]
  · rw [e_M_stair_50, M.2.2, ifp_t (show iZ 0 = (0 : Int32) from rfl)]
    simp only [M.1.1.r 4 70, M.1.1.n 70 1002, bR_s, M.2.1.1]
    rw [ifp_t ((inb_iz (by omega)).mpr (by omega)), ix_iz (by omega), Int.toNat_natCast, (M.1.2.2.1.2.2.2.1 i iN).1]
    rw [(k_en tb.1 J.2.1.2.2).2.mpr ((k_en tb.1 J.2.1.2.2).1.mp k0), ifp_t (show iZ 0 = (0 : Int32) from rfl)]
theorem j_lines {d e : Nat} (hd : 46 ≤ d) (he : 46 ≤ e) {p : Nat} {c : Int → Int} {n : Int} {N : Nat} : ∀ (t i : Nat), N - i ≤ t → ∀ (x3 : Int) (hx hm : Hp) (L : Nat) (q : Int → Int), 0 ≤ x3 → x3 ≤ i → LSt p c n N i L q hx hm → ∃ hx' hm', L_StairReader_read_29 d 1 p (iZ 1) (iZ x3) hx = L_StairReader_read_62 d 1 p hx' ∧ L_M_stair_50 e 68 hm = L_M_stair_82 e 68 hm' ∧ XQf p hx hx' ∧ MQf hm hm' ∧ ((∃ i' L' q', LSt p c n N i' L' q' hx' hm') ∨ LFl hx' hm') := by
  intro t
  induction t with
  | zero =>
    intro i ht x3 hx hm L q x0 x1 S
    have J := S.2.1
    have M := S.2.2.1
    have k0 : kiX c n (Tok c n i) = 0 := by
      refine Classical.byContradiction fun k => ?_
      have := M.lt k; omega
    exact j_linesE S k0 x3
  | succ t ih =>
    intro i ht x3 hx hm L q x0 x1 S
    by_cases k0 : kiX c n (Tok c n i) = 0
    · exact j_linesE S k0 x3
    · have J := S.2.1
      have M := S.2.2.1
      have iN := M.lt k0
      have N1 := M.1.2.2.1.1
      have tb := Tok_b (c := c) J.2.1.1.1 i
      have kb := kX_b J.2.1 tb.1
      have km := kM_b c n (Tok c n i)
      obtain ⟨hx', hm1, hm', r, r1, r2, r3, r4, r5, r6, r7⟩ := j_line hd he S k0
      have eM : L_M_stair_50 e 68 hm = L_M_stair_50 e 68 hm' := by
        rw [e_M_stair_50, M.2.2, ifp_t (show iZ 0 = (0 : Int32) from rfl)]
        simp only [M.1.1.r 4 70, M.1.1.n 70 1002, bR_s, M.2.1.1]
        rw [ifp_t ((inb_iz (by omega)).mpr (by omega)), ix_iz (by omega), Int.toNat_natCast, (M.1.2.2.1.2.2.2.1 i (by omega)).1]
        have nz : ¬ iZ (kiM c n (Tok c n i)) = (0 : Int32) := fun y => by
          rw [show (0 : Int32) = iZ 0 from rfl] at y
          have y' := (iz_eq (by omega)).mp y
          have := (k_en tb.1 J.2.1.2.2).2.mp y'
          exact k0 ((k_en tb.1 J.2.1.2.2).1.mpr this)
        rw [ifp_f nz, r2]
        simp only [bV_s]
        rw [r3 e (by omega)]
        simp only [bV_s]
      have eX : L_StairReader_read_29 d 1 p (iZ 1) (iZ x3) hx = L_StairReader_read_29 d 1 p (iZ r) (iZ (x3 + 1)) hx' := by
        rw [e_StairReader_read_29, ifp_t (by rw [show (1000 : Int32) = iZ 1000 from rfl]; exact (iz_lt (by omega)).mpr (by omega)), ifp_f (show ¬ iZ 1 = (0 : Int32) by decide)]
        simp only [J.1.r 1 0 2, bR_s, J.2.2.1.2.1]
        have nz : ¬ iZ (kiX c n (Tok c n i)) = (0 : Int32) := fun y => by
          rw [show (0 : Int32) = iZ 0 from rfl] at y
          exact k0 ((iz_eq (by omega)).mp y)
        rw [ifp_f nz, r1]
        simp only [bI_s]
        rw [show (1 : Int32) = iZ 1 from rfl, iz_add]
      rw [eX, eM]
      rcases r7 with ⟨e1, i', L', q', ii, S'⟩ | ⟨e0, F⟩
      · subst e1
        obtain ⟨h1, h2, a1, a2, a3, a4, a5⟩ := ih i' (by omega) (x3 + 1) hx' hm' L' q' (by omega) (by omega) S'
        exact ⟨h1, h2, a1, a2, r5.tr a3, r6.tr a4, a5⟩
      · subst e0
        refine ⟨hx', hm', ?_, ?_, r5, r6, Or.inr F⟩
        · rw [e_StairReader_read_29]
          exact ifp_r (fun _ => ifp_t (show iZ 0 = (0 : Int32) from rfl)) (fun _ => rfl)
        · obtain ⟨F, f1, f2⟩ := F
          have fb := f2.2.2
          rw [e_M_stair_50, f2.2.1, ifp_f (fun y => by rw [show (0 : Int32) = iZ 0 from rfl] at y; have := (iz_eq (by omega)).mp y; omega)]
/-! the first line -/
noncomputable def qin (v : Int) : Int → Int := fun j => if j = 0 then v else if j = 1 ∨ j = 2 ∨ j = 5 ∨ j = 7 then -1 else if j = 4 then 40 else 0
def CLX (h : Hp) (p : Nat) : Prop := (hI h p 8 = iZ 0 ∧ hI h p 9 = iZ 0 ∧ hI h p 10 = iZ (-1) ∧ hI h p 11 = iZ 0 ∧ hI h p 12 = iZ (-1) ∧ hI h p 13 = iZ 0 ∧ hI h p 14 = iZ 40 ∧ hI h p 15 = iZ (-1) ∧ hI h p 16 = iZ 0) ∧ (∀ s : Nat, s ≤ 40 → hI h (p + 3) s = iZ 0) ∧ (∀ s : Nat, s ≤ 12 → hI h (p + 4) s = iZ 0) ∧ hI h (p + 7) 2 = iZ 0
def CLM (h : Hp) : Prop := ∀ j : Int, 1 ≤ j → j < 70 → hI h 74 (70 + j).toNat = iZ (qin 0 j)
theorem qin_z {v j : Int} (h : 8 ≤ j) : qin v j = 0 := by
  unfold qin; rw [if_neg (by omega), if_neg (by omega), if_neg (by omega)]
theorem qin_n {v j : Int} (h : j ≠ 0) : qin v j = qin 0 j := by
  unfold qin; rw [if_neg h, if_neg h]
theorem Pnd.ini {hx hm : Hp} {p : Nat} {v : Int} (hv : 1 ≤ v ∧ v ≤ 40) (C : CLX hx p) (h7 : hI hx p 7 = iZ v) (M : CLM hm) (h70 : hI hm 74 70 = iZ v) : Pnd hx hm p (qin v) := by
  obtain ⟨⟨c8, c9, c10, c11, c12, c13, c14, c15, c16⟩, c3, c4, _⟩ := C
  refine ⟨⟨h7, c8, c10, c11, c12, c13, c14, c15, c16⟩, ⟨0, by decide, c9, fun z => ?_⟩, ⟨fun _ => 0, fun k k1 k2 => ?_, fun i j i1 i2 i3 => ?_, fun z => ?_⟩, fun s s1 s2 => ?_, fun a ha => ⟨0, by decide, c4 a ha, fun z hz => ?_⟩, fun j j1 j2 => ?_, ?_⟩
  · rw [Nat.zero_testBit]
    refine ⟨fun y => (by cases y), fun ⟨k, k1, k2, _⟩ => ?_⟩
    rw [qin_z (by omega)] at k2; omega
  · rw [qin_z (by omega)] at k2; omega
  · rw [qin_z (by omega)] at i3; omega
  · rw [qin_z (by omega)]
    exact ⟨fun ⟨k, k1, k2, _⟩ => by omega, fun ⟨k, k1, k2, _⟩ => by omega⟩
  · rw [qin_z (by omega)]; exact c3 s.toNat (by omega)
  · rw [Nat.zero_testBit]
    refine ⟨fun y => (by cases y), fun ⟨k, k1, k2, _⟩ => ?_⟩
    rw [qin_z (by omega)] at k2; omega
  · by_cases e : j = 0
    · subst e; exact h70
    · rw [qin_n e]; exact M j (by omega) j2
  · refine ⟨hv, (by show -1 ≤ (-1 : Int) ∧ (-1 : Int) ≤ 4; decide), (by show -1 ≤ (-1 : Int) ∧ (-1 : Int) ≤ 1; decide), (by show 0 ≤ (0 : Int) ∧ (0 : Int) ≤ (40 : Int) ∧ (40 : Int) ≤ 40; decide), (by show -1 ≤ (-1 : Int) ∧ (-1 : Int) ≤ 12 ∧ (-1 : Int) ≠ 0; decide), (by show 0 ≤ (0 : Int) ∧ (0 : Int) ≤ 4; decide), (by show 0 ≤ (0 : Int) ∧ (0 : Int) ≤ 6; decide), (by show 0 ≤ (0 : Int) ∧ (0 : Int) ≤ 8; decide), fun k k1 k2 => ?_, fun i j i1 i2 i3 => ?_, fun k k1 k2 => ?_, fun i j i1 i2 i3 => ?_, fun s s1 s2 => ?_, rfl, fun s s1 s2 => ?_⟩
    · rw [qin_z (by omega)] at k2; omega
    · rw [qin_z (by omega)] at i3; omega
    · rw [qin_z (by omega)] at k2; omega
    · rw [qin_z (by omega)] at i3; omega
    · rw [qin_z (by omega)]; omega
    · have s0 : v ≤ s := s1
      rw [qin_z (by omega)]
theorem j_first {d e : Nat} (hd : 9 ≤ d) (he : 4 ≤ e) {p : Nat} (tt : TO p) {c : Int → Int} {n : Int} {N : Nat} {hx hm : Hp} (J : JX hx c n 0) (M : JM hm c n N 0) (X1 : hI hx 1 1 = iZ 0) (M14 : hI hm 68 14 = iZ 0) (M13 : hI hm 68 13 = iZ 0) (C : CLX hx p) (Cm : CLM hm) : ∃ hx' hm' r, evm d 40 [vR 6 1, vR 5 p] hx = some (some (vI (iZ r)), hx') ∧ (bV (evm e 153 [vR 12 68, vI (0 : Int32)] hm) fun h3 =>
    bR (hR h3 68 10) fun r4 =>
    bI (evm e 156 [vR 12 68, vI (1 : Int32), vI (40 : Int32)] h3) fun x6 h5 =>
    ifp (inb (70 : Int32) (hN h5 r4) = true) (
    bV (evm e 150 [vR 12 68, vI (59 : Int32)] (sI h5 r4 (ix (70 : Int32)) x6)) fun h7 =>
    L_M_stair_50 e 68 h7) none) = L_M_stair_50 e 68 hm' ∧ XQf p hx hx' ∧ MQf hm hm' ∧ ((r = 1 ∧ ∃ i' L' q', LSt p c n N i' L' q' hx' hm') ∨ (r = 0 ∧ LFl hx' hm')) := by
  obtain ⟨d, rfl⟩ : ∃ e, d = e + 1 := ⟨d - 1, by omega⟩
  have tp : 48 ≤ p := by unfold TO at tt; omega
  have ix70 : ix (70 : Int32) = 70 := rfl
  have tw := x_tw (d := d) (by omega) J (r := 1) (by decide)
  have uw := u_tw (d := e) (by omega) M (w := 0) (by decide)
  rw [e_StairReader_readFirst]
  by_cases W : WdS c n (Tok c n 0) 1
  · obtain ⟨hx1, a1, a2, a3, a4⟩ := tw.1 W
    have M1 := M.nx (by have := W.1; omega)
    have U1 : evm e 153 [vR 12 68, vI (0 : Int32)] hm = some (none, sI hm 68 7 (iZ (((0 : Nat) : Int) + 1))) := uw.1 W
    rw [a1, U1]
    simp only [bI_s, bV_s]
    rw [ifp_f (show ¬ iZ 1 = (0 : Int32) by decide)]
    have tn := x_tn (d := d) (by omega) a2 (lo := 1) (hi := 40) (by omega) (by omega)
    have un := u_tn (d := e) (by omega) M1 (lo := 1) (hi := 40) (by omega) (by omega)
    rw [(sN74 M1.1.1).1]
    simp only [bR_s]
    by_cases z : nfc c n (0 + 1) 1 40 = 0
    · have z' := nfc_0.mp z
      obtain ⟨hx2, b1, b2, b3, b4⟩ := tn.1 z
      have M2 := M1.nx (by omega : kiX c n (Tok c n (0 + 1)) ≠ 0)
      rw [show evm d 57 [vR 6 1, vI (1 : Int32), vI (40 : Int32)] hx1 = _ from b1, show evm e 156 [vR 12 68, vI (1 : Int32), vI (40 : Int32)] _ = _ from un.1 z]
      simp only [bI_s]
      rw [ifp_f (show ¬ iZ 1 = (0 : Int32) by decide), (sN74 M2.1.1).2, ifp_t (show inb (70 : Int32) 140 = true by decide), ix70, b4]
      obtain ⟨v, hv⟩ : ∃ v, v = nvl c n (Tok c n (0 + 1)) := ⟨_, rfl⟩
      rw [← hv]
      have vb : 1 ≤ v ∧ v ≤ 40 := by rw [hv]; exact z'.2
      have x12 := a3.tr b3
      obtain ⟨hx3, ex3⟩ : ∃ hx3, hx3 = sI hx2 p 7 (iZ v) := ⟨_, rfl⟩
      obtain ⟨hm3, em3⟩ : ∃ hm3, hm3 = sI (sI (sI hm 68 7 (iZ (((0 : Nat) : Int) + 1))) 68 7 (iZ (((0 + 1 : Nat) : Int) + 1))) 74 70 (iZ v) := ⟨_, rfl⟩
      have xo : ∀ r, r ≠ p → hI hx3 r = hI hx2 r := fun r hr => by rw [ex3, sI_w, wI_n _ _ hr]
      have mo : ∀ r k, r ≠ 74 → ¬ (r = 68 ∧ k = 7) → hI hm3 r k = hI hm r k := fun r k h1 h2 => by rw [em3, sI_o _ _ (by omega), sI_o _ _ (by omega), sI_o _ _ (by omega)]
      have S : LSt p c n N (0 + 1 + 1) 0 (qin v) hx3 hm3 := by
        refine ⟨tt, ⟨by rw [ex3]; exact b2.1, b2.2.1.tr (xo 3 (by omega)), by rw [xo 2 (by omega)]; exact b2.2.2.1, by rw [xo 1 (by omega)]; exact b2.2.2.2⟩, M2.tr (by rw [em3]; rfl) (fun r k hr => by rw [em3, sI_o _ _ (by omega)]) (by rw [em3, sI_o _ _ (by omega)]; exact M2.2.1.1) M2.2.1.2 (by rw [em3, sI_o _ _ (by omega)]; exact M2.2.2), ⟨?_, ?_, by decide, fun _ => rfl, fun _ => rfl, fun _ => rfl⟩, ?_, Or.inl ⟨rfl, ?_, ?_⟩⟩
        · rw [xo 1 (by omega), x12.2.2]; exact X1
        · rw [mo _ _ (by decide) (by omega)]; exact M14
        · refine Pnd.ini vb ?_ (by rw [ex3, sI_e]) (fun j j1 j2 => ?_) (by rw [em3, sI_e])
          · obtain ⟨⟨c8, c9, c10, c11, c12, c13, c14, c15, c16⟩, c3, c4, c7⟩ := C
            have po : ∀ k, k ≠ 7 → hI hx3 p k = hI hx p k := fun k hk => by rw [ex3, sI_o _ _ (by omega), x12.2.1 p (by omega) (by omega)]
            have ro : ∀ r, r ≠ p → r ≠ 1 → r ≠ 2 → hI hx3 r = hI hx r := fun r h1 h2 h3 => by rw [xo r h1, x12.2.1 r h2 h3]
            refine ⟨?_, ?_, ?_, ?_⟩
            · rw [po 8 (by decide), po 9 (by decide), po 10 (by decide), po 11 (by decide), po 12 (by decide), po 13 (by decide), po 14 (by decide), po 15 (by decide), po 16 (by decide)]
              exact ⟨c8, c9, c10, c11, c12, c13, c14, c15, c16⟩
            · rw [ro (p + 3) (by omega) (by omega) (by omega)]; exact c3
            · rw [ro (p + 4) (by omega) (by omega) (by omega)]; exact c4
            · rw [ro (p + 7) (by omega) (by omega) (by omega)]; exact c7
          · rw [em3, sI_o _ _ (by omega), sI_o _ _ (by omega), sI_o _ _ (by omega)]; exact Cm j j1 j2
        · rw [xo _ (by omega), x12.2.1 _ (by omega) (by omega)]; exact C.2.2.2
        · rw [mo _ _ (by decide) (by omega)]; exact M13
      obtain ⟨hx4, hm4, r, g1, g2, g3, g4⟩ := S.fin (d := d) (by omega)
      rw [← ex3, ← em3, g1, g2 e (by omega)]
      simp only [bI_s, bV_s]
      have fx : XQf p hx hx3 := (x12.f p).tr (by rw [ex3]; exact XQf.s p _ _ (by omega))
      have fm : MQf hm hm3 := by
        rw [em3]
        exact ((MQf.s _ _ (by omega)).tr (MQf.s _ _ (by omega))).tr (MQf.s _ _ (by omega))
      refine ⟨hx4, hm4, r, ?_, rfl, fx.tr g4.1, fm.tr g4.2.1, ?_⟩
      · rcases g3 with rfl | rfl <;> rfl
      · rcases g4.2.2 with ⟨h1, i', L', q', _, S'⟩ | h1
        · exact Or.inl ⟨h1, i', L', q', S'⟩
        · exact Or.inr h1
    · have nb := nfc_b c n (0 + 1) 1 40
      have F := M1.fl (k := nfc c n (0 + 1) 1 40) (by omega)
      rw [show evm d 57 [vR 6 1, vI (1 : Int32), vI (40 : Int32)] hx1 = _ from tn.2 z, show evm e 156 [vR 12 68, vI (1 : Int32), vI (40 : Int32)] _ = _ from un.2 z]
      simp only [bI_s]
      rw [ifp_t (show iZ 0 = (0 : Int32) from rfl), (sN74 F.1).2, ifp_t (show inb (70 : Int32) 140 = true by decide), ix70]
      have F2 := F.s (r := 74) (k := 70) (iZ 0) (by omega)
      rw [u_tsF (by omega) F2]
      simp only [bV_s]
      exact ⟨_, _, 0, rfl, rfl, (a3.f p).tr (XQf.s p _ _ (by omega)), ((MQf.s _ _ (by omega)).tr (MQf.s _ _ (by omega))).tr (MQf.s _ _ (by omega)), Or.inr ⟨rfl, _, sI_e _ _ _ _, F2⟩⟩
  · have F := M.fl (k := 1) (by omega)
    rw [tw.2 W, show evm e 153 [vR 12 68, vI (0 : Int32)] hm = _ from uw.2 W]
    simp only [bI_s, bV_s]
    rw [ifp_t (show iZ 0 = (0 : Int32) from rfl), (sN74 F.1).1]
    simp only [bR_s]
    rw [u_tnF (by omega) F]
    simp only [bI_s]
    rw [(sN74 F.1).2, ifp_t (show inb (70 : Int32) 140 = true by decide), ix70]
    have F2 := F.s (r := 74) (k := 70) (iZ 0) (by omega)
    rw [u_tsF (by omega) F2]
    simp only [bV_s]
    exact ⟨_, _, 0, rfl, rfl, XQf.s p _ _ (by omega), (MQf.s _ _ (by omega)).tr (MQf.s _ _ (by omega)), Or.inr ⟨rfl, _, sI_e _ _ _ _, F2⟩⟩
