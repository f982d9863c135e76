/-! the stair is told: both take it -/
theorem JM.i8 {h : Hp} {c : Int → Int} {n : Int} {N i : Nat} (M : JM h c n N i) : ¬ (0 : Int32) < hI h 68 8 := by rw [M.2.2]; decide
theorem j_dflt {d e : Nat} (hd : 1 ≤ d) {p : Nat} (tt : TO p) {hx hm : Hp} {q : Int → Int} (X : SX hx) (M : SM hm) (m8 : ¬ (0 : Int32) < hI hm 68 8) (P : Pnd hx hm p q) : ∃ h1 m1 q1, evm (d + 1) 26 [vR 5 p] hx = L_Stair_finish_19 d p (0 : Int32) h1 ∧ L_M_stair_82 e 68 hm = L_M_stair_130 e 68 (0 : Int32) m1 ∧ h1.2 = hx.2 ∧ (∀ r, r ≠ p → r ≠ p + 1 → hI h1 r = hI hx r) ∧ m1.2 = hm.2 ∧ (∀ r k, r ≠ 74 → hI m1 r k = hI hm r k) ∧ Pnd h1 m1 p q1 ∧ 1 ≤ q1 8 ∧ q1 7 = q 7 := by
  have tp : 48 ≤ p := by unfold TO at tt; omega
  have V := P.2.2.2.2.2.2
  have v8 := V.2.2.2.2.2.2.1
  have ix78 : ix (78 : Int32) = 78 := rfl
  have ix79 : ix (79 : Int32) = 79 := rfl
  have ix80 : ix (80 : Int32) = 80 := rfl
  have s78 : hI hm 74 78 = iZ (q 8) := P.2.2.2.2.2.1 8 (by omega) (by omega)
  rw [e_Stair_finish, e_M_stair_82, P.1.2.1, ifp_f m8]
  simp only [(sN74 M).1, (sN74 M).2, bR_s, ix78, s78]
  rw [ifp_t (show inb (78 : Int32) 140 = true by decide)]
  have l0 : (iZ (q 8) = (0 : Int32)) ↔ q 8 = 0 := by rw [show (0 : Int32) = iZ 0 from rfl]; exact iz_eq (by omega)
  by_cases q8 : q 8 = 0
  · obtain ⟨B, B1, B2, B3⟩ := P.2.1
    obtain ⟨f, s1, a1, a2, a3, a4⟩ := x_add (d := d) hd X tt (T := 0) (by omega) (by rw [P.1.2.1, q8]) B1 B2 (s := fun _ => 0) (fun k k1 k2 => by omega) (fun k k1 k2 => by omega) (fun i j i1 i2 i3 => by omega) (v := 1) (by omega) (fun k k1 k2 => by omega)
    obtain ⟨h1, eh1⟩ : ∃ h1, h1 = sI (sI (wI hx (p + 1) f) p 8 (iZ (0 + 1))) p 9 (iZ ((B ||| 2 ^ (1 : Int).toNat : Nat) : Int)) := ⟨_, rfl⟩
    rw [← eh1] at a1
    have X1 : SX h1 := by rw [eh1]; exact X
    have o1 : ∀ r, r ≠ p → r ≠ p + 1 → hI h1 r = hI hx r := fun r r1 r2 => by rw [eh1, sI_w, wI_n _ _ r1, sI_w, wI_n _ _ r1, wI_n _ _ r2]
    have s11 : ∀ k, 0 ≤ k → k < 0 + 1 → s1 k = 1 := by
      intro k k1 k2
      have := (a4 (s1 k)).mp ⟨k, k1, k2, rfl⟩
      rcases this with ⟨j, j1, j2, _⟩ | y
      · omega
      · exact y
    obtain ⟨f2, s2, b1, b2, b3, b4⟩ := x_add (d := d) hd X1 tt (T := 0 + 1) (by omega) (by rw [eh1, sI_o _ _ (by omega), sI_e]) (B := B ||| 2 ^ (1 : Int).toNat) (or_lt (n := 13) (by omega) (by decide)) (by rw [eh1, sI_e]) (s := s1) (fun k k1 k2 => by rw [eh1, sI_w, wI_n _ _ (by omega), sI_w, wI_n _ _ (by omega), wI_I]; exact a2 k k1 k2) (fun k k1 k2 => by rw [s11 k k1 k2]; omega) (fun i j i1 i2 i3 => by omega) (v := 2) (by omega) (fun k k1 k2 => by rw [s11 k k1 k2]; omega)
    obtain ⟨h2, eh2⟩ : ∃ h2, h2 = sI (sI (wI h1 (p + 1) f2) p 8 (iZ (0 + 1 + 1))) p 9 (iZ ((B ||| 2 ^ (1 : Int).toNat ||| 2 ^ (2 : Int).toNat : Nat) : Int)) := ⟨_, rfl⟩
    rw [← eh2] at b1
    have o2 : ∀ r, r ≠ p → r ≠ p + 1 → hI h2 r = hI hx r := fun r r1 r2 => by rw [eh2, sI_w, wI_n _ _ r1, sI_w, wI_n _ _ r1, wI_n _ _ r2]; exact o1 r r1 r2
    have p2 : ∀ k, k ≠ 8 → k ≠ 9 → hI h2 p k = hI hx p k := fun k k1 k2 => by
      rw [eh2, sI_o _ _ (by omega), sI_o _ _ (by omega), wI_n _ _ (by omega), eh1, sI_o _ _ (by omega), sI_o _ _ (by omega), wI_n _ _ (by omega)]
    rw [ifp_t (l0.mpr q8), ifp_t (l0.mpr q8), show evm d 27 [vR 5 p, vI (1 : Int32)] hx = _ from a1]
    simp only [bV_s]
    rw [show evm d 27 [vR 5 p, vI (2 : Int32)] h1 = _ from b1]
    simp only [bV_s]
    have M1 : ∀ v, SM (sI hm 74 78 v) := fun _ => M
    have M2 : ∀ v w, SM (sI (sI hm 74 78 v) 74 79 w) := fun _ _ => M
    simp only [(sN74 (M1 _)).1, (sN74 (M1 _)).2, (sN74 (M2 _ _)).1, (sN74 (M2 _ _)).2, bR_s, ix79, ix80]
    rw [ifp_t (show inb (78 : Int32) 140 = true by decide), ifp_t (show inb (79 : Int32) 140 = true by decide), ifp_t (show inb (80 : Int32) 140 = true by decide)]
    obtain ⟨q1, hq1⟩ : ∃ q1, q1 = upv (upv (upv q 8 2) 9 1) 10 2 := ⟨_, rfl⟩
    have e' : ∀ k, k ≠ 8 → k ≠ 9 → k ≠ 10 → q1 k = q k := fun k k1 k2 k3 => by rw [hq1, upv_n _ _ k3, upv_n _ _ k2, upv_n _ _ k1]
    have e8 : q1 8 = 2 := by rw [hq1, upv_n _ _ (by omega), upv_n _ _ (by omega), upv_e]
    have e9 : q1 9 = 1 := by rw [hq1, upv_n _ _ (by omega), upv_e]
    have e10 : q1 10 = 2 := by rw [hq1, upv_e]
    have tel : ∀ z, (∃ k, 0 ≤ k ∧ k < q1 8 ∧ q1 (9 + k) = z) ↔ z = 1 ∨ z = 2 := by
      intro z
      rw [e8]
      constructor
      · rintro ⟨k, k1, k2, k3⟩
        rcases (show k = 0 ∨ k = 1 by omega) with rfl | rfl
        · left; rw [← k3]; exact e9
        · right; rw [← k3]; exact e10
      · rintro (rfl | rfl)
        · exact ⟨0, by omega, by omega, e9⟩
        · exact ⟨1, by omega, by omega, e10⟩
    refine ⟨h2, _, q1, rfl, rfl, by rw [eh2, eh1]; rfl, o2, rfl, fun r k hr => by rw [sI_o _ _ (by omega), sI_o _ _ (by omega), sI_o _ _ (by omega)], ⟨?_, ?_, ?_, ?_, ?_, ?_, ?_⟩, by omega, e' 7 (by omega) (by omega) (by omega)⟩
    · obtain ⟨t7, t8, t10, t11, t12, t13, t14, t15, t16⟩ := P.1
      unfold P9
      rw [e' 0 (by omega) (by omega) (by omega), e8, e' 1 (by omega) (by omega) (by omega), e' 15 (by omega) (by omega) (by omega), e' 2 (by omega) (by omega) (by omega), e' 3 (by omega) (by omega) (by omega), e' 4 (by omega) (by omega) (by omega), e' 5 (by omega) (by omega) (by omega), e' 6 (by omega) (by omega) (by omega), p2 7 (by decide) (by decide), p2 10 (by decide) (by decide), p2 11 (by decide) (by decide), p2 12 (by decide) (by decide), p2 13 (by decide) (by decide), p2 14 (by decide) (by decide), p2 15 (by decide) (by decide), p2 16 (by decide) (by decide)]
      exact ⟨t7, by rw [eh2, sI_o _ _ (by omega), sI_e]; rfl, t10, t11, t12, t13, t14, t15, t16⟩
    · refine ⟨B ||| 2 ^ (1 : Int).toNat ||| 2 ^ (2 : Int).toNat, or_lt (n := 13) (or_lt (n := 13) (by omega) (by decide)) (by decide), by rw [eh2, sI_e], fun z => ?_⟩
      rw [tb_or, tb_or, tel, B3 z, q8]
      constructor
      · rintro ((⟨k, k1, k2, _⟩ | y) | y)
        · omega
        · left; rw [y]; rfl
        · right; rw [y]; rfl
      · rintro (y | y)
        · left; right; show z = 1; omega
        · right; show z = 2; omega
    · unfold PSt
      rw [e8, show hI h2 (p + 1) = f2 by rw [eh2, sI_w, wI_n _ _ (by omega), sI_w, wI_n _ _ (by omega), wI_I]]
      refine ⟨s2, b2, b3, fun z => (b4 z).trans ?_⟩
      have tz := tel z
      rw [e8] at tz
      rw [a4 z, tz]
      constructor
      · rintro ((⟨k, k1, k2, _⟩ | y) | y)
        · omega
        · exact Or.inl y
        · exact Or.inr y
      · rintro (y | y)
        · exact Or.inl (Or.inr y)
        · exact Or.inr y
    · intro s s1 s2
      rw [e' _ (by omega) (by omega) (by omega), o2 _ (by omega) (by omega)]; exact P.2.2.2.1 s s1 s2
    · intro a ha
      obtain ⟨B', d1, d2, d3⟩ := P.2.2.2.2.1 a ha
      refine ⟨B', d1, by rw [o2 _ (by omega) (by omega)]; exact d2, fun z hz => (d3 z hz).trans ?_⟩
      unfold Brd
      rw [show (0 : Int) + 15 = 15 from rfl, e' 15 (by omega) (by omega) (by omega)]
      exact ⟨fun ⟨k, k1, k2, k3⟩ => ⟨k, k1, k2, by rw [e' _ (by omega) (by omega) (by omega)]; exact k3⟩, fun ⟨k, k1, k2, k3⟩ => ⟨k, k1, k2, by rw [e' _ (by omega) (by omega) (by omega)] at k3; exact k3⟩⟩
    · rw [hq1]
      exact ((P.2.2.2.2.2.1.s (j := 8) (by omega) 2 (by omega)).s (j := 9) (by omega) 1 (by omega)).s (j := 10) (by omega) 2 (by omega)
    · obtain ⟨w0, w1, w2, w3, w5, w6, w8, w15, u1, u2, u3, u4, u5, u6, u7⟩ := V
      unfold VPn
      rw [e' 0 (by omega) (by omega) (by omega), e' 1 (by omega) (by omega) (by omega), e' 2 (by omega) (by omega) (by omega), e' 3 (by omega) (by omega) (by omega), e' 4 (by omega) (by omega) (by omega), e' 5 (by omega) (by omega) (by omega), e' 6 (by omega) (by omega) (by omega), e8, e' 15 (by omega) (by omega) (by omega), e' 26 (by omega) (by omega) (by omega)]
      refine ⟨w0, w1, w2, w3, w5, w6, by omega, w15, fun k k1 k2 => ?_, fun i j i1 i2 i3 => ?_, fun k k1 k2 => ?_, fun i j i1 i2 i3 => ?_, fun s s1 s2 => ?_, u6, fun s s1 s2 => ?_⟩
      · rcases (show k = 0 ∨ k = 1 by omega) with rfl | rfl
        · rw [show (9 : Int) + 0 = 9 from rfl, e9]; omega
        · rw [show (9 : Int) + 1 = 10 from rfl, e10]; omega
      · have i0 : i = 0 := by omega
        have j0 : j = 1 := by omega
        subst i0 j0
        rw [show (9 : Int) + 0 = 9 from rfl, e9, show (9 : Int) + 1 = 10 from rfl, e10]; omega
      · rw [e' _ (by omega) (by omega) (by omega)]; exact u3 k k1 k2
      · rw [e' _ (by omega) (by omega) (by omega), e' _ (by omega) (by omega) (by omega)]; exact u4 i j i1 i2 i3
      · rw [e' _ (by omega) (by omega) (by omega)]; exact u5 s s1 s2
      · rw [e' _ (by omega) (by omega) (by omega)]; exact u7 s s1 s2
  · rw [ifp_f (fun y => q8 (l0.mp y)), ifp_f (fun y => q8 (l0.mp y))]
    exact ⟨hx, hm, q, rfl, rfl, rfl, fun _ _ _ => rfl, rfl, fun _ _ _ => rfl, P, by omega, rfl⟩
theorem WFc_c {co ca co' ca' : Int → Int} {n : Nat} (W : WFc co ca n) (e1 : ∀ i : Nat, i ≤ n → co' i = co i) (e2 : ∀ i : Nat, i < n → ca' i = ca i) : WFc co' ca' n := by
  have h : ∀ j, j ≤ n → hgt co' j = hgt co j := fun j hj => hgt_c j (fun i hi => e1 i (by omega))
  refine ⟨⟨W.1.1, W.1.2.1, by rw [e1 n (by omega)]; exact W.1.2.2.1, by rw [h n (by omega)]; exact W.1.2.2.2⟩, fun i hi => ?_⟩
  rw [h i (by omega), e1 i (by omega), e2 i hi]
  exact W.2 i hi
theorem j_end {d e : Nat} (hd : 4 ≤ d) (he : 3 ≤ e) {p : Nat} {c : Int → Int} {n : Int} {N i L : Nat} {q : Int → Int} {hx hm : Hp} (S : LSt p c n N i L q hx hm) : ∃ hx' hm', L_StairReader_read_62 d 1 p hx = some (some (vI (iZ 0)), hx') ∧ L_M_stair_82 e 68 hm = some (some (vI (iZ 0)), hm') ∧ (XQf p hx hx' ∧ hI hx' 2 1 = iZ 0) ∧ (hm'.2 = hm.2 ∧ ∀ r k, r ≠ 74 → r ≠ 75 → r ≠ 76 → r ≠ 79 → r ≠ 80 → hI hm' r k = hI hm r k) ∧ SR hx' p (rz hm' 74) ∧ VS (rz hm' 74) ∧ LX hx' p (rz hm' 74) (rz hm' 75) (rz hm' 76) ∧ (∀ k : Nat, k < 84 → hI hm' 79 k = iZ 0) ∧ ∀ k : Nat, k < 4 → hI hm' 80 k = iZ 0 := by
  obtain ⟨tt, J, M, LC, P, C⟩ := S
  have tp : 48 ≤ p := by unfold TO at tt; omega
  have X0 : SX (sI hx 2 1 (0 : Int32)) := J.1
  have o0 : ∀ r, r ≠ 2 → hI (sI hx 2 1 (0 : Int32)) r = hI hx r := fun r hr => by rw [sI_w, wI_n _ _ hr]
  have P0 : Pnd (sI hx 2 1 (0 : Int32)) hm p q := P.tr (fun r r1 r2 => o0 r (by omega)) (fun _ => rfl)
  obtain ⟨d, rfl⟩ : ∃ e, d = e + 1 := ⟨d - 1, by omega⟩
  obtain ⟨h1, m1, q1, a1, a2, a3, a4, a5, a6, P1, n1, e7⟩ := j_dflt (d := d) (e := e) (by omega) tt X0 M.1.1 M.i8 P0
  have V1 := P1.2.2.2.2.2.2
  have v8 := V1.2.2.2.2.2.2.1
  have M1 : SM m1 := sm_e a5 M.1.1
  have X1 : SX h1 := sx_e a3 X0
  -- the model
  obtain ⟨F, b1, b2, b3⟩ := u_copy (d := e) M1
  have Fq : ∀ j : Int, 0 ≤ j → j < 70 → F j.toNat = iZ (q1 j) := fun j j1 j2 => by
    rw [b3 _ (by omega)]
    have := P1.2.2.2.2.2.1 j j1 j2
    rw [show (70 + j).toNat = 70 + j.toNat by omega] at this
    exact this
  obtain ⟨F', g, c1, c2, c3, c4⟩ := u_sorts (d := e) (by omega) (show SM (wI m1 74 F) from M1) (n := q1 8) (by omega) (by rw [wI_I]; exact Fq 8 (by omega) (by omega)) (g0 := fun j => q1 (9 + j)) (fun j j1 j2 => by rw [wI_I]; exact Fq (9 + j) (by omega) (by omega)) (fun j j1 j2 => V1.2.2.2.2.2.2.2.2.1 j j1 j2) (fun i j i1 i2 i3 => V1.2.2.2.2.2.2.2.2.2.1 i j i1 i2 i3)
  rw [wI_wI] at c1
  obtain ⟨cn, cb, c13⟩ : ∃ cn : Nat, cn ≤ 1002 ∧ hI hm 68 13 = iZ cn := by
    rcases C with ⟨_, _, y⟩ | ⟨_, cl, co, ca, W, _, y, _⟩
    · exact ⟨0, by omega, y⟩
    · exact ⟨cl + 1, by have := W.1.2.1; omega, y⟩
  obtain ⟨A, B, d1, d2, d3⟩ := u_codes (d := e) (show SM (wI m1 74 F') from M1) cb (by rw [wI_n _ _ (by decide), a6 _ _ (by decide)]; exact c13)
  obtain ⟨A', B', f1, f2, f3⟩ := u_zeros (d := e) (show SM (wI (wI (wI m1 74 F') 75 A) 76 B) from M1)
  obtain ⟨hm', ehm⟩ : ∃ hm', hm' = wI (wI (wI (wI (wI m1 74 F') 75 A) 76 B) 79 A') 80 B' := ⟨_, rfl⟩
  have r74 : hI hm' 74 = F' := by rw [ehm, wI_n _ _ (by decide), wI_n _ _ (by decide), wI_n _ _ (by decide), wI_n _ _ (by decide), wI_I]
  have r75 : hI hm' 75 = A := by rw [ehm, wI_n _ _ (by decide), wI_n _ _ (by decide), wI_n _ _ (by decide), wI_I]
  have r76 : hI hm' 76 = B := by rw [ehm, wI_n _ _ (by decide), wI_n _ _ (by decide), wI_I]
  have r79 : hI hm' 79 = A' := by rw [ehm, wI_n _ _ (by decide), wI_I]
  have r80 : hI hm' 80 = B' := by rw [ehm, wI_I]
  -- the stair
  obtain ⟨s, s1, s2, s3⟩ := P1.2.2.1
  have sg : ∀ k, 0 ≤ k → k < q1 8 → s k = g k := fun k k1 k2 => inc_eq s2 c3 (fun z => (s3 z).trans (c4 z).symm) k.toNat k k1 k2 (by omega)
  have gb : ∀ k, 0 ≤ k → k < q1 8 → 1 ≤ g k ∧ g k ≤ 12 := by
    intro k k1 k2
    obtain ⟨l, l1, l2, l3⟩ := (c4 (g k)).mp ⟨k, k1, k2, rfl⟩
    rw [← l3]; exact V1.2.2.2.2.2.2.2.2.1 l l1 l2
  obtain ⟨q', hq'⟩ : ∃ q', q' = rz hm' 74 := ⟨_, rfl⟩
  have qb : ∀ j, 0 ≤ j → j < 70 → -2147483648 ≤ q1 j ∧ q1 j < 2147483648 → ¬ (9 ≤ j ∧ j < 9 + q1 8) → q' j = q1 j := by
    intro j j1 j2 jb jn
    rw [hq']
    unfold rz
    rw [r74, c2.2 _ (by omega), wI_I, Fq j j1 j2, iz_i jb.1 jb.2]
  have qs : ∀ k, 0 ≤ k → k < q1 8 → q' (9 + k) = g k := by
    intro k k1 k2
    have := gb k k1 k2
    rw [hq']
    unfold rz
    rw [r74, c2.1 k k1 k2, iz_i (by omega) (by omega)]
  obtain ⟨w0, w1, w2, w3, w5, w6, w8, w15, u1, u2, u3, u4, u5, u6, u7⟩ := V1
  have q7b : q1 7 = -1 ∨ q1 7 = 0 := by
    rw [e7]
    rcases C with ⟨y, _⟩ | ⟨y, _⟩
    · exact Or.inl y
    · exact Or.inr y
  have t0 : q' 0 = q1 0 := qb 0 (by omega) (by omega) (by omega) (by omega)
  have t1 : q' 1 = q1 1 := qb 1 (by omega) (by omega) (by omega) (by omega)
  have t2 : q' 2 = q1 2 := qb 2 (by omega) (by omega) (by omega) (by omega)
  have t3 : q' 3 = q1 3 := qb 3 (by omega) (by omega) (by omega) (by omega)
  have t4 : q' 4 = q1 4 := qb 4 (by omega) (by omega) (by omega) (by omega)
  have t5 : q' 5 = q1 5 := qb 5 (by omega) (by omega) (by omega) (by omega)
  have t6 : q' 6 = q1 6 := qb 6 (by omega) (by omega) (by omega) (by omega)
  have t7 : q' 7 = q1 7 := qb 7 (by omega) (by omega) (by omega) (by omega)
  have t8 : q' 8 = q1 8 := qb 8 (by omega) (by omega) (by omega) (by omega)
  have t15 : q' 15 = q1 15 := qb 15 (by omega) (by omega) (by omega) (by omega)
  have tb : ∀ k, 0 ≤ k → k < q1 15 → q' (16 + k) = q1 (16 + k) := fun k k1 k2 => by
    obtain ⟨x, y, h1, h2, h3⟩ := u3 k k1 k2
    exact qb _ (by omega) (by omega) (by omega) (by omega)
  have tk : ∀ s, 0 ≤ s → s ≤ 40 → q' (26 + s) = q1 (26 + s) := fun s h1 h2 => by
    have := u5 s h1 h2
    exact qb _ (by omega) (by omega) (by omega) (by omega)
  have V' : VS q' := by
    unfold VS
    rw [t0, t1, t2, t3, t4, t5, t6, t8, t15, show q' 26 = q1 26 from tk 0 (by omega) (by omega)]
    refine ⟨w0, w1, w2, w3, w5, w6, by omega, w15, fun k k1 k2 => ?_, fun i j i1 i2 i3 => ?_, fun k k1 k2 => ?_, fun i j i1 i2 i3 => ?_, fun s s1 s2 => ?_, u6, fun s s1 s2 => ?_⟩
    · rw [qs k k1 k2]; exact gb k k1 k2
    · rw [qs i i1 (by omega), qs j (by omega) i3]; exact c3 i j i1 i2 i3
    · rw [tb k k1 k2]; exact u3 k k1 k2
    · rw [tb i i1 (by omega), tb j (by omega) i3]; exact u4 i j i1 i2 i3
    · rw [tk s s1 s2]; exact u5 s s1 s2
    · rw [tk s (by omega) s2]; exact u7 s s1 s2
  have Sb : SRb h1 p q' := by
    refine ⟨?_, ?_, fun k k1 k2 => ?_, fun s s1 s2 => ?_, fun a ha => ?_⟩
    · unfold P9; rw [t0, t1, t2, t3, t4, t5, t6, t8, t15]; exact P1.1
    · obtain ⟨B, g1, g2, g3⟩ := P1.2.1
      refine ⟨B, g1, g2, fun z => (g3 z).trans ?_⟩
      rw [t8]
      refine Iff.trans (c4 z).symm ?_
      exact ⟨fun ⟨k, k1, k2, k3⟩ => ⟨k, k1, k2, by rw [qs k k1 k2]; exact k3⟩, fun ⟨k, k1, k2, k3⟩ => ⟨k, k1, k2, by rw [qs k k1 k2] at k3; exact k3⟩⟩
    · rw [t8] at k2
      rw [qs k k1 k2, s1 k k1 k2, sg k k1 k2]
    · rw [tk s s1 s2]; exact P1.2.2.2.1 s s1 s2
    · obtain ⟨B, g1, g2, g3⟩ := P1.2.2.2.2.1 a ha
      refine ⟨B, g1, g2, fun z hz => (g3 z hz).trans ?_⟩
      unfold Brd
      rw [show (0 : Int) + 15 = 15 from rfl, t15]
      exact ⟨fun ⟨k, k1, k2, k3⟩ => ⟨k, k1, k2, by rw [show (0 : Int) + 16 + k = 16 + k by omega, tb k k1 k2]; rw [show (0 : Int) + 16 + k = 16 + k by omega] at k3; exact k3⟩, fun ⟨k, k1, k2, k3⟩ => ⟨k, k1, k2, by rw [show (0 : Int) + 16 + k = 16 + k by omega, tb k k1 k2] at k3; rw [show (0 : Int) + 16 + k = 16 + k by omega]; exact k3⟩⟩
  obtain ⟨hx', g1, g2, g3, g4⟩ := x_finB (d := d) (by omega) X1 tt V' Sb
  have xo : ∀ r, r ≠ 2 → (r < p ∨ p + 6 < r) → hI hx' r = hI hx r := fun r r1 r2 => by rw [g3 r (by omega) (by omega) (by omega), a4 r (by omega) (by omega), o0 r r1]
  have x2 : hI hx' 2 = hI (sI hx 2 1 (0 : Int32)) 2 := by rw [g3 2 (by omega) (by omega) (by omega), a4 2 (by omega) (by omega)]
  refine ⟨hx', hm', ?_, ?_, ⟨⟨?_, fun r r1 r2 r3 => xo r r2 (by omega)⟩, ?_⟩, ⟨?_, fun r k h1 h2 h3 h4 h5 => ?_⟩, ?_, ?_, ?_, fun k hk => by rw [r79]; exact f2 k hk, fun k hk => by rw [r80]; exact f3 k hk⟩
  · rw [e_StairReader_read_62]
    simp only [J.1.r 1 0 2, bR_s]
    have i0 : hI (sI hx 2 1 (0 : Int32)) 1 2 = iZ 0 := by rw [o0 1 (by decide)]; exact J.2.2.2
    rw [i0, ifp_t (show iZ 0 = (0 : Int32) from rfl), a1, g1]
    simp only [bV_s]
    rw [xo 1 (by decide) (by omega), J.2.2.2]
  · rw [a2, b1, c1]
    simp only [bV_s]
    rw [d1, f1, ehm]
    rfl
  · rw [g2, a3]; rfl
  · rw [x2, sI_e]; rfl
  · rw [ehm]; exact a5
  · rw [ehm, wI_n _ _ h5, wI_n _ _ h4, wI_n _ _ h3, wI_n _ _ h2, wI_n _ _ h1]; exact a6 r k h1
  · rw [← hq']; exact g4
  · rw [← hq']; exact V'
  · rw [← hq']
    rcases C with ⟨y1, y2, y3⟩ | ⟨y1, cl, co, ca, W, y2, y3, y4, y5⟩
    · refine Or.inl ⟨by rw [t7, e7]; exact y1, ?_⟩
      rw [xo (p + 7) (by omega) (by omega)]; exact y2
    · have ecn : cn = cl + 1 := by
        have W2 := W.1.2.1
        rw [y3] at c13
        have := (iz_eq (by omega)).mp c13
        omega
      have co' : ∀ i : Nat, i ≤ cl → rz hm' 75 i = co i ∧ rz hm' 76 i = (iZ (ca i)).toInt := fun i hi => by
        unfold rz
        rw [r75, r76, Int.toNat_natCast, (d2 i (by omega)).1, (d2 i (by omega)).2, wI_n _ _ (by decide), wI_n _ _ (by decide), a6 75 _ (by decide), a6 76 _ (by decide), (y5 i hi).1, (y5 i hi).2]
        refine ⟨?_, rfl⟩
        by_cases ei : i = cl
        · rw [ei, W.1.2.2.1]; rfl
        · have := (W.2 i (by omega)).1
          rw [iz_i (by omega) (by omega)]
      have de : ∀ i : Nat, i < cl → deed (rz hm' 75 i) (rz hm' 76 i) = deed (co i) (ca i) ∧ ((co i = 1 ∨ co i = 2) → rz hm' 76 i = ca i) := by
        intro i hi
        rw [(co' i (by omega)).1, (co' i (by omega)).2]
        have w := W.2 i hi
        have ab : (co i = 1 ∨ co i = 2) → (iZ (ca i)).toInt = ca i := by
          rintro (y | y)
          · have := w.2.1 y; rw [iz_i (by omega) (by omega)]
          · have := w.2.2.1 y; rw [iz_i (by omega) (by omega)]
        refine ⟨?_, ab⟩
        unfold deed
        by_cases k1 : co i = 1
        · rw [if_pos k1, if_pos k1, ab (Or.inl k1)]
        · rw [if_neg k1, if_neg k1]
          by_cases k2 : co i = 2
          · rw [if_pos k2, if_pos k2, ab (Or.inr k2)]
          · rw [if_neg k2, if_neg k2]
      refine Or.inr ⟨by rw [t7, e7]; exact y1, cl, ?_, ?_, fun i hi => ?_⟩
      · have hh : ∀ j, j ≤ cl → hgt (rz hm' 75) j = hgt co j := fun j hj => hgt_c j (fun i hi => (co' i (by omega)).1)
        refine ⟨⟨W.1.1, W.1.2.1, by rw [(co' cl (by omega)).1]; exact W.1.2.2.1, by rw [hh cl (by omega)]; exact W.1.2.2.2⟩, fun i hi => ?_⟩
        rw [hh i (by omega), (co' i (by omega)).1]
        have w := W.2 i hi
        exact ⟨w.1, fun y => by rw [(de i hi).2 (Or.inl y)]; exact w.2.1 y, fun y => by rw [(de i hi).2 (Or.inr y)]; exact w.2.2.1 y, w.2.2.2⟩
      · rw [xo (p + 7) (by omega) (by omega)]; exact y2
      · rw [xo (p + 8) (by omega) (by omega), (de i hi).1]; exact y4 i hi
