/-! the start, both sides -/
theorem u_stands0 {d : Nat} (hd : 1 ≤ d) {h : Hp} (M : SM h) : ∃ f, evm d 155 [vR 12 68, vI (0 : Int32)] h = some (none, wI h 74 f) ∧ (∀ k : Nat, 70 ≤ k → f k = hI h 74 k) ∧ ∀ j : Int, 0 ≤ j → j < 70 → f j.toNat = iZ (qin 0 j) := by
  obtain ⟨d, rfl⟩ : ∃ e, d = e + 1 := ⟨d - 1, by omega⟩
  have L : ∀ a : Int, 0 ≤ a → a ≤ 70 → ∀ f : Nat → Int32, (∀ k : Nat, 70 ≤ k → f k = hI h 74 k) → (∀ j : Int, 0 ≤ j → j < a → f j.toNat = iZ 0) → ∃ f', L_M_standsAsAlways_2 d 68 (0 : Int32) (iZ a) (wI h 74 f) = some (none, wI h 74 f') ∧ (∀ k : Nat, 70 ≤ k → f' k = hI h 74 k) ∧ ∀ j : Int, 0 ≤ j → j < 70 → f' j.toNat = iZ (qin 0 j) := by
    refine lpZ 70 (fun a ha h0 h1 f hf hg => ?_) (fun a ha ih h0 h1 f hf hg => ?_)
    · rw [e_M_standsAsAlways_2, ifp_f (fun y => by rw [show (70 : Int32) = iZ 70 from rfl] at y; have := (iz_lt (by omega)).mp y; omega), e_M_standsAsAlways_23]
      have e1 : (0 : Int32) + (1 : Int32) = 1 := by decide
      have e2 : (0 : Int32) + (2 : Int32) = 2 := by decide
      have e4 : (0 : Int32) + (4 : Int32) = 4 := by decide
      have e5 : (0 : Int32) + (5 : Int32) = 5 := by decide
      have e7 : (0 : Int32) + (7 : Int32) = 7 := by decide
      have i1 : ix (1 : Int32) = 1 := rfl
      have i2 : ix (2 : Int32) = 2 := rfl
      have i4 : ix (4 : Int32) = 4 := rfl
      have i5 : ix (5 : Int32) = 5 := rfl
      have i7 : ix (7 : Int32) = 7 := rfl
      simp only [e1, e2, e4, e5, e7, i1, i2, i4, i5, i7, sI_wI, wI_R, wI_N, M.r 10 74, M.n 74 140, bR_s]
      rw [ifp_t (show inb (1 : Int32) 140 = true by decide), ifp_t (show inb (2 : Int32) 140 = true by decide), ifp_t (show inb (4 : Int32) 140 = true by decide), ifp_t (show inb (5 : Int32) 140 = true by decide), ifp_t (show inb (7 : Int32) 140 = true by decide)]
      refine ⟨_, rfl, fun k hk => ?_, fun j j1 j2 => ?_⟩
      · rw [up_n _ _ (by omega), up_n _ _ (by omega), up_n _ _ (by omega), up_n _ _ (by omega), up_n _ _ (by omega)]; exact hf k hk
      · by_cases c7 : j = 7
        · subst c7; rw [show (7 : Int).toNat = 7 from rfl, up_e]; rfl
        · rw [up_n _ _ (by omega)]
          by_cases c5 : j = 5
          · subst c5; rw [show (5 : Int).toNat = 5 from rfl, up_e]; rfl
          · rw [up_n _ _ (by omega)]
            by_cases c4 : j = 4
            · subst c4; rw [show (4 : Int).toNat = 4 from rfl, up_e]; rfl
            · rw [up_n _ _ (by omega)]
              by_cases c2 : j = 2
              · subst c2; rw [show (2 : Int).toNat = 2 from rfl, up_e]; rfl
              · rw [up_n _ _ (by omega)]
                by_cases c1 : j = 1
                · subst c1; rw [show (1 : Int).toNat = 1 from rfl, up_e]; rfl
                · rw [up_n _ _ (by omega), hg j j1 (by omega)]
                  refine congrArg iZ ?_
                  unfold qin
                  by_cases c0 : j = 0
                  · rw [if_pos c0]
                  · rw [if_neg c0, if_neg (by omega), if_neg (by omega)]
    · rw [e_M_standsAsAlways_2, ifp_t (by rw [show (70 : Int32) = iZ 70 from rfl]; exact (iz_lt (by omega)).mpr (by omega))]
      simp only [wI_R, wI_N, M.r 10 74, M.n 74 140, bR_s]
      rw [show (0 : Int32) + iZ a = iZ (0 + a) by rw [show (0 : Int32) = iZ 0 from rfl, iz_add], ifp_t ((inb_iz (by omega)).mpr (by omega)), ix_iz (by omega), sI_wI, show (1 : Int32) = iZ 1 from rfl, iz_add]
      refine ih (by omega) (by omega) _ (fun k hk => ?_) (fun j j1 j2 => ?_)
      · rw [up_n _ _ (by omega)]; exact hf k hk
      · by_cases e : j = a
        · subst e; rw [show (0 + j).toNat = j.toNat by congr 1; omega, up_e]; rfl
        · rw [up_n _ _ (by omega)]; exact hg j j1 (by omega)
  rw [e_M_standsAsAlways]
  have := L 0 (by omega) (by omega) (hI h 74) (fun k hk => rfl) (fun j j1 j2 => by omega)
  rw [wI_self] at this
  exact this

def qs0 : Int → Int := fun j => if j = 0 then 1 else if j = 1 ∨ j = 2 ∨ j = 5 ∨ j = 7 then -1 else if j = 4 then 40 else if j = 8 then 2 else if j = 9 then 1 else if j = 10 then 2 else 0
theorem qs0_z {j : Int} (h : 11 ≤ j) : qs0 j = 0 := by
  unfold qs0
  rw [if_neg (by omega), if_neg (by omega), if_neg (by omega), if_neg (by omega), if_neg (by omega), if_neg (by omega)]
theorem VS_qs0 : VS qs0 := by
  refine ⟨by decide, by decide, by decide, by decide, by decide, by decide, by decide, by decide, fun k k1 k2 => ?_, fun i j i1 i2 i3 => ?_, fun k k1 k2 => ?_, fun i j i1 i2 i3 => ?_, fun s s1 s2 => ?_, rfl, fun s s1 s2 => ?_⟩
  · have k2' : k < 2 := k2
    rcases (show k = 0 ∨ k = 1 by omega) with rfl | rfl
    · decide
    · decide
  · have i3' : j < 2 := i3
    have e1 : i = 0 := by omega
    have e2 : j = 1 := by omega
    subst e1 e2
    decide
  · have : k < 0 := k2
    omega
  · have : j < 0 := i3
    omega
  · rw [qs0_z (by omega)]; omega
  · rw [qs0_z (by have : (1 : Int) ≤ s := s1; omega)]
theorem x_fin0 {d : Nat} (hd : 3 ≤ d) {h : Hp} (X : SX h) {p : Nat} (tt : TO p) (C : CLX h p) (h7 : hI h p 7 = iZ 1) : ∃ h', evm d 26 [vR 5 p] h = some (none, h') ∧ h'.2 = h.2 ∧ (∀ r, r < p ∨ p + 6 < r → hI h' r = hI h r) ∧ SR h' p qs0 := by
  obtain ⟨d, rfl⟩ : ∃ e, d = e + 1 := ⟨d - 1, by omega⟩
  have tp : 48 ≤ p := by unfold TO at tt; omega
  obtain ⟨⟨c8, c9, c10, c11, c12, c13, c14, c15, c16⟩, c3, c4, _⟩ := C
  obtain ⟨f, s1, a1, a2, a3, a4⟩ := x_add (d := d) (by omega) X tt (T := 0) (by omega) c8 (B := 0) (by decide) c9 (s := fun _ => 0) (fun k k1 k2 => by omega) (fun k k1 k2 => by omega) (fun i j i1 i2 i3 => by omega) (v := 1) (by omega) (fun k k1 k2 => by omega)
  obtain ⟨h1, eh1⟩ : ∃ h1, h1 = sI (sI (wI h (p + 1) f) p 8 (iZ (0 + 1))) p 9 (iZ ((0 ||| 2 ^ (1 : Int).toNat : Nat) : Int)) := ⟨_, rfl⟩
  rw [← eh1] at a1
  have X1 : SX h1 := by rw [eh1]; exact X
  have o1 : ∀ r, r ≠ p → r ≠ p + 1 → hI h1 r = hI h r := fun r r1 r2 => by rw [eh1, sI_w, wI_n _ _ r1, sI_w, wI_n _ _ r1, wI_n _ _ r2]
  have s11 : ∀ k, 0 ≤ k → k < 0 + 1 → s1 k = 1 := by
    intro k k1 k2
    have := (a4 (s1 k)).mp ⟨k, k1, k2, rfl⟩
    rcases this with ⟨j, j1, j2, _⟩ | y
    · omega
    · exact y
  obtain ⟨f2, s2, b1, b2, b3, b4⟩ := x_add (d := d) (by omega) X1 tt (T := 0 + 1) (by omega) (by rw [eh1, sI_o _ _ (by omega), sI_e]) (B := 0 ||| 2 ^ (1 : Int).toNat) (by decide) (by rw [eh1, sI_e]) (s := s1) (fun k k1 k2 => by rw [eh1, sI_w, wI_n _ _ (by omega), sI_w, wI_n _ _ (by omega), wI_I]; exact a2 k k1 k2) (fun k k1 k2 => by rw [s11 k k1 k2]; omega) (fun i j i1 i2 i3 => by omega) (v := 2) (by omega) (fun k k1 k2 => by rw [s11 k k1 k2]; omega)
  obtain ⟨h2, eh2⟩ : ∃ h2, h2 = sI (sI (wI h1 (p + 1) f2) p 8 (iZ (0 + 1 + 1))) p 9 (iZ ((0 ||| 2 ^ (1 : Int).toNat ||| 2 ^ (2 : Int).toNat : Nat) : Int)) := ⟨_, rfl⟩
  rw [← eh2] at b1
  have X2 : SX h2 := by rw [eh2]; exact X1
  have o2 : ∀ r, r ≠ p → r ≠ p + 1 → hI h2 r = hI h r := fun r r1 r2 => by rw [eh2, sI_w, wI_n _ _ r1, sI_w, wI_n _ _ r1, wI_n _ _ r2]; exact o1 r r1 r2
  have p2 : ∀ k, k ≠ 8 → k ≠ 9 → hI h2 p k = hI h p k := fun k k1 k2 => by
    rw [eh2, sI_o _ _ (by omega), sI_o _ _ (by omega), wI_n _ _ (by omega), eh1, sI_o _ _ (by omega), sI_o _ _ (by omega), wI_n _ _ (by omega)]
  have tel : ∀ z, (∃ k, 0 ≤ k ∧ k < qs0 8 ∧ qs0 (9 + k) = z) ↔ z = 1 ∨ z = 2 := by
    intro z
    constructor
    · rintro ⟨k, k1, k2, k3⟩
      have k2' : k < 2 := k2
      rcases (show k = 0 ∨ k = 1 by omega) with rfl | rfl
      · left; rw [← k3]; rfl
      · right; rw [← k3]; rfl
    · rintro (rfl | rfl)
      · exact ⟨0, by decide, by decide, rfl⟩
      · exact ⟨1, by decide, by decide, rfl⟩
  have seq : ∀ k, 0 ≤ k → k < (2 : Int) → s2 k = qs0 (9 + k) := fun k k1 k2 => inc_eq (n := 2) (s := s2) (g := fun k => qs0 (9 + k)) b3 (fun i j i1 i2 i3 => by
      have e1 : i = 0 := by omega
      have e2 : j = 1 := by omega
      subst e1 e2
      decide) (fun z => (b4 z).trans (by
      rw [a4 z]
      refine Iff.trans ?_ (tel z).symm
      constructor
      · rintro ((⟨k, k1, k2, _⟩ | y) | y)
        · omega
        · exact Or.inl y
        · exact Or.inr y
      · rintro (y | y)
        · exact Or.inl (Or.inr y)
        · exact Or.inr y)) k.toNat k k1 k2 (by omega)
  have Sb : SRb h2 p qs0 := by
    refine ⟨?_, ?_, fun k k1 k2 => ?_, fun s s1 s2 => ?_, fun a ha => ?_⟩
    · unfold P9
      rw [p2 7 (by decide) (by decide), p2 10 (by decide) (by decide), p2 11 (by decide) (by decide), p2 12 (by decide) (by decide), p2 13 (by decide) (by decide), p2 14 (by decide) (by decide), p2 15 (by decide) (by decide), p2 16 (by decide) (by decide)]
      exact ⟨h7, by rw [eh2, sI_o _ _ (by omega), sI_e]; rfl, c10, c11, c12, c13, c14, c15, c16⟩
    · refine ⟨0 ||| 2 ^ (1 : Int).toNat ||| 2 ^ (2 : Int).toNat, by decide, by rw [eh2, sI_e], fun z => ?_⟩
      rw [tb_or, tb_or, tel, Nat.zero_testBit]
      constructor
      · rintro ((y | y) | y)
        · cases y
        · left; rw [y]; rfl
        · right; rw [y]; rfl
      · rintro (y | y)
        · left; right; show z = 1; omega
        · right; show z = 2; omega
    · have k2' : k < 2 := k2
      rw [show hI h2 (p + 1) = f2 by rw [eh2, sI_w, wI_n _ _ (by omega), sI_w, wI_n _ _ (by omega), wI_I], b2 k k1 k2', seq k k1 k2']
    · rw [qs0_z (by omega), o2 _ (by omega) (by omega)]; exact c3 s.toNat (by omega)
    · refine ⟨0, by decide, by rw [o2 _ (by omega) (by omega)]; exact c4 a ha, fun z hz => ?_⟩
      rw [Nat.zero_testBit]
      refine ⟨fun y => (by cases y), fun ⟨k, k1, k2, _⟩ => ?_⟩
      have : k < 0 := k2
      omega
  obtain ⟨h', g1, g2, g3, g4⟩ := x_finB (d := d) (by omega) X2 tt VS_qs0 Sb
  refine ⟨h', ?_, ?_, fun r hr => ?_, g4⟩
  · rw [e_Stair_finish, c8, ifp_t (show iZ 0 = (0 : Int32) from rfl), show evm d 27 [vR 5 p, vI (1 : Int32)] h = _ from a1]
    simp only [bV_s]
    rw [show evm d 27 [vR 5 p, vI (2 : Int32)] h1 = _ from b1]
    simp only [bV_s]
    exact g1
  · rw [g2, eh2, eh1]; rfl
  · rw [g3 r (by omega) (by omega) (by omega), o2 r (by omega) (by omega)]
theorem lnO_c : ∀ (l : List (Nat × Nat × Nat × Nat)) (c : Nat) (T T' : Nat → Nat) (r : Nat), T r = T' r → lnO l c T r = lnO l c T' r := by
  intro l
  induction l with
  | nil => intro c T T' r e; exact e
  | cons o t ih =>
    intro c T T' r e
    obtain ⟨a, b, f, g⟩ := o
    match a with
    | 0 =>
      show lnO t (c + 1) _ r = lnO t (c + 1) _ r
      refine ih _ _ _ _ ?_
      by_cases q : r = c
      · rw [if_pos q, if_pos q]
      · rw [if_neg q, if_neg q]; exact e
    | n + 1 => exact ih _ _ _ _ e
theorem rfO_c : ∀ (l : List (Nat × Nat × Nat × Nat)) (c : Nat) (T T' : Nat → Nat → Option Nat) (r : Nat), (∀ k, T r k = T' r k) → ∀ k, rfO l c T r k = rfO l c T' r k := by
  intro l
  induction l with
  | nil => intro c T T' r e; exact e
  | cons o t ih =>
    intro c T T' r e
    obtain ⟨a, b, f, g⟩ := o
    match a with
    | 0 =>
      show ∀ k, rfO t (c + 1) _ r k = rfO t (c + 1) _ r k
      refine ih _ _ _ _ (fun k => ?_)
      by_cases q : r = c
      · rw [if_pos q, if_pos q]
      · rw [if_neg q, if_neg q]; exact e k
    | 1 =>
      show ∀ k, rfO t c _ r k = rfO t c _ r k
      refine ih _ _ _ _ (fun k => ?_)
      by_cases q : r = b ∧ k = f
      · rw [if_pos q, if_pos q]
      · rw [if_neg q, if_neg q]; exact e k
    | n + 2 => exact ih _ _ _ _ e
theorem SX_bld (L : Nat) (xs : Nat → Int32) : SX (bldO opsX (hZ L xs)) := by
  have d1 : ∀ q ∈ sxR, rfO opsX 0 (fun _ _ => none) q.1 q.2.1 = some q.2.2 := by decide +kernel
  have d2 : ∀ q ∈ sxN, lnO opsX 0 (fun _ => 1) q.1 = q.2 := by decide +kernel
  have d3 : ∀ q ∈ sxN, q.1 ≠ 9999999 := by decide
  refine ⟨fun q hq => ?_, fun q hq => ?_⟩
  · rw [bld_R]; exact d1 q hq
  · rw [bld_N]
    refine (lnO_c opsX 0 (hN (hZ L xs)) (fun _ => 1) q.1 ?_).trans (d2 q hq)
    show (if q.1 = 9999999 then L else 1) = 1
    rw [if_neg (d3 q hq)]
