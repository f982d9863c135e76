/-! the model at the start; the start -/
set_option maxRecDepth 100000 in
theorem m_newC (i : Nat → Nat → Int32) (l : Nat → Nat → Int64) (r : Nat → Nat → Option Nat) (kk n : Nat → Nat) (s : Nat) : evm 1000 141 [vR 12 68] (sN (i, l, r, kk, n, 68, s) 12 0 37) = (bV (evm 999 155 [vR 12 68, vI (0 : Int32)] (bldO opsM (i, l, r, kk, n, 68, s))) fun h4 => bR (hR h4 68 10) fun r5 => ifp (inb (0 : Int32) (hN h4 r5) = true) (L_M_new_361 999 68 (sI h4 r5 (ix (0 : Int32)) (1 : Int32))) none) := by
  rw [show (1000 : Nat) = 999 + 1 from rfl, e_M_new]
  rw [ifp_t (show inb (1000 : Int32) 1000000 = true by decide), alc_t 69 rfl (by decide), ifp_t (show inb (1002 : Int32) 1000000 = true by decide), alc_t 70 rfl (by decide), ifp_t (show inb (1002 : Int32) 1000000 = true by decide), alc_t 71 rfl (by decide), ifp_t (show inb (1002 : Int32) 1000000 = true by decide), alc_t 72 rfl (by decide), ifp_t (show inb (22 : Int32) 1000000 = true by decide), alc_t 73 rfl (by decide)]
  rw [ifp_t (by rfl), ifp_t (by rfl), ifp_t (by rfl), ifp_t (by rfl), ifp_t (by rfl), ifp_t (by rfl), ifp_t (by rfl), ifp_t (by rfl), ifp_t (by rfl), ifp_t (by rfl), ifp_t (by rfl), ifp_t (by rfl), ifp_t (by rfl), ifp_t (by rfl), ifp_t (by rfl), ifp_t (by rfl), ifp_t (by rfl), ifp_t (by rfl), ifp_t (by rfl), ifp_t (by rfl), ifp_t (by rfl), ifp_t (by rfl)]
  rw [e_M_new_196, ifp_t (show inb (140 : Int32) 1000000 = true by decide), alc_t 74 rfl (by decide), ifp_t (show inb (2200 : Int32) 1000000 = true by decide), alc_t 75 rfl (by decide), ifp_t (show inb (2200 : Int32) 1000000 = true by decide), alc_t 76 rfl (by decide), ifp_t (show inb (4 : Int32) 1000000 = true by decide), alc_t 77 rfl (by decide), ifp_t (show inb (1100 : Int32) 1000000 = true by decide), alc_t 78 rfl (by decide)]
  rw [e_M_new_239, ifp_t (show inb (420 : Int32) 1000000 = true by decide), alc_t 79 rfl (by decide), ifp_t (show inb (4 : Int32) 1000000 = true by decide), alc_t 80 rfl (by decide), ifp_t (show inb (294175 : Int32) 1000000 = true by decide), alc_t 81 rfl (by decide), ifp_t (show inb (144 : Int32) 1000000 = true by decide), alc_t 82 rfl (by decide), ifp_t (show inb (144 : Int32) 1000000 = true by decide), alc_t 83 rfl (by decide)]
  rw [e_M_new_281, ifp_t (show inb (144 : Int32) 1000000 = true by decide), alc_t 84 rfl (by decide), ifp_t (show inb (144 : Int32) 1000000 = true by decide), alc_t 85 rfl (by decide), ifp_t (show inb (41 : Int32) 1000000 = true by decide), alc_t 86 rfl (by decide), ifp_t (show inb (625 : Int32) 1000000 = true by decide), alc_t 87 rfl (by decide), ifp_t (show inb (41 : Int32) 1000000 = true by decide), alc_t 88 rfl (by decide)]
  rw [e_M_new_324, ifp_t (show inb (1681 : Int32) 1000000 = true by decide), alc_t 89 rfl (by decide), ifp_t (show inb (41 : Int32) 1000000 = true by decide), alc_t 90 rfl (by decide), ifp_t (show inb (41 : Int32) 1000000 = true by decide), alc_t 91 rfl (by decide)]
  rfl
theorem lnO_k : ∀ (l : List (Nat × Nat × Nat × Nat)) (c : Nat) (T : Nat → Nat) (r : Nat), r < c → lnO l c T r = T r := by
  intro l
  induction l with
  | nil => intro c T r _; rfl
  | cons o t ih =>
    intro c T r hr
    obtain ⟨a, b, f, g⟩ := o
    match a with
    | 0 =>
      show lnO t (c + 1) _ r = T r
      rw [ih _ _ _ (by omega), if_neg (by omega)]
    | n + 1 => exact ih _ _ _ hr
theorem lnO_b : ∀ (l : List (Nat × Nat × Nat × Nat)) (c : Nat) (T T' : Nat → Nat) (r : Nat), c ≤ r → r < c + ctO l → lnO l c T r = lnO l c T' r := by
  intro l
  induction l with
  | nil => intro c T T' r h1 h2; have : ctO [] = 0 := rfl; omega
  | cons o t ih =>
    intro c T T' r h1 h2
    obtain ⟨a, b, f, g⟩ := o
    match a with
    | 0 =>
      have e : ctO ((0, b, f, g) :: t) = ctO t + 1 := rfl
      show lnO t (c + 1) _ r = lnO t (c + 1) _ r
      by_cases q : r = c
      · refine lnO_c t _ _ _ _ ?_
        rw [if_pos q, if_pos q]
      · exact ih _ _ _ _ (by omega) (by omega)
    | n + 1 => exact ih _ _ _ _ h1 h2
theorem rfO_k : ∀ (l : List (Nat × Nat × Nat × Nat)) (c : Nat) (T : Nat → Nat → Option Nat) (r : Nat), (∀ o ∈ l, o.1 = 1 → o.2.1 ≠ r) → r < c → ∀ k, rfO l c T r k = T r k := by
  intro l
  induction l with
  | nil => intro c T r _ _ k; rfl
  | cons o t ih =>
    intro c T r ho hr k
    obtain ⟨a, b, f, g⟩ := o
    have ht : ∀ o ∈ t, o.1 = 1 → o.2.1 ≠ r := fun o h => ho o (List.mem_cons_of_mem _ h)
    match a with
    | 0 =>
      show rfO t (c + 1) _ r k = T r k
      rw [ih _ _ _ ht (by omega), if_neg (by omega)]
    | 1 =>
      show rfO t c _ r k = T r k
      have h0 := ho (1, b, f, g) List.mem_cons_self rfl
      rw [ih _ _ _ ht hr, if_neg (fun y => h0 y.1.symm)]
    | n + 2 => exact ih _ _ _ ht hr k
theorem lgO_k : ∀ (l : List (Nat × Nat × Nat × Nat)) (c : Nat) (T : Nat → Nat → Int64) (r : Nat), (∀ o ∈ l, 3 ≤ o.1 → o.2.1 ≠ r) → r < c → ∀ k, lgO l c T r k = T r k := by
  intro l
  induction l with
  | nil => intro c T r _ _ k; rfl
  | cons o t ih =>
    intro c T r ho hr k
    obtain ⟨a, b, f, g⟩ := o
    have ht : ∀ o ∈ t, 3 ≤ o.1 → o.2.1 ≠ r := fun o h => ho o (List.mem_cons_of_mem _ h)
    match a with
    | 0 =>
      show lgO t (c + 1) _ r k = T r k
      rw [ih _ _ _ ht (by omega), if_neg (by omega)]
    | 1 => exact ih _ _ _ ht hr k
    | 2 => exact ih _ _ _ ht hr k
    | n + 3 =>
      show lgO t c _ r k = T r k
      have h0 := ho (n + 3, b, f, g) List.mem_cons_self (by show 3 ≤ n + 3; omega)
      rw [ih _ _ _ ht hr, if_neg (fun y => h0 y.1.symm)]
theorem i83_k : ∀ (l : List (Nat × Nat × Nat × Nat)) (c : Nat) (x : Int32), (∀ o ∈ l, o.1 ≠ 2) → 8 < c → i83O l c x = x := by
  intro l
  induction l with
  | nil => intro c x _ _; rfl
  | cons o t ih =>
    intro c x ho hc
    obtain ⟨a, b, f, g⟩ := o
    have ht : ∀ o ∈ t, o.1 ≠ 2 := fun o h => ho o (List.mem_cons_of_mem _ h)
    match a with
    | 0 =>
      show i83O t (c + 1) _ = x
      rw [ih _ _ ht (by omega), if_neg (by omega)]
    | 1 => exact ih _ _ ht hc
    | 2 => exact absurd rfl (ho (2, b, f, g) List.mem_cons_self)
    | n + 3 => exact ih _ _ ht hc
theorem whvL : ∀ w : Nat, w < 22 → lgO opsM 68 (fun _ _ => 0) 73 w = jZ (whv w) := by decide +kernel
/-- the class, new -/
theorem start_X (L : Nat) (xs : Nat → Int32) : ∃ h, evm 1000 101 [vR 11 0] (sN (hZ L xs) 11 0 14) = some (none, h) ∧ (hC h = 68 ∧ hS h = slO opsX) ∧ SX h ∧ (hR h 0 11 = some 48 ∧ hR h 0 12 = some 58) ∧ SR h 48 qs0 ∧ hI h 55 2 = iZ 0 ∧ hL h = (fun _ _ => 0) ∧ (∀ r k, r < 48 → ¬ (r = 8 ∧ k = 3) → hI h r k = 0) ∧ hI h 8 3 = iZ (-4) ∧ hR h 8 2 = some 11 ∧ hR h 12 6 = some 19 ∧ hR h 23 0 = some 24 ∧ (hN h 11 = 64 ∧ hN h 19 = 64 ∧ hN h 24 = 0) ∧ hN h 9999999 = L ∧ hI h 9999999 = xs := by
  have X0 := SX_bld L xs
  obtain ⟨h1, a1, a2, a3, a4, a5⟩ := x_clear (d := 999) (by omega) X0 (p := 48) (Or.inl rfl)
  have X1 : SX h1 := sx_e a2 X0
  obtain ⟨h, b1, b2, b3, b4⟩ := x_fin0 (d := 999) (by omega) X1 (p := 48) (Or.inl rfl) a4 a5
  have h2 : h.2 = (bldO opsX (hZ L xs)).2 := b2.trans a2
  have hr : hR h = hR (bldO opsX (hZ L xs)) := congrArg (fun x => x.2.1) h2
  have hn : hN h = hN (bldO opsX (hZ L xs)) := congrArg (fun x => x.2.2.2.1) h2
  have hl : hL h = hL (bldO opsX (hZ L xs)) := congrArg (fun x => x.1) h2
  have hc : hC h = hC (bldO opsX (hZ L xs)) := congrArg (fun x => x.2.2.2.2.1) h2
  have hs : hS h = hS (bldO opsX (hZ L xs)) := congrArg (fun x => x.2.2.2.2.2) h2
  have C := bld_C opsX (hZ L xs)
  have z0 : hC (hZ L xs) = 0 := rfl
  have z1 : hS (hZ L xs) = 0 := rfl
  have ct : ctO opsX = 68 := by decide +kernel
  have r11 : hR (bldO opsX (hZ L xs)) 0 11 = some 48 := by rw [bld_R]; show rfO opsX 0 (fun _ _ => none) 0 11 = some 48; decide +kernel
  have r12 : hR (bldO opsX (hZ L xs)) 0 12 = some 58 := by rw [bld_R]; show rfO opsX 0 (fun _ _ => none) 0 12 = some 58; decide +kernel
  have iI : ∀ r k, r < 48 → hI h r k = hI (bldO opsX (hZ L xs)) r k := fun r k hr => by rw [b3 r (by omega), a3 r (by omega)]
  refine ⟨h, ?_, ⟨by rw [hc, C.1, z0, ct], by rw [hs, C.2, z1]; omega⟩, sx_e h2 X0, ⟨by rw [hr]; exact r11, by rw [hr]; exact r12⟩, b4, ?_, ?_, fun r k h1 h2 => ?_, ?_, ?_, ?_, ?_, ⟨?_, ?_, ?_⟩, ?_, ?_⟩
  · have r1 : hR h1 0 11 = some 48 := by rw [show hR h1 = hR (bldO opsX (hZ L xs)) from congrArg (fun x => x.2.1) a2]; exact r11
    rw [x_newC, a1, bV_s, r1, bR_s, b1]
    rfl
  · rw [b3 55 (by omega)]; exact a4.2.2.2
  · rw [hl, bld_L]
    show lgO opsX 0 (fun _ _ => 0) = _
    have key : ∀ (l : List (Nat × Nat × Nat × Nat)) (c : Nat), (∀ o ∈ l, o.1 < 3) → lgO l c (fun _ _ => 0) = (fun _ _ => (0 : Int64)) := by
      intro l
      induction l with
      | nil => intro c _; rfl
      | cons o t ih =>
        intro c ho
        obtain ⟨a, b, f, g⟩ := o
        have ht : ∀ o ∈ t, o.1 < 3 := fun o h => ho o (List.mem_cons_of_mem _ h)
        match a with
        | 0 =>
          show lgO t (c + 1) _ = _
          rw [show (fun a b => if a = c then 0 else (fun _ _ => (0 : Int64)) a b) = (fun _ _ => (0 : Int64)) from funext fun a => funext fun b => by split <;> rfl]
          exact ih _ ht
        | 1 => exact ih _ ht
        | 2 => exact ih _ ht
        | n + 3 => have := ho (n + 3, b, f, g) List.mem_cons_self; exact absurd this (by show ¬ n + 3 < 3; omega)
    exact key opsX 0 (by decide +kernel)
  · rw [iI r k h1, bld_I _ _ _ _ h2, if_pos (by rw [z0, ct]; omega)]
  · rw [iI 8 3 (by omega), bld_8]
    show i83O opsX 0 0 = iZ (-4)
    decide +kernel
  · rw [hr, bld_R]; show rfO opsX 0 (fun _ _ => none) 8 2 = some 11; decide +kernel
  · rw [hr, bld_R]; show rfO opsX 0 (fun _ _ => none) 12 6 = some 19; decide +kernel
  · rw [hr, bld_R]; show rfO opsX 0 (fun _ _ => none) 23 0 = some 24; decide +kernel
  · rw [hn, bld_N]; refine (lnO_c opsX 0 _ (fun _ => 1) 11 rfl).trans ?_; decide +kernel
  · rw [hn, bld_N]; refine (lnO_c opsX 0 _ (fun _ => 1) 19 rfl).trans ?_; decide +kernel
  · rw [hn, bld_N]; refine (lnO_c opsX 0 _ (fun _ => 1) 24 rfl).trans ?_; decide +kernel
  · rw [hn, bld_N]
    have key : ∀ (l : List (Nat × Nat × Nat × Nat)) (c : Nat) (T : Nat → Nat), c + ctO l ≤ 9999999 → lnO l c T 9999999 = T 9999999 := by
      intro l
      induction l with
      | nil => intro c T _; rfl
      | cons o t ih =>
        intro c T hb
        obtain ⟨a, b, f, g⟩ := o
        match a with
        | 0 =>
          have e : ctO ((0, b, f, g) :: t) = ctO t + 1 := rfl
          show lnO t (c + 1) _ 9999999 = T 9999999
          rw [ih _ _ (by omega), if_neg (by omega)]
        | n + 1 => exact ih _ _ hb
    rw [key opsX _ _ (by rw [z0, ct]; omega)]
    rfl
  · rw [b3 9999999 (by omega), a3 9999999 (by omega)]
    funext k
    rw [bld_I _ _ _ _ (by omega), if_neg (by rw [z0, ct]; omega)]
    rfl
