/-! the start: what the constructors make -/
def stpO (o : Nat × Nat × Nat × Nat) (h : Hp) : Hp := match o with
  | (0, kd, ln, n) => sN h kd ln n
  | (1, r, k, v) => sR h r k v
  | (2, _, _, _) => sI h 8 3 (-4 : Int32)
  | (_, r, k, v) => sL h r k (Int64.ofNat v)
def bldO : List (Nat × Nat × Nat × Nat) → Hp → Hp
  | [], h => h
  | o :: t, h => bldO t (stpO o h)
def opsX : List (Nat × Nat × Nat × Nat) := [(0, 11, 0, 14), (0, 6, 0, 4), (0, 8, 0, 6), (0, 22, 1000, 1000), (1, 2, 0, 3), (1, 1, 0, 2), (1, 0, 0, 1), (0, 0, 0, 6), (0, 20, 40, 40), (1, 4, 0, 5), (1, 0, 1, 4), (0, 0, 0, 6), (0, 20, 40, 40), (1, 6, 0, 7), (1, 0, 2, 6), (0, 10, 0, 11), (0, 20, 13, 13), (1, 8, 0, 9), (0, 20, 41, 41), (1, 8, 1, 10), (0, 21, 64, 64), (1, 8, 2, 11), (2, 8, 3, 0), (1, 0, 3, 8), (0, 9, 0, 11), (0, 21, 41, 41), (1, 12, 0, 13), (0, 0, 0, 6), (0, 20, 40, 40), (1, 14, 0, 15), (1, 12, 2, 14), (0, 20, 6, 6), (1, 12, 3, 16), (0, 20, 6, 6), (1, 12, 4, 17), (0, 21, 6, 6), (1, 12, 5, 18), (0, 21, 64, 64), (1, 12, 6, 19), (1, 0, 4, 12), (0, 7, 0, 3), (0, 21, 41, 41), (1, 20, 0, 21), (0, 20, 41, 41), (1, 20, 1, 22), (1, 0, 5, 20), (0, 3, 0, 1), (0, 21, 0, 0), (1, 23, 0, 24), (1, 0, 6, 23), (0, 4, 0, 3), (0, 21, 12, 12), (1, 25, 0, 26), (0, 21, 12, 12), (1, 25, 1, 27), (0, 21, 24, 24), (1, 25, 2, 28), (1, 0, 7, 25), (0, 24, 4, 4), (1, 0, 8, 29), (0, 1, 0, 3), (0, 0, 0, 6), (0, 20, 40, 40), (1, 31, 0, 32), (1, 30, 0, 31), (0, 20, 41, 41), (1, 30, 1, 33), (1, 29, 0, 30), (0, 1, 0, 3), (0, 0, 0, 6), (0, 20, 40, 40), (1, 35, 0, 36), (1, 34, 0, 35), (0, 20, 41, 41), (1, 34, 1, 37), (1, 29, 1, 34), (0, 1, 0, 3), (0, 0, 0, 6), (0, 20, 40, 40), (1, 39, 0, 40), (1, 38, 0, 39), (0, 20, 41, 41), (1, 38, 1, 41), (1, 29, 2, 38), (0, 1, 0, 3), (0, 0, 0, 6), (0, 20, 40, 40), (1, 43, 0, 44), (1, 42, 0, 43), (0, 20, 41, 41), (1, 42, 1, 45), (1, 29, 3, 42), (0, 20, 41, 41), (1, 0, 9, 46), (0, 20, 6, 6), (1, 0, 10, 47), (0, 5, 0, 17), (0, 20, 6, 6), (1, 48, 0, 49), (0, 20, 13, 13), (1, 48, 1, 50), (0, 20, 41, 41), (1, 48, 2, 51), (0, 20, 13, 13), (1, 48, 3, 52), (0, 20, 41, 41), (1, 48, 4, 53), (0, 20, 41, 41), (1, 48, 5, 54), (0, 2, 0, 3), (0, 20, 1000, 1000), (1, 55, 0, 56), (0, 20, 32, 32), (1, 55, 1, 57), (1, 48, 6, 55), (1, 0, 11, 48), (0, 5, 0, 17), (0, 20, 6, 6), (1, 58, 0, 59), (0, 20, 13, 13), (1, 58, 1, 60), (0, 20, 41, 41), (1, 58, 2, 61), (0, 20, 13, 13), (1, 58, 3, 62), (0, 20, 41, 41), (1, 58, 4, 63), (0, 20, 41, 41), (1, 58, 5, 64), (0, 2, 0, 3), (0, 20, 1000, 1000), (1, 65, 0, 66), (0, 20, 32, 32), (1, 65, 1, 67), (1, 58, 6, 65), (1, 0, 12, 58)]
def opsM : List (Nat × Nat × Nat × Nat) := [(0, 12, 0, 37), (0, 20, 1000, 1000), (1, 68, 1, 69), (0, 20, 1002, 1002), (1, 68, 4, 70), (0, 20, 1002, 1002), (1, 68, 5, 71), (0, 21, 1002, 1002), (1, 68, 6, 72), (0, 21, 22, 22), (3, 73, 0, 36623839), (3, 73, 1, 50169877366), (3, 73, 2, 173197865), (3, 73, 3, 6541130), (3, 73, 4, 242021829), (3, 73, 5, 30884514577), (3, 73, 6, 2793), (3, 73, 7, 325028), (3, 73, 8, 614923), (3, 73, 9, 34200674), (3, 73, 10, 6411565), (3, 73, 11, 755), (3, 73, 12, 14037783), (3, 73, 13, 37957098), (3, 73, 14, 679583), (3, 73, 15, 19741), (3, 73, 16, 1891), (3, 73, 17, 573), (3, 73, 18, 1355942631), (3, 73, 19, 609928), (3, 73, 20, 989988), (3, 73, 21, 37549131), (1, 68, 9, 73), (0, 20, 140, 140), (1, 68, 10, 74), (0, 20, 2200, 2200), (1, 68, 11, 75), (0, 20, 2200, 2200), (1, 68, 12, 76), (0, 20, 4, 4), (1, 68, 15, 77), (0, 20, 1100, 1100), (1, 68, 16, 78), (0, 20, 420, 420), (1, 68, 17, 79), (0, 23, 4, 4), (1, 68, 18, 80), (0, 21, 294175, 294175), (1, 68, 23, 81), (0, 21, 144, 144), (1, 68, 25, 82), (0, 21, 144, 144), (1, 68, 26, 83), (0, 21, 144, 144), (1, 68, 27, 84), (0, 21, 144, 144), (1, 68, 28, 85), (0, 21, 41, 41), (1, 68, 29, 86), (0, 21, 625, 625), (1, 68, 31, 87), (0, 20, 41, 41), (1, 68, 32, 88), (0, 23, 1681, 1681), (1, 68, 33, 89), (0, 20, 41, 41), (1, 68, 34, 90), (0, 23, 41, 41), (1, 68, 35, 91)]
def rfO : List (Nat × Nat × Nat × Nat) → Nat → (Nat → Nat → Option Nat) → Nat → Nat → Option Nat
  | [], _, R => R
  | (0, _, _, _) :: t, c, R => rfO t (c + 1) (fun a b => if a = c then none else R a b)
  | (1, r, k, v) :: t, c, R => rfO t c (fun a b => if a = r ∧ b = k then some v else R a b)
  | _ :: t, c, R => rfO t c R
def lnO : List (Nat × Nat × Nat × Nat) → Nat → (Nat → Nat) → Nat → Nat
  | [], _, T => T
  | (0, _, l, _) :: t, c, T => lnO t (c + 1) (fun a => if a = c then l else T a)
  | _ :: t, c, T => lnO t c T
def ctO : List (Nat × Nat × Nat × Nat) → Nat
  | [] => 0
  | (0, _, _, _) :: t => ctO t + 1
  | _ :: t => ctO t
def slO : List (Nat × Nat × Nat × Nat) → Nat
  | [] => 0
  | (0, _, _, n) :: t => slO t + n
  | _ :: t => slO t
def i83O : List (Nat × Nat × Nat × Nat) → Nat → Int32 → Int32
  | [], _, x => x
  | (0, _, _, _) :: t, c, x => i83O t (c + 1) (if 8 = c then 0 else x)
  | (2, _, _, _) :: t, c, _ => i83O t c (-4)
  | _ :: t, c, x => i83O t c x
def lgO : List (Nat × Nat × Nat × Nat) → Nat → (Nat → Nat → Int64) → Nat → Nat → Int64
  | [], _, T => T
  | (0, _, _, _) :: t, c, T => lgO t (c + 1) (fun a b => if a = c then 0 else T a b)
  | (1, _, _, _) :: t, c, T => lgO t c T
  | (2, _, _, _) :: t, c, T => lgO t c T
  | (_, r, k, v) :: t, c, T => lgO t c (fun a b => if a = r ∧ b = k then Int64.ofNat v else T a b)
theorem bld_R : ∀ (l : List (Nat × Nat × Nat × Nat)) (h : Hp), hR (bldO l h) = rfO l (hC h) (hR h) := by
  intro l
  induction l with
  | nil => intro h; rfl
  | cons o t ih =>
    intro h
    obtain ⟨a, b, c, e⟩ := o
    rw [bldO, ih]
    match a with
    | 0 => rfl
    | 1 => rfl
    | 2 => rfl
    | n + 3 => rfl
theorem bld_N : ∀ (l : List (Nat × Nat × Nat × Nat)) (h : Hp), hN (bldO l h) = lnO l (hC h) (hN h) := by
  intro l
  induction l with
  | nil => intro h; rfl
  | cons o t ih =>
    intro h
    obtain ⟨a, b, c, e⟩ := o
    rw [bldO, ih]
    match a with
    | 0 => rfl
    | 1 => rfl
    | 2 => rfl
    | n + 3 => rfl
theorem bld_C : ∀ (l : List (Nat × Nat × Nat × Nat)) (h : Hp), hC (bldO l h) = hC h + ctO l ∧ hS (bldO l h) = hS h + slO l := by
  intro l
  induction l with
  | nil => intro h; exact ⟨rfl, rfl⟩
  | cons o t ih =>
    intro h
    obtain ⟨a, b, c, e⟩ := o
    rw [bldO, (ih _).1, (ih _).2]
    match a with
    | 0 =>
      have h1 : hC (stpO (0, b, c, e) h) = hC h + 1 := rfl
      have h2 : hS (stpO (0, b, c, e) h) = hS h + e := rfl
      have h3 : ctO ((0, b, c, e) :: t) = ctO t + 1 := rfl
      have h4 : slO ((0, b, c, e) :: t) = slO t + e := rfl
      omega
    | 1 => exact ⟨rfl, rfl⟩
    | 2 => exact ⟨rfl, rfl⟩
    | n + 3 => exact ⟨rfl, rfl⟩
theorem bld_8 : ∀ (l : List (Nat × Nat × Nat × Nat)) (h : Hp), hI (bldO l h) 8 3 = i83O l (hC h) (hI h 8 3) := by
  intro l
  induction l with
  | nil => intro h; rfl
  | cons o t ih =>
    intro h
    obtain ⟨a, b, c, e⟩ := o
    rw [bldO, ih]
    match a with
    | 0 => rfl
    | 1 => rfl
    | 2 => rfl
    | n + 3 => rfl
theorem bld_L : ∀ (l : List (Nat × Nat × Nat × Nat)) (h : Hp), hL (bldO l h) = lgO l (hC h) (hL h) := by
  intro l
  induction l with
  | nil => intro h; rfl
  | cons o t ih =>
    intro h
    obtain ⟨a, b, c, e⟩ := o
    rw [bldO, ih]
    match a with
    | 0 => rfl
    | 1 => rfl
    | 2 => rfl
    | n + 3 => rfl
/-- what was there stays; what is new is empty -/
theorem bld_I : ∀ (l : List (Nat × Nat × Nat × Nat)) (h : Hp) (r k : Nat), ¬ (r = 8 ∧ k = 3) → hI (bldO l h) r k = if hC h ≤ r ∧ r < hC h + ctO l then 0 else hI h r k := by
  intro l
  induction l with
  | nil => intro h r k _; rw [if_neg (by show ¬ (hC h ≤ r ∧ r < hC h + 0); omega)]; rfl
  | cons o t ih =>
    intro h r k hr
    obtain ⟨a, b, c, e⟩ := o
    rw [bldO, ih _ r k hr]
    match a with
    | 0 =>
      have h1 : hC (stpO (0, b, c, e) h) = hC h + 1 := rfl
      have h3 : ctO ((0, b, c, e) :: t) = ctO t + 1 := rfl
      have h2 : hI (stpO (0, b, c, e) h) r k = if r = hC h then 0 else hI h r k := rfl
      rw [h1, h2, h3]
      by_cases c1 : r = hC h
      · rw [if_neg (by omega), if_pos c1, if_pos (by omega)]
      · rw [if_neg c1]
        by_cases c2 : hC h ≤ r ∧ r < hC h + (ctO t + 1)
        · rw [if_pos (by omega), if_pos c2]
        · rw [if_neg (by omega), if_neg c2]
    | 1 => rfl
    | 2 =>
      have h1 : hC (stpO (2, b, c, e) h) = hC h := rfl
      have h3 : ctO ((2, b, c, e) :: t) = ctO t := rfl
      have h2 : hI (stpO (2, b, c, e) h) r k = hI h r k := sI_o _ _ hr
      rw [h1, h2, h3]
    | n + 3 => rfl
/-- the heap before everything: the script alone -/
def hZ (L : Nat) (xs : Nat → Int32) : Hp := (fun a b => if a = 9999999 then xs b else 0, fun _ _ => 0, fun _ _ => none, fun _ => 0, fun a => if a = 9999999 then L else 1, 0, 0)
theorem alc_t {α : Type} {h : Hp} (n : Nat) (e : hC h = n) (l : n < 1000000) (k : Nat → Option α) : alc h k = k n := by subst e; unfold alc; exact ifp_t l
theorem n_Climber (d : Nat) {h : Hp} {c : Nat} (n : Nat) (e : hC h = n) (l : n < 1000000) : evm (d + 1) 0 [vR 0 c] h = some (none, sR (sN h 20 40 40) c 0 n) := by
  rw [e_Climber_new, ifp_t (show inb (40 : Int32) 1000000 = true by decide), alc_t n e l]; rfl
theorem n_Tape (d : Nat) {h : Hp} {c : Nat} (n : Nat) (e : hC h = n) (l : n < 1000000) : evm (d + 1) 66 [vR 8 c] h = some (none, sR (sN h 22 1000 1000) c 0 n) := by
  rw [e_Tape_new, ifp_t (show inb (1000 : Int32) 1000000 = true by decide), alc_t n e l]; rfl
theorem n_Reader (d : Nat) {h : Hp} {c : Nat} (n : Nat) (e : hC h = n) (l : n + 1 < 1000000) : evm (d + 2) 38 [vR 6 c] h = some (none, sR (sR (sN (sN h 8 0 6) 22 1000 1000) n 0 (n + 1)) c 0 n) := by
  rw [e_StairReader_new, alc_t n e (by omega), n_Tape d (n + 1) (by show hC h + 1 = n + 1; rw [e]) l]; rfl
theorem n_Ways (d : Nat) {h : Hp} {c : Nat} (n : Nat) (e : hC h = n) (l : n + 2 < 1000000) : evm (d + 1) 84 [vR 10 c] h = some (none, sI (sR (sN (sR (sN (sR (sN h 20 13 13) c 0 n) 20 41 41) c 1 (n + 1)) 21 64 64) c 2 (n + 2)) c 3 (-4 : Int32)) := by
  rw [e_Ways_new, ifp_t (show inb (13 : Int32) 1000000 = true by decide), alc_t n e (by omega), ifp_t (show inb (41 : Int32) 1000000 = true by decide), alc_t (n + 1) (by show hC h + 1 = n + 1; rw [e]) (by omega), ifp_t (show inb (64 : Int32) 1000000 = true by decide), alc_t (n + 2) (by show hC h + 1 + 1 = n + 2; rw [e]) l]; rfl
theorem n_Throng (d : Nat) {h : Hp} {c : Nat} (n : Nat) (e : hC h = n) (l : n + 6 < 1000000) : evm (d + 2) 76 [vR 9 c] h = some (none, sR (sN (sR (sN (sR (sN (sR (sN (sR (sR (sN (sN (sR (sN h 21 41 41) c 0 n) 0 0 6) 20 40 40) (n + 1) 0 (n + 2)) c 2 (n + 1)) 20 6 6) c 3 (n + 3)) 20 6 6) c 4 (n + 4)) 21 6 6) c 5 (n + 5)) 21 64 64) c 6 (n + 6)) := by
  rw [e_Throng_new, ifp_t (show inb (41 : Int32) 1000000 = true by decide), alc_t n e (by omega), alc_t (n + 1) (by show hC h + 1 = n + 1; rw [e]) (by omega), n_Climber d (n + 2) (by show hC h + 1 + 1 = n + 2; rw [e]) (by omega), bV_s, ifp_t (show inb (6 : Int32) 1000000 = true by decide), alc_t (n + 3) (by show hC h + 1 + 1 + 1 = n + 3; rw [e]) (by omega), ifp_t (show inb (6 : Int32) 1000000 = true by decide), alc_t (n + 4) (by show hC h + 1 + 1 + 1 + 1 = n + 4; rw [e]) (by omega), ifp_t (show inb (6 : Int32) 1000000 = true by decide), alc_t (n + 5) (by show hC h + 1 + 1 + 1 + 1 + 1 = n + 5; rw [e]) (by omega), ifp_t (show inb (64 : Int32) 1000000 = true by decide), alc_t (n + 6) (by show hC h + 1 + 1 + 1 + 1 + 1 + 1 = n + 6; rw [e]) (by omega)]; rfl
theorem n_Sweep (d : Nat) {h : Hp} {c : Nat} (n : Nat) (e : hC h = n) (l : n + 1 < 1000000) : evm (d + 1) 61 [vR 7 c] h = some (none, sR (sN (sR (sN h 21 41 41) c 0 n) 20 41 41) c 1 (n + 1)) := by
  rw [e_Sweep_new, ifp_t (show inb (41 : Int32) 1000000 = true by decide), alc_t n e (by omega), ifp_t (show inb (41 : Int32) 1000000 = true by decide), alc_t (n + 1) (by show hC h + 1 = n + 1; rw [e]) (by omega)]; rfl
theorem n_Pair (d : Nat) {h : Hp} {c : Nat} (n : Nat) (e : hC h = n) (l : n < 1000000) : evm (d + 1) 16 [vR 3 c] h = some (none, sR (sN h 21 0 0) c 0 n) := by
  rw [e_Pair_new, ifp_t (show inb (0 : Int32) 1000000 = true by decide), alc_t n e l]; rfl
theorem n_Rests (d : Nat) {h : Hp} {c : Nat} (n : Nat) (e : hC h = n) (l : n + 2 < 1000000) : evm (d + 1) 20 [vR 4 c] h = some (none, sR (sN (sR (sN (sR (sN h 21 12 12) c 0 n) 21 12 12) c 1 (n + 1)) 21 24 24) c 2 (n + 2)) := by
  rw [e_Rests_new, ifp_t (show inb (12 : Int32) 1000000 = true by decide), alc_t n e (by omega), ifp_t (show inb (12 : Int32) 1000000 = true by decide), alc_t (n + 1) (by show hC h + 1 = n + 1; rw [e]) (by omega), ifp_t (show inb (24 : Int32) 1000000 = true by decide), alc_t (n + 2) (by show hC h + 1 + 1 = n + 2; rw [e]) (by omega)]; rfl
theorem n_Mark (d : Nat) {h : Hp} {c : Nat} (n : Nat) (e : hC h = n) (l : n + 2 < 1000000) : evm (d + 2) 10 [vR 1 c] h = some (none, sR (sN (sR (sR (sN (sN h 0 0 6) 20 40 40) n 0 (n + 1)) c 0 n) 20 41 41) c 1 (n + 2)) := by
  rw [e_Mark_new, alc_t n e (by omega), n_Climber d (n + 1) (by show hC h + 1 = n + 1; rw [e]) (by omega), bV_s, ifp_t (show inb (41 : Int32) 1000000 = true by decide), alc_t (n + 2) (by show hC h + 1 + 1 = n + 2; rw [e]) (by omega)]; rfl
theorem n_Mood (d : Nat) {h : Hp} {c : Nat} (n : Nat) (e : hC h = n) (l : n + 1 < 1000000) : evm (d + 1) 11 [vR 2 c] h = some (none, sR (sN (sR (sN h 20 1000 1000) c 0 n) 20 32 32) c 1 (n + 1)) := by
  rw [e_Mood_new, ifp_t (show inb (1000 : Int32) 1000000 = true by decide), alc_t n e (by omega), ifp_t (show inb (32 : Int32) 1000000 = true by decide), alc_t (n + 1) (by show hC h + 1 = n + 1; rw [e]) (by omega)]; rfl
theorem n_Stair (d : Nat) {h : Hp} {c : Nat} (n : Nat) (e : hC h = n) (l : n + 8 < 1000000) : evm (d + 2) 24 [vR 5 c] h = some (none, sR (sR (sN (sR (sN (sN (sR (sN (sR (sN (sR (sN (sR (sN (sR (sN (sR (sN h 20 6 6) c 0 n) 20 13 13) c 1 (n + 1)) 20 41 41) c 2 (n + 2)) 20 13 13) c 3 (n + 3)) 20 41 41) c 4 (n + 4)) 20 41 41) c 5 (n + 5)) 2 0 3) 20 1000 1000) (n + 6) 0 (n + 7)) 20 32 32) (n + 6) 1 (n + 8)) c 6 (n + 6)) := by
  rw [e_Stair_new, ifp_t (show inb (6 : Int32) 1000000 = true by decide), alc_t n e (by omega), ifp_t (show inb (13 : Int32) 1000000 = true by decide), alc_t (n + 1) (by show hC h + 1 = n + 1; rw [e]) (by omega), ifp_t (show inb (41 : Int32) 1000000 = true by decide), alc_t (n + 2) (by show hC h + 1 + 1 = n + 2; rw [e]) (by omega), ifp_t (show inb (13 : Int32) 1000000 = true by decide), alc_t (n + 3) (by show hC h + 1 + 1 + 1 = n + 3; rw [e]) (by omega), ifp_t (show inb (41 : Int32) 1000000 = true by decide), alc_t (n + 4) (by show hC h + 1 + 1 + 1 + 1 = n + 4; rw [e]) (by omega), ifp_t (show inb (41 : Int32) 1000000 = true by decide), alc_t (n + 5) (by show hC h + 1 + 1 + 1 + 1 + 1 = n + 5; rw [e]) (by omega), alc_t (n + 6) (by show hC h + 1 + 1 + 1 + 1 + 1 + 1 = n + 6; rw [e]) (by omega), n_Mood d (n + 7) (by show hC h + 1 + 1 + 1 + 1 + 1 + 1 + 1 = n + 7; rw [e]) (by omega)]; rfl
set_option maxRecDepth 100000 in
theorem x_newC (L : Nat) (xs : Nat → Int32) : evm 1000 101 [vR 11 0] (sN (hZ L xs) 11 0 14) = (bV (evm 999 25 [vR 5 48] (bldO opsX (hZ L xs))) fun h8 => bR (hR h8 0 11) fun r9 => bV (evm 999 26 [vR 5 r9] h8) fun h10 => some (none, h10)) := by
  rw [show (1000 : Nat) = 999 + 1 from rfl, e_X_new, alc_t 1 rfl (by decide), n_Reader 997 2 rfl (by decide), bV_s, alc_t 4 rfl (by decide), n_Climber 998 5 rfl (by decide), bV_s, alc_t 6 rfl (by decide), n_Climber 998 7 rfl (by decide), bV_s, alc_t 8 rfl (by decide), n_Ways 998 9 rfl (by decide), bV_s, alc_t 12 rfl (by decide), n_Throng 997 13 rfl (by decide), bV_s, alc_t 20 rfl (by decide), n_Sweep 998 21 rfl (by decide), bV_s, alc_t 23 rfl (by decide), n_Pair 998 24 rfl (by decide), bV_s, alc_t 25 rfl (by decide), n_Rests 998 26 rfl (by decide), bV_s, ifp_t (show inb (4 : Int32) 1000000 = true by decide), alc_t 29 rfl (by decide)]
  have stM : ∀ (x y : Int32) (a n : Nat) (hh : Hp), x < (4 : Int32) → hR hh 0 8 = some 29 → hC hh = n → n < 1000 → inb x 4 = true → ix x = a → x + (1 : Int32) = y → hN hh 29 = 4 → 29 < n → L_X_new_102 999 0 x hh = L_X_new_102 999 0 y (sR (sR (sN (sR (sR (sN (sN (sN hh 1 0 3) 0 0 6) 20 40 40) (n + 1) 0 (n + 2)) n 0 (n + 1)) 20 41 41) n 1 (n + 3)) 29 a n) := by
    intro x y a n hh c1 c2 c3 c4 c5 c6 c7 c8 c9
    rw [e_X_new_102, ifp_t c1, c2, bR_s, alc_t n c3 (by omega), n_Mark 997 (n + 1) (by show hC hh + 1 = n + 1; rw [c3]) (by omega), bV_s]
    have e29 : hN (sR (sN (sR (sR (sN (sN (sN hh 1 0 3) 0 0 6) 20 40 40) (n + 1) 0 (n + 1 + 1)) n 0 (n + 1)) 20 41 41) n 1 (n + 1 + 2)) 29 = 4 := by
      show (if 29 = hC hh + 1 + 1 + 1 then 41 else if 29 = hC hh + 1 + 1 then 40 else if 29 = hC hh + 1 then 0 else if 29 = hC hh then 0 else hN hh 29) = 4
      rw [if_neg (by omega), if_neg (by omega), if_neg (by omega), if_neg (by omega), c8]
    rw [e29, ifp_t c5, c6, c7]
  rw [stM 0 1 0 30 _ (by decide) rfl rfl (by decide) (by decide) rfl (by decide) rfl (by decide), stM 1 2 1 34 _ (by decide) rfl rfl (by decide) (by decide) rfl (by decide) rfl (by decide), stM 2 3 2 38 _ (by decide) rfl rfl (by decide) (by decide) rfl (by decide) rfl (by decide), stM 3 4 3 42 _ (by decide) rfl rfl (by decide) (by decide) rfl (by decide) rfl (by decide)]
  rw [e_X_new_102, ifp_f (by decide), ifp_t (show inb (41 : Int32) 1000000 = true by decide), alc_t 46 rfl (by decide), ifp_t (show inb (6 : Int32) 1000000 = true by decide), alc_t 47 rfl (by decide), alc_t 48 rfl (by decide), n_Stair 997 49 rfl (by decide), bV_s, alc_t 58 rfl (by decide), n_Stair 997 59 rfl (by decide), bV_s]
  rfl
