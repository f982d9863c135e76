/-! THE PURE MACHINE: a small machine over ids in place of addresses, in which all the reasoning on what the methods answer is done; part 03 says that the JVM does what it does. -/
abbrev Hp : Type := (Nat → Nat → Int32) × (Nat → Nat → Int64) × (Nat → Nat → Option Nat) × (Nat → Nat) × (Nat → Nat) × Nat × Nat
/-- ints, longs, references of the cell r at place k; its kind, its length; how many cells, how many slots -/
def hI (h : Hp) : Nat → Nat → Int32 := h.1
def hL (h : Hp) : Nat → Nat → Int64 := h.2.1
def hR (h : Hp) : Nat → Nat → Option Nat := h.2.2.1
def hK (h : Hp) : Nat → Nat := h.2.2.2.1
def hN (h : Hp) : Nat → Nat := h.2.2.2.2.1
def hC (h : Hp) : Nat := h.2.2.2.2.2.1
def hS (h : Hp) : Nat := h.2.2.2.2.2.2
def sI (h : Hp) (r k : Nat) (v : Int32) : Hp := (fun a b => if a = r ∧ b = k then v else h.1 a b, h.2)
def sL (h : Hp) (r k : Nat) (v : Int64) : Hp := (h.1, fun a b => if a = r ∧ b = k then v else h.2.1 a b, h.2.2)
def sR (h : Hp) (r k : Nat) (v : Nat) : Hp := (h.1, h.2.1, fun a b => if a = r ∧ b = k then some v else h.2.2.1 a b, h.2.2.2)
/-- a new cell of a kind: len places, n slots -/
def sN (h : Hp) (kd len n : Nat) : Hp :=
  (fun a b => if a = hC h then 0 else h.1 a b, fun a b => if a = hC h then 0 else h.2.1 a b, fun a b => if a = hC h then none else h.2.2.1 a b,
   fun a => if a = hC h then kd else h.2.2.2.1 a, fun a => if a = hC h then len else h.2.2.2.2.1 a, hC h + 1, hS h + n)
/-- arraycopy of ints -/
def sCp (h : Hp) (src sp dst dp n : Nat) : Hp := (fun a b => if a = dst ∧ (dp ≤ b ∧ b < dp + n) then h.1 src (sp + (b - dp)) else h.1 a b, h.2)
abbrev AV : Type := Int32 ⊕ Int64 ⊕ (Nat × Nat)
abbrev vI (x : Int32) : AV := .inl x
abbrev vL (x : Int64) : AV := .inr (.inl x)
abbrev vR (k r : Nat) : AV := .inr (.inr (k, r))
abbrev Lo : Type := List (Option AV)
abbrev St : Type := Nat × Lo × List AV × Hp
abbrev Rs : Type := Option AV × Hp
/-- an instruction: its kind, the next pc, numbers a b c, an int, a long, targets -/
abbrev En : Type := Nat × Nat × Nat × Nat × Nat × Int32 × Int64 × List Nat
/-- a choice that nothing decides by itself -/
noncomputable def ifp {α : Type} (c : Prop) (a b : α) : α := @ite α c (Classical.propDecidable c) a b
theorem ifp_t {α : Type} {c : Prop} {a b : α} (h : c) : ifp c a b = a := if_pos h
theorem ifp_f {α : Type} {c : Prop} {a b : α} (h : ¬ c) : ifp c a b = b := if_neg h
theorem ifp_i {α : Type} (c : Prop) [Decidable c] (a b : α) : ifp c a b = if c then a else b := by
  by_cases h : c
  · rw [ifp_t h, if_pos h]
  · rw [ifp_f h, if_neg h]
def inb (i : Int32) (n : Nat) : Bool := decide (0 ≤ i.toInt ∧ i.toInt < n)
def isB (x : Int32) : Bool := decide (x = 0 ∨ x = 1)
def isBy (x : Int32) : Bool := decide (x.toInt8.toInt32 = x)
def isCh (x : Int32) : Bool := decide (0 ≤ x.toInt ∧ x.toInt < 65536)
def ix (i : Int32) : Nat := i.toNatClampNeg
def chr (x : Int32) : Int32 := (x.toUInt32 % 65536).toInt32
def ibin (k : Nat) (x y : Int32) : Int32 := match k with
  | 0 => x + y | 1 => x - y | 2 => x * y | 3 => x &&& y | 4 => x ||| y | 5 => x ^^^ y | 6 => x <<< (y &&& 31) | _ => x >>> (y &&& 31)
def lbin (k : Nat) (x y : Int64) : Int64 := match k with
  | 0 => x + y | 1 => x - y | 2 => x * y | 3 => x &&& y | _ => x ||| y
def irem (x y : Int32) : Int32 := x - x / y * y
def lrem (x y : Int64) : Int64 := x - x / y * y
def lget (lo : Lo) (a : Nat) : Option AV := lo.getD a none
/-- what lies ahead of a place and is a long falls with it -/
def lclr (lo : Lo) (a : Nat) : Lo := match a with
  | 0 => lo
  | b + 1 => match lget lo b with
    | some (.inr (.inl _)) => lo.set b none
    | _ => lo
def lset1 (lo : Lo) (a : Nat) (v : AV) : Lo := (lclr lo a).set a (some v)
def lset2 (lo : Lo) (a : Nat) (v : AV) : Lo := ((lclr lo a).set (a + 1) none).set a (some v)
def lkill (lo : Lo) : List Nat → Lo
  | [] => lo
  | k :: ks => lkill (lo.set k none) ks
/-- a list, spelled out, is handed on -/
def frc {α β : Type} : List α → (List α → β) → β
  | [], k => k []
  | x :: l, k => frc l (fun l' => k (x :: l'))
theorem frc_eq {α β : Type} : ∀ (l : List α) (k : List α → β), frc l k = k l
  | [], _ => rfl
  | x :: l, k => by rw [frc, frc_eq]
def bR {α : Type} (o : Option Nat) (k : Nat → Option α) : Option α := match o with
  | some x => k x
  | none => none
def bI {α : Type} (o : Option Rs) (k : Int32 → Hp → Option α) : Option α := match o with
  | some (some (.inl x), h) => k x h
  | _ => none
def bL {α : Type} (o : Option Rs) (k : Int64 → Hp → Option α) : Option α := match o with
  | some (some (.inr (.inl x)), h) => k x h
  | _ => none
def bV {α : Type} (o : Option Rs) (k : Hp → Option α) : Option α := match o with
  | some (none, h) => k h
  | _ => none
noncomputable def cnd {α : Type} (c : Nat) (x y : Int32) (t f : α) : α := match c with
  | 0 => ifp (x = y) t f
  | 1 => ifp (x = y) f t
  | 2 => ifp (x < y) t f
  | 3 => ifp (x < y) f t
  | 4 => ifp (y < x) t f
  | _ => ifp (y < x) f t
noncomputable def swt {α : Type} (x lo : Int32) (tg : List Nat) (k : Nat → α) (d : α) : α := match tg with
  | [] => d
  | t :: ts => ifp (x = lo) (k t) (swt x (lo + 1) ts k d)
/-- a new cell's id -/
noncomputable def alc {α : Type} (h : Hp) (k : Nat → Option α) : Option α := ifp (hC h < 1000000) (k (hC h)) none
section Machine
variable (kn : St → Option Rs) (kc : Nat → List AV → Hp → Option Rs)
def o_ld (e : En) (lo : Lo) (st : List AV) (h : Hp) : Option Rs := match e with
  | (op, nx, a, _, _, ci, cl, _) => match op with
    | 0 => kn (nx, lo, vI ci :: st, h)
    | 1 => kn (nx, lo, vL cl :: st, h)
    | 2 => match lget lo a with
      | some (.inl x) => kn (nx, lo, vI x :: st, h)
      | _ => none
    | 3 => match lget lo a with
      | some (.inr (.inl x)) => kn (nx, lo, vL x :: st, h)
      | _ => none
    | 4 => match lget lo a with
      | some (.inr (.inr (k, r))) => bif Nat.beq k 43 then none else kn (nx, lo, vR k r :: st, h)
      | _ => none
    | 5 => match st with
      | .inl x :: st => frc (lset1 lo a (vI x)) (fun lo => kn (nx, lo, st, h))
      | _ => none
    | 6 => match st with
      | .inr (.inl x) :: st => frc (lset2 lo a (vL x)) (fun lo => kn (nx, lo, st, h))
      | _ => none
    | 7 => match st with
      | .inr (.inr (k, r)) :: st => bif Nat.beq k 43 then none else frc (lset1 lo a (vR k r)) (fun lo => kn (nx, lo, st, h))
      | _ => none
    | _ => match lget lo a with
      | some (.inl x) => frc (lset1 lo a (vI (x + ci))) (fun lo => kn (nx, lo, st, h))
      | _ => none
noncomputable def o_ar (e : En) (lo : Lo) (st : List AV) (h : Hp) : Option Rs := match e with
  | (op, nx, a, _, _, _, _, _) => match op with
    | 9 => match st with
      | .inl y :: .inl x :: st => kn (nx, lo, vI (ibin a x y) :: st, h)
      | _ => none
    | 10 => match st with
      | .inl y :: .inl x :: st => ifp (y = 0) none (kn (nx, lo, vI (x / y) :: st, h))
      | _ => none
    | 11 => match st with
      | .inl y :: .inl x :: st => ifp (y = 0) none (kn (nx, lo, vI (irem x y) :: st, h))
      | _ => none
    | 12 => match st with
      | .inl x :: st => kn (nx, lo, vI (-x) :: st, h)
      | _ => none
    | 13 => match st with
      | .inr (.inl y) :: .inr (.inl x) :: st => kn (nx, lo, vL (lbin a x y) :: st, h)
      | _ => none
    | 14 => match st with
      | .inl y :: .inr (.inl x) :: st => kn (nx, lo, vL (x <<< (y.toInt64 &&& 63)) :: st, h)
      | _ => none
    | 15 => match st with
      | .inl y :: .inr (.inl x) :: st => kn (nx, lo, vL (x >>> (y.toInt64 &&& 63)) :: st, h)
      | _ => none
    | 16 => match st with
      | .inr (.inl y) :: .inr (.inl x) :: st => ifp (y = 0) none (kn (nx, lo, vL (x / y) :: st, h))
      | _ => none
    | _ => match st with
      | .inr (.inl y) :: .inr (.inl x) :: st => ifp (y = 0) none (kn (nx, lo, vL (lrem x y) :: st, h))
      | _ => none
noncomputable def o_cv (e : En) (lo : Lo) (st : List AV) (h : Hp) : Option Rs := match e with
  | (op, nx, a, b, _, ci, _, tg) => match op with
    | 18 => match st with
      | .inl x :: st => kn (nx, lo, vL x.toInt64 :: st, h)
      | _ => none
    | 19 => match st with
      | .inr (.inl x) :: st => kn (nx, lo, vI x.toInt32 :: st, h)
      | _ => none
    | 20 => match st with
      | .inl x :: st => kn (nx, lo, vI (chr x) :: st, h)
      | _ => none
    | 21 => match st with
      | .inr (.inl y) :: .inr (.inl x) :: st => kn (nx, lo, vI (lg_cmp x y) :: st, h)
      | _ => none
    | 22 => match st with
      | .inl x :: st => kn (nx, lo, vI x :: vI x :: st, h)
      | .inr (.inr (k, r)) :: st => bif Nat.beq k 43 then none else kn (nx, lo, vR k r :: vR k r :: st, h)
      | _ => none
    | 23 => match st with
      | .inl y :: .inr (.inr (k, r)) :: st => bif Nat.beq k 43 then none else kn (nx, lo, vI y :: vR k r :: vI y :: vR k r :: st, h)
      | _ => none
    | 24 => match st with
      | .inl y :: .inl x :: st => cnd a x y (kn (b, lo, st, h)) (kn (nx, lo, st, h))
      | _ => none
    | 25 => match st with
      | .inl x :: st => cnd a x 0 (kn (b, lo, st, h)) (kn (nx, lo, st, h))
      | _ => none
    | 26 => kn (b, lo, st, h)
    | 27 => match st with
      | .inl x :: st => swt x ci tg (fun t => kn (t, lo, st, h)) (kn (b, lo, st, h))
      | _ => none
    | _ => match st with
      | .inr (.inr (k, _)) :: st => bif Nat.beq k 43 then none else kn (nx, lo, st, h)
      | _ => none
noncomputable def o_fd (e : En) (lo : Lo) (st : List AV) (h : Hp) : Option Rs := match e with
  | (op, nx, a, b, c, _, _, _) => match op with
    | 29 => match st with
      | .inr (.inr (k, r)) :: st => bif Nat.beq k a then kn (nx, lo, vI (hI h r b) :: st, h) else none
      | _ => none
    | 30 => match st with
      | .inr (.inr (k, r)) :: st => bif Nat.beq k a then kn (nx, lo, vL (hL h r b) :: st, h) else none
      | _ => none
    | 31 => match st with
      | .inr (.inr (k, r)) :: st => bif Nat.beq k a then bR (hR h r b) (fun x => kn (nx, lo, vR c x :: st, h)) else none
      | _ => none
    | 32 => match st with
      | .inl v :: .inr (.inr (k, r)) :: st => bif Nat.beq k a then kn (nx, lo, st, sI h r b v) else none
      | _ => none
    | 33 => match st with
      | .inl v :: .inr (.inr (k, r)) :: st => bif Nat.beq k a then (bif isB v then kn (nx, lo, st, sI h r b v) else none) else none
      | _ => none
    | 34 => match st with
      | .inr (.inl v) :: .inr (.inr (k, r)) :: st => bif Nat.beq k a then kn (nx, lo, st, sL h r b v) else none
      | _ => none
    | _ => match st with
      | .inr (.inr (k2, v)) :: .inr (.inr (k, r)) :: st => bif Nat.beq k a && Nat.beq k2 c then kn (nx, lo, st, sR h r b v) else none
      | _ => none
/-- constant texts: their bytes -/
def sbyt : List (List Int32) := [[40, 41, 60, 61, 43, 45, 42, 59], [115, 116, 97, 105, 114], [115, 116, 114, 105, 100, 101, 115], [98, 114, 111, 107, 101, 110], [99, 114, 101, 97, 107], [108, 97, 110, 100, 105, 110, 103], [99, 114, 101, 97, 107, 115], [98, 97, 114], [102, 111, 111, 116], [108, 101, 102, 116], [114, 105, 103, 104, 116], [99, 111, 117, 110, 116], [116, 111], [103, 114, 101, 97, 116], [116, 105, 109, 101, 115], [109, 111, 111, 100], [110, 111, 116], [115, 116, 114, 105, 100, 101], [108, 97, 115, 116], [115, 116, 101, 112], [116, 97, 107, 101, 110], [97, 110, 100], [111, 114]]
def slen (i : Nat) : Nat := (sbyt.getD i []).length
def sby (i j : Nat) : Int32 := (sbyt.getD i []).getD j 0
noncomputable def o_al (e : En) (lo : Lo) (st : List AV) (h : Hp) : Option Rs := match e with
  | (op, nx, _, _, _, _, _, _) => match op with
    | 36 => match st with
      | .inr (.inr (k, r)) :: st => bif Nat.blt 19 k && Nat.blt k 25 || Nat.beq k 42 then kn (nx, lo, vI (nI (hN h r)) :: st, h) else bif Nat.beq k 41 then kn (nx, lo, vI (nI (slen r)) :: st, h) else none
      | _ => none
    | 37 => match st with
      | .inl i :: .inr (.inr (k, r)) :: st => bif Nat.beq k 20 || Nat.beq k 42 then (ifp (inb i (hN h r) = true) (kn (nx, lo, vI (hI h r (ix i)) :: st, h)) none) else none
      | _ => none
    | 38 => match st with
      | .inl i :: .inr (.inr (k, r)) :: st => bif Nat.beq k 21 then (ifp (inb i (hN h r) = true) (kn (nx, lo, vL (hL h r (ix i)) :: st, h)) none) else none
      | _ => none
    | 39 => match st with
      | .inl i :: .inr (.inr (k, r)) :: st => bif Nat.beq k 22 then (ifp (inb i (hN h r) = true) (kn (nx, lo, vI (hI h r (ix i)) :: st, h)) none) else none
      | _ => none
    | 40 => match st with
      | .inl i :: .inr (.inr (k, r)) :: st => bif Nat.beq k 23 then (ifp (inb i (hN h r) = true) (kn (nx, lo, vI (hI h r (ix i)) :: st, h)) none) else bif Nat.beq k 41 then (ifp (inb i (slen r) = true) (kn (nx, lo, vI (sby r (ix i)) :: st, h)) none) else none
      | _ => none
    | _ => match st with
      | .inl i :: .inr (.inr (k, r)) :: st => bif Nat.beq k 24 then (ifp (inb i (hN h r) = true) (bR (hR h r (ix i)) (fun x => kn (nx, lo, vR 1 x :: st, h))) none) else none
      | _ => none
noncomputable def o_as (e : En) (lo : Lo) (st : List AV) (h : Hp) : Option Rs := match e with
  | (op, nx, _, _, _, _, _, _) => match op with
    | 42 => match st with
      | .inl v :: .inl i :: .inr (.inr (k, r)) :: st => bif Nat.beq k 20 then (ifp (inb i (hN h r) = true) (kn (nx, lo, st, sI h r (ix i) v)) none) else none
      | _ => none
    | 43 => match st with
      | .inr (.inl v) :: .inl i :: .inr (.inr (k, r)) :: st => bif Nat.beq k 21 then (ifp (inb i (hN h r) = true) (kn (nx, lo, st, sL h r (ix i) v)) none) else none
      | _ => none
    | 44 => match st with
      | .inl v :: .inl i :: .inr (.inr (k, r)) :: st => bif Nat.beq k 22 then (ifp (inb i (hN h r) = true) ((bif isCh v then kn (nx, lo, st, sI h r (ix i) v) else none)) none) else none
      | _ => none
    | 45 => match st with
      | .inl v :: .inl i :: .inr (.inr (k, r)) :: st => bif Nat.beq k 23 then (ifp (inb i (hN h r) = true) ((bif isB v then kn (nx, lo, st, sI h r (ix i) v) else none)) none) else none
      | _ => none
    | _ => match st with
      | .inr (.inr (k2, v)) :: .inl i :: .inr (.inr (k, r)) :: st => bif Nat.beq k 24 && Nat.beq k2 1 then (ifp (inb i (hN h r) = true) (kn (nx, lo, st, sR h r (ix i) v)) none) else none
      | _ => none
noncomputable def o_nw (e : En) (lo : Lo) (st : List AV) (h : Hp) : Option Rs := match e with
  | (op, nx, a, b, _, _, _, _) => match op with
    | 47 => match st with
      | .inl n :: st => ifp (inb n 1000000 = true) (alc h (fun q => kn (nx, lo, vR a q :: st, sN h a (ix n) (ix n)))) none
      | _ => none
    | 48 => match st with
      | .inl n :: st => ifp (inb n 1000000 = true) (alc h (fun q => kn (nx, lo, vR 24 q :: st, sN h 24 (ix n) (ix n)))) none
      | _ => none
    | _ => alc h (fun q => kn (nx, lo, vR a q :: st, sN h a 0 b))
/-- the words of a row of values -/
def wd : List AV → Nat
  | [] => 0
  | v :: vs => (match v with
    | .inr (.inl _) => 2
    | _ => 1) + wd vs
/-- the receiver's kind -/
def rck (tg : List Nat) (l : List AV) : Bool := match tg with
  | [] => true
  | k :: _ => match l with
    | .inr (.inr (k', _)) :: _ => Nat.beq k' k
    | _ => false
noncomputable def o_cl (e : En) (lo : Lo) (st : List AV) (h : Hp) : Option Rs := match e with
  | (op, nx, a, b, c, _, _, tg) => match op with
    | 50 => bif Nat.ble b st.length && rck tg (st.drop (b - 1)) && Nat.ble (wd (st.drop b)) 8 then frc (st.take b).reverse (fun ar => frc (st.drop b) (fun st => match c with
      | 0 => bV (kc a ar h) (fun h => kn (nx, lo, st, h))
      | 1 => bI (kc a ar h) (fun x h => kn (nx, lo, vI x :: st, h))
      | _ => bL (kc a ar h) (fun x h => kn (nx, lo, vL x :: st, h)))) else none
    | 51 => match st with
      | .inr (.inr (k, _)) :: st => bif Nat.beq k 43 || Nat.blt 8 (wd st) then none else kn (nx, lo, st, h)
      | _ => none
    | _ => match st with
      | .inl n :: .inl dp :: .inr (.inr (k1, d)) :: .inl sp :: .inr (.inr (k0, s)) :: st => bif Nat.beq k1 20 && Nat.beq k0 20 && Nat.ble (wd st) 8 then (ifp (0 ≤ n.toInt ∧ 0 ≤ dp.toInt ∧ 0 ≤ sp.toInt ∧ ix sp + ix n ≤ hN h s ∧ ix dp + ix n ≤ hN h d) (kn (nx, lo, st, sCp h s (ix sp) d (ix dp) (ix n))) none) else none
      | _ => none
def o_rt (e : En) (lo : Lo) (st : List AV) (h : Hp) : Option Rs := match e with
  | (op, nx, a, _, _, ci, _, _) => match op with
    | 53 => match st with
      | [.inl x] => match a with
        | 0 => some (some (vI x), h)
        | 1 => bif isB x then some (some (vI x), h) else none
        | 2 => bif isBy x then some (some (vI x), h) else none
        | _ => bif isCh x then some (some (vI x), h) else none
      | _ => none
    | 54 => match st with
      | [.inr (.inl x)] => some (some (vL x), h)
      | _ => none
    | 55 => match st with
      | [] => some (none, h)
      | _ => none
    | 56 => kn (nx, lo, vI ci :: st, h)
    | 57 => match st with
      | .inr (.inr (k, r)) :: st => bif Nat.beq k 40 then kn (nx, lo, vR 41 r :: st, h) else none
      | _ => none
    | 58 => match st with
      | .inr (.inr (k, _)) :: st => bif Nat.beq k 40 then kn (nx, lo, vI 0 :: st, h) else none
      | _ => none
    | 59 => kn (nx, lo, vR 40 a :: st, h)
    | 60 => kn (nx, lo, vR 43 0 :: st, h)
    | 61 => match st with
      | .inl _ :: st => kn (nx, lo, st, h)
      | _ => none
    | _ => match st with
      | .inl x :: st => kn (nx, lo, vI x.toInt8.toInt32 :: st, h)
      | _ => none
noncomputable def o_op (e : En) (lo : Lo) (st : List AV) (h : Hp) : Option Rs :=
  bif Nat.blt e.1 29 then (bif Nat.blt e.1 9 then o_ld kn e lo st h else bif Nat.blt e.1 18 then o_ar kn e lo st h else o_cv kn e lo st h)
  else bif Nat.blt e.1 47 then (bif Nat.blt e.1 36 then o_fd kn e lo st h else bif Nat.blt e.1 42 then o_al kn e lo st h else o_as kn e lo st h)
  else bif Nat.blt e.1 50 then o_nw kn e lo st h else bif Nat.blt e.1 53 then o_cl kn kc e lo st h else bif Nat.blt e.1 63 then o_rt kn e lo st h else none
end Machine
/-- a method's text: its instructions by their pc; which locals are dead at which pc -/
abbrev Tx : Type := List (Nat × En) × List (Nat × List Nat)
def lk {α : Type} : List (Nat × α) → Nat → Option α
  | [], _ => none
  | (k, x) :: l, p => bif Nat.beq k p then some x else lk l p
/-- what is dead at a place is forgotten there -/
def kil (t : Tx) (S : St) : St := match S with
  | (pc, lo, st, h) => match lk t.2 pc with
    | some ks => frc (lkill lo ks) (fun lo => (pc, lo, st, h))
    | none => (pc, lo, st, h)
noncomputable def run (kc : Nat → List AV → Hp → Option Rs) (t : Tx) : Nat → St → Option Rs
  | 0, _ => none
  | n + 1, (pc, lo, st, h) => match lk t.1 pc with
    | some e => o_op (fun S' => run kc t n (kil t S')) kc e lo st h
    | none => none
noncomputable def evs (kc : Nat → List AV → Hp → Option Rs) (t : Tx) (S : St) : Option Rs :=
  @dite _ (∃ n, (run kc t n S).isSome = true) (Classical.propDecidable _) (fun h => run kc t (Classical.choose h) S) (fun _ => none)
/-- a way of going on: it ends by itself, or by one that it goes on to -/
def Us (F : (St → Option Rs) → Option Rs) : Prop := ∀ kn r, F kn = some r → (∃ S, kn S = some r ∧ ∀ kn', kn' S = some r → F kn' = some r) ∨ ∀ kn', F kn' = some r
theorem Us.k (S : St) : Us (fun kn => kn S) := fun _ _ h => Or.inl ⟨S, h, fun _ h => h⟩
theorem Us.n : Us (fun _ => none) := fun _ _ h => by cases h
theorem Us.s (o : Option Rs) : Us (fun _ => o) := fun _ _ h => Or.inr fun _ => h
theorem Us.i {c : Prop} {F G : (St → Option Rs) → Option Rs} (hF : Us F) (hG : Us G) : Us (fun kn => ifp c (F kn) (G kn)) := by
  by_cases h : c
  · simpa only [ifp_t h] using hF
  · simpa only [ifp_f h] using hG
theorem Us.c {c : Bool} {F G : (St → Option Rs) → Option Rs} (hF : Us F) (hG : Us G) : Us (fun kn => bif c then F kn else G kn) := by
  cases c
  · exact hG
  · exact hF
theorem Us.cn {a : Nat} {x y : Int32} {F G : (St → Option Rs) → Option Rs} (hF : Us F) (hG : Us G) : Us (fun kn => cnd a x y (F kn) (G kn)) := by
  unfold cnd
  split
  · exact hF.i hG
  · exact hG.i hF
  · exact hF.i hG
  · exact hG.i hF
  · exact hF.i hG
  · exact hG.i hF
theorem Us.sw {x : Int32} {F : Nat → (St → Option Rs) → Option Rs} {G : (St → Option Rs) → Option Rs} (hF : ∀ t, Us (F t)) (hG : Us G) : ∀ (tg : List Nat) (lo : Int32), Us (fun kn => swt x lo tg (fun t => F t kn) (G kn))
  | [], _ => hG
  | t :: ts, lo => (hF t).i (Us.sw hF hG ts (lo + 1))
theorem Us.a {h : Hp} {F : Nat → (St → Option Rs) → Option Rs} (hF : ∀ x, Us (F x)) : Us (fun kn => alc h (fun x => F x kn)) := (hF (hC h)).i Us.n
theorem Us.r {o : Option Nat} {F : Nat → (St → Option Rs) → Option Rs} (hF : ∀ x, Us (F x)) : Us (fun kn => bR o (fun x => F x kn)) := by
  cases o with
  | none => exact Us.n
  | some x => exact hF x
theorem Us.bi {o : Option Rs} {F : Int32 → Hp → (St → Option Rs) → Option Rs} (hF : ∀ x h, Us (F x h)) : Us (fun kn => bI o (fun x h => F x h kn)) := by
  unfold bI
  split
  · exact hF _ _
  · exact Us.n
theorem Us.bl {o : Option Rs} {F : Int64 → Hp → (St → Option Rs) → Option Rs} (hF : ∀ x h, Us (F x h)) : Us (fun kn => bL o (fun x h => F x h kn)) := by
  unfold bL
  split
  · exact hF _ _
  · exact Us.n
theorem Us.bv {o : Option Rs} {F : Hp → (St → Option Rs) → Option Rs} (hF : ∀ h, Us (F h)) : Us (fun kn => bV o (fun h => F h kn)) := by
  unfold bV
  split
  · exact hF _
  · exact Us.n
theorem us_ld (e : En) (lo : Lo) (st : List AV) (h : Hp) : Us (fun kn => o_ld kn e lo st h) := by
  obtain ⟨op, nx, a, b, c, ci, cl, tg⟩ := e
  simp only [o_ld, frc_eq]
  (repeat' split) <;> (repeat' first | exact Us.n | exact Us.k _ | exact Us.s _ | refine Us.cn ?_ ?_ | exact Us.sw (fun _ => Us.k _) (Us.k _) _ _ | refine Us.c ?_ ?_ | refine Us.i ?_ ?_ | refine Us.r fun _ => ?_ | refine Us.a fun _ => ?_ | refine Us.bv fun _ => ?_ | refine Us.bi fun _ _ => ?_ | refine Us.bl fun _ _ => ?_)
theorem us_ar (e : En) (lo : Lo) (st : List AV) (h : Hp) : Us (fun kn => o_ar kn e lo st h) := by
  obtain ⟨op, nx, a, b, c, ci, cl, tg⟩ := e
  simp only [o_ar]
  (repeat' split) <;> (repeat' first | exact Us.n | exact Us.k _ | exact Us.s _ | refine Us.cn ?_ ?_ | exact Us.sw (fun _ => Us.k _) (Us.k _) _ _ | refine Us.c ?_ ?_ | refine Us.i ?_ ?_ | refine Us.r fun _ => ?_ | refine Us.a fun _ => ?_ | refine Us.bv fun _ => ?_ | refine Us.bi fun _ _ => ?_ | refine Us.bl fun _ _ => ?_)
theorem us_cv (e : En) (lo : Lo) (st : List AV) (h : Hp) : Us (fun kn => o_cv kn e lo st h) := by
  obtain ⟨op, nx, a, b, c, ci, cl, tg⟩ := e
  simp only [o_cv]
  (repeat' split) <;> (repeat' first | exact Us.n | exact Us.k _ | exact Us.s _ | refine Us.cn ?_ ?_ | exact Us.sw (fun _ => Us.k _) (Us.k _) _ _ | refine Us.c ?_ ?_ | refine Us.i ?_ ?_ | refine Us.r fun _ => ?_ | refine Us.a fun _ => ?_ | refine Us.bv fun _ => ?_ | refine Us.bi fun _ _ => ?_ | refine Us.bl fun _ _ => ?_)
theorem us_fd (e : En) (lo : Lo) (st : List AV) (h : Hp) : Us (fun kn => o_fd kn e lo st h) := by
  obtain ⟨op, nx, a, b, c, ci, cl, tg⟩ := e
  simp only [o_fd]
  (repeat' split) <;> (repeat' first | exact Us.n | exact Us.k _ | exact Us.s _ | refine Us.cn ?_ ?_ | exact Us.sw (fun _ => Us.k _) (Us.k _) _ _ | refine Us.c ?_ ?_ | refine Us.i ?_ ?_ | refine Us.r fun _ => ?_ | refine Us.a fun _ => ?_ | refine Us.bv fun _ => ?_ | refine Us.bi fun _ _ => ?_ | refine Us.bl fun _ _ => ?_)
theorem us_al (e : En) (lo : Lo) (st : List AV) (h : Hp) : Us (fun kn => o_al kn e lo st h) := by
  obtain ⟨op, nx, a, b, c, ci, cl, tg⟩ := e
  simp only [o_al]
  (repeat' split) <;> (repeat' first | exact Us.n | exact Us.k _ | exact Us.s _ | refine Us.cn ?_ ?_ | exact Us.sw (fun _ => Us.k _) (Us.k _) _ _ | refine Us.c ?_ ?_ | refine Us.i ?_ ?_ | refine Us.r fun _ => ?_ | refine Us.a fun _ => ?_ | refine Us.bv fun _ => ?_ | refine Us.bi fun _ _ => ?_ | refine Us.bl fun _ _ => ?_)
theorem us_as (e : En) (lo : Lo) (st : List AV) (h : Hp) : Us (fun kn => o_as kn e lo st h) := by
  obtain ⟨op, nx, a, b, c, ci, cl, tg⟩ := e
  simp only [o_as]
  (repeat' split) <;> (repeat' first | exact Us.n | exact Us.k _ | exact Us.s _ | refine Us.cn ?_ ?_ | exact Us.sw (fun _ => Us.k _) (Us.k _) _ _ | refine Us.c ?_ ?_ | refine Us.i ?_ ?_ | refine Us.r fun _ => ?_ | refine Us.a fun _ => ?_ | refine Us.bv fun _ => ?_ | refine Us.bi fun _ _ => ?_ | refine Us.bl fun _ _ => ?_)
theorem us_nw (e : En) (lo : Lo) (st : List AV) (h : Hp) : Us (fun kn => o_nw kn e lo st h) := by
  obtain ⟨op, nx, a, b, c, ci, cl, tg⟩ := e
  simp only [o_nw]
  (repeat' split) <;> (repeat' first | exact Us.n | exact Us.k _ | exact Us.s _ | refine Us.cn ?_ ?_ | exact Us.sw (fun _ => Us.k _) (Us.k _) _ _ | refine Us.c ?_ ?_ | refine Us.i ?_ ?_ | refine Us.r fun _ => ?_ | refine Us.a fun _ => ?_ | refine Us.bv fun _ => ?_ | refine Us.bi fun _ _ => ?_ | refine Us.bl fun _ _ => ?_)
theorem us_cl (kc : Nat → List AV → Hp → Option Rs) (e : En) (lo : Lo) (st : List AV) (h : Hp) : Us (fun kn => o_cl kn kc e lo st h) := by
  obtain ⟨op, nx, a, b, c, ci, cl, tg⟩ := e
  simp only [o_cl, frc_eq]
  (repeat' split) <;> (repeat' first | exact Us.n | exact Us.k _ | exact Us.s _ | refine Us.cn ?_ ?_ | exact Us.sw (fun _ => Us.k _) (Us.k _) _ _ | refine Us.c ?_ ?_ | refine Us.i ?_ ?_ | refine Us.r fun _ => ?_ | refine Us.a fun _ => ?_ | refine Us.bv fun _ => ?_ | refine Us.bi fun _ _ => ?_ | refine Us.bl fun _ _ => ?_)
theorem us_rt (e : En) (lo : Lo) (st : List AV) (h : Hp) : Us (fun kn => o_rt kn e lo st h) := by
  obtain ⟨op, nx, a, b, c, ci, cl, tg⟩ := e
  simp only [o_rt]
  (repeat' split) <;> (repeat' first | exact Us.n | exact Us.k _ | exact Us.s _ | refine Us.cn ?_ ?_ | exact Us.sw (fun _ => Us.k _) (Us.k _) _ _ | refine Us.c ?_ ?_ | refine Us.i ?_ ?_ | refine Us.r fun _ => ?_ | refine Us.a fun _ => ?_ | refine Us.bv fun _ => ?_ | refine Us.bi fun _ _ => ?_ | refine Us.bl fun _ _ => ?_)
theorem us_op (kc : Nat → List AV → Hp → Option Rs) (e : En) (lo : Lo) (st : List AV) (h : Hp) : Us (fun kn => o_op kn kc e lo st h) := by
  unfold o_op
  exact (((us_ld e lo st h).c ((us_ar e lo st h).c (us_cv e lo st h)))).c (((us_fd e lo st h).c ((us_al e lo st h).c (us_as e lo st h))).c ((us_nw e lo st h).c ((us_cl kc e lo st h).c ((us_rt e lo st h).c Us.n))))
theorem run_succ {kc : Nat → List AV → Hp → Option Rs} {t : Tx} : ∀ {n : Nat} {S : St} {r : Rs}, run kc t n S = some r → run kc t (n + 1) S = some r := by
  intro n
  induction n with
  | zero => intro S r h; cases h
  | succ n ih =>
    intro S r h
    obtain ⟨pc, lo, st, hp⟩ := S
    rw [run] at h ⊢
    split at h
    · rcases us_op kc _ _ _ _ _ _ h with ⟨S', h1, h2⟩ | h1
      · exact h2 _ (ih h1)
      · exact h1 _
    · cases h
theorem run_mono {kc : Nat → List AV → Hp → Option Rs} {t : Tx} {n m : Nat} {S : St} {r : Rs} (hnm : n ≤ m) (h : run kc t n S = some r) : run kc t m S = some r := by
  induction hnm with
  | refl => exact h
  | step _ ih => exact run_succ ih
theorem evs_iff {kc : Nat → List AV → Hp → Option Rs} {t : Tx} {S : St} {r : Rs} : evs kc t S = some r ↔ ∃ n, run kc t n S = some r := by
  unfold evs
  by_cases h : ∃ n, (run kc t n S).isSome = true
  · simp only [dif_pos h]
    constructor
    · intro q; exact ⟨_, q⟩
    · rintro ⟨n, hn⟩
      obtain ⟨x, hx⟩ := Option.isSome_iff_exists.mp (Classical.choose_spec h)
      rw [hx]
      rcases Nat.le_total n (Classical.choose h) with q | q
      · rw [← hx, run_mono q hn]
      · rw [← run_mono q hx, hn]
  · simp only [dif_neg h]
    constructor
    · intro q; cases q
    · rintro ⟨n, hn⟩
      exact absurd ⟨n, by rw [hn]; rfl⟩ h
theorem opt_ext {α : Type} {a b : Option α} (h : ∀ r, a = some r ↔ b = some r) : a = b := by
  cases a with
  | none => cases b with
    | none => rfl
    | some y => exact absurd ((h y).mpr rfl) (by simp)
  | some x => exact ((h x).mp rfl).symm
/-- one step of the limit -/
theorem evs_step {kc : Nat → List AV → Hp → Option Rs} {t : Tx} (pc : Nat) (lo : Lo) (st : List AV) (h : Hp) : evs kc t (pc, lo, st, h) = match lk t.1 pc with
    | some e => o_op (fun S' => evs kc t (kil t S')) kc e lo st h
    | none => none := by
  refine opt_ext fun r => ?_
  rw [evs_iff]
  cases he : lk t.1 pc with
  | none =>
    simp only
    constructor
    · rintro ⟨n, hn⟩
      cases n with
      | zero => cases hn
      | succ n => rw [run, he] at hn; cases hn
    · intro h; cases h
  | some e =>
    simp only
    constructor
    · rintro ⟨n, hn⟩
      cases n with
      | zero => cases hn
      | succ n =>
        rw [run, he] at hn
        rcases us_op kc _ _ _ _ _ _ hn with ⟨S', h1, h2⟩ | h1
        · exact h2 _ (evs_iff.mpr ⟨n, h1⟩)
        · exact h1 _
    · intro h
      rcases us_op kc _ _ _ _ _ _ h with ⟨S', h1, h2⟩ | h1
      · obtain ⟨n, hn⟩ := evs_iff.mp h1
        exact ⟨n + 1, by rw [run, he]; exact h2 _ hn⟩
      · exact ⟨1, by rw [run, he]; exact h1 _⟩
def elm (p : Nat) : List Nat → Bool
  | [] => false
  | q :: qs => bif Nat.beq q p then true else elm p qs
/-- some steps at once, up to the places 'stops' -/
noncomputable def xpd (kc : Nat → List AV → Hp → Option Rs) (t : Tx) (stops : List Nat) : Nat → St → Option Rs
  | 0, S => evs kc t S
  | n + 1, (pc, lo, st, h) => match lk t.1 pc with
    | some e => o_op (fun S' => match kil t S' with
        | (pc, lo, st, h) => bif elm pc stops then evs kc t (pc, lo, st, h) else xpd kc t stops n (pc, lo, st, h)) kc e lo st h
    | none => none
theorem evs_xpd (kc : Nat → List AV → Hp → Option Rs) (t : Tx) (stops : List Nat) : ∀ (n : Nat) (S : St), evs kc t S = xpd kc t stops n S := by
  intro n
  induction n with
  | zero => intro S; rfl
  | succ n ih =>
    intro S
    obtain ⟨pc, lo, st, h⟩ := S
    rw [evs_step, xpd]
    have : (fun S' => evs kc t (kil t S')) = (fun S' => match kil t S' with
        | (pc, lo, st, h) => bif elm pc stops then evs kc t (pc, lo, st, h) else xpd kc t stops n (pc, lo, st, h)) := by
      funext S'
      obtain ⟨pc, lo, st, h⟩ := kil t S'
      show evs kc t (pc, lo, st, h) = bif elm pc stops then evs kc t (pc, lo, st, h) else xpd kc t stops n (pc, lo, st, h)
      cases elm pc stops
      · exact ih _
      · rfl
    rw [this]
/-- a method's start -/
def ael : List AV → Lo
  | [] => []
  | v :: vs => match v with
    | .inr (.inl x) => some (vL x) :: none :: ael vs
    | v => some v :: ael vs
def pad : Lo → Nat → Lo
  | l, 0 => l
  | l, n + 1 => pad (l ++ [none]) n
