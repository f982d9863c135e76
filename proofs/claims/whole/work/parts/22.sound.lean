/-! THE JVM DOES WHAT THE PURE MACHINE DOES: an instruction at a time. -/
def cCode (c : ClassFile.Cond) : Nat := match c with
  | .eq => 0 | .ne => 1 | .lt => 2 | .ge => 3 | .gt => 4 | .le => 5
def aKd (t : ArrayType) : Nat := match t with
  | .int => 20 | .long => 21 | .char => 22 | .boolean => 23 | _ => 99
def any4 (l : List (Nat × Nat × Nat × Nat × Nat)) (o k a b : Nat) : Bool := l.any (fun q => q.1 == o && q.2.1 == k && q.2.2.1 == a && q.2.2.2.1 == b)
def any3 {α : Type} [BEq α] (l : List (Nat × Nat × α × Nat)) (o k : Nat) (a : α) : Bool := l.any (fun q => q.1 == o && q.2.1 == k && q.2.2.1 == a)
def any2 (l : List (Nat × Nat × Nat)) (o k : Nat) : Bool := l.any (fun q => q.1 == o && q.2.1 == k)
/-- a final field is written by its own class's constructor alone -/
def finOk (mi a b : Nat) : Bool := !(cT a b).2.2.2 || (mNm mi == "<init>" && mO mi == a)
def rtc (t : Option FieldType) : Nat := match t with
  | none => 0 | some .long => 2 | _ => 1
/-- the kind of a receiver -/
def rkd (a : Nat) : Nat := if mO a = 15 then 40 else mO a
def chk (mi pc : Nat) (i : Instr) (e : En) : Bool := match e with
  | (op, _, a, b, c, ci, cl, tg) => op == 63 || (match i with
    | .iconst n => op == 0 && ci == Int32.ofInt n
    | .bipush n => op == 0 && ci == (Int8.ofInt n).toInt32
    | .sipush n => op == 0 && ci == (Int16.ofInt n).toInt32
    | .ldc k => (op == 0 && any3 cst (mO mi) k ci) || (op == 59 && any3 srf (mO mi) k a)
    | .ldc_w k => op == 0 && any3 cst (mO mi) k ci
    | .ldc2_w k => op == 1 && any3 cstl (mO mi) k cl
    | .lconst n => op == 1 && cl == Int64.ofNat n.val
    | .iload_n k => op == 2 && a == k.val
    | .iload k => op == 2 && a == k
    | .lload_n k => op == 3 && a == k.val
    | .lload k => op == 3 && a == k
    | .aload_n k => op == 4 && a == k.val
    | .aload k => op == 4 && a == k
    | .istore_n k => op == 5 && a == k.val && decide (a < mMx mi)
    | .istore k => op == 5 && a == k && decide (a < mMx mi)
    | .lstore_n k => op == 6 && a == k.val && decide (a + 1 < mMx mi)
    | .lstore k => op == 6 && a == k && decide (a + 1 < mMx mi)
    | .astore_n k => op == 7 && a == k.val && decide (a < mMx mi)
    | .astore k => op == 7 && a == k && decide (a < mMx mi)
    | .iinc k n => op == 8 && a == k && ci == Int32.ofInt n && decide (a < mMx mi)
    | .iadd => op == 9 && a == 0
    | .isub => op == 9 && a == 1
    | .imul => op == 9 && a == 2
    | .iand => op == 9 && a == 3
    | .ior => op == 9 && a == 4
    | .ixor => op == 9 && a == 5
    | .ishl => op == 9 && a == 6
    | .ishr => op == 9 && a == 7
    | .idiv => op == 10
    | .irem => op == 11
    | .ineg => op == 12
    | .ladd => op == 13 && a == 0
    | .lsub => op == 13 && a == 1
    | .lmul => op == 13 && a == 2
    | .land => op == 13 && a == 3
    | .lor => op == 13 && a == 4
    | .lshl => op == 14
    | .lshr => op == 15
    | .ldiv => op == 16
    | .lrem => op == 17
    | .i2l => op == 18
    | .l2i => op == 19
    | .i2c => op == 20
    | .i2b => op == 62
    | .lcmp => op == 21
    | .dup => op == 22
    | .dup2 => op == 23
    | .pop => op == 61
    | .if_icmp cd off => op == 24 && a == cCode cd && decide ((pc : Int) + off = (b : Int))
    | .ifCond cd off => op == 25 && a == cCode cd && decide ((pc : Int) + off = (b : Int))
    | .goto off => op == 26 && decide ((pc : Int) + off = (b : Int))
    | .tableswitch d lo hi offs => op == 27 && decide (ci.toInt = lo ∧ (pc : Int) + d = (b : Int) ∧ hi = lo + tg.length - 1 ∧ offs.toList.map (fun off => (pc : Int) + off) = tg.map (fun (t : Nat) => (t : Int)) ∧ (-1000 ≤ lo ∧ lo ≤ 1000) ∧ tg.length < 1000)
    | .ifnull _ => op == 28
    | .getfield k => (op == 29 && any4 flk (mO mi) k a b && (fK a b == 100 || fK a b == 101)) || (op == 30 && any4 flk (mO mi) k a b && fK a b == 102) || (op == 31 && any4 flk (mO mi) k a b && fK a b == c && decide (c < 40)) || (op == 57 && any3 slk (mO mi) k 0) || (op == 58 && any3 slk (mO mi) k 1)
    | .putfield k => any4 flk (mO mi) k a b && finOk mi a b && ((op == 32 && fK a b == 100) || (op == 33 && fK a b == 101) || (op == 34 && fK a b == 102) || (op == 35 && fK a b == c && decide (c < 40)))
    | .arraylength => op == 36
    | .iaload => op == 37
    | .laload => op == 38
    | .caload => op == 39
    | .baload => op == 40
    | .aaload => op == 41
    | .iastore => op == 42
    | .lastore => op == 43
    | .castore => op == 44
    | .bastore => op == 45
    | .aastore => op == 46
    | .newarray t => op == 47 && a == aKd t && decide (a < 40)
    | .anewarray k => op == 48 && any3 clk (mO mi) k 1
    | .new k => op == 49 && any3 clk (mO mi) k a && b == cF a
    | .invokevirtual k => op == 50 && (any4 mlk (mO mi) k a 0 || any4 mlk (mO mi) k a 1) && b == mNp a + 1 && tg == [rkd a] && c == rtc (mRt a) && decide (mKd a < 2)
    | .invokestatic k => (op == 50 && any4 mlk (mO mi) k a 0 && b == mNp a && tg == [] && c == rtc (mRt a) && mKd a == 2) || (op == 52 && any2 alk (mO mi) k)
    | .invokespecial k => (op == 50 && (any4 mlk (mO mi) k a 0 || any4 mlk (mO mi) k a 1) && b == mNp a + 1 && tg == [rkd a] && c == 0 && mRt a == none && mKd a == 3) || (op == 51 && any2 olk (mO mi) k)
    | .ireturn => op == 53 && mRt mi == some (match a with
      | 0 => .int | 1 => .boolean | 2 => .byte | _ => .char)
    | .lreturn => op == 54 && mRt mi == some .long
    | .return_ => op == 55 && mRt mi == none
    | .getstatic k => (op == 56 && ci == 1 && any3 slk (mO mi) k 2) || (op == 60 && any3 slk (mO mi) k 3)
    | _ => false)
theorem W.sz {p : Program} {l : Launch} {e : Env} {R : Room} {s : State} {m : MethodId} {args : Array Value} {below : List Frame} {meth : Method} {c : Code} {H : Heap} {locs : List Loc} {cells slots : Nat} {Q : State → Prop} {f : JFrame}
    (kk : H.size ≤ s.heap.size + cells → W p l e R s m args below meth c H locs cells slots Q f) : W p l e R s m args below meth c H locs cells slots Q f :=
  fun T hT X => kk (by have := X.heapSize; rw [hT] at this; exact this) T hT X
/-- room: what is made till the end fits, and d calls within one another -/
def Rm (R : Room) (hf : Hp) (c0 s0 d : Nat) : Prop := hC hf - c0 ≤ R.cells ∧ hS hf - s0 ≤ R.slots ∧ d + 1 ≤ R.frames ∧ 64 * (d + 1) ≤ R.locals
def Cx (g : GG) (L : Nat) (xs : Nat → Int32) (p : Program) (R : Room) (s : State) (m : MethodId) (args : Array Value) (meth : Method) (c : Code) (mi c0 s0 d : Nat) (hf : Hp) : Prop :=
  p.tables.exec = Jvm.exec ∧ c.code = mCd mi ∧ c.maxLocals = mMx mi ∧ s.vm.findClass (ownOf (mO mi)) = some m.cls ∧ (∀ w ∈ gtbl, w.before args s = true) ∧ meth.name = mNm mi ∧ Evn g L xs s ∧ s.heap.size = gB g + c0 ∧ Rm R hf c0 s0 d
def WA (g : GG) (p : Program) (l : Launch) (e : Env) (R : Room) (s : State) (m : MethodId) (args : Array Value) (below : List Frame) (meth : Method) (c : Code) (mi c0 s0 : Nat) (Q : State → Prop) (S : St) : Prop :=
  ∀ (H : Heap) (locs : List Loc) (ls : Array Slot), Hold g S.2.2.2 H → va_S (gA g) s.heap H locs → lh g S.2.1 (mMx mi) ls → W p l e R s m args below meth c H locs (hC S.2.2.2 - c0) (hS S.2.2.2 - s0) Q (F0 m S.1 ls (S.2.2.1.map (cv g)))
def wtS (L : Nat) (xs : Nat → Int32) (c0 s0 : Nat) (S : St) : Prop := wtH L xs S.2.2.2 ∧ (∀ v ∈ S.2.2.1, vok S.2.2.2 v) ∧ (∀ (k : Nat) (v : AV), S.2.1[k]? = some (some v) → vok S.2.2.2 v) ∧ c0 ≤ hC S.2.2.2 ∧ s0 ≤ hS S.2.2.2
def Gd (g : GG) (L : Nat) (xs : Nat → Int32) (p : Program) (l : Launch) (e : Env) (R : Room) (s : State) (m : MethodId) (args : Array Value) (below : List Frame) (meth : Method) (c : Code) (mi c0 s0 d : Nat) (Q : State → Prop) (rv : Option AV) (hf : Hp) (S : St) : Prop :=
  (gro S.2.2.2 hf ∧ wtH L xs hf ∧ rok hf rv) ∧ (Cx g L xs p R s m args meth c mi c0 s0 d hf → WA g p l e R s m args below meth c mi c0 s0 Q S)
section Snd
variable {g : GG} {L : Nat} {xs : Nat → Int32} {p : Program} {l : Launch} {e : Env} {R : Room} {s : State} {m : MethodId} {args : Array Value} {below : List Frame} {meth : Method} {c : Code} {mi c0 s0 d : Nat} {Q : State → Prop} {rv : Option AV} {hf : Hp}
variable {kn : St → Option Rs} {kc : Nat → List AV → Hp → Option Rs} {pc pc' : Nat} {lo lo' : Lo} {st st' : List AV} {h : Hp} {op nx a b c9 : Nat} {ci : Int32} {cl : Int64} {tg : List Nat}
theorem wtS.vi {x : Int32} (w : wtS L xs c0 s0 (pc, lo, st, h)) : wtS L xs c0 s0 (pc, lo, vI x :: st, h) := ⟨w.1, fun v hv => (List.mem_cons.mp hv).elim (fun q => by subst q; trivial) (fun q => w.2.1 v q), w.2.2⟩
theorem wtS.vl {x : Int64} (w : wtS L xs c0 s0 (pc, lo, st, h)) : wtS L xs c0 s0 (pc, lo, vL x :: st, h) := ⟨w.1, fun v hv => (List.mem_cons.mp hv).elim (fun q => by subst q; trivial) (fun q => w.2.1 v q), w.2.2⟩
theorem wtS.vr {k r : Nat} (w : wtS L xs c0 s0 (pc, lo, st, h)) (hk : kok h k r) : wtS L xs c0 s0 (pc, lo, vR k r :: st, h) := ⟨w.1, fun v hv => (List.mem_cons.mp hv).elim (fun q => by subst q; exact hk) (fun q => w.2.1 v q), w.2.2⟩
theorem wtS.dr {v : AV} (w : wtS L xs c0 s0 (pc, lo, v :: st, h)) : wtS L xs c0 s0 (pc, lo, st, h) := ⟨w.1, fun v hv => w.2.1 v (List.mem_cons_of_mem _ hv), w.2.2⟩
theorem wtS.pp (w : wtS L xs c0 s0 (pc, lo, st, h)) : wtS L xs c0 s0 (pc', lo, st, h) := w
theorem wtS.top {v : AV} (w : wtS L xs c0 s0 (pc, lo, v :: st, h)) : vok h v := w.2.1 v List.mem_cons_self
theorem wtS.loc {v : AV} (w : wtS L xs c0 s0 (pc, lo, st, h)) (hv : lget lo a = some v) : vok h v := w.2.2.1 a v (lget_at hv)
theorem wtS.st1 {v : AV} (w : wtS L xs c0 s0 (pc, lo, st, h)) (hv : vok h v) : wtS L xs c0 s0 (pc, lset1 lo a v, st, h) := by
  refine ⟨w.1, w.2.1, fun k u hu => ?_, w.2.2.2⟩
  have hu : ((lclr lo a).set a (some v))[k]? = some (some u) := hu
  rw [List.getElem?_set] at hu
  split at hu
  · split at hu
    · cases hu; exact hv
    · cases hu
  · exact w.2.2.1 k u (lclr_sub hu).1
theorem wtS.st2 {v : AV} (w : wtS L xs c0 s0 (pc, lo, st, h)) (hv : vok h v) : wtS L xs c0 s0 (pc, lset2 lo a v, st, h) := by
  refine ⟨w.1, w.2.1, fun k u hu => ?_, w.2.2.2⟩
  have hu : (((lclr lo a).set (a + 1) none).set a (some v))[k]? = some (some u) := hu
  rw [List.getElem?_set] at hu
  split at hu
  · split at hu
    · cases hu; exact hv
    · cases hu
  · rw [List.getElem?_set] at hu
    split at hu
    · split at hu <;> cases hu
    · exact w.2.2.1 k u (lclr_sub hu).1
theorem gnop (ih : Gd g L xs p l e R s m args below meth c mi c0 s0 d Q rv hf (pc', lo', st', h))
    (row : Cx g L xs p R s m args meth c mi c0 s0 d hf → ∀ (H : Heap) (locs : List Loc) (ls : Array Slot), Hold g h H → va_S (gA g) s.heap H locs → lh g lo (mMx mi) ls → (∀ ls' : Array Slot, lh g lo' (mMx mi) ls' → W p l e R s m args below meth c H locs (hC h - c0) (hS h - s0) Q (F0 m pc' ls' (st'.map (cv g)))) → W p l e R s m args below meth c H locs (hC h - c0) (hS h - s0) Q (F0 m pc ls (st.map (cv g)))) :
    Gd g L xs p l e R s m args below meth c mi c0 s0 d Q rv hf (pc, lo, st, h) :=
  ⟨ih.1, fun C H locs ls hH hS hl => row C H locs ls hH hS hl (fun ls' hl' => ih.2 C H locs ls' hH hS hl')⟩
/-- what all the rows below take -/
abbrev Pk (g : GG) (L : Nat) (xs : Nat → Int32) (p : Program) (l : Launch) (e : Env) (R : Room) (s : State) (m : MethodId) (args : Array Value) (below : List Frame) (meth : Method) (c : Code) (mi c0 s0 d : Nat) (Q : State → Prop) (rv : Option AV) (hf : Hp) (kn : St → Option Rs) : Prop :=
  ∀ S, kn S = some (rv, hf) → wtS L xs c0 s0 S → Gd g L xs p l e R s m args below meth c mi c0 s0 d Q rv hf S

set_option maxHeartbeats 1000000 in
theorem s_iconst {n : Int} (C : Pk g L xs p l e R s m args below meth c mi c0 s0 d Q rv hf kn) (hd : decode (mCd mi) pc = .ok (.iconst n, 1)) (hc : chk mi pc (.iconst n) (op, pc + 1, a, b, c9, ci, cl, tg) = true) (wt : wtS L xs c0 s0 (pc, lo, st, h)) (H : o_op kn kc (op, pc + 1, a, b, c9, ci, cl, tg) lo st h = some (rv, hf)) : Gd g L xs p l e R s m args below meth c mi c0 s0 d Q rv hf (pc, lo, st, h) := by
  have IH := C
  by_cases h63 : op = 63
  · subst h63
    have : (none : Option Rs) = some (rv, hf) := H
    cases this
  simp [chk, h63] at hc
  obtain ⟨rfl, rfl⟩ := hc
  change kn (pc + 1, lo, vI (Int32.ofInt n) :: st, h) = some (rv, hf) at H
  exact gnop (IH _ H wt.vi) (fun ⟨hx, hb, hml, hown, hts, hmn, hE, hz, hRm⟩ H locs ls hH hS hl kk => lv_iconst hx hb hd rfl (kk ls hl))

set_option maxHeartbeats 1000000 in
theorem s_bipush {n : Int} (C : Pk g L xs p l e R s m args below meth c mi c0 s0 d Q rv hf kn) (hd : decode (mCd mi) pc = .ok (.bipush n, 2)) (hc : chk mi pc (.bipush n) (op, pc + 2, a, b, c9, ci, cl, tg) = true) (wt : wtS L xs c0 s0 (pc, lo, st, h)) (H : o_op kn kc (op, pc + 2, a, b, c9, ci, cl, tg) lo st h = some (rv, hf)) : Gd g L xs p l e R s m args below meth c mi c0 s0 d Q rv hf (pc, lo, st, h) := by
  have IH := C
  by_cases h63 : op = 63
  · subst h63
    have : (none : Option Rs) = some (rv, hf) := H
    cases this
  simp [chk, h63] at hc
  obtain ⟨rfl, rfl⟩ := hc
  change kn (pc + 2, lo, vI (Int8.ofInt n).toInt32 :: st, h) = some (rv, hf) at H
  exact gnop (IH _ H wt.vi) (fun ⟨hx, hb, hml, hown, hts, hmn, hE, hz, hRm⟩ H locs ls hH hS hl kk => lv_bipush hx hb hd rfl (kk ls hl))

set_option maxHeartbeats 1000000 in
theorem s_sipush {n : Int} (C : Pk g L xs p l e R s m args below meth c mi c0 s0 d Q rv hf kn) (hd : decode (mCd mi) pc = .ok (.sipush n, 3)) (hc : chk mi pc (.sipush n) (op, pc + 3, a, b, c9, ci, cl, tg) = true) (wt : wtS L xs c0 s0 (pc, lo, st, h)) (H : o_op kn kc (op, pc + 3, a, b, c9, ci, cl, tg) lo st h = some (rv, hf)) : Gd g L xs p l e R s m args below meth c mi c0 s0 d Q rv hf (pc, lo, st, h) := by
  have IH := C
  by_cases h63 : op = 63
  · subst h63
    have : (none : Option Rs) = some (rv, hf) := H
    cases this
  simp [chk, h63] at hc
  obtain ⟨rfl, rfl⟩ := hc
  change kn (pc + 3, lo, vI (Int16.ofInt n).toInt32 :: st, h) = some (rv, hf) at H
  exact gnop (IH _ H wt.vi) (fun ⟨hx, hb, hml, hown, hts, hmn, hE, hz, hRm⟩ H locs ls hH hS hl kk => lv_sipush hx hb hd rfl (kk ls hl))

set_option maxHeartbeats 1000000 in
theorem s_iload {k9 : Nat} (C : Pk g L xs p l e R s m args below meth c mi c0 s0 d Q rv hf kn) (hd : decode (mCd mi) pc = .ok (.iload k9, 2)) (hc : chk mi pc (.iload k9) (op, pc + 2, a, b, c9, ci, cl, tg) = true) (wt : wtS L xs c0 s0 (pc, lo, st, h)) (H : o_op kn kc (op, pc + 2, a, b, c9, ci, cl, tg) lo st h = some (rv, hf)) : Gd g L xs p l e R s m args below meth c mi c0 s0 d Q rv hf (pc, lo, st, h) := by
  have IH := C
  by_cases h63 : op = 63
  · subst h63
    have : (none : Option Rs) = some (rv, hf) := H
    cases this
  simp [chk, h63] at hc
  obtain ⟨rfl, rfl⟩ := hc
  change (match (generalizing := false) lget lo a with
    | some (.inl x) => kn (pc + 2, lo, vI x :: st, h)
    | _ => none) = some (rv, hf) at H
  split at H
  · rename_i x hg
    exact gnop (IH _ H wt.vi) (fun ⟨hx, hb, hml, hown, hts, hmn, hE, hz, hRm⟩ H locs ls hH hS hl kk => lv_iload hx hb hd (hl.at hg) (kk ls hl))
  · cases H

set_option maxHeartbeats 1000000 in
theorem s_iload_n {k9 : Fin 4} (C : Pk g L xs p l e R s m args below meth c mi c0 s0 d Q rv hf kn) (hd : decode (mCd mi) pc = .ok (.iload_n k9, 1)) (hc : chk mi pc (.iload_n k9) (op, pc + 1, a, b, c9, ci, cl, tg) = true) (wt : wtS L xs c0 s0 (pc, lo, st, h)) (H : o_op kn kc (op, pc + 1, a, b, c9, ci, cl, tg) lo st h = some (rv, hf)) : Gd g L xs p l e R s m args below meth c mi c0 s0 d Q rv hf (pc, lo, st, h) := by
  have IH := C
  by_cases h63 : op = 63
  · subst h63
    have : (none : Option Rs) = some (rv, hf) := H
    cases this
  simp [chk, h63] at hc
  obtain ⟨rfl, rfl⟩ := hc
  change (match (generalizing := false) lget lo k9.val with
    | some (.inl x) => kn (pc + 1, lo, vI x :: st, h)
    | _ => none) = some (rv, hf) at H
  split at H
  · rename_i x hg
    exact gnop (IH _ H wt.vi) (fun ⟨hx, hb, hml, hown, hts, hmn, hE, hz, hRm⟩ H locs ls hH hS hl kk => lv_iload_n hx hb hd rfl (hl.at hg) (kk ls hl))
  · cases H

set_option maxHeartbeats 1000000 in
theorem s_lload {k9 : Nat} (C : Pk g L xs p l e R s m args below meth c mi c0 s0 d Q rv hf kn) (hd : decode (mCd mi) pc = .ok (.lload k9, 2)) (hc : chk mi pc (.lload k9) (op, pc + 2, a, b, c9, ci, cl, tg) = true) (wt : wtS L xs c0 s0 (pc, lo, st, h)) (H : o_op kn kc (op, pc + 2, a, b, c9, ci, cl, tg) lo st h = some (rv, hf)) : Gd g L xs p l e R s m args below meth c mi c0 s0 d Q rv hf (pc, lo, st, h) := by
  have IH := C
  by_cases h63 : op = 63
  · subst h63
    have : (none : Option Rs) = some (rv, hf) := H
    cases this
  simp [chk, h63] at hc
  obtain ⟨rfl, rfl⟩ := hc
  change (match (generalizing := false) lget lo a with
    | some (.inr (.inl x)) => kn (pc + 2, lo, vL x :: st, h)
    | _ => none) = some (rv, hf) at H
  split at H
  · rename_i x hg
    exact gnop (IH _ H wt.vl) (fun ⟨hx, hb, hml, hown, hts, hmn, hE, hz, hRm⟩ H locs ls hH hS hl kk => lv_lload hx hb hd (hl.at hg) (kk ls hl))
  · cases H

set_option maxHeartbeats 1000000 in
theorem s_lload_n {k9 : Fin 4} (C : Pk g L xs p l e R s m args below meth c mi c0 s0 d Q rv hf kn) (hd : decode (mCd mi) pc = .ok (.lload_n k9, 1)) (hc : chk mi pc (.lload_n k9) (op, pc + 1, a, b, c9, ci, cl, tg) = true) (wt : wtS L xs c0 s0 (pc, lo, st, h)) (H : o_op kn kc (op, pc + 1, a, b, c9, ci, cl, tg) lo st h = some (rv, hf)) : Gd g L xs p l e R s m args below meth c mi c0 s0 d Q rv hf (pc, lo, st, h) := by
  have IH := C
  by_cases h63 : op = 63
  · subst h63
    have : (none : Option Rs) = some (rv, hf) := H
    cases this
  simp [chk, h63] at hc
  obtain ⟨rfl, rfl⟩ := hc
  change (match (generalizing := false) lget lo k9.val with
    | some (.inr (.inl x)) => kn (pc + 1, lo, vL x :: st, h)
    | _ => none) = some (rv, hf) at H
  split at H
  · rename_i x hg
    exact gnop (IH _ H wt.vl) (fun ⟨hx, hb, hml, hown, hts, hmn, hE, hz, hRm⟩ H locs ls hH hS hl kk => lv_lload_n hx hb hd rfl (hl.at hg) (kk ls hl))
  · cases H

set_option maxHeartbeats 1000000 in
theorem s_aload {k9 : Nat} (C : Pk g L xs p l e R s m args below meth c mi c0 s0 d Q rv hf kn) (hd : decode (mCd mi) pc = .ok (.aload k9, 2)) (hc : chk mi pc (.aload k9) (op, pc + 2, a, b, c9, ci, cl, tg) = true) (wt : wtS L xs c0 s0 (pc, lo, st, h)) (H : o_op kn kc (op, pc + 2, a, b, c9, ci, cl, tg) lo st h = some (rv, hf)) : Gd g L xs p l e R s m args below meth c mi c0 s0 d Q rv hf (pc, lo, st, h) := by
  have IH := C
  by_cases h63 : op = 63
  · subst h63
    have : (none : Option Rs) = some (rv, hf) := H
    cases this
  simp [chk, h63] at hc
  obtain ⟨rfl, rfl⟩ := hc
  change (match (generalizing := false) lget lo a with
    | some (.inr (.inr (k, r))) => bif Nat.beq k 43 then none else kn (pc + 2, lo, vR k r :: st, h)
    | _ => none) = some (rv, hf) at H
  split at H
  · rename_i k r hg
    cases hk : Nat.beq k 43
    · rw [hk] at H
      exact gnop (IH _ H (wt.vr (wt.loc hg))) (fun ⟨hx, hb, hml, hown, hts, hmn, hE, hz, hRm⟩ H locs ls hH hS hl kk => by
        have e1 := hl.at hg
        rw [cv_r (Nat.ne_of_beq_eq_false hk)] at e1
        have e2 := kk ls hl
        rw [List.map_cons, cv_r (Nat.ne_of_beq_eq_false hk)] at e2
        exact lv_aload hx hb hd e1 e2)
    · rw [hk] at H; cases H
  · cases H

set_option maxHeartbeats 1000000 in
theorem s_aload_n {k9 : Fin 4} (C : Pk g L xs p l e R s m args below meth c mi c0 s0 d Q rv hf kn) (hd : decode (mCd mi) pc = .ok (.aload_n k9, 1)) (hc : chk mi pc (.aload_n k9) (op, pc + 1, a, b, c9, ci, cl, tg) = true) (wt : wtS L xs c0 s0 (pc, lo, st, h)) (H : o_op kn kc (op, pc + 1, a, b, c9, ci, cl, tg) lo st h = some (rv, hf)) : Gd g L xs p l e R s m args below meth c mi c0 s0 d Q rv hf (pc, lo, st, h) := by
  have IH := C
  by_cases h63 : op = 63
  · subst h63
    have : (none : Option Rs) = some (rv, hf) := H
    cases this
  simp [chk, h63] at hc
  obtain ⟨rfl, rfl⟩ := hc
  change (match (generalizing := false) lget lo k9.val with
    | some (.inr (.inr (k, r))) => bif Nat.beq k 43 then none else kn (pc + 1, lo, vR k r :: st, h)
    | _ => none) = some (rv, hf) at H
  split at H
  · rename_i k r hg
    cases hk : Nat.beq k 43
    · rw [hk] at H
      exact gnop (IH _ H (wt.vr (wt.loc hg))) (fun ⟨hx, hb, hml, hown, hts, hmn, hE, hz, hRm⟩ H locs ls hH hS hl kk => by
        have e1 := hl.at hg
        rw [cv_r (Nat.ne_of_beq_eq_false hk)] at e1
        have e2 := kk ls hl
        rw [List.map_cons, cv_r (Nat.ne_of_beq_eq_false hk)] at e2
        exact lv_aload_n hx hb hd rfl e1 e2)
    · rw [hk] at H; cases H
  · cases H

set_option maxHeartbeats 1000000 in
theorem s_istore {k9 : Nat} (C : Pk g L xs p l e R s m args below meth c mi c0 s0 d Q rv hf kn) (hd : decode (mCd mi) pc = .ok (.istore k9, 2)) (hc : chk mi pc (.istore k9) (op, pc + 2, a, b, c9, ci, cl, tg) = true) (wt : wtS L xs c0 s0 (pc, lo, st, h)) (H : o_op kn kc (op, pc + 2, a, b, c9, ci, cl, tg) lo st h = some (rv, hf)) : Gd g L xs p l e R s m args below meth c mi c0 s0 d Q rv hf (pc, lo, st, h) := by
  have IH := C
  by_cases h63 : op = 63
  · subst h63
    have : (none : Option Rs) = some (rv, hf) := H
    cases this
  simp [chk, h63] at hc
  obtain ⟨⟨rfl, rfl⟩, hlt⟩ := hc
  change (match (generalizing := false) st with
    | .inl x :: st => frc (lset1 lo a (vI x)) (fun lo => kn (pc + 2, lo, st, h))
    | _ => none) = some (rv, hf) at H
  split at H
  · rename_i x st
    rw [frc_eq] at H
    exact gnop (IH _ H (wt.dr.st1 trivial)) (fun ⟨hx, hb, hml, hown, hts, hmn, hE, hz, hRm⟩ H locs ls hH hS hl kk => lv_istore hx hb hd hl.2 hlt rfl (fun ls' hl' => kk ls' (hl.set1 hE.2.2.2.2.2.2.2.2.2.2 hl')))
  · cases H

set_option maxHeartbeats 1000000 in
theorem s_lstore {k9 : Nat} (C : Pk g L xs p l e R s m args below meth c mi c0 s0 d Q rv hf kn) (hd : decode (mCd mi) pc = .ok (.lstore k9, 2)) (hc : chk mi pc (.lstore k9) (op, pc + 2, a, b, c9, ci, cl, tg) = true) (wt : wtS L xs c0 s0 (pc, lo, st, h)) (H : o_op kn kc (op, pc + 2, a, b, c9, ci, cl, tg) lo st h = some (rv, hf)) : Gd g L xs p l e R s m args below meth c mi c0 s0 d Q rv hf (pc, lo, st, h) := by
  have IH := C
  by_cases h63 : op = 63
  · subst h63
    have : (none : Option Rs) = some (rv, hf) := H
    cases this
  simp [chk, h63] at hc
  obtain ⟨⟨rfl, rfl⟩, hlt⟩ := hc
  change (match (generalizing := false) st with
    | .inr (.inl x) :: st => frc (lset2 lo a (vL x)) (fun lo => kn (pc + 2, lo, st, h))
    | _ => none) = some (rv, hf) at H
  split at H
  · rename_i x st
    rw [frc_eq] at H
    exact gnop (IH _ H (wt.dr.st2 trivial)) (fun ⟨hx, hb, hml, hown, hts, hmn, hE, hz, hRm⟩ H locs ls hH hS hl kk => lv_lstore hx hb hd hl.2 hlt rfl (fun ls' hl' => kk ls' (hl.set2 hE.2.2.2.2.2.2.2.2.2.2 hl')))
  · cases H

set_option maxHeartbeats 1000000 in
theorem s_astore {k9 : Nat} (C : Pk g L xs p l e R s m args below meth c mi c0 s0 d Q rv hf kn) (hd : decode (mCd mi) pc = .ok (.astore k9, 2)) (hc : chk mi pc (.astore k9) (op, pc + 2, a, b, c9, ci, cl, tg) = true) (wt : wtS L xs c0 s0 (pc, lo, st, h)) (H : o_op kn kc (op, pc + 2, a, b, c9, ci, cl, tg) lo st h = some (rv, hf)) : Gd g L xs p l e R s m args below meth c mi c0 s0 d Q rv hf (pc, lo, st, h) := by
  have IH := C
  by_cases h63 : op = 63
  · subst h63
    have : (none : Option Rs) = some (rv, hf) := H
    cases this
  simp [chk, h63] at hc
  obtain ⟨⟨rfl, rfl⟩, hlt⟩ := hc
  change (match (generalizing := false) st with
    | .inr (.inr (k, r)) :: st => bif Nat.beq k 43 then none else frc (lset1 lo a (vR k r)) (fun lo => kn (pc + 2, lo, st, h))
    | _ => none) = some (rv, hf) at H
  split at H
  · rename_i k r st
    cases hk : Nat.beq k 43
    · rw [hk, Bool.cond_false, frc_eq] at H
      exact gnop (IH _ H (wt.dr.st1 wt.top)) (fun ⟨hx, hb, hml, hown, hts, hmn, hE, hz, hRm⟩ H locs ls hH hS hl kk => by
        rw [List.map_cons, cv_r (Nat.ne_of_beq_eq_false hk)]
        exact lv_astore hx hb hd hl.2 hlt rfl (fun ls' hl' => kk ls' (hl.set1 (v := vR k r) hE.2.2.2.2.2.2.2.2.2.2 (by rw [cv_r (Nat.ne_of_beq_eq_false hk)]; exact hl'))))
    · rw [hk] at H; cases H
  · cases H

set_option maxHeartbeats 1000000 in
theorem s_istore_n {k9 : Fin 4} (C : Pk g L xs p l e R s m args below meth c mi c0 s0 d Q rv hf kn) (hd : decode (mCd mi) pc = .ok (.istore_n k9, 1)) (hc : chk mi pc (.istore_n k9) (op, pc + 1, a, b, c9, ci, cl, tg) = true) (wt : wtS L xs c0 s0 (pc, lo, st, h)) (H : o_op kn kc (op, pc + 1, a, b, c9, ci, cl, tg) lo st h = some (rv, hf)) : Gd g L xs p l e R s m args below meth c mi c0 s0 d Q rv hf (pc, lo, st, h) := by
  have IH := C
  by_cases h63 : op = 63
  · subst h63
    have : (none : Option Rs) = some (rv, hf) := H
    cases this
  simp [chk, h63] at hc
  obtain ⟨⟨rfl, rfl⟩, hlt⟩ := hc
  change (match (generalizing := false) st with
    | .inl x :: st => frc (lset1 lo k9.val (vI x)) (fun lo => kn (pc + 1, lo, st, h))
    | _ => none) = some (rv, hf) at H
  split at H
  · rename_i x st
    rw [frc_eq] at H
    exact gnop (IH _ H (wt.dr.st1 trivial)) (fun ⟨hx, hb, hml, hown, hts, hmn, hE, hz, hRm⟩ H locs ls hH hS hl kk => lv_istore_n hx hb hd rfl hl.2 hlt rfl (fun ls' hl' => kk ls' (hl.set1 hE.2.2.2.2.2.2.2.2.2.2 hl')))
  · cases H

set_option maxHeartbeats 1000000 in
theorem s_lstore_n {k9 : Fin 4} (C : Pk g L xs p l e R s m args below meth c mi c0 s0 d Q rv hf kn) (hd : decode (mCd mi) pc = .ok (.lstore_n k9, 1)) (hc : chk mi pc (.lstore_n k9) (op, pc + 1, a, b, c9, ci, cl, tg) = true) (wt : wtS L xs c0 s0 (pc, lo, st, h)) (H : o_op kn kc (op, pc + 1, a, b, c9, ci, cl, tg) lo st h = some (rv, hf)) : Gd g L xs p l e R s m args below meth c mi c0 s0 d Q rv hf (pc, lo, st, h) := by
  have IH := C
  by_cases h63 : op = 63
  · subst h63
    have : (none : Option Rs) = some (rv, hf) := H
    cases this
  simp [chk, h63] at hc
  obtain ⟨⟨rfl, rfl⟩, hlt⟩ := hc
  change (match (generalizing := false) st with
    | .inr (.inl x) :: st => frc (lset2 lo k9.val (vL x)) (fun lo => kn (pc + 1, lo, st, h))
    | _ => none) = some (rv, hf) at H
  split at H
  · rename_i x st
    rw [frc_eq] at H
    exact gnop (IH _ H (wt.dr.st2 trivial)) (fun ⟨hx, hb, hml, hown, hts, hmn, hE, hz, hRm⟩ H locs ls hH hS hl kk => lv_lstore_n hx hb hd rfl hl.2 hlt rfl (fun ls' hl' => kk ls' (hl.set2 hE.2.2.2.2.2.2.2.2.2.2 hl')))
  · cases H

set_option maxHeartbeats 1000000 in
theorem s_astore_n {k9 : Fin 4} (C : Pk g L xs p l e R s m args below meth c mi c0 s0 d Q rv hf kn) (hd : decode (mCd mi) pc = .ok (.astore_n k9, 1)) (hc : chk mi pc (.astore_n k9) (op, pc + 1, a, b, c9, ci, cl, tg) = true) (wt : wtS L xs c0 s0 (pc, lo, st, h)) (H : o_op kn kc (op, pc + 1, a, b, c9, ci, cl, tg) lo st h = some (rv, hf)) : Gd g L xs p l e R s m args below meth c mi c0 s0 d Q rv hf (pc, lo, st, h) := by
  have IH := C
  by_cases h63 : op = 63
  · subst h63
    have : (none : Option Rs) = some (rv, hf) := H
    cases this
  simp [chk, h63] at hc
  obtain ⟨⟨rfl, rfl⟩, hlt⟩ := hc
  change (match (generalizing := false) st with
    | .inr (.inr (k, r)) :: st => bif Nat.beq k 43 then none else frc (lset1 lo k9.val (vR k r)) (fun lo => kn (pc + 1, lo, st, h))
    | _ => none) = some (rv, hf) at H
  split at H
  · rename_i k r st
    cases hk : Nat.beq k 43
    · rw [hk, Bool.cond_false, frc_eq] at H
      exact gnop (IH _ H (wt.dr.st1 wt.top)) (fun ⟨hx, hb, hml, hown, hts, hmn, hE, hz, hRm⟩ H locs ls hH hS hl kk => by
        rw [List.map_cons, cv_r (Nat.ne_of_beq_eq_false hk)]
        exact lv_astore_n hx hb hd rfl hl.2 hlt rfl (fun ls' hl' => kk ls' (hl.set1 (v := vR k r) hE.2.2.2.2.2.2.2.2.2.2 (by rw [cv_r (Nat.ne_of_beq_eq_false hk)]; exact hl'))))
    · rw [hk] at H; cases H
  · cases H

set_option maxHeartbeats 1000000 in
theorem s_iinc {k9 : Nat} {n9 : Int} (C : Pk g L xs p l e R s m args below meth c mi c0 s0 d Q rv hf kn) (hd : decode (mCd mi) pc = .ok (.iinc k9 n9, 3)) (hc : chk mi pc (.iinc k9 n9) (op, pc + 3, a, b, c9, ci, cl, tg) = true) (wt : wtS L xs c0 s0 (pc, lo, st, h)) (H : o_op kn kc (op, pc + 3, a, b, c9, ci, cl, tg) lo st h = some (rv, hf)) : Gd g L xs p l e R s m args below meth c mi c0 s0 d Q rv hf (pc, lo, st, h) := by
  have IH := C
  by_cases h63 : op = 63
  · subst h63
    have : (none : Option Rs) = some (rv, hf) := H
    cases this
  simp [chk, h63] at hc
  obtain ⟨⟨⟨rfl, rfl⟩, rfl⟩, hlt⟩ := hc
  change (match (generalizing := false) lget lo a with
    | some (.inl x) => frc (lset1 lo a (vI (x + Int32.ofInt n9))) (fun lo => kn (pc + 3, lo, st, h))
    | _ => none) = some (rv, hf) at H
  split at H
  · rename_i x hg
    rw [frc_eq] at H
    refine gnop (IH _ H (wt.st1 trivial)) (fun ⟨hx, hb, hml, hown, hts, hmn, hE, hz, hRm⟩ H locs ls hH hS hl kk => ?_)
    obtain ⟨k, hk⟩ := List.getElem?_of_mem (lvp_mem.mpr ⟨vI x, Nat.zero_le _, by rw [Nat.sub_zero]; exact lget_at hg, rfl⟩ : (a, cv g (vI x)) ∈ lvp g 0 lo)
    exact lv_iinc hx hb hd hl.2 hk rfl hlt rfl (fun ls' hl' => kk ls' (hl.set1 (v := vI (x + Int32.ofInt n9)) hE.2.2.2.2.2.2.2.2.2.2 hl'))
  · cases H

set_option maxHeartbeats 1000000 in
theorem s_iadd (C : Pk g L xs p l e R s m args below meth c mi c0 s0 d Q rv hf kn) (hd : decode (mCd mi) pc = .ok (.iadd, 1)) (hc : chk mi pc (.iadd) (op, pc + 1, a, b, c9, ci, cl, tg) = true) (wt : wtS L xs c0 s0 (pc, lo, st, h)) (H : o_op kn kc (op, pc + 1, a, b, c9, ci, cl, tg) lo st h = some (rv, hf)) : Gd g L xs p l e R s m args below meth c mi c0 s0 d Q rv hf (pc, lo, st, h) := by
  have IH := C
  by_cases h63 : op = 63
  · subst h63
    have : (none : Option Rs) = some (rv, hf) := H
    cases this
  simp [chk, h63] at hc
  obtain ⟨rfl, rfl⟩ := hc
  change (match (generalizing := false) st with
    | .inl y :: .inl x :: st => kn (pc + 1, lo, vI (x + y) :: st, h)
    | _ => none) = some (rv, hf) at H
  split at H
  · rename_i y x st
    exact gnop (IH _ H wt.dr.dr.vi) (fun ⟨hx, hb, hml, hown, hts, hmn, hE, hz, hRm⟩ H locs ls hH hS hl kk => lv_iadd hx hb hd (kk ls hl))
  · cases H

set_option maxHeartbeats 1000000 in
theorem s_isub (C : Pk g L xs p l e R s m args below meth c mi c0 s0 d Q rv hf kn) (hd : decode (mCd mi) pc = .ok (.isub, 1)) (hc : chk mi pc (.isub) (op, pc + 1, a, b, c9, ci, cl, tg) = true) (wt : wtS L xs c0 s0 (pc, lo, st, h)) (H : o_op kn kc (op, pc + 1, a, b, c9, ci, cl, tg) lo st h = some (rv, hf)) : Gd g L xs p l e R s m args below meth c mi c0 s0 d Q rv hf (pc, lo, st, h) := by
  have IH := C
  by_cases h63 : op = 63
  · subst h63
    have : (none : Option Rs) = some (rv, hf) := H
    cases this
  simp [chk, h63] at hc
  obtain ⟨rfl, rfl⟩ := hc
  change (match (generalizing := false) st with
    | .inl y :: .inl x :: st => kn (pc + 1, lo, vI (x - y) :: st, h)
    | _ => none) = some (rv, hf) at H
  split at H
  · rename_i y x st
    exact gnop (IH _ H wt.dr.dr.vi) (fun ⟨hx, hb, hml, hown, hts, hmn, hE, hz, hRm⟩ H locs ls hH hS hl kk => lv_isub hx hb hd (kk ls hl))
  · cases H

set_option maxHeartbeats 1000000 in
theorem s_imul (C : Pk g L xs p l e R s m args below meth c mi c0 s0 d Q rv hf kn) (hd : decode (mCd mi) pc = .ok (.imul, 1)) (hc : chk mi pc (.imul) (op, pc + 1, a, b, c9, ci, cl, tg) = true) (wt : wtS L xs c0 s0 (pc, lo, st, h)) (H : o_op kn kc (op, pc + 1, a, b, c9, ci, cl, tg) lo st h = some (rv, hf)) : Gd g L xs p l e R s m args below meth c mi c0 s0 d Q rv hf (pc, lo, st, h) := by
  have IH := C
  by_cases h63 : op = 63
  · subst h63
    have : (none : Option Rs) = some (rv, hf) := H
    cases this
  simp [chk, h63] at hc
  obtain ⟨rfl, rfl⟩ := hc
  change (match (generalizing := false) st with
    | .inl y :: .inl x :: st => kn (pc + 1, lo, vI (x * y) :: st, h)
    | _ => none) = some (rv, hf) at H
  split at H
  · rename_i y x st
    exact gnop (IH _ H wt.dr.dr.vi) (fun ⟨hx, hb, hml, hown, hts, hmn, hE, hz, hRm⟩ H locs ls hH hS hl kk => lv_imul hx hb hd (kk ls hl))
  · cases H

set_option maxHeartbeats 1000000 in
theorem s_iand (C : Pk g L xs p l e R s m args below meth c mi c0 s0 d Q rv hf kn) (hd : decode (mCd mi) pc = .ok (.iand, 1)) (hc : chk mi pc (.iand) (op, pc + 1, a, b, c9, ci, cl, tg) = true) (wt : wtS L xs c0 s0 (pc, lo, st, h)) (H : o_op kn kc (op, pc + 1, a, b, c9, ci, cl, tg) lo st h = some (rv, hf)) : Gd g L xs p l e R s m args below meth c mi c0 s0 d Q rv hf (pc, lo, st, h) := by
  have IH := C
  by_cases h63 : op = 63
  · subst h63
    have : (none : Option Rs) = some (rv, hf) := H
    cases this
  simp [chk, h63] at hc
  obtain ⟨rfl, rfl⟩ := hc
  change (match (generalizing := false) st with
    | .inl y :: .inl x :: st => kn (pc + 1, lo, vI (x &&& y) :: st, h)
    | _ => none) = some (rv, hf) at H
  split at H
  · rename_i y x st
    exact gnop (IH _ H wt.dr.dr.vi) (fun ⟨hx, hb, hml, hown, hts, hmn, hE, hz, hRm⟩ H locs ls hH hS hl kk => lv_iand hx hb hd (kk ls hl))
  · cases H

set_option maxHeartbeats 1000000 in
theorem s_ior (C : Pk g L xs p l e R s m args below meth c mi c0 s0 d Q rv hf kn) (hd : decode (mCd mi) pc = .ok (.ior, 1)) (hc : chk mi pc (.ior) (op, pc + 1, a, b, c9, ci, cl, tg) = true) (wt : wtS L xs c0 s0 (pc, lo, st, h)) (H : o_op kn kc (op, pc + 1, a, b, c9, ci, cl, tg) lo st h = some (rv, hf)) : Gd g L xs p l e R s m args below meth c mi c0 s0 d Q rv hf (pc, lo, st, h) := by
  have IH := C
  by_cases h63 : op = 63
  · subst h63
    have : (none : Option Rs) = some (rv, hf) := H
    cases this
  simp [chk, h63] at hc
  obtain ⟨rfl, rfl⟩ := hc
  change (match (generalizing := false) st with
    | .inl y :: .inl x :: st => kn (pc + 1, lo, vI (x ||| y) :: st, h)
    | _ => none) = some (rv, hf) at H
  split at H
  · rename_i y x st
    exact gnop (IH _ H wt.dr.dr.vi) (fun ⟨hx, hb, hml, hown, hts, hmn, hE, hz, hRm⟩ H locs ls hH hS hl kk => lv_ior hx hb hd (kk ls hl))
  · cases H

set_option maxHeartbeats 1000000 in
theorem s_ixor (C : Pk g L xs p l e R s m args below meth c mi c0 s0 d Q rv hf kn) (hd : decode (mCd mi) pc = .ok (.ixor, 1)) (hc : chk mi pc (.ixor) (op, pc + 1, a, b, c9, ci, cl, tg) = true) (wt : wtS L xs c0 s0 (pc, lo, st, h)) (H : o_op kn kc (op, pc + 1, a, b, c9, ci, cl, tg) lo st h = some (rv, hf)) : Gd g L xs p l e R s m args below meth c mi c0 s0 d Q rv hf (pc, lo, st, h) := by
  have IH := C
  by_cases h63 : op = 63
  · subst h63
    have : (none : Option Rs) = some (rv, hf) := H
    cases this
  simp [chk, h63] at hc
  obtain ⟨rfl, rfl⟩ := hc
  change (match (generalizing := false) st with
    | .inl y :: .inl x :: st => kn (pc + 1, lo, vI (x ^^^ y) :: st, h)
    | _ => none) = some (rv, hf) at H
  split at H
  · rename_i y x st
    exact gnop (IH _ H wt.dr.dr.vi) (fun ⟨hx, hb, hml, hown, hts, hmn, hE, hz, hRm⟩ H locs ls hH hS hl kk => lv_ixor hx hb hd (kk ls hl))
  · cases H

set_option maxHeartbeats 1000000 in
theorem s_ishl (C : Pk g L xs p l e R s m args below meth c mi c0 s0 d Q rv hf kn) (hd : decode (mCd mi) pc = .ok (.ishl, 1)) (hc : chk mi pc (.ishl) (op, pc + 1, a, b, c9, ci, cl, tg) = true) (wt : wtS L xs c0 s0 (pc, lo, st, h)) (H : o_op kn kc (op, pc + 1, a, b, c9, ci, cl, tg) lo st h = some (rv, hf)) : Gd g L xs p l e R s m args below meth c mi c0 s0 d Q rv hf (pc, lo, st, h) := by
  have IH := C
  by_cases h63 : op = 63
  · subst h63
    have : (none : Option Rs) = some (rv, hf) := H
    cases this
  simp [chk, h63] at hc
  obtain ⟨rfl, rfl⟩ := hc
  change (match (generalizing := false) st with
    | .inl y :: .inl x :: st => kn (pc + 1, lo, vI (x <<< (y &&& 31)) :: st, h)
    | _ => none) = some (rv, hf) at H
  split at H
  · rename_i y x st
    exact gnop (IH _ H wt.dr.dr.vi) (fun ⟨hx, hb, hml, hown, hts, hmn, hE, hz, hRm⟩ H locs ls hH hS hl kk => lv_ishl hx hb hd (kk ls hl))
  · cases H

set_option maxHeartbeats 1000000 in
theorem s_ishr (C : Pk g L xs p l e R s m args below meth c mi c0 s0 d Q rv hf kn) (hd : decode (mCd mi) pc = .ok (.ishr, 1)) (hc : chk mi pc (.ishr) (op, pc + 1, a, b, c9, ci, cl, tg) = true) (wt : wtS L xs c0 s0 (pc, lo, st, h)) (H : o_op kn kc (op, pc + 1, a, b, c9, ci, cl, tg) lo st h = some (rv, hf)) : Gd g L xs p l e R s m args below meth c mi c0 s0 d Q rv hf (pc, lo, st, h) := by
  have IH := C
  by_cases h63 : op = 63
  · subst h63
    have : (none : Option Rs) = some (rv, hf) := H
    cases this
  simp [chk, h63] at hc
  obtain ⟨rfl, rfl⟩ := hc
  change (match (generalizing := false) st with
    | .inl y :: .inl x :: st => kn (pc + 1, lo, vI (x >>> (y &&& 31)) :: st, h)
    | _ => none) = some (rv, hf) at H
  split at H
  · rename_i y x st
    exact gnop (IH _ H wt.dr.dr.vi) (fun ⟨hx, hb, hml, hown, hts, hmn, hE, hz, hRm⟩ H locs ls hH hS hl kk => lv_ishr hx hb hd (kk ls hl))
  · cases H

set_option maxHeartbeats 1000000 in
theorem s_idiv (C : Pk g L xs p l e R s m args below meth c mi c0 s0 d Q rv hf kn) (hd : decode (mCd mi) pc = .ok (.idiv, 1)) (hc : chk mi pc (.idiv) (op, pc + 1, a, b, c9, ci, cl, tg) = true) (wt : wtS L xs c0 s0 (pc, lo, st, h)) (H : o_op kn kc (op, pc + 1, a, b, c9, ci, cl, tg) lo st h = some (rv, hf)) : Gd g L xs p l e R s m args below meth c mi c0 s0 d Q rv hf (pc, lo, st, h) := by
  have IH := C
  by_cases h63 : op = 63
  · subst h63
    have : (none : Option Rs) = some (rv, hf) := H
    cases this
  simp [chk, h63] at hc
  obtain rfl := hc
  change (match (generalizing := false) st with
    | .inl y :: .inl x :: st => ifp (y = 0) none (kn (pc + 1, lo, vI (x / y) :: st, h))
    | _ => none) = some (rv, hf) at H
  split at H
  · rename_i y x st
    by_cases hg : y = 0
    · rw [ifp_t hg] at H; cases H
    · rw [ifp_f hg] at H
      exact gnop (IH _ H wt.dr.dr.vi) (fun ⟨hx, hb, hml, hown, hts, hmn, hE, hz, hRm⟩ H locs ls hH hS hl kk => lv_idiv hx hb hd hg (kk ls hl))
  · cases H

set_option maxHeartbeats 1000000 in
theorem s_irem (C : Pk g L xs p l e R s m args below meth c mi c0 s0 d Q rv hf kn) (hd : decode (mCd mi) pc = .ok (.irem, 1)) (hc : chk mi pc (.irem) (op, pc + 1, a, b, c9, ci, cl, tg) = true) (wt : wtS L xs c0 s0 (pc, lo, st, h)) (H : o_op kn kc (op, pc + 1, a, b, c9, ci, cl, tg) lo st h = some (rv, hf)) : Gd g L xs p l e R s m args below meth c mi c0 s0 d Q rv hf (pc, lo, st, h) := by
  have IH := C
  by_cases h63 : op = 63
  · subst h63
    have : (none : Option Rs) = some (rv, hf) := H
    cases this
  simp [chk, h63] at hc
  obtain rfl := hc
  change (match (generalizing := false) st with
    | .inl y :: .inl x :: st => ifp (y = 0) none (kn (pc + 1, lo, vI (irem x y) :: st, h))
    | _ => none) = some (rv, hf) at H
  split at H
  · rename_i y x st
    by_cases hg : y = 0
    · rw [ifp_t hg] at H; cases H
    · rw [ifp_f hg] at H
      exact gnop (IH _ H wt.dr.dr.vi) (fun ⟨hx, hb, hml, hown, hts, hmn, hE, hz, hRm⟩ H locs ls hH hS hl kk => lv_irem hx hb hd hg (kk ls hl))
  · cases H

set_option maxHeartbeats 1000000 in
theorem s_ldiv (C : Pk g L xs p l e R s m args below meth c mi c0 s0 d Q rv hf kn) (hd : decode (mCd mi) pc = .ok (.ldiv, 1)) (hc : chk mi pc (.ldiv) (op, pc + 1, a, b, c9, ci, cl, tg) = true) (wt : wtS L xs c0 s0 (pc, lo, st, h)) (H : o_op kn kc (op, pc + 1, a, b, c9, ci, cl, tg) lo st h = some (rv, hf)) : Gd g L xs p l e R s m args below meth c mi c0 s0 d Q rv hf (pc, lo, st, h) := by
  have IH := C
  by_cases h63 : op = 63
  · subst h63
    have : (none : Option Rs) = some (rv, hf) := H
    cases this
  simp [chk, h63] at hc
  obtain rfl := hc
  change (match (generalizing := false) st with
    | .inr (.inl y) :: .inr (.inl x) :: st => ifp (y = 0) none (kn (pc + 1, lo, vL (x / y) :: st, h))
    | _ => none) = some (rv, hf) at H
  split at H
  · rename_i y x st
    by_cases hg : y = 0
    · rw [ifp_t hg] at H; cases H
    · rw [ifp_f hg] at H
      exact gnop (IH _ H wt.dr.dr.vl) (fun ⟨hx, hb, hml, hown, hts, hmn, hE, hz, hRm⟩ H locs ls hH hS hl kk => lv_ldiv hx hb hd hg (kk ls hl))
  · cases H

set_option maxHeartbeats 1000000 in
theorem s_lrem (C : Pk g L xs p l e R s m args below meth c mi c0 s0 d Q rv hf kn) (hd : decode (mCd mi) pc = .ok (.lrem, 1)) (hc : chk mi pc (.lrem) (op, pc + 1, a, b, c9, ci, cl, tg) = true) (wt : wtS L xs c0 s0 (pc, lo, st, h)) (H : o_op kn kc (op, pc + 1, a, b, c9, ci, cl, tg) lo st h = some (rv, hf)) : Gd g L xs p l e R s m args below meth c mi c0 s0 d Q rv hf (pc, lo, st, h) := by
  have IH := C
  by_cases h63 : op = 63
  · subst h63
    have : (none : Option Rs) = some (rv, hf) := H
    cases this
  simp [chk, h63] at hc
  obtain rfl := hc
  change (match (generalizing := false) st with
    | .inr (.inl y) :: .inr (.inl x) :: st => ifp (y = 0) none (kn (pc + 1, lo, vL (lrem x y) :: st, h))
    | _ => none) = some (rv, hf) at H
  split at H
  · rename_i y x st
    by_cases hg : y = 0
    · rw [ifp_t hg] at H; cases H
    · rw [ifp_f hg] at H
      exact gnop (IH _ H wt.dr.dr.vl) (fun ⟨hx, hb, hml, hown, hts, hmn, hE, hz, hRm⟩ H locs ls hH hS hl kk => lv_lrem hx hb hd hg (kk ls hl))
  · cases H

set_option maxHeartbeats 1000000 in
theorem s_ineg (C : Pk g L xs p l e R s m args below meth c mi c0 s0 d Q rv hf kn) (hd : decode (mCd mi) pc = .ok (.ineg, 1)) (hc : chk mi pc (.ineg) (op, pc + 1, a, b, c9, ci, cl, tg) = true) (wt : wtS L xs c0 s0 (pc, lo, st, h)) (H : o_op kn kc (op, pc + 1, a, b, c9, ci, cl, tg) lo st h = some (rv, hf)) : Gd g L xs p l e R s m args below meth c mi c0 s0 d Q rv hf (pc, lo, st, h) := by
  have IH := C
  by_cases h63 : op = 63
  · subst h63
    have : (none : Option Rs) = some (rv, hf) := H
    cases this
  simp [chk, h63] at hc
  obtain rfl := hc
  change (match (generalizing := false) st with
    | .inl x :: st => kn (pc + 1, lo, vI (-x) :: st, h)
    | _ => none) = some (rv, hf) at H
  split at H
  · rename_i x st
    exact gnop (IH _ H wt.dr.vi) (fun ⟨hx, hb, hml, hown, hts, hmn, hE, hz, hRm⟩ H locs ls hH hS hl kk => lv_ineg hx hb hd (kk ls hl))
  · cases H

set_option maxHeartbeats 1000000 in
theorem s_ladd (C : Pk g L xs p l e R s m args below meth c mi c0 s0 d Q rv hf kn) (hd : decode (mCd mi) pc = .ok (.ladd, 1)) (hc : chk mi pc (.ladd) (op, pc + 1, a, b, c9, ci, cl, tg) = true) (wt : wtS L xs c0 s0 (pc, lo, st, h)) (H : o_op kn kc (op, pc + 1, a, b, c9, ci, cl, tg) lo st h = some (rv, hf)) : Gd g L xs p l e R s m args below meth c mi c0 s0 d Q rv hf (pc, lo, st, h) := by
  have IH := C
  by_cases h63 : op = 63
  · subst h63
    have : (none : Option Rs) = some (rv, hf) := H
    cases this
  simp [chk, h63] at hc
  obtain ⟨rfl, rfl⟩ := hc
  change (match (generalizing := false) st with
    | .inr (.inl y) :: .inr (.inl x) :: st => kn (pc + 1, lo, vL (x + y) :: st, h)
    | _ => none) = some (rv, hf) at H
  split at H
  · rename_i y x st
    exact gnop (IH _ H wt.dr.dr.vl) (fun ⟨hx, hb, hml, hown, hts, hmn, hE, hz, hRm⟩ H locs ls hH hS hl kk => lv_ladd hx hb hd (kk ls hl))
  · cases H

set_option maxHeartbeats 1000000 in
theorem s_lsub (C : Pk g L xs p l e R s m args below meth c mi c0 s0 d Q rv hf kn) (hd : decode (mCd mi) pc = .ok (.lsub, 1)) (hc : chk mi pc (.lsub) (op, pc + 1, a, b, c9, ci, cl, tg) = true) (wt : wtS L xs c0 s0 (pc, lo, st, h)) (H : o_op kn kc (op, pc + 1, a, b, c9, ci, cl, tg) lo st h = some (rv, hf)) : Gd g L xs p l e R s m args below meth c mi c0 s0 d Q rv hf (pc, lo, st, h) := by
  have IH := C
  by_cases h63 : op = 63
  · subst h63
    have : (none : Option Rs) = some (rv, hf) := H
    cases this
  simp [chk, h63] at hc
  obtain ⟨rfl, rfl⟩ := hc
  change (match (generalizing := false) st with
    | .inr (.inl y) :: .inr (.inl x) :: st => kn (pc + 1, lo, vL (x - y) :: st, h)
    | _ => none) = some (rv, hf) at H
  split at H
  · rename_i y x st
    exact gnop (IH _ H wt.dr.dr.vl) (fun ⟨hx, hb, hml, hown, hts, hmn, hE, hz, hRm⟩ H locs ls hH hS hl kk => lv_lsub hx hb hd (kk ls hl))
  · cases H

set_option maxHeartbeats 1000000 in
theorem s_lmul (C : Pk g L xs p l e R s m args below meth c mi c0 s0 d Q rv hf kn) (hd : decode (mCd mi) pc = .ok (.lmul, 1)) (hc : chk mi pc (.lmul) (op, pc + 1, a, b, c9, ci, cl, tg) = true) (wt : wtS L xs c0 s0 (pc, lo, st, h)) (H : o_op kn kc (op, pc + 1, a, b, c9, ci, cl, tg) lo st h = some (rv, hf)) : Gd g L xs p l e R s m args below meth c mi c0 s0 d Q rv hf (pc, lo, st, h) := by
  have IH := C
  by_cases h63 : op = 63
  · subst h63
    have : (none : Option Rs) = some (rv, hf) := H
    cases this
  simp [chk, h63] at hc
  obtain ⟨rfl, rfl⟩ := hc
  change (match (generalizing := false) st with
    | .inr (.inl y) :: .inr (.inl x) :: st => kn (pc + 1, lo, vL (x * y) :: st, h)
    | _ => none) = some (rv, hf) at H
  split at H
  · rename_i y x st
    exact gnop (IH _ H wt.dr.dr.vl) (fun ⟨hx, hb, hml, hown, hts, hmn, hE, hz, hRm⟩ H locs ls hH hS hl kk => lv_lmul hx hb hd (kk ls hl))
  · cases H

set_option maxHeartbeats 1000000 in
theorem s_land (C : Pk g L xs p l e R s m args below meth c mi c0 s0 d Q rv hf kn) (hd : decode (mCd mi) pc = .ok (.land, 1)) (hc : chk mi pc (.land) (op, pc + 1, a, b, c9, ci, cl, tg) = true) (wt : wtS L xs c0 s0 (pc, lo, st, h)) (H : o_op kn kc (op, pc + 1, a, b, c9, ci, cl, tg) lo st h = some (rv, hf)) : Gd g L xs p l e R s m args below meth c mi c0 s0 d Q rv hf (pc, lo, st, h) := by
  have IH := C
  by_cases h63 : op = 63
  · subst h63
    have : (none : Option Rs) = some (rv, hf) := H
    cases this
  simp [chk, h63] at hc
  obtain ⟨rfl, rfl⟩ := hc
  change (match (generalizing := false) st with
    | .inr (.inl y) :: .inr (.inl x) :: st => kn (pc + 1, lo, vL (x &&& y) :: st, h)
    | _ => none) = some (rv, hf) at H
  split at H
  · rename_i y x st
    exact gnop (IH _ H wt.dr.dr.vl) (fun ⟨hx, hb, hml, hown, hts, hmn, hE, hz, hRm⟩ H locs ls hH hS hl kk => lv_land hx hb hd (kk ls hl))
  · cases H

set_option maxHeartbeats 1000000 in
theorem s_lor (C : Pk g L xs p l e R s m args below meth c mi c0 s0 d Q rv hf kn) (hd : decode (mCd mi) pc = .ok (.lor, 1)) (hc : chk mi pc (.lor) (op, pc + 1, a, b, c9, ci, cl, tg) = true) (wt : wtS L xs c0 s0 (pc, lo, st, h)) (H : o_op kn kc (op, pc + 1, a, b, c9, ci, cl, tg) lo st h = some (rv, hf)) : Gd g L xs p l e R s m args below meth c mi c0 s0 d Q rv hf (pc, lo, st, h) := by
  have IH := C
  by_cases h63 : op = 63
  · subst h63
    have : (none : Option Rs) = some (rv, hf) := H
    cases this
  simp [chk, h63] at hc
  obtain ⟨rfl, rfl⟩ := hc
  change (match (generalizing := false) st with
    | .inr (.inl y) :: .inr (.inl x) :: st => kn (pc + 1, lo, vL (x ||| y) :: st, h)
    | _ => none) = some (rv, hf) at H
  split at H
  · rename_i y x st
    exact gnop (IH _ H wt.dr.dr.vl) (fun ⟨hx, hb, hml, hown, hts, hmn, hE, hz, hRm⟩ H locs ls hH hS hl kk => lv_lor hx hb hd (kk ls hl))
  · cases H

set_option maxHeartbeats 1000000 in
theorem s_lshl (C : Pk g L xs p l e R s m args below meth c mi c0 s0 d Q rv hf kn) (hd : decode (mCd mi) pc = .ok (.lshl, 1)) (hc : chk mi pc (.lshl) (op, pc + 1, a, b, c9, ci, cl, tg) = true) (wt : wtS L xs c0 s0 (pc, lo, st, h)) (H : o_op kn kc (op, pc + 1, a, b, c9, ci, cl, tg) lo st h = some (rv, hf)) : Gd g L xs p l e R s m args below meth c mi c0 s0 d Q rv hf (pc, lo, st, h) := by
  have IH := C
  by_cases h63 : op = 63
  · subst h63
    have : (none : Option Rs) = some (rv, hf) := H
    cases this
  simp [chk, h63] at hc
  obtain rfl := hc
  change (match (generalizing := false) st with
    | .inl y :: .inr (.inl x) :: st => kn (pc + 1, lo, vL (x <<< (y.toInt64 &&& 63)) :: st, h)
    | _ => none) = some (rv, hf) at H
  split at H
  · rename_i y x st
    exact gnop (IH _ H wt.dr.dr.vl) (fun ⟨hx, hb, hml, hown, hts, hmn, hE, hz, hRm⟩ H locs ls hH hS hl kk => lv_lshl hx hb hd rfl (kk ls hl))
  · cases H

set_option maxHeartbeats 1000000 in
theorem s_lshr (C : Pk g L xs p l e R s m args below meth c mi c0 s0 d Q rv hf kn) (hd : decode (mCd mi) pc = .ok (.lshr, 1)) (hc : chk mi pc (.lshr) (op, pc + 1, a, b, c9, ci, cl, tg) = true) (wt : wtS L xs c0 s0 (pc, lo, st, h)) (H : o_op kn kc (op, pc + 1, a, b, c9, ci, cl, tg) lo st h = some (rv, hf)) : Gd g L xs p l e R s m args below meth c mi c0 s0 d Q rv hf (pc, lo, st, h) := by
  have IH := C
  by_cases h63 : op = 63
  · subst h63
    have : (none : Option Rs) = some (rv, hf) := H
    cases this
  simp [chk, h63] at hc
  obtain rfl := hc
  change (match (generalizing := false) st with
    | .inl y :: .inr (.inl x) :: st => kn (pc + 1, lo, vL (x >>> (y.toInt64 &&& 63)) :: st, h)
    | _ => none) = some (rv, hf) at H
  split at H
  · rename_i y x st
    exact gnop (IH _ H wt.dr.dr.vl) (fun ⟨hx, hb, hml, hown, hts, hmn, hE, hz, hRm⟩ H locs ls hH hS hl kk => lv_lshr hx hb hd rfl (kk ls hl))
  · cases H

set_option maxHeartbeats 1000000 in
theorem s_i2l (C : Pk g L xs p l e R s m args below meth c mi c0 s0 d Q rv hf kn) (hd : decode (mCd mi) pc = .ok (.i2l, 1)) (hc : chk mi pc (.i2l) (op, pc + 1, a, b, c9, ci, cl, tg) = true) (wt : wtS L xs c0 s0 (pc, lo, st, h)) (H : o_op kn kc (op, pc + 1, a, b, c9, ci, cl, tg) lo st h = some (rv, hf)) : Gd g L xs p l e R s m args below meth c mi c0 s0 d Q rv hf (pc, lo, st, h) := by
  have IH := C
  by_cases h63 : op = 63
  · subst h63
    have : (none : Option Rs) = some (rv, hf) := H
    cases this
  simp [chk, h63] at hc
  obtain rfl := hc
  change (match (generalizing := false) st with
    | .inl x :: st => kn (pc + 1, lo, vL x.toInt64 :: st, h)
    | _ => none) = some (rv, hf) at H
  split at H
  · rename_i x st
    exact gnop (IH _ H wt.dr.vl) (fun ⟨hx, hb, hml, hown, hts, hmn, hE, hz, hRm⟩ H locs ls hH hS hl kk => lv_i2l hx hb hd rfl (kk ls hl))
  · cases H

set_option maxHeartbeats 1000000 in
theorem s_l2i (C : Pk g L xs p l e R s m args below meth c mi c0 s0 d Q rv hf kn) (hd : decode (mCd mi) pc = .ok (.l2i, 1)) (hc : chk mi pc (.l2i) (op, pc + 1, a, b, c9, ci, cl, tg) = true) (wt : wtS L xs c0 s0 (pc, lo, st, h)) (H : o_op kn kc (op, pc + 1, a, b, c9, ci, cl, tg) lo st h = some (rv, hf)) : Gd g L xs p l e R s m args below meth c mi c0 s0 d Q rv hf (pc, lo, st, h) := by
  have IH := C
  by_cases h63 : op = 63
  · subst h63
    have : (none : Option Rs) = some (rv, hf) := H
    cases this
  simp [chk, h63] at hc
  obtain rfl := hc
  change (match (generalizing := false) st with
    | .inr (.inl x) :: st => kn (pc + 1, lo, vI x.toInt32 :: st, h)
    | _ => none) = some (rv, hf) at H
  split at H
  · rename_i x st
    exact gnop (IH _ H wt.dr.vi) (fun ⟨hx, hb, hml, hown, hts, hmn, hE, hz, hRm⟩ H locs ls hH hS hl kk => lv_l2i hx hb hd rfl (kk ls hl))
  · cases H

set_option maxHeartbeats 1000000 in
theorem s_i2c (C : Pk g L xs p l e R s m args below meth c mi c0 s0 d Q rv hf kn) (hd : decode (mCd mi) pc = .ok (.i2c, 1)) (hc : chk mi pc (.i2c) (op, pc + 1, a, b, c9, ci, cl, tg) = true) (wt : wtS L xs c0 s0 (pc, lo, st, h)) (H : o_op kn kc (op, pc + 1, a, b, c9, ci, cl, tg) lo st h = some (rv, hf)) : Gd g L xs p l e R s m args below meth c mi c0 s0 d Q rv hf (pc, lo, st, h) := by
  have IH := C
  by_cases h63 : op = 63
  · subst h63
    have : (none : Option Rs) = some (rv, hf) := H
    cases this
  simp [chk, h63] at hc
  obtain rfl := hc
  change (match (generalizing := false) st with
    | .inl x :: st => kn (pc + 1, lo, vI (chr x) :: st, h)
    | _ => none) = some (rv, hf) at H
  split at H
  · rename_i x st
    exact gnop (IH _ H wt.dr.vi) (fun ⟨hx, hb, hml, hown, hts, hmn, hE, hz, hRm⟩ H locs ls hH hS hl kk => lv_i2c hx hb hd rfl (kk ls hl))
  · cases H

set_option maxHeartbeats 1000000 in
theorem s_i2b (C : Pk g L xs p l e R s m args below meth c mi c0 s0 d Q rv hf kn) (hd : decode (mCd mi) pc = .ok (.i2b, 1)) (hc : chk mi pc (.i2b) (op, pc + 1, a, b, c9, ci, cl, tg) = true) (wt : wtS L xs c0 s0 (pc, lo, st, h)) (H : o_op kn kc (op, pc + 1, a, b, c9, ci, cl, tg) lo st h = some (rv, hf)) : Gd g L xs p l e R s m args below meth c mi c0 s0 d Q rv hf (pc, lo, st, h) := by
  have IH := C
  by_cases h63 : op = 63
  · subst h63
    have : (none : Option Rs) = some (rv, hf) := H
    cases this
  simp [chk, h63] at hc
  obtain rfl := hc
  change (match (generalizing := false) st with
    | .inl x :: st => kn (pc + 1, lo, vI x.toInt8.toInt32 :: st, h)
    | _ => none) = some (rv, hf) at H
  split at H
  · rename_i x st
    exact gnop (IH _ H wt.dr.vi) (fun ⟨hx, hb, hml, hown, hts, hmn, hE, hz, hRm⟩ H locs ls hH hS hl kk => lv_i2b hx hb hd rfl (kk ls hl))
  · cases H

set_option maxHeartbeats 1000000 in
theorem s_lcmp (C : Pk g L xs p l e R s m args below meth c mi c0 s0 d Q rv hf kn) (hd : decode (mCd mi) pc = .ok (.lcmp, 1)) (hc : chk mi pc (.lcmp) (op, pc + 1, a, b, c9, ci, cl, tg) = true) (wt : wtS L xs c0 s0 (pc, lo, st, h)) (H : o_op kn kc (op, pc + 1, a, b, c9, ci, cl, tg) lo st h = some (rv, hf)) : Gd g L xs p l e R s m args below meth c mi c0 s0 d Q rv hf (pc, lo, st, h) := by
  have IH := C
  by_cases h63 : op = 63
  · subst h63
    have : (none : Option Rs) = some (rv, hf) := H
    cases this
  simp [chk, h63] at hc
  obtain rfl := hc
  change (match (generalizing := false) st with
    | .inr (.inl y) :: .inr (.inl x) :: st => kn (pc + 1, lo, vI (lg_cmp x y) :: st, h)
    | _ => none) = some (rv, hf) at H
  split at H
  · rename_i y x st
    exact gnop (IH _ H wt.dr.dr.vi) (fun ⟨hx, hb, hml, hown, hts, hmn, hE, hz, hRm⟩ H locs ls hH hS hl kk => W.lcmp hx hb hd (kk ls hl))
  · cases H

set_option maxHeartbeats 1000000 in
theorem s_pop (C : Pk g L xs p l e R s m args below meth c mi c0 s0 d Q rv hf kn) (hd : decode (mCd mi) pc = .ok (.pop, 1)) (hc : chk mi pc (.pop) (op, pc + 1, a, b, c9, ci, cl, tg) = true) (wt : wtS L xs c0 s0 (pc, lo, st, h)) (H : o_op kn kc (op, pc + 1, a, b, c9, ci, cl, tg) lo st h = some (rv, hf)) : Gd g L xs p l e R s m args below meth c mi c0 s0 d Q rv hf (pc, lo, st, h) := by
  have IH := C
  by_cases h63 : op = 63
  · subst h63
    have : (none : Option Rs) = some (rv, hf) := H
    cases this
  simp [chk, h63] at hc
  obtain rfl := hc
  change (match (generalizing := false) st with
    | .inl x :: st => kn (pc + 1, lo, st, h)
    | _ => none) = some (rv, hf) at H
  split at H
  · rename_i x st
    exact gnop (IH _ H wt.dr) (fun ⟨hx, hb, hml, hown, hts, hmn, hE, hz, hRm⟩ H locs ls hH hS hl kk => lv_pop hx hb hd rfl (kk ls hl))
  · cases H

set_option maxHeartbeats 1000000 in
theorem s_icmp {cd : ClassFile.Cond} {off : Int} (C : Pk g L xs p l e R s m args below meth c mi c0 s0 d Q rv hf kn) (hd : decode (mCd mi) pc = .ok (.if_icmp cd off, 3)) (hc : chk mi pc (.if_icmp cd off) (op, pc + 3, a, b, c9, ci, cl, tg) = true) (wt : wtS L xs c0 s0 (pc, lo, st, h)) (H : o_op kn kc (op, pc + 3, a, b, c9, ci, cl, tg) lo st h = some (rv, hf)) : Gd g L xs p l e R s m args below meth c mi c0 s0 d Q rv hf (pc, lo, st, h) := by
  have IH := C
  by_cases h63 : op = 63
  · subst h63
    have : (none : Option Rs) = some (rv, hf) := H
    cases this
  simp [chk, h63] at hc
  obtain ⟨⟨rfl, rfl⟩, ht⟩ := hc
  change (match (generalizing := false) st with
    | .inl y :: .inl x :: st => cnd (cCode cd) x y (kn (b, lo, st, h)) (kn (pc + 3, lo, st, h))
    | _ => none) = some (rv, hf) at H
  split at H
  · rename_i y x st
    cases cd
    · change ifp (x = y) (kn (b, lo, st, h)) (kn (pc + 3, lo, st, h)) = some (rv, hf) at H
      by_cases hq : x = y
      · rw [ifp_t hq] at H
        exact gnop (IH _ H wt.dr.dr) (fun ⟨hx, hb, hml, hown, hts, hmn, hE, hz, hRm⟩ H locs ls hH hS hl kk => lv_icmp_eq hx hb hd ht (fun _ => kk ls hl) (fun q => absurd hq q))
      · rw [ifp_f hq] at H
        exact gnop (IH _ H wt.dr.dr) (fun ⟨hx, hb, hml, hown, hts, hmn, hE, hz, hRm⟩ H locs ls hH hS hl kk => lv_icmp_eq hx hb hd ht (fun q => absurd q hq) (fun _ => kk ls hl))
    · change ifp (x = y) (kn (pc + 3, lo, st, h)) (kn (b, lo, st, h)) = some (rv, hf) at H
      by_cases hq : x = y
      · rw [ifp_t hq] at H
        exact gnop (IH _ H wt.dr.dr) (fun ⟨hx, hb, hml, hown, hts, hmn, hE, hz, hRm⟩ H locs ls hH hS hl kk => lv_icmp_ne hx hb hd ht (fun q => absurd hq q) (fun _ => kk ls hl))
      · rw [ifp_f hq] at H
        exact gnop (IH _ H wt.dr.dr) (fun ⟨hx, hb, hml, hown, hts, hmn, hE, hz, hRm⟩ H locs ls hH hS hl kk => lv_icmp_ne hx hb hd ht (fun _ => kk ls hl) (fun q => absurd q hq))
    · change ifp (x < y) (kn (b, lo, st, h)) (kn (pc + 3, lo, st, h)) = some (rv, hf) at H
      by_cases hq : x < y
      · rw [ifp_t hq] at H
        exact gnop (IH _ H wt.dr.dr) (fun ⟨hx, hb, hml, hown, hts, hmn, hE, hz, hRm⟩ H locs ls hH hS hl kk => lv_icmp_lt hx hb hd ht (fun _ => kk ls hl) (fun q => absurd hq q))
      · rw [ifp_f hq] at H
        exact gnop (IH _ H wt.dr.dr) (fun ⟨hx, hb, hml, hown, hts, hmn, hE, hz, hRm⟩ H locs ls hH hS hl kk => lv_icmp_lt hx hb hd ht (fun q => absurd q hq) (fun _ => kk ls hl))
    · change ifp (x < y) (kn (pc + 3, lo, st, h)) (kn (b, lo, st, h)) = some (rv, hf) at H
      by_cases hq : x < y
      · rw [ifp_t hq] at H
        exact gnop (IH _ H wt.dr.dr) (fun ⟨hx, hb, hml, hown, hts, hmn, hE, hz, hRm⟩ H locs ls hH hS hl kk => lv_icmp_ge hx hb hd ht (fun q => absurd hq (Int32.not_lt.mpr q)) (fun _ => kk ls hl))
      · rw [ifp_f hq] at H
        exact gnop (IH _ H wt.dr.dr) (fun ⟨hx, hb, hml, hown, hts, hmn, hE, hz, hRm⟩ H locs ls hH hS hl kk => lv_icmp_ge hx hb hd ht (fun _ => kk ls hl) (fun q => absurd (Int32.not_le.mp q) hq))
    · change ifp (y < x) (kn (b, lo, st, h)) (kn (pc + 3, lo, st, h)) = some (rv, hf) at H
      by_cases hq : y < x
      · rw [ifp_t hq] at H
        exact gnop (IH _ H wt.dr.dr) (fun ⟨hx, hb, hml, hown, hts, hmn, hE, hz, hRm⟩ H locs ls hH hS hl kk => lv_icmp_gt hx hb hd ht (fun _ => kk ls hl) (fun q => absurd hq q))
      · rw [ifp_f hq] at H
        exact gnop (IH _ H wt.dr.dr) (fun ⟨hx, hb, hml, hown, hts, hmn, hE, hz, hRm⟩ H locs ls hH hS hl kk => lv_icmp_gt hx hb hd ht (fun q => absurd q hq) (fun _ => kk ls hl))
    · change ifp (y < x) (kn (pc + 3, lo, st, h)) (kn (b, lo, st, h)) = some (rv, hf) at H
      by_cases hq : y < x
      · rw [ifp_t hq] at H
        exact gnop (IH _ H wt.dr.dr) (fun ⟨hx, hb, hml, hown, hts, hmn, hE, hz, hRm⟩ H locs ls hH hS hl kk => lv_icmp_le hx hb hd ht (fun q => absurd hq (Int32.not_lt.mpr q)) (fun _ => kk ls hl))
      · rw [ifp_f hq] at H
        exact gnop (IH _ H wt.dr.dr) (fun ⟨hx, hb, hml, hown, hts, hmn, hE, hz, hRm⟩ H locs ls hH hS hl kk => lv_icmp_le hx hb hd ht (fun _ => kk ls hl) (fun q => absurd (Int32.not_le.mp q) hq))
  · cases H

set_option maxHeartbeats 1000000 in
theorem s_ifc {cd : ClassFile.Cond} {off : Int} (C : Pk g L xs p l e R s m args below meth c mi c0 s0 d Q rv hf kn) (hd : decode (mCd mi) pc = .ok (.ifCond cd off, 3)) (hc : chk mi pc (.ifCond cd off) (op, pc + 3, a, b, c9, ci, cl, tg) = true) (wt : wtS L xs c0 s0 (pc, lo, st, h)) (H : o_op kn kc (op, pc + 3, a, b, c9, ci, cl, tg) lo st h = some (rv, hf)) : Gd g L xs p l e R s m args below meth c mi c0 s0 d Q rv hf (pc, lo, st, h) := by
  have IH := C
  by_cases h63 : op = 63
  · subst h63
    have : (none : Option Rs) = some (rv, hf) := H
    cases this
  simp [chk, h63] at hc
  obtain ⟨⟨rfl, rfl⟩, ht⟩ := hc
  change (match (generalizing := false) st with
    | .inl x :: st => cnd (cCode cd) x 0 (kn (b, lo, st, h)) (kn (pc + 3, lo, st, h))
    | _ => none) = some (rv, hf) at H
  split at H
  · rename_i x st
    cases cd
    · change ifp (x = 0) (kn (b, lo, st, h)) (kn (pc + 3, lo, st, h)) = some (rv, hf) at H
      by_cases hq : x = 0
      · rw [ifp_t hq] at H
        exact gnop (IH _ H wt.dr) (fun ⟨hx, hb, hml, hown, hts, hmn, hE, hz, hRm⟩ H locs ls hH hS hl kk => lv_if_eq hx hb hd ht (fun _ => kk ls hl) (fun q => absurd hq q))
      · rw [ifp_f hq] at H
        exact gnop (IH _ H wt.dr) (fun ⟨hx, hb, hml, hown, hts, hmn, hE, hz, hRm⟩ H locs ls hH hS hl kk => lv_if_eq hx hb hd ht (fun q => absurd q hq) (fun _ => kk ls hl))
    · change ifp (x = 0) (kn (pc + 3, lo, st, h)) (kn (b, lo, st, h)) = some (rv, hf) at H
      by_cases hq : x = 0
      · rw [ifp_t hq] at H
        exact gnop (IH _ H wt.dr) (fun ⟨hx, hb, hml, hown, hts, hmn, hE, hz, hRm⟩ H locs ls hH hS hl kk => lv_if_ne hx hb hd ht (fun q => absurd hq q) (fun _ => kk ls hl))
      · rw [ifp_f hq] at H
        exact gnop (IH _ H wt.dr) (fun ⟨hx, hb, hml, hown, hts, hmn, hE, hz, hRm⟩ H locs ls hH hS hl kk => lv_if_ne hx hb hd ht (fun _ => kk ls hl) (fun q => absurd q hq))
    · change ifp (x < 0) (kn (b, lo, st, h)) (kn (pc + 3, lo, st, h)) = some (rv, hf) at H
      by_cases hq : x < 0
      · rw [ifp_t hq] at H
        exact gnop (IH _ H wt.dr) (fun ⟨hx, hb, hml, hown, hts, hmn, hE, hz, hRm⟩ H locs ls hH hS hl kk => lv_if_lt hx hb hd ht (fun _ => kk ls hl) (fun q => absurd hq q))
      · rw [ifp_f hq] at H
        exact gnop (IH _ H wt.dr) (fun ⟨hx, hb, hml, hown, hts, hmn, hE, hz, hRm⟩ H locs ls hH hS hl kk => lv_if_lt hx hb hd ht (fun q => absurd q hq) (fun _ => kk ls hl))
    · change ifp (x < 0) (kn (pc + 3, lo, st, h)) (kn (b, lo, st, h)) = some (rv, hf) at H
      by_cases hq : x < 0
      · rw [ifp_t hq] at H
        exact gnop (IH _ H wt.dr) (fun ⟨hx, hb, hml, hown, hts, hmn, hE, hz, hRm⟩ H locs ls hH hS hl kk => lv_if_ge hx hb hd ht (fun q => absurd hq (Int32.not_lt.mpr q)) (fun _ => kk ls hl))
      · rw [ifp_f hq] at H
        exact gnop (IH _ H wt.dr) (fun ⟨hx, hb, hml, hown, hts, hmn, hE, hz, hRm⟩ H locs ls hH hS hl kk => lv_if_ge hx hb hd ht (fun _ => kk ls hl) (fun q => absurd (Int32.not_le.mp q) hq))
    · change ifp (0 < x) (kn (b, lo, st, h)) (kn (pc + 3, lo, st, h)) = some (rv, hf) at H
      by_cases hq : 0 < x
      · rw [ifp_t hq] at H
        exact gnop (IH _ H wt.dr) (fun ⟨hx, hb, hml, hown, hts, hmn, hE, hz, hRm⟩ H locs ls hH hS hl kk => lv_if_gt hx hb hd ht (fun _ => kk ls hl) (fun q => absurd hq q))
      · rw [ifp_f hq] at H
        exact gnop (IH _ H wt.dr) (fun ⟨hx, hb, hml, hown, hts, hmn, hE, hz, hRm⟩ H locs ls hH hS hl kk => lv_if_gt hx hb hd ht (fun q => absurd q hq) (fun _ => kk ls hl))
    · change ifp (0 < x) (kn (pc + 3, lo, st, h)) (kn (b, lo, st, h)) = some (rv, hf) at H
      by_cases hq : 0 < x
      · rw [ifp_t hq] at H
        exact gnop (IH _ H wt.dr) (fun ⟨hx, hb, hml, hown, hts, hmn, hE, hz, hRm⟩ H locs ls hH hS hl kk => lv_if_le hx hb hd ht (fun q => absurd hq (Int32.not_lt.mpr q)) (fun _ => kk ls hl))
      · rw [ifp_f hq] at H
        exact gnop (IH _ H wt.dr) (fun ⟨hx, hb, hml, hown, hts, hmn, hE, hz, hRm⟩ H locs ls hH hS hl kk => lv_if_le hx hb hd ht (fun _ => kk ls hl) (fun q => absurd (Int32.not_le.mp q) hq))
  · cases H
end Snd
