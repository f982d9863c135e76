/-! the law's own plain: what StairWays.plain throws is caught -/
theorem find_lnk {e : Env} {S : State} {f : JFrame} {a : Addr} {meth : Method} {code : Code} (hm : S.vm.method? f.method = some meth) (hc : meth.code = some code) {x : ExceptionTableEntry} (ht : code.exceptionTable.toList = [x]) (hx : covers x f.pc = true) (h0 : x.catchType ≠ 0) {cT : ClassId} (hl : S.vm.ClassLinks e.platform f.method.cls x.catchType cT) {cell : Cell} (hcell : S.heap[a]? = some cell) (hn : cell.vm = .none) (he : cell.cls = cT) (hk : ∃ k, S.vm.classes[cT]? = some k)
    (Q : Handler → Pre) (E : CtlPost) (d : Bool) (acts : List Action) : wp (findHandler f a) Q E e d acts S ↔ Q (.found x.handlerPc) d acts (S.setVm (S.vm.noted f.method.cls x.catchType (.cls cT))) := by
  subst he
  rw [_root_.Jvm.W.findHandler_eq hm hc, ht]
  simp only [covers] at hx
  obtain ⟨r1, r2⟩ := (resolveClass_links e.toSetting hl).op (op := VmOp.resolveClass f.method.cls x.catchType) rfl
  obtain ⟨k1, hk1⟩ := hk
  obtain ⟨k2, hk2, -⟩ := ((Vm.Alike.refl S.vm).noted f.method.cls x.catchType (.cls cell.cls)).2.2 _ _ hk1
  have hf := va_asg (S.vm.noted f.method.cls x.catchType (.cls cell.cls)) cell.cls
  simp [findHandler.go, hx, h0, r1, r2, hcell, hn, hk2, hf, VmOp.dirties, VmOp.acts]
theorem step_lnk {e : Env} {S : State} {a : Addr} {f : JFrame} {r : List Frame} {pc : Nat} {vm' : Vm} (hfind : ∀ (Q : Handler → Pre) (E : CtlPost) (d : Bool) (acts : List Action), wp (findHandler f a) Q E e d acts S ↔ Q (.found pc) d acts (S.setVm vm')) :
    (stepThrowing e S a (.java f :: r)).1 = (S.setVm vm').setFrames (.java { f with pc := pc, stack := [.ref a] } :: r) := by
  simp only [stepThrowing, searchFrame, vmDo]
  generalize hr : Sem.go _ e false [] S = res
  obtain ⟨as, rfl, -⟩ := Sem.eq_ok_of hr (a := Handler.found pc) (s' := S.setVm vm') (acts' := []) (by simp [hfind _ _ _ _])
  rfl
section Thr
variable {p : Program} {l : Launch} {e : Env} {R : Jvm.Room} {s : State} {m : MethodId} {args : Array Value} {below : List Frame} {meth : Method} {c : Code} {T : State} {locs : List Loc} {cells slots : Nat}
theorem caught_row (X : Stand p l e R s m args below meth c T locs cells slots) {f : JFrame} (hf : f.method = m) {a : Addr} {own nm : String} (hown : s.vm.findClass own = some m.cls) {x : ExceptionTableEntry} (ht : c.exceptionTable.toList = [x]) (hx : covers x f.pc = true) (h0 : x.catchType ≠ 0) (hlink : (Cond.classLink own x.catchType nm).before args s = true) {cell : Cell} (hcell : T.heap[a]? = some cell) (hn : cell.vm = .none) (hcls : s.vm.findClass nm = some cell.cls) :
    ∃ vm', Stand p l e R s m args below meth c (T.setVm vm') locs cells slots ∧ Steps p.tables e below ((T.setTop f).pushFrame (.throwing a)) ((T.setVm vm').setTop { f with pc := x.handlerPc, stack := [.ref a] }) := by
  subst hf
  have hpl : e.platform.magicAccessors = ({} : Platform).magicAccessors := by rw [X.admits.platform]
  obtain ⟨cT, hcT, hcl⟩ := Cond.classLink_spec hown hlink e.platform hpl
  have hc9 : cell.cls = cT := Option.some.inj (hcls.symm.trans hcT)
  obtain ⟨dk, _, _, kt, hd, _, _, _, _, hkt, _, hopen⟩ := hcl.here
  have hclT := X.warmed.classLinks hcl
  obtain ⟨kt', hkt', -⟩ := X.warmed.alike.2.2 _ _ hkt
  refine ⟨T.vm.noted f.method.cls x.catchType (.cls cT), X.noted (X.warmed.noted hd hopen (State.rightAt_cls hcl)), ?_⟩
  obtain ⟨hgo, hw⟩ := X.here.throwing a
  refine Steps.head hgo hw ?_
  obtain ⟨g₀, hg0⟩ := Option.isSome_iff_exists.mp X.here.top
  obtain ⟨r, hr⟩ := State.topJava?_eq_some.mp hg0
  have hS : (T.setTop f).pushFrame (.throwing a) = T.setFrames (.throwing a :: .java f :: r) := by
    rw [State.pushFrame, State.frames_setTop _ hr, State.setTop_of_frames _ hr, State.setFrames_setFrames]
  rw [stepThread_throwing (frames_entered X.here.top _), step_lnk (find_lnk (S := (T.setTop f).pushFrame (.throwing a)) (meth := meth) (code := c) X.method' X.code ht hx h0 (cT := cT) hclT hcell hn hc9 ⟨kt', hkt'⟩), hS, hr]
  have e1 : (T.setVm (T.vm.noted f.method.cls x.catchType (.cls cT))).setTop { f with pc := x.handlerPc, stack := [.ref a] } = (T.setVm (T.vm.noted f.method.cls x.catchType (.cls cT))).setFrames (.java { f with pc := x.handlerPc, stack := [.ref a] } :: r) := State.setTop_of_frames _ (show (T.setVm _).frames = .java g₀ :: r from hr)
  rw [e1]
  have e2 : ((T.setFrames (.throwing a :: .java f :: r)).setVm (T.vm.noted f.method.cls x.catchType (.cls cT))).setFrames (.java { f with pc := x.handlerPc, stack := [.ref a] } :: r) = (T.setVm (T.vm.noted f.method.cls x.catchType (.cls cT))).setFrames (.java { f with pc := x.handlerPc, stack := [.ref a] } :: r) :=
    State.setFrames_setFrames (T.setVm (T.vm.noted f.method.cls x.catchType (.cls cT))) _ _
  show Steps p.tables e below (((T.setFrames (.throwing a :: .java f :: r)).setVm (T.vm.noted f.method.cls x.catchType (.cls cT))).setFrames (.java { f with pc := x.handlerPc, stack := [.ref a] } :: r)) _
  rw [e2]
  exact Steps.refl _
theorem dl_5 : decode (mCd 255) 5 = .ok (.invokevirtual 7, 3) := by decide +kernel
/-- the call that throws -/
theorem thr_call (hfl : l.flags = flags0) (X : Stand p l e R s m args below meth c T [] 0 0) (hx : p.tables.exec = Jvm.exec) (hg : ∀ w ∈ gtbl, w.before args s = true) (hown : s.vm.findClass "StairWaysLaw" = some m.cls) (hb : c.code = mCd 255) (hml : c.maxLocals = 5) {ls : Array Slot} (hls : ls.size = 5) {g : GG} {q qo : Nat} {p0 p1 : Int32} (hr : ¬ (0 ≤ p0 ∧ p0 ≤ 999999999 ∧ 1 ≤ p1 ∧ p1 ≤ 9999))
    (hz : ∀ U : State, U.heap = T.heap → s.WarmedH U.vm → ZTh g U) {cellB : Cell} (hcB : T.heap[q]? = some cellB) (hoB : cellB.vm.isStatics = false) (hclB : s.vm.findClass "StairWays" = some cellB.cls) (hRf : 9 ≤ R.frames) (hRl : 200 ≤ R.locals) (hRc : 1 ≤ R.cells) (hRs : 6 ≤ R.slots) :
    ∃ (V : State) (ce : Cell), Stand p l e R s m args below meth c V [] 1 6 ∧ V.heap[T.heap.size]? = some ce ∧ s.vm.findClass "java/util/NoSuchElementException" = some ce.cls ∧ ce.vm = .none ∧ V.heap.size = T.heap.size + 1 ∧ (∀ k : Nat, k < T.heap.size → V.heap[k]? = T.heap[k]?) ∧
      Steps p.tables e below (T.setTop (F0 m 5 ls [.int p1, .int p0, .ref q, .int 0, .ref qo])) ((V.setTop (F0 m 5 ls [.int 0, .ref qo])).pushFrame (.throwing T.heap.size)) := by
  have h114 : 114 < nM := by decide
  have hinst := hg _ ((mp_all h114).2.1 (by decide))
  have hsel := hg _ ((mp_all h114).2.2.1 (by decide))
  have hini := hg _ (in_o (tt_mo 114 h114).1)
  have hlink : (Cond.methodLink "StairWaysLaw" 7 (my 114)).before args s = true := hg _ ((mlk_use (mi := 255) (k := 7) (a := 114) (n := 0) (by decide)).2.1 rfl)
  have hcode := hg _ (gt_m (mcAll 114 h114) rfl)
  have hy : (my 114).cls ≠ "java/lang/invoke/MethodHandle" ∧ (my 114).cls ≠ "java/lang/invoke/VarHandle" := ⟨(cls_ok h114).1, (cls_ok h114).2.1⟩
  obtain ⟨mk, methM, hnamed, hmethM, hstM, habM⟩ := Cond.instanceMethod_spec hinst
  obtain ⟨methM', cM, hmethM', hcodeM, -, hlocM, -, -, -, hsigM⟩ := Cond.code_spec hnamed hcode
  cases hmethM.symm.trans hmethM'
  obtain ⟨c2, r2, m2, q1, q2, q3, q4, kP, hkP, hkPi⟩ := Cond.selects_spec hsel
  cases hclB.symm.trans q1
  cases (State.methodFound?_of_named hnamed hy).symm.trans q2
  cases hnamed.symm.trans q3
  have hselP : selectMethod e.platform s.vm cellB.cls mk = .method mk := by rw [Launch.admits_selectMethod X.admits]; exact q4
  obtain ⟨vm₁, X₁, hstep⟩ := X.invokevirtual hx hown hlink hnamed hmethM hstM hkP hkPi hy (a := q) (cell := cellB) hcB
    (fun z h => by rw [h] at hoB; cases hoB) hselP hmethM habM hkP hkPi (g := F0 m 5 ls [.int p1, .int p0, .ref q, .int 0, .ref qo]) rfl (argsL := [.int p0, .int p1]) (rest := [.int 0, .ref qo]) (by
      have h2 := (cls_ok h114).2.2
      rw [hsigM] at h2
      exact (Option.some.inj h2).symm) rfl (by rw [hb]; exact dl_5)
  generalize hU : T.setVm vm₁ = U at X₁ hstep
  have hUh : U.heap = T.heap := by rw [← hU]; rfl
  obtain ⟨f, ef⟩ : ∃ f, f = F0 m 5 ls [.int 0, .ref qo] := ⟨_, rfl⟩
  have hfm : f.method = m := by rw [ef]
  have hAt : At U f.method c below := by rw [hfm]; exact X₁.here
  have hn := X₁.named hnamed
  obtain ⟨kY, hkY, -⟩ := className_of_methodNamed hn
  have hiY : kY.init = .initialized := Cond.initialized_spec (findClass_of_methodNamed hn) hkY (word_at (a' := args) X₁.warmed (Or.inl rfl) hini)
  have hpay := pay_in hg (mws_good 114 h114)
  have happ : (headSpec (mws 114) rmT).appliesLoose (my 114) e.platform (U.calling f mk ([.ref q, .int p0, .int p1] : List Value).toArray) = true :=
    Spec.appliesLoose_calling (g := f) hAt (ig := .invokevirtual 7) (len := 3) (by rw [ef, hb]; exact dl_5) hn hkY hiY
      (X₁.room_calling (g := f) (R' := rmT) (by rw [ef, hml]; exact hls) (show U.vm.method? mk = some methM by rw [X₁.warmed.alike.method?]; exact hmethM) hcodeM (by show 8 + 1 ≤ R.frames; omega) (by rw [hlocM, ef]; show 2 * 0 + (1 + (1 + 0)) + (3 + 11) + 128 ≤ R.locals; omega) (by show 0 + 1 ≤ R.cells; omega) (by show 0 + 6 ≤ R.slots; omega))
      (atoms_intro fun w hw => hpay w hw _ _ X₁.warmed)
  obtain ⟨mid, hmid⟩ := hAt.above
  have hfr : (U.setTop f).frames = (.java f :: mid) ++ below := by rw [State.frames_setTop' f hAt.top, hmid]; rfl
  have hP : PTh g q p0 p1 ([.ref q, .int p0, .int p1] : List Value).toArray (U.calling f mk ([.ref q, .int p0, .int p1] : List Value).toArray) := ⟨rfl, hz _ hUh X₁.warmed⟩
  obtain ⟨o, s₂, hsteps, -, hend, hq⟩ := Steps.callFree (plain_thr hfl g q hr) p X₁.admits X₁.cas X₁.clock (acts := []) hfr happ hP trivial
  have hq : QTh _ (U.calling f mk ([.ref q, .int p0, .int p1] : List Value).toArray) o s₂ := hq
  obtain ⟨ho, hW₂, hsame, ce, hce, hcc, hcv⟩ := hq
  have hz9 : (U.calling f mk ([.ref q, .int p0, .int p1] : List Value).toArray).heap = T.heap := hUh
  rw [hz9] at ho hce
  subst ho
  rw [State.frames_setTop' f hAt.top] at hend
  have hf₂ : s₂.frames = .throwing T.heap.size :: .java f :: U.frames.tail := hend
  obtain ⟨e2, b2, b3, b4, b5, b6⟩ := id hsame
  have e3 : s₂ = ({ (U.calling f mk ([.ref q, .int p0, .int p1] : List Value).toArray).setFrames s₂.frames with heap := s₂.heap, slotsUsed := s₂.slotsUsed } : State).setVm s₂.vm := by
    have z9 : (({ s₂ with vm := (U.calling f mk ([.ref q, .int p0, .int p1] : List Value).toArray).vm } : State)).setVm s₂.vm = _ := congrArg (fun z : State => z.setVm s₂.vm) e2
    exact z9
  have hW' : U.WarmedH s₂.vm := hW₂
  obtain ⟨g₀, hg0⟩ := Option.isSome_iff_exists.mp hAt.top
  obtain ⟨r, hr9⟩ := State.topJava?_eq_some.mp hg0
  have hs₂ : s₂ = ((({ U with heap := s₂.heap, slotsUsed := s₂.slotsUsed } : State).setVm s₂.vm).setTop f).pushFrame (.throwing T.heap.size) := by
    have hr' : (({ U with heap := s₂.heap, slotsUsed := s₂.slotsUsed } : State).setVm s₂.vm).frames = .java g₀ :: r := hr9
    refine e3.trans ?_
    rw [hf₂, State.calling_eq hAt.top, State.setFrames_setFrames, State.pushFrame, State.frames_setTop _ hr', State.setTop_of_frames _ hr', State.setFrames_setFrames, hr9]
    rfl
  have hsU : U.sameButNew ({ U with heap := s₂.heap, slotsUsed := s₂.slotsUsed } : State) [] 1 6 := by
    refine ⟨?_, b2, b3, b4, b5, b6⟩
    obtain ⟨t, ht, -⟩ := State.frames_cons hr9
    show ({ U with heap := s₂.heap, slotsUsed := s₂.slotsUsed } : State) = { U.setFrames U.frames with heap := s₂.heap, slotsUsed := s₂.slotsUsed }
    rw [State.setFrames_self ht]
  refine ⟨({ U with heap := s₂.heap, slotsUsed := s₂.slotsUsed } : State).setVm s₂.vm, ce, ⟨X₁.admits, X₁.cas, X₁.clock, X₁.frames, X₁.room, X₁.hears, X₁.method, X₁.code, (X₁.here.setHeapUsed s₂.heap s₂.slotsUsed).setVm hW'.alike, X₁.tail, State.WarmedH.trans X₁.warmed hW', X₁.limits, X₁.bytes, X₁.same.trans (hsU.setVm s.vm)⟩, hce, ?_, hcv, ?_, ?_, ?_⟩
  · have : U.vm.findClass "java/util/NoSuchElementException" = some ce.cls := hcc
    rw [← X₁.warmed.alike.findClass]
    exact this
  · have h1 : s₂.heap.size ≤ T.heap.size + 1 := by
      have : s₂.heap.size ≤ U.heap.size + 1 := b3
      rwa [hUh] at this
    have h2 := (Array.getElem?_eq_some_iff.mp hce).1
    show s₂.heap.size = T.heap.size + 1
    omega
  · intro k hk
    have hk' : k < U.heap.size := by rw [hUh]; exact hk
    obtain ⟨c', d1, d2, d3, d4⟩ := b6 k _ (Array.getElem?_eq_getElem hk')
    have d1 : s₂.heap[k]? = some c' := d1
    show s₂.heap[k]? = T.heap[k]?
    have e9 : c' = U.heap[k] := by
      rw [d2]
      have : c'.slots = U.heap[k].slots := by
        apply Array.ext_getElem?
        intro i
        exact d4 i (by simp)
      rw [this]
    rw [d1, e9, ← hUh]
    exact (Array.getElem?_eq_getElem hk').symm
  · refine hstep _ (fun acts => ?_)
    have hz8 := hsteps
    rw [hs₂] at hz8
    rw [ef] at hz8
    rw [doInvoke_state] at hz8 ⊢
    exact hz8
end Thr
