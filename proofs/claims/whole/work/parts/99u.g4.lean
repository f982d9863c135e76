/-! THE CLAIM OUT OF ONE WALK OF THE LAW'S BODY. Your part is whole_start (and what it stands on); all else here is the same for every law, but numbers. -/
def R_law : String := "StairWaysLaw"
def lw_P (b : Addr) (xs : List Int32) (args : Array Value) (s : State) : Prop := args = #[.ref b] ∧ s.IntsAt b xs ∧ xs.length ≤ 3584 ∧ (Jvm.Cond.and given_1 narrow_1).before args s = true
def lw_Q (_ : Array Value) (s : State) (o : Outcome) (t : State) : Prop := o = .returned (some (.int 1)) ∧ Framed s o t [] 601024 7293034
def lw_Z (below : List Frame) (a : Array Value) (s : State) : State → Prop := fun t => ∃ o, t.status = .running ∧ Ended t below o ∧ lw_Q a s o t
/-- the law's own end, with 1 on the stack, nothing written that was there before, its room as the claim has it -/
theorem lw_ret {p : Program} {l : Launch} {e : Env} {s : State} {m : MethodId} {below : List Frame} {meth : Method} {c : Code} {b : Nat} (hx : p.tables.exec = Jvm.exec) (hb : c.code = code) (hr : meth.sig.returnType = ret) (hlocks : meth.locks = false) {pc : Nat} {H : Heap} {ls : Array Slot} (hdg : decode code pc = .ok (.ireturn, 1)) : W p l e room_1 s m #[Value.ref b] below meth c H [] 601024 7293034 (lw_Z below #[Value.ref b] s) (F0 m pc ls [.int 1]) := by
  intro T hT X
  obtain ⟨fs, hret, hrun, hended, hW, hframe⟩ := X.leave (v := some (.int 1)) (hlocks := hlocks) (fun h => by rw [hr] at h; cases h)
  have hmeth' : T.vm.method? m = some meth := X.method'
  refine ⟨T.setFrames fs, ?_, .returned (some (.int 1)), hrun, hended, rfl, ⟨_, rfl⟩, hW, hframe⟩
  jvm_step X.here [X.here.top, hx, hb, hdg, hmeth', hr, ret, narrow_b1]
  (try refine ⟨rfl, ?_⟩); (try refine ⟨rfl, ?_⟩)
  first | (intro acts; rw [hret _ acts rfl rfl rfl]) | rw [hret _ _ rfl rfl rfl]
  exact Steps.refl _
/-- what holds at the law's entry: the machine, the code, the tables' words (any of lw_tbl by 'hts w (by decide +kernel)'), the script of L ints xs at the cell b, what the Statement gives of the start (any of its parts by flat_of_before) -/
def lw_At (p : Program) (s : State) (m : MethodId) (meth : Method) (c : Code) (b L : Nat) (xs : Nat → Int32) : Prop :=
  p.tables.exec = Jvm.exec ∧ c.code = code ∧ meth.sig.returnType = ret ∧ c.maxLocals = 7 ∧ s.vm.findClass R_law = some m.cls ∧ (∀ w ∈ lw_tbl, w.before #[Value.ref b] s = true) ∧ va_X b L xs s s.heap ∧ b < s.heap.size ∧ meth.locks = false ∧ (Jvm.Cond.and given_1 narrow_1).before #[Value.ref b] s = true
/-! the row at which the law calls its own plain -/
section Row
variable {g : GG} {L : Nat} {xs : Nat → Int32} {p : Program} {l : Launch} {e : Env} {R : Jvm.Room} {s : State} {m : MethodId} {args : Array Value} {below : List Frame} {meth : Method} {c : Code} {c0 s0 : Nat} {Q : State → Prop} {rv : Option AV} {hf : Hp}
set_option maxRecDepth 200000 in
theorem lk_627 : lk tx_Law_law.1 627 = some (50, 630, 255, 4, 1, 0, 0, []) := rfl
theorem dw_627 : decode (mCd 254) 627 = .ok (.invokestatic 77, 3) := by decide +kernel
theorem lp_np : (parseMethodDescriptor (my 255).desc).map (fun d => d.parameters.length) = some 4 := by decide +kernel
theorem law_mt : mCd 254 = code ∧ mMx 254 = 7 ∧ mNm 254 = "law" ∧ ownOf (mO 254) = "StairWaysLaw" := ⟨rfl, rfl, rfl, rfl⟩
theorem PcL.blind (g : GG) (L : Nat) (xs : Nat → Int32) (ar : List AV) (h : Hp) : FrameBlind (PcL g L xs ar h) := fun a U f mk q => ⟨PcM.blind g L xs ar h a U f mk q.1, q.2.mv (U := U.calling f mk a) (State.WarmedH.refl U) (fun _ _ _ => rfl)⟩
set_option maxHeartbeats 1000000 in
theorem lp_run (hfl : l.flags = flags0) (hz : ZTh g s) {st : List AV} {h h1 : Hp} {r1 : Option AV} (hk : evm 1000 255 (st.take 4).reverse h = some (r1, h1)) (hw : wtH L xs h) (hv : ∀ v ∈ (st.take 4).reverse, vok h v) (hgr : gro h h1) (hC9 : Cx g L xs p R s m args meth c 254 c0 s0 1000 hf) (z1 : c0 ≤ hC h) (z2 : s0 ≤ hS h) (z3 : gro h1 hf) (u1 : 4 ≤ st.length) (u3 : wd (st.drop 4) ≤ 8) {H : Heap} {locs : List Loc} {ls : Array Slot} (hH : Hold g h H) (hS9 : va_S (gA g) s.heap H locs) (hls : ls.size = 7) :
    va_Run p l e R s m args below meth c H locs (hC h - c0) (hS h - s0) (hC h1 - hC h) (hS h1 - hS h) (F0 m 627 ls (st.map (cv g))) ((st.drop 4).map (cv g)) (Fn g r1 h1 ((st.take 4).reverse.map (cv g)).toArray) (gA g) := by
  obtain ⟨hx, hb, hml, hown, hts, hmn, hE, hz0, hRm⟩ := hC9
  have hown : s.vm.findClass "StairWaysLaw" = some m.cls := hown
  intro T hT X
  have hM := lp_met (g := g) (L := L) (xs := xs) hfl (d := 999) (by omega) (evm_ok p e R s m args below meth c 999) (ar := (st.take 4).reverse) (show lawp (evm 999) (st.take 4).reverse h = some (r1, h1) from hk) hw hv
  obtain ⟨m9, meth9, c9, n1, n2, n3, -, -, -, -, -, n9⟩ := Cond.codeWith_spec (hts _ (gt_t tt_lp.1 rfl))
  have hini : (Cond.initialized (my 255).cls).before args s = true := hts _ (in_o (k := 13) (by omega))
  have hbk := va_backW (l := l) (R := R) (p := p) (e := e) (below := below) (s := s) (sargs := args) (len := 3) (W := 8) hM (PcL.blind g L xs _ h) rfl rfl (by show 1000 + 1 ≤ R.frames; exact hRm.2.2.1) (by
      have := hRm.2.2.2
      show 8 + (5 + 11) + 64 * 1000 ≤ R.locals
      omega) (pay_in hts wsL_good) (bytes := mCd 255) (maxL := 5) (ret := some .int) (hh := [(0, 10, 13, 13)]) List.mem_cons_self (fun a' U hW => word_at hW (Or.inl rfl) hini)
  have hst : st.map (cv g) = (((st.take 4).reverse).map (cv g)).reverse ++ (st.drop 4).map (cv g) := by
    conv => lhs; rw [← List.take_append_drop 4 st]
    rw [List.map_append, List.map_reverse, List.reverse_reverse]
  have hW8 : ((((st.drop 4).map (cv g))).map fun v => v.category).sum ≤ 8 := by rw [wd_cat hE.2.2.2.2.2.2.2.2.2.2]; exact u3
  have hlen : (((st.take 4).reverse).map (cv g)).length = 4 := by simp; omega
  have g1 := hgr.1
  have g2 := hgr.2.1
  have g3 := z3.1
  have g4 := z3.2.1
  have hff : hC h - c0 + (hC h1 - hC h) ≤ R.cells ∧ hS h - s0 + (hS h1 - hS h) ≤ R.slots := by
    have := hRm.1
    have := hRm.2.1
    omega
  obtain ⟨v, vm₁, ⟨U', l2, c2, s2⟩, hW₁, X', ⟨g', mk, t, L9, e1, e2, hq, h1, hL, h2, h3⟩, stp⟩ := X.staticBack hx hown (hts _ (gt_t tt_lp.2.1 rfl)) (hts _ (gt_t tt_lp.2.2.1 rfl)) hini n1 n2 n9 (by decide) hbk (g := F0 m 627 ls (st.map (cv g))) rfl (by rw [hml]; exact hls) (Steps.refl _) (argsL := ((st.take 4).reverse).map (cv g)) (rest := (st.drop 4).map (cv g))
    (fun sig h9 => by
      have h8 := lp_np
      rw [h9] at h8
      rw [hlen]
      exact (Option.some.inj h8).symm) hst (lv_room hW8) (by rw [hb]; exact dw_627)
    (fun vm₁ hW₁ => ⟨hff.1, hff.2, pcm_ok hH hS9 hE rfl (T.setVm vm₁) hT hW₁, hz.mv (U := T.setVm vm₁) hW₁ (fun a h1 h2 => by show T.heap[a]? = _; rw [hT]; exact hS9.2.1 a h1 h2)⟩)
  dsimp only [Pt.U, Pt.locs, Pt.cells, Pt.slots] at X' e1 e2 h1 h2 h3 stp
  subst h1; subst h2; subst h3
  exact ⟨v, (T.setVm vm₁).calling g' mk (((st.take 4).reverse).map (cv g)).toArray, t, U', L9, hT, X', hL, e1, e2, hq, fun tg h9 => stp.trans h9⟩
theorem lp_row (hfl : l.flags = flags0) (hz : ZTh g s) (kn : St → Option Rs) (lo : Lo) (st : List AV) (h : Hp) (IH : Pk g L xs p l e R s m args below meth c 254 c0 s0 1000 Q rv hf kn) (wt : wtS L xs c0 s0 (627, lo, st, h)) (H : o_op kn (evm 1000) (50, 630, 255, 4, 1, 0, 0, []) lo st h = some (rv, hf)) : Gd g L xs p l e R s m args below meth c 254 c0 s0 1000 Q rv hf (627, lo, st, h) := by
  obtain ⟨u1, u2, u3, r1, h1, hk, hn⟩ := call_use (pc := 627) H
  have hv : ∀ v ∈ (st.take 4).reverse, vok h v := fun v hv => wt.2.1 v (List.mem_of_mem_take (List.mem_reverse.mp hv))
  obtain ⟨⟨q1, q2, q3⟩, -⟩ := evm_ok (g := g) (L := L) (xs := xs) (l := l) p e R s m args below meth c 1000 255 _ h r1 h1 hk wt.1 hv
  have wt2 : wtS L xs c0 s0 (630, lo, r1.toList ++ st.drop 4, h1) := by
    refine ⟨q2, fun v hv => ?_, fun k v hv => (wt.2.2.1 k v hv).up q1, Nat.le_trans wt.2.2.2.1 q1.1, Nat.le_trans wt.2.2.2.2 q1.2.1⟩
    have hv : v ∈ r1.toList ++ st.drop 4 := hv
    rcases List.mem_append.mp hv with z | z
    · exact q3 v (by simpa using z)
    · exact (wt.2.1 v (List.mem_of_mem_drop z)).up q1
  have ih := IH _ hn wt2
  refine ⟨⟨q1.tr ih.1.1, ih.1.2⟩, fun hC9 H locs ls hH hS9 hl => ?_⟩
  have i1 : gro h1 hf := ih.1.1
  have z1 : c0 ≤ hC h := wt.2.2.2.1
  have z2 : s0 ≤ hS h := wt.2.2.2.2
  have z3 := q1.1
  have z4 := q1.2.1
  refine run_go (lp_run hfl hz hk wt.1 hv q1 hC9 z1 z2 i1 u1 u3 hH hS9 (hl.2.1.trans law_mt.2.1)) hS9 (fun H1 locs1 hH1 hS1 => ?_)
  have w := ih.2 hC9 H1 locs1 ls hH1 hS1 hl
  rw [optmap] at w
  have w : W p l e R s m args below meth c H1 locs1 (hC h1 - c0) (hS h1 - s0) Q (F0 m (627 + 3) ls ((r1.map (cv g)).toList ++ (st.drop 4).map (cv g))) := w
  show W p l e R s m args below meth c H1 locs1 (hC h - c0 + (hC h1 - hC h)) (hS h - s0 + (hS h1 - hS h)) Q _
  rw [show hC h - c0 + (hC h1 - hC h) = hC h1 - c0 by omega, show hS h - s0 + (hS h1 - hS h) = hS h1 - s0 by omega]
  exact w
end Row
set_option maxHeartbeats 1000000 in
/-- the law, from its entry -/
theorem whole_start {p : Program} {e : Env} {s : State} {m : MethodId} {below : List Frame} {meth : Method} {c : Code} (l : Launch) (hflags : l.flags = flags0) (hname : meth.name = "law") {b L : Nat} {xs : Nat → Int32} (hL : L ≤ 3584) (C0 : lw_At p s m meth c b L xs) : W p l e room_1 s m #[Value.ref b] below meth c s.heap [] 0 0 (lw_Z below #[Value.ref b] s) (entryFrame m ([Value.ref b] : List Value).toArray 7) := by
  obtain ⟨hx, hb, hr, hml, hown, hts, hX, hbl, hlocks, hgv⟩ := C0
  obtain ⟨g, hE, hB, hXg, hz⟩ := evn_start hts hX hbl hgv
  obtain ⟨hf, e1, e2, e3⟩ := start_law L xs hL
  obtain ⟨k, hk⟩ := evs_iff.mp e1
  have hg : ∀ w ∈ gtbl, w.before #[Value.ref b] s = true := fun w hw => hts w (List.mem_filter.mp hw).1
  have K := evm_ok (g := g) (L := L) (xs := xs) (l := l) p e room_1 s m #[Value.ref b] below meth c 1000
  have wt0 : wtS L xs 0 0 (0, [some (vR 42 9999999), none, none, none, none, none, none], [], hZ L xs) := by
    refine ⟨⟨fun i hi => (by cases hi), Nat.zero_le _, rfl, fun j _ => rfl⟩, fun v q => (by cases q), fun k v q => ?_, Nat.le_refl _, Nat.le_refl _⟩
    have : v = vR 42 9999999 := by
      match k, q with
      | 0, q => cases q; rfl
      | 1, q => cases q
      | 2, q => cases q
      | 3, q => cases q
      | 4, q => cases q
      | 5, q => cases q
      | 6, q => cases q
      | k + 7, q => cases q
    subst this
    exact ⟨fun h => absurd h (by omega), fun h => by omega, fun _ => rfl, by omega⟩
  have rt : Cx g L xs p room_1 s m #[Value.ref b] meth c 254 0 0 1000 hf → RetOk g p l e room_1 s m #[Value.ref b] below meth c 254 0 0 (lw_Z below #[Value.ref b] s) (some (vI 1)) hf := by
    intro _ pc ls H locs hH9 hS9 hcase
    rcases hcase with ⟨hd, -⟩ | ⟨-, ⟨x, hx1⟩, -⟩ | ⟨-, hx1, -⟩
    · refine va_forget (fun q hq => by
        have h9 : gB g ≤ q.base := hS9.2.2 q hq
        rw [hB] at h9
        exact h9) (W.widen (k := 601024) (n := 7293034) (by omega) (by omega) ?_)
      rw [law_mt.1] at hd
      exact lw_ret hx hb hr hlocks hd
    · cases hx1
    · cases hx1
  have tok : ∀ pc e9, lk tx_Law_law.1 pc = some e9 → enOk 254 pc e9 = true ∨ (∀ (kn : St → Option Rs) (lo : Lo) (st : List AV) (h : Hp), Pk g L xs p l e room_1 s m #[Value.ref b] below meth c 254 0 0 1000 (lw_Z below #[Value.ref b] s) (some (vI 1)) hf kn → wtS L xs 0 0 (pc, lo, st, h) → o_op kn (evm 1000) e9 lo st h = some (some (vI 1), hf) → Gd g L xs p l e room_1 s m #[Value.ref b] below meth c 254 0 0 1000 (lw_Z below #[Value.ref b] s) (some (vI 1)) hf (pc, lo, st, h)) := by
    intro pc e9 he
    rcases Bool.or_eq_true_iff.mp (tk_law (pc, e9) (lk_mem he)) with q | q
    · exact Or.inl q
    · have q : pc = 627 := by simpa using q
      subst q
      rw [lk_627] at he
      cases he
      exact Or.inr (lp_row hflags hz)
  have hCx : Cx g L xs p room_1 s m #[Value.ref b] meth c 254 0 0 1000 hf := ⟨hx, hb.trans law_mt.1.symm, hml.trans law_mt.2.1.symm, by rw [law_mt.2.2.2]; exact hown, hg, hname.trans law_mt.2.2.1.symm, hE, by rw [hB]; rfl, ⟨by show hC hf - 0 ≤ 601024; omega, by show hS hf - 0 ≤ 7293034; omega, Nat.le_of_ble_eq_true rfl, Nat.le_of_ble_eq_true rfl⟩⟩
  have hH : Hold g (hZ L xs) s.heap := ⟨fun k q hq => (by cases hq), (by rw [hB]; rfl)⟩
  have ea : [vR 42 9999999].map (cv g) = [Value.ref b] := by
    show [Value.ref (gX g)] = [Value.ref b]
    rw [hXg]
  have hl0 := entry_lh (g := g) hE.2.2.2.2.2.2.2.2.2.2 (ar := [vR 42 9999999]) (n := 7) (Nat.le_of_ble_eq_true rfl)
  rw [ea] at hl0
  have w := (run_ok K rt tok k _ hk wt0).2 hCx s.heap [] _ hH va_S.rf (by rw [law_mt.2.1]; exact hl0)
  rw [lg_entry_eq]
  exact w
set_option maxHeartbeats 4000000 in
theorem lw_walk (l : Launch) (hflags : l.flags = flags0) (b : Addr) (xs : List Int32) : MetFree l x (headSpec (Jvm.Cond.code x code maxLocals ret :: tables_1) room_1) (lw_P b xs) (fun _ _ _ _ _ => True) lw_Q := by
  refine MetFree.of_bodyS (code := code) (maxLocals := maxLocals) (ret := ret) (by decide) ?_ ?_
  · intro args s m h hn
    obtain ⟨meth, c, h1, h2, h3, h4, h5, h6, -, -⟩ := Cond.code_spec hn (atoms_spec (ws := Jvm.Cond.code x code maxLocals ret :: tables_1) h _ List.mem_cons_self)
    exact ⟨meth, c, h1, h2, h3, h4, h5, h6⟩
  · intro p e s m args below meth c s₁ B hml0 hP _
    obtain ⟨rfl, hx, hbd, hgv⟩ := hP
    obtain ⟨scr, harrAt, hlist, hof, hsmall⟩ := hx
    obtain ⟨hcb, hkn, -, -⟩ := State.arrayAt?_spec harrAt
    have hown : s.vm.findClass R_law = some m.cls := findClass_of_methodNamed B.named
    have hts0 : ∀ c ∈ (Jvm.Cond.code x code maxLocals ret :: tables_1), c.before #[Value.ref b] s = true := atoms_spec (ws := Jvm.Cond.code x code maxLocals ret :: tables_1) B.pre
    have hts : ∀ w ∈ lw_tbl, w.before #[Value.ref b] s = true := k2_hts_sels lw_privs (fun w hw => hts0 w (List.mem_cons_of_mem _ hw)) lw_privs_ok
    have hml : c.maxLocals = 7 := B.maxLocals_eq (hts0 _ List.mem_cons_self)
    have X₀ : Stand p l e room_1 s m #[Value.ref b] below meth c s₁ [] 0 0 := Stand.of_body B
    have hh0 : s₁.heap = s.heap := by rw [B.state]; rfl
    have hsz : scr.slots.size = xs.length := by rw [← Array.length_toList, hlist, List.length_map]
    have hval : ∀ j : Nat, j < xs.length → scr.slots[j]? = some (.int (xs.getD j 0)) := fun j hj => by
      rw [← Array.getElem?_toList, hlist]
      simp [hj]
    have hbl : b < s.heap.size := (Array.getElem?_eq_some_iff.mp hcb).1
    have hX : va_X b xs.length (fun j => xs.getD j 0) s s.heap := ⟨scr, hcb, hof, hkn, hsz, hval⟩
    have K : W p l e room_1 s m #[Value.ref b] below meth c s₁.heap [] 0 0 (lw_Z below #[Value.ref b] s) (entryFrame m ([Value.ref b] : List Value).toArray 7) := by
      rw [hh0]
      exact whole_start l hflags (name_of_methodNamed B.named B.method).1 hbd ⟨B.exec, B.bytes, B.returns, hml, hown, hts, hX, hbl, B.notSynchronized, hgv⟩
    obtain ⟨t, a1, o, b1, b2, b3⟩ := K s₁ rfl X₀
    exact ⟨t, o, a1, b1, b2, b3⟩
theorem lw_pre_spec {args : Array Value} {s : State} (h : (Jvm.Cond.and given_1 narrow_1).before args s = true) (hr : rest_1_c.before args s = true) : ∃ (b : Addr) (xs : List Int32), lw_P b xs args s := by
  have hs := flat_of_before _ h
  have hq := flat_of_before _ hr
  have hc : (Cond.count 1).before args s = true := hs _ (by decide +kernel)
  have harr : (Cond.arrayOf (.arg 0) .int).before args s = true := hs _ (by decide +kernel)
  have hle : (Cond.le (.length (.arg 0)) (.int 3584)).before args s = true := hs _ (by decide +kernel)
  have hlen : (Cond.isInt (.length (.arg 0))).before args s = true := hq _ (by decide +kernel)
  have hall : (Cond.all (.arg 0) (.isInt (.elem (.arg 0) (.index 0)))).before args s = true := hq _ (by decide +kernel)
  obtain ⟨b, xs, hb, hx⟩ := State.ints_of_pre rfl harr hlen hall
  have hsm : xs.length < 2 ^ 31 := hx.choose_spec.2.2.2
  have hev : (Term.length (.arg 0)).eval args s none [] s = some (.int xs.length.toInt32) := hx.length_eval hb
  have hv := Cond.le_ints hev (show (Term.int 3584).eval args s none [] s = some (.int 3584) from rfl)
  have hd : xs.length.toInt32 ≤ 3584 := by
    simpa [Cond.before, Cond.holds, hv] using hle
  have hN : xs.length ≤ 3584 := (Int32.ofNat_le_ofNat hsm (by decide)).mp (show Int32.ofNat xs.length ≤ Int32.ofNat 3584 from hd)
  exact ⟨b, xs, Cond.one_arg hc (show args[0]? = some (.ref b) from hb), hx, hN, h⟩
theorem lw_comes (l : Launch) (hflags : l.flags = flags0) : Comes l x (Jvm.Cond.code x code maxLocals ret :: tables_1) room_1 (fun tb e args s => Calls_1 tb e args s ∧ rest_1 tb e args s ∧ Pre_1 tb e args s)
    (fun _ _ args s o t => lw_Q args s o t) := by
  intro p e ha hc hk s m args below hf hfit hheap happ hpre
  obtain ⟨b, xs, hP⟩ := lw_pre_spec hpre.2.2 hpre.2.1
  obtain ⟨k, o, h1, h2, h3, hQ⟩ := lw_walk l hflags b xs p e ha hc hk s m args below hf ((Spec.applies_iff_loose hf).mp happ).1 hP trivial
  exact ⟨k, o, h1, h2, h3, hQ⟩
theorem lw_frame {s t : State} {o : Outcome} {args : Array Value} (h : Framed s o t [] 601024 7293034) :
    Framed s o t (fieldLocs frame_1_writes args s ++ arrayLocs frame_1_arrays args s ++ staticLocs frame_1_statics s) 601024 7293034 := h
theorem lw_limb (L : Cond) (hL : ∀ (args : Array Value) (s t : State), L.after args s (.returned (some (.int 1))) t = true) :
    ArmFor flags0 classFile x code maxLocals ret World_1 tables_1 room_1 Calls_1 rest_1 Pre_1
      (fun tb e a s o t => postC L tb e a s o t ∧ Framed s o t (fieldLocs frame_1_writes a s ++ arrayLocs frame_1_arrays a s ++ staticLocs frame_1_statics s) 601024 7293034) := by
  intro l hflags _ _ p e ha hc hk s m args below hf hfit hheap happ hpre
  obtain ⟨k, o, h1, h2, h3, rfl, hF⟩ := lw_comes l hflags p e ha hc hk s m args below hf hfit hheap happ hpre
  exact ⟨k, _, h1, h2, h3, hL args s _, lw_frame hF⟩
theorem i_vc : Claimed_1_1 ∧ Claimed_1_2 := ⟨lw_limb limb_1_1 (fun args s t => by simp [limb_1_1, Cond.after, Cond.holds, Cond.value]), lw_limb limb_1_2 (fun args s t => Cond.after_iff.mpr (by
  first | (rw [show limb_1_2 = Cond.eq .result (.int 1) from rfl, Cond.eq_ints (x := 1) (y := 1) rfl rfl]; simp; done) | (simp [limb_1_2, Cond.value, Term.eval]; done)))⟩
