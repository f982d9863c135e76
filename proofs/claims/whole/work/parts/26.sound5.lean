/-! calls, returns, whole methods -/
def rmD (d : Nat) (h h' : Hp) : Room := { frames := d, cells := hC h' - hC h, slots := hS h' - hS h, locals := 64 * d }
def Fn (g : GG) (rv : Option AV) (hf : Hp) : Array Value → State → Outcome → State → Prop := fun _ st o t => o = .returned (rv.map (cv g)) ∧ Hold g hf t.heap ∧ va_F (gA g) st t
def PcM (g : GG) (L : Nat) (xs : Nat → Int32) (ar : List AV) (h : Hp) : Array Value → State → Prop := fun a U => a = (ar.map (cv g)).toArray ∧ Hold g h U.heap ∧ Evn g L xs U
def mws (mi : Nat) : List Cond := Cond.code (my mi) (mCd mi) (mMx mi) (mRt mi) :: gtbl
def MA (g : GG) (L : Nat) (xs : Nat → Int32) (l : Launch) (d mi : Nat) (ar : List AV) (h : Hp) (rv : Option AV) (hf : Hp) : Prop :=
  Met l (my mi) (mws mi) (rmD d h hf) (PcM g L xs ar h) (Fn g rv hf) (hC hf - hC h) (hS hf - hS h) (gA g)
def KcOk (g : GG) (L : Nat) (xs : Nat → Int32) (l : Launch) (d : Nat) (kc : Nat → List AV → Hp → Option Rs) : Prop :=
  ∀ a ar h r1 h1, kc a ar h = some (r1, h1) → wtH L xs h → (∀ v ∈ ar, vok h v) → (gro h h1 ∧ wtH L xs h1 ∧ rok h1 r1) ∧ (a < nM → MA g L xs l d a ar h r1 h1)
theorem PcM.blind (g : GG) (L : Nat) (xs : Nat → Int32) (ar : List AV) (h : Hp) : FrameBlind (PcM g L xs ar h) := fun a U f mk q => ⟨q.1, q.2.1, q.2.2.cl f mk a⟩
theorem mws_good (a : Nat) (ha : a < nM) : GoodIn gtbl (mws a) := by
  intro w hw
  rcases List.mem_cons.mp hw with rfl | q
  · exact ⟨gt_m (mcAll a ha) rfl, Or.inl rfl⟩
  · exact ⟨q, gt_good q⟩
theorem mp_all {a : Nat} (ha : a < nM) : (mKd a = 2 → Cond.static (my a) ∈ gtbl) ∧ (mKd a ≠ 2 → Cond.instanceMethod (my a) ∈ gtbl) ∧ (mKd a < 2 → Cond.selects (my a).cls (my a) (my a) ∈ gtbl) ∧ (mKd a = 3 → mNm a = "<init>") := by
  have hl : mpo.length = 254 := by decide +kernel
  have ha' : a < 254 := ha
  have hq : mpo[a]? = some (mpo.getD a (0, 9, 0, 0, 0)) := by
    rw [List.getD_eq_getElem?_getD, List.getElem?_eq_getElem (by omega)]
    rfl
  generalize hqe : mpo.getD a (0, 9, 0, 0, 0) = q at hq
  have hk : mKd a = q.2.1 := by unfold mKd; rw [hqe]
  have h1 : q.1 = a := by rw [← hqe]; exact (tt_mo a ha).2
  have key : tables_1[q.2.2.2.1]? = some (if q.2.1 = 2 then .static (my q.1) else .instanceMethod (my q.1)) ∧ (q.2.1 = 0 → tables_1[q.2.2.2.2]? = some (.selects (my q.1).cls (my q.1) (my q.1))) ∧ (q.2.1 = 1 → ∃ z ∈ lw_privs, z.1 = my q.1) ∧ (q.2.1 = 3 → mNm q.1 = "<init>") := by
    have inn : ∀ k : Nat, k ≤ a → a < k + 32 → q ∈ (mpo.drop k).take 32 := by
      intro k h2 h3
      refine List.mem_of_getElem? (i := a - k) ?_
      rw [List.getElem?_take, if_pos (by omega), List.getElem?_drop, show k + (a - k) = a by omega]
      exact hq
    rcases (show a < 32 ∨ (32 ≤ a ∧ a < 64) ∨ (64 ≤ a ∧ a < 96) ∨ (96 ≤ a ∧ a < 128) ∨ (128 ≤ a ∧ a < 160) ∨ (160 ≤ a ∧ a < 192) ∨ (192 ≤ a ∧ a < 224) ∨ (224 ≤ a ∧ a < 254) by omega) with h | h | h | h | h | h | h | h
    · exact tt_mp0 q (inn 0 (by omega) (by omega))
    · exact tt_mp32 q (inn 32 (by omega) (by omega))
    · exact tt_mp64 q (inn 64 (by omega) (by omega))
    · exact tt_mp96 q (inn 96 (by omega) (by omega))
    · exact tt_mp128 q (inn 128 (by omega) (by omega))
    · exact tt_mp160 q (inn 160 (by omega) (by omega))
    · exact tt_mp192 q (inn 192 (by omega) (by omega))
    · refine tt_mp224 q ?_
      have := inn 224 (by omega) (by omega)
      rwa [List.take_of_length_le (by simp [hl])] at this ⊢
      all_goals simp [hl]
  rw [h1] at key
  rw [hk]
  obtain ⟨k1, k2, k3, k4⟩ := key
  refine ⟨fun e => ?_, fun e => ?_, fun e => ?_, k4⟩
  · rw [if_pos e] at k1; exact gt_t k1 rfl
  · rw [if_neg e] at k1; exact gt_t k1 rfl
  · rcases (show q.2.1 = 0 ∨ q.2.1 = 1 by omega) with e | e
    · exact gt_t (k2 e) rfl
    · obtain ⟨z, hz, e2⟩ := k3 e
      rw [← e2]
      exact gt_s hz
theorem rk_ok : ∀ a, a < nM → (mKd a < 2 ∨ mKd a = 3) → (mO a < 13 ∨ (mO a = 15 ∧ mKd a < 2)) := by decide +kernel
theorem oC_eq : ∀ k, k < 13 → ownOf k = cC k := by decide +kernel
section Snd5
variable {g : GG} {L : Nat} {xs : Nat → Int32} {p : Program} {l : Launch} {e : Env} {R : Room} {s : State} {m : MethodId} {args : Array Value} {below : List Frame} {meth : Method} {c : Code} {mi c0 s0 d : Nat} {Q : State → Prop} {rv : Option AV} {hf : Hp}
variable {kn : St → Option Rs} {kc : Nat → List AV → Hp → Option Rs} {pc pc' : Nat} {lo lo' : Lo} {st st' : List AV} {h : Hp} {op nx a b c9 : Nat} {ci : Int32} {cl : Int64} {tg : List Nat}
theorem run_go {H : Heap} {locs : List Loc} {cells slots mc ms : Nat} {ls : Array Slot} {st0 rest : List Value} {aa : Array Value} {r1 : Option AV} {h1 : Hp} (hr : va_Run p l e R s m args below meth c H locs cells slots mc ms (F0 m pc ls st0) rest (Fn g r1 h1 aa) (gA g)) (hS9 : va_S (gA g) s.heap H locs)
    (kk : ∀ (H1 : Heap) (locs1 : List Loc), Hold g h1 H1 → va_S (gA g) s.heap H1 locs1 → W p l e R s m args below meth c H1 locs1 (cells + mc) (slots + ms) Q (F0 m (pc + 3) ls ((r1.map (cv g)).toList ++ rest))) : W p l e R s m args below meth c H locs cells slots Q (F0 m pc ls st0) := by
  intro T hT X
  obtain ⟨v, st₀, t, T', L9, h0, X', hL, e1, e2, ⟨hv, hH1, hz1, hk1⟩, st9⟩ := hr T hT X
  cases hv
  rw [h0] at hz1 hk1
  obtain ⟨t2, a1, b1⟩ := kk T'.heap (locs ++ L9) (by rw [e1]; exact hH1) ⟨Nat.le_trans hS9.1 (by rw [e1]; exact hz1), fun q h1 h2 => by rw [e1, hk1 q (Nat.lt_of_lt_of_le h1 hS9.1) h2]; exact hS9.2.1 q h1 h2, fun q hq => by
      rcases List.mem_append.mp hq with h | h
      · exact hS9.2.2 q h
      · exact hL q h⟩ T' rfl X'
  exact ⟨t2, st9 t2 a1, b1⟩
theorem bI_use {o : Option Rs} {k : Int32 → Hp → Option Rs} {r : Rs} (h : bI o k = some r) : ∃ x h1, o = some (some (vI x), h1) ∧ k x h1 = some r := by
  unfold bI at h
  split at h
  · exact ⟨_, _, rfl, h⟩
  · cases h
theorem bL_use {o : Option Rs} {k : Int64 → Hp → Option Rs} {r : Rs} (h : bL o k = some r) : ∃ x h1, o = some (some (vL x), h1) ∧ k x h1 = some r := by
  unfold bL at h
  split at h
  · exact ⟨_, _, rfl, h⟩
  · cases h
theorem bV_use {o : Option Rs} {k : Hp → Option Rs} {r : Rs} (h : bV o k = some r) : ∃ h1, o = some (none, h1) ∧ k h1 = some r := by
  unfold bV at h
  split at h
  · exact ⟨_, rfl, h⟩
  · cases h
theorem call_use (H : o_op kn kc (50, pc + 3, a, b, c9, ci, cl, tg) lo st h = some (rv, hf)) : b ≤ st.length ∧ rck tg (st.drop (b - 1)) = true ∧ wd (st.drop b) ≤ 8 ∧ ∃ r1 h1, kc a (st.take b).reverse h = some (r1, h1) ∧ kn (pc + 3, lo, r1.toList ++ st.drop b, h1) = some (rv, hf) := by
  change (bif Nat.ble b st.length && rck tg (st.drop (b - 1)) && Nat.ble (wd (st.drop b)) 8 then frc (st.take b).reverse (fun ar => frc (st.drop b) (fun st => match c9 with
      | 0 => bV (kc a ar h) (fun h => kn (pc + 3, lo, st, h))
      | 1 => bI (kc a ar h) (fun x h => kn (pc + 3, lo, vI x :: st, h))
      | _ => bL (kc a ar h) (fun x h => kn (pc + 3, lo, vL x :: st, h)))) else none) = some (rv, hf) at H
  cases hk : (Nat.ble b st.length && rck tg (st.drop (b - 1)) && Nat.ble (wd (st.drop b)) 8)
  · rw [hk] at H; cases H
  · rw [hk, Bool.cond_true, frc_eq, frc_eq] at H
    obtain ⟨hk, h3⟩ := Bool.and_eq_true_iff.mp hk
    obtain ⟨h1, h2⟩ := Bool.and_eq_true_iff.mp hk
    refine ⟨Nat.le_of_ble_eq_true h1, h2, Nat.le_of_ble_eq_true h3, ?_⟩
    split at H
    · obtain ⟨h1, e1, e2⟩ := bV_use H
      exact ⟨none, h1, e1, e2⟩
    · obtain ⟨x, h1, e1, e2⟩ := bI_use H
      exact ⟨_, h1, e1, e2⟩
    · obtain ⟨x, h1, e1, e2⟩ := bL_use H
      exact ⟨_, h1, e1, e2⟩
theorem optmap {g : GG} {r1 : Option AV} {rest : List AV} : (r1.toList ++ rest).map (cv g) = (r1.map (cv g)).toList ++ rest.map (cv g) := by
  cases r1 <;> rfl
/-- a call, once its run is known -/
theorem call_gd (IH : Pk g L xs p l e R s m args below meth c mi c0 s0 d Q rv hf kn) (K : KcOk g L xs l d kc) (wt : wtS L xs c0 s0 (pc, lo, st, h)) (ha : a < nM) (H : o_op kn kc (50, pc + 3, a, b, c9, ci, cl, tg) lo st h = some (rv, hf))
    (hrun : ∀ (r1 : Option AV) (h1 : Hp), MA g L xs l d a (st.take b).reverse h r1 h1 → b ≤ st.length → rck tg (st.drop (b - 1)) = true → wd (st.drop b) ≤ 8 → hC h ≤ hC h1 ∧ hC h1 ≤ hC hf ∧ hS h ≤ hS h1 ∧ hS h1 ≤ hS hf → Cx g L xs p R s m args meth c mi c0 s0 d hf → ∀ (H : Heap) (locs : List Loc) (ls : Array Slot), Hold g h H → va_S (gA g) s.heap H locs → lh g lo (mMx mi) ls →
      va_Run p l e R s m args below meth c H locs (hC h - c0) (hS h - s0) (hC h1 - hC h) (hS h1 - hS h) (F0 m pc ls (st.map (cv g))) ((st.drop b).map (cv g)) (Fn g r1 h1 ((st.take b).reverse.map (cv g)).toArray) (gA g)) : Gd g L xs p l e R s m args below meth c mi c0 s0 d Q rv hf (pc, lo, st, h) := by
  obtain ⟨u1, u2, u3, r1, h1, hk, hn⟩ := call_use H
  obtain ⟨⟨q1, q2, q3⟩, q4⟩ := K a _ h r1 h1 hk wt.1 (fun v hv => wt.2.1 v (List.mem_of_mem_take (List.mem_reverse.mp hv)))
  have wt2 : wtS L xs c0 s0 (pc, lo, r1.toList ++ st.drop b, h1) := by
    refine ⟨q2, fun v hv => ?_, fun k v hv => (wt.2.2.1 k v hv).up q1, Nat.le_trans wt.2.2.2.1 q1.1, Nat.le_trans wt.2.2.2.2 q1.2.1⟩
    have hv : v ∈ r1.toList ++ st.drop b := hv
    rcases List.mem_append.mp hv with z | z
    · exact q3 v (by simpa using z)
    · exact (wt.2.1 v (List.mem_of_mem_drop z)).up q1
  have ih := IH _ hn wt2
  refine ⟨⟨q1.tr ih.1.1, ih.1.2⟩, fun hC9 H locs ls hH hS9 hl => ?_⟩
  have i1 : gro h1 hf := ih.1.1
  have z1 : c0 ≤ hC h := wt.2.2.2.1
  have z2 : s0 ≤ hS h := wt.2.2.2.2
  have z3 := q1.1
  have z4 := q1.2.1
  refine run_go (hrun r1 h1 (q4 ha) u1 u2 u3 ⟨q1.1, i1.1, q1.2.1, i1.2.1⟩ hC9 H locs ls hH hS9 hl) hS9 (fun H1 locs1 hH1 hS1 => ?_)
  have w := ih.2 hC9 H1 locs1 ls hH1 hS1 hl
  rw [optmap] at w
  have w : W p l e R s m args below meth c H1 locs1 (hC h1 - c0) (hS h1 - s0) Q (F0 m (pc + 3) ls ((r1.map (cv g)).toList ++ (st.drop b).map (cv g))) := w
  show W p l e R s m args below meth c H1 locs1 (hC h - c0 + (hC h1 - hC h)) (hS h - s0 + (hS h1 - hS h)) Q _
  rw [show hC h - c0 + (hC h1 - hC h) = hC h1 - c0 by omega, show hS h - s0 + (hS h1 - hS h) = hS h1 - s0 by omega]
  exact w
/-- the stack at a call of an object's method -/
theorem stk_v {k : Nat} (h1 : b + 1 ≤ st.length) (h2 : rck [k] (st.drop b) = true) : ∃ r, st = st.take b ++ vR k r :: st.drop (b + 1) ∧ (st.take (b + 1)).reverse = vR k r :: (st.take b).reverse ∧ vR k r ∈ st := by
  have hlt : b < st.length := by omega
  have e1 : st.drop b = st[b] :: st.drop (b + 1) := List.drop_eq_getElem_cons hlt
  rw [e1] at h2
  have hm : st[b] ∈ st := List.getElem_mem hlt
  have e3 : st.take (b + 1) = st.take b ++ [st[b]] := List.take_succ_eq_append_getElem hlt
  generalize st[b] = z at e1 h2 hm e3
  rcases z with x | x | ⟨k', r⟩
  · cases h2
  · cases h2
  · have hk : k' = k := beq_t h2
    subst hk
    refine ⟨r, ?_, ?_, hm⟩
    · rw [← e1]; exact (List.take_append_drop b st).symm
    · rw [e3]; simp
theorem recv_ok (ha : a < nM) (hkd : mKd a < 2 ∨ mKd a = 3) {r : Nat} (hk : kok h (rkd a) r) {H : Heap} {locs : List Loc} (hH : Hold g h H) (hS9 : va_S (gA g) s.heap H locs) (hE : Evn g L xs s) : ∃ cellB : Cell, H[adr g (rkd a) r]? = some cellB ∧ cellB.vm.isStatics = false ∧ s.vm.findClass (my a).cls = some cellB.cls := by
  rcases rk_ok a ha hkd with q | ⟨q, -⟩
  · have e : rkd a = mO a := by unfold rkd; rw [if_neg (by omega)]
    rw [e] at hk ⊢
    obtain ⟨hr, hkr, -⟩ := hk.1 (by omega)
    rw [adr_h (by omega)]
    have := va_recv hE.1 hH.1 (vcl_at (by omega : mO a < 14)) (q0 := r) (by rw [wsO_at hr, cE_o hkr q])
    rw [← oC_eq _ q] at this
    exact this
  · have e : rkd a = 40 := by unfold rkd; rw [if_pos q]
    rw [e] at hk ⊢
    have hr := hk.2.1 (Or.inl rfl)
    have := vk_recv hE.2.2.2.1 hr hS9
    have e2 : (my a).cls = "java/lang/String" := by
      show ownOf (mO a) = _
      rw [q]
      rfl
    rw [e2]
    exact this
theorem pcm_ok {ar : List AV} {H : Heap} {locs : List Loc} (hH : Hold g h H) (hS9 : va_S (gA g) s.heap H locs) (hE : Evn g L xs s) {aa : Array Value} (haa : aa = (ar.map (cv g)).toArray) : ∀ U : State, U.heap = H → s.WarmedH U.vm → PcM g L xs ar h aa U :=
  fun U hU hW => ⟨haa, by rw [hU]; exact hH, hE.mv hW (by rw [hU]; exact hS9.1) (fun q h1 h2 => by rw [hU]; exact hS9.2.1 q h1 h2)⟩
theorem cls_ok (ha : a < nM) : (my a).cls ≠ "java/lang/invoke/MethodHandle" ∧ (my a).cls ≠ "java/lang/invoke/VarHandle" ∧ (parseMethodDescriptor (my a).desc).map (fun d => d.parameters.length) = some (mNp a) :=
  ⟨(tt_pl _ (tt_mo a ha).1).1, (tt_pl _ (tt_mo a ha).1).2, tt_np a ha⟩
theorem rm_ok (ha : a < nM) {h1 : Hp} (hRm : Rm R hf c0 s0 d) : (rmD d h h1).frames + 1 ≤ R.frames ∧ 8 + (mMx a + 11) + (rmD d h h1).locals ≤ R.locals := by
  have q1 := hRm.2.2.1
  have q2 := hRm.2.2.2
  have q3 := tt_mx a ha
  refine ⟨q1, ?_⟩
  show 8 + (mMx a + 11) + 64 * d ≤ R.locals
  omega
theorem mlk_use {mi k a n : Nat} (h4 : any4 mlk (mO mi) k a n = true) : a < nM ∧ (n = 0 → Cond.methodLink (ownOf (mO mi)) k (my a) ∈ gtbl) ∧ (n = 1 → ∃ z, (mO mi, k, a, 1, z) ∈ mlk) := by
  obtain ⟨z, hz⟩ := any4_use h4
  have q := tt_mlk _ hz
  refine ⟨q.1, fun e => ?_, fun e => ?_⟩
  · subst e
    exact gt_t q.2 rfl
  · subst e
    exact ⟨z, hz⟩
set_option maxHeartbeats 1000000 in
theorem s_virt {k9 : Nat} (C : Pk g L xs p l e R s m args below meth c mi c0 s0 d Q rv hf kn) (K : KcOk g L xs l d kc) (hd : decode (mCd mi) pc = .ok (.invokevirtual k9, 3)) (hc : chk mi pc (.invokevirtual k9) (op, pc + 3, a, b, c9, ci, cl, tg) = true) (wt : wtS L xs c0 s0 (pc, lo, st, h)) (H : o_op kn kc (op, pc + 3, a, b, c9, ci, cl, tg) lo st h = some (rv, hf)) : Gd g L xs p l e R s m args below meth c mi c0 s0 d Q rv hf (pc, lo, st, h) := by
  by_cases h63 : op = 63
  · subst h63
    have : (none : Option Rs) = some (rv, hf) := H
    cases this
  simp [chk, h63] at hc
  obtain ⟨⟨⟨⟨⟨rfl, hml4⟩, rfl⟩, rfl⟩, -⟩, hkd⟩ := hc
  have ha : a < nM := by rcases hml4 with q | q <;> exact (mlk_use q).1
  refine call_gd C K wt ha H (fun r1 h1 hM u1 u2 u3 rmm hC9 H locs ls hH hS9 hl => ?_)
  obtain ⟨hx, hb, hml, hown, hts, hmn, hE, hz, hRm⟩ := hC9
  rw [show mNp a + 1 - 1 = mNp a by omega] at u2
  obtain ⟨r, e1, e2, e3⟩ := stk_v u1 u2
  have hk : kok h (rkd a) r := wt.2.1 _ e3
  have h43 : rkd a ≠ 43 := by
    rcases rk_ok a ha (Or.inl hkd) with q | ⟨q, -⟩
    · unfold rkd; rw [if_neg (by omega)]; omega
    · unfold rkd; rw [if_pos q]; omega
  have hst : st.map (cv g) = (((st.take (mNp a)).reverse).map (cv g)).reverse ++ .ref (adr g (rkd a) r) :: (st.drop (mNp a + 1)).map (cv g) := by
    conv => lhs; rw [e1]
    rw [List.map_append, List.map_cons, cv_r h43, List.map_reverse, List.reverse_reverse]
  have har : (Value.ref (adr g (rkd a) r) :: ((st.take (mNp a)).reverse).map (cv g)) = ((st.take (mNp a + 1)).reverse).map (cv g) := by rw [e2, List.map_cons, cv_r h43]
  have hW8 : ((((st.drop (mNp a + 1)).map (cv g))).map fun v => v.category).sum ≤ 8 := by rw [wd_cat hE.2.2.2.2.2.2.2.2.2.2]; exact u3
  have hpv : PreV s H (my a).cls (adr g (rkd a) r) (PcM g L xs (st.take (mNp a + 1)).reverse h) (((st.take (mNp a)).reverse).map (cv g)) := ⟨PcM.blind g L xs _ h, recv_ok ha (Or.inl hkd) hk hH hS9 hE, pcm_ok hH hS9 hE (by rw [har])⟩
  have hlen : (((st.take (mNp a)).reverse).map (cv g)).length = mNp a := by simp; omega
  have z1 : c0 ≤ hC h := wt.2.2.2.1
  have z2 : s0 ≤ hS h := wt.2.2.2.2
  have hff : hC h - c0 + (hC h1 - hC h) ≤ R.cells ∧ hS h - s0 + (hS h1 - hS h) ≤ R.slots := by
    have := hRm.1
    have := hRm.2.1
    omega
  have hinst := hts _ ((mp_all ha).2.1 (by omega))
  have hsel := hts _ ((mp_all ha).2.2.1 hkd)
  have hini := hts _ (in_o (tt_mo a ha).1)
  rcases hml4 with q | q
  · exact va_runV ⟨hx, hb, hml, hown, hts⟩ hM ⟨callB_of (mNp a) hts (mws_good a ha) rfl rfl rfl hini (hts _ ((mlk_use q).2.1 rfl)) (cls_ok ha) (rm_ok ha hRm), hinst, hsel⟩ hpv rfl hlen hl.2.1 hst (lv_room hW8) hd hff
  · obtain ⟨z, hz9⟩ := (mlk_use q).2.2 rfl
    have hnw : va_Nw (.methodLinkNest (ownOf (mO mi)) k9 (my a) "StairWays") s := hE.2.1 (mO mi, k9, a, 1, z) hz9 rfl
    exact va_runVN ⟨hx, hb, hml, hown, hts⟩ hM ⟨va_cnB (mNp a) hts (mws_good a ha) rfl rfl rfl hnw hini (cls_ok ha) (rm_ok ha hRm), hinst, hsel⟩ hpv rfl hlen hl.2.1 hst (lv_room hW8) hd hff
set_option maxHeartbeats 1000000 in
theorem s_stat {k9 : Nat} (C : Pk g L xs p l e R s m args below meth c mi c0 s0 d Q rv hf kn) (K : KcOk g L xs l d kc) (hd : decode (mCd mi) pc = .ok (.invokestatic k9, 3)) (hc : chk mi pc (.invokestatic k9) (op, pc + 3, a, b, c9, ci, cl, tg) = true) (wt : wtS L xs c0 s0 (pc, lo, st, h)) (H : o_op kn kc (op, pc + 3, a, b, c9, ci, cl, tg) lo st h = some (rv, hf)) : Gd g L xs p l e R s m args below meth c mi c0 s0 d Q rv hf (pc, lo, st, h) := by
  by_cases h63 : op = 63
  · subst h63
    have : (none : Option Rs) = some (rv, hf) := H
    cases this
  simp [chk, h63] at hc
  rcases hc with ⟨⟨⟨⟨⟨rfl, q⟩, rfl⟩, rfl⟩, -⟩, hkd⟩ | ⟨rfl, h2⟩
  · have ha : a < nM := (mlk_use q).1
    refine call_gd C K wt ha H (fun r1 h1 hM u1 u2 u3 rmm hC9 H locs ls hH hS9 hl => ?_)
    obtain ⟨hx, hb, hml, hown, hts, hmn, hE, hz, hRm⟩ := hC9
    have hst : st.map (cv g) = (((st.take (mNp a)).reverse).map (cv g)).reverse ++ (st.drop (mNp a)).map (cv g) := by
      conv => lhs; rw [← List.take_append_drop (mNp a) st]
      rw [List.map_append, List.map_reverse, List.reverse_reverse]
    have hW8 : ((((st.drop (mNp a)).map (cv g))).map fun v => v.category).sum ≤ 8 := by rw [wd_cat hE.2.2.2.2.2.2.2.2.2.2]; exact u3
    have hlen : (((st.take (mNp a)).reverse).map (cv g)).length = mNp a := by simp; omega
    have z1 : c0 ≤ hC h := wt.2.2.2.1
    have z2 : s0 ≤ hS h := wt.2.2.2.2
    have hff : hC h - c0 + (hC h1 - hC h) ≤ R.cells ∧ hS h - s0 + (hS h1 - hS h) ≤ R.slots := by
      have := hRm.1
      have := hRm.2.1
      omega
    exact va_runS ⟨hx, hb, hml, hown, hts⟩ hM ⟨callB_of (mNp a) hts (mws_good a ha) rfl rfl rfl (hts _ (in_o (tt_mo a ha).1)) (hts _ ((mlk_use q).2.1 rfl)) (cls_ok ha) (rm_ok ha hRm), hts _ ((mp_all ha).1 hkd)⟩ ⟨PcM.blind g L xs _ h, pcm_ok hH hS9 hE rfl⟩ rfl hlen hl.2.1 hst (lv_room hW8) hd hff
  · exact s_copy C hd h2 wt H
set_option maxHeartbeats 1000000 in
theorem s_spec {k9 : Nat} (C : Pk g L xs p l e R s m args below meth c mi c0 s0 d Q rv hf kn) (K : KcOk g L xs l d kc) (hd : decode (mCd mi) pc = .ok (.invokespecial k9, 3)) (hc : chk mi pc (.invokespecial k9) (op, pc + 3, a, b, c9, ci, cl, tg) = true) (wt : wtS L xs c0 s0 (pc, lo, st, h)) (H : o_op kn kc (op, pc + 3, a, b, c9, ci, cl, tg) lo st h = some (rv, hf)) : Gd g L xs p l e R s m args below meth c mi c0 s0 d Q rv hf (pc, lo, st, h) := by
  by_cases h63 : op = 63
  · subst h63
    have : (none : Option Rs) = some (rv, hf) := H
    cases this
  simp [chk, h63] at hc
  rcases hc with ⟨⟨⟨⟨⟨⟨rfl, hml4⟩, rfl⟩, rfl⟩, -⟩, hrt⟩, hkd⟩ | ⟨rfl, h2⟩
  · have ha : a < nM := by rcases hml4 with q | q <;> exact (mlk_use q).1
    refine call_gd C K wt ha H (fun r1 h1 hM u1 u2 u3 rmm hC9 H locs ls hH hS9 hl => ?_)
    obtain ⟨hx, hb, hml, hown, hts, hmn, hE, hz, hRm⟩ := hC9
    rw [show mNp a + 1 - 1 = mNp a by omega] at u2
    obtain ⟨r, e1, e2, e3⟩ := stk_v u1 u2
    have h43 : rkd a ≠ 43 := by
      rcases rk_ok a ha (Or.inr hkd) with q | ⟨q, -⟩
      · unfold rkd; rw [if_neg (by omega)]; omega
      · unfold rkd; rw [if_pos q]; omega
    have hst : st.map (cv g) = (((st.take (mNp a)).reverse).map (cv g)).reverse ++ .ref (adr g (rkd a) r) :: (st.drop (mNp a + 1)).map (cv g) := by
      conv => lhs; rw [e1]
      rw [List.map_append, List.map_cons, cv_r h43, List.map_reverse, List.reverse_reverse]
    have har : (Value.ref (adr g (rkd a) r) :: ((st.take (mNp a)).reverse).map (cv g)) = ((st.take (mNp a + 1)).reverse).map (cv g) := by rw [e2, List.map_cons, cv_r h43]
    have hW8 : ((((st.drop (mNp a + 1)).map (cv g))).map fun v => v.category).sum ≤ 8 := by rw [wd_cat hE.2.2.2.2.2.2.2.2.2.2]; exact u3
    have hpv : PreS s H (PcM g L xs (st.take (mNp a + 1)).reverse h) (.ref (adr g (rkd a) r) :: ((st.take (mNp a)).reverse).map (cv g)) := ⟨PcM.blind g L xs _ h, pcm_ok hH hS9 hE (by rw [har])⟩
    have hlen : (((st.take (mNp a)).reverse).map (cv g)).length = mNp a := by simp; omega
    have z1 : c0 ≤ hC h := wt.2.2.2.1
    have z2 : s0 ≤ hS h := wt.2.2.2.2
    have hff : hC h - c0 + (hC h1 - hC h) ≤ R.cells ∧ hS h - s0 + (hS h1 - hS h) ≤ R.slots := by
      have := hRm.1
      have := hRm.2.1
      omega
    have hinst := hts _ ((mp_all ha).2.1 (by omega))
    have hini := hts _ (in_o (tt_mo a ha).1)
    have hnm := (mp_all ha).2.2.2 hkd
    have hw : mws a = Cond.code (my a) (mCd a) (mMx a) none :: gtbl := by unfold mws; rw [hrt]
    rcases hml4 with q | q
    · exact va_runI ⟨hx, hb, hml, hown, hts⟩ hM ⟨callB_of (mNp a) hts (mws_good a ha) hw rfl rfl hini (hts _ ((mlk_use q).2.1 rfl)) (cls_ok ha) (rm_ok ha hRm), hnm, hinst⟩ hpv rfl hlen hl.2.1 hst (lv_room hW8) hd hff
    · obtain ⟨z, hz9⟩ := (mlk_use q).2.2 rfl
      have hnw : va_Nw (.methodLinkNest (ownOf (mO mi)) k9 (my a) "StairWays") s := hE.2.1 (mO mi, k9, a, 1, z) hz9 rfl
      exact va_runIN ⟨hx, hb, hml, hown, hts⟩ hM ⟨va_cnB (mNp a) hts (mws_good a ha) hw rfl rfl hnw hini (cls_ok ha) (rm_ok ha hRm), hnm, hinst⟩ hpv rfl hlen hl.2.1 hst (lv_room hW8) hd hff
  · exact s_objInit C hd h2 wt H
/-! returns -/
def RetOk (g : GG) (p : Program) (l : Launch) (e : Env) (R : Room) (s : State) (m : MethodId) (args : Array Value) (below : List Frame) (meth : Method) (c : Code) (mi c0 s0 : Nat) (Q : State → Prop) (rv : Option AV) (hf : Hp) : Prop :=
  ∀ (pc : Nat) (ls : Array Slot) (H : Heap) (locs : List Loc), Hold g hf H → va_S (gA g) s.heap H locs →
    ((decode (mCd mi) pc = .ok (.ireturn, 1) ∧ ∃ x ty, rv = some (vI x) ∧ mRt mi = some ty ∧ narrow ty (.int x) = .int x) ∨ (decode (mCd mi) pc = .ok (.lreturn, 1) ∧ (∃ x, rv = some (vL x)) ∧ mRt mi = some .long) ∨ (decode (mCd mi) pc = .ok (.return_, 1) ∧ rv = none ∧ mRt mi = none)) →
    W p l e R s m args below meth c H locs (hC hf - c0) (hS hf - s0) Q (F0 m pc ls ((rv.map (cv g)).toList))
theorem s_ireturn (rt : Cx g L xs p R s m args meth c mi c0 s0 d hf → RetOk g p l e R s m args below meth c mi c0 s0 Q rv hf) (hd : decode (mCd mi) pc = .ok (.ireturn, 1)) (hc : chk mi pc .ireturn (op, pc + 1, a, b, c9, ci, cl, tg) = true) (wt : wtS L xs c0 s0 (pc, lo, st, h)) (H : o_op kn kc (op, pc + 1, a, b, c9, ci, cl, tg) lo st h = some (rv, hf)) : Gd g L xs p l e R s m args below meth c mi c0 s0 d Q rv hf (pc, lo, st, h) := by
  by_cases h63 : op = 63
  · subst h63
    have : (none : Option Rs) = some (rv, hf) := H
    cases this
  simp [chk, h63] at hc
  obtain ⟨rfl, hrt⟩ := hc
  have key : ∃ x, st = [vI x] ∧ rv = some (vI x) ∧ hf = h ∧ ∃ ty, mRt mi = some ty ∧ narrow ty (.int x) = .int x := by
    change (match (generalizing := false) st with
      | [.inl x] => (match (generalizing := false) a with
        | 0 => some (some (vI x), h)
        | 1 => bif isB x then some (some (vI x), h) else none
        | 2 => bif isBy x then some (some (vI x), h) else none
        | _ => bif isCh x then some (some (vI x), h) else none)
      | _ => none) = some (rv, hf) at H
    split at H
    · rename_i x
      split at H
      · cases H
        exact ⟨x, rfl, rfl, rfl, _, hrt, rfl⟩
      · cases hB : isB x
        · rw [hB] at H; cases H
        · rw [hB] at H; cases H
          exact ⟨x, rfl, rfl, rfl, _, hrt, boo_n hB⟩
      · cases hB : isBy x
        · rw [hB] at H; cases H
        · rw [hB] at H; cases H
          have hq : x.toInt8.toInt32 = x := by simpa [isBy] using hB
          refine ⟨x, rfl, rfl, rfl, _, hrt, ?_⟩
          have := pk_nb x
          rw [hq] at this
          exact this
      · rename_i n0 n1 n2
        cases hB : isCh x
        · rw [hB] at H; cases H
        · rw [hB] at H; cases H
          refine ⟨x, rfl, rfl, rfl, .char, ?_, chr_n hB⟩
          rw [hrt]
          split <;> first | rfl | contradiction
    · cases H
  obtain ⟨x, rfl, rfl, rfl, ty, h1, h2⟩ := key
  exact ⟨⟨gro.rf _, wt.1, fun v hv => by cases hv; trivial⟩, fun hC9 H locs ls hH hS9 hl => rt hC9 pc ls H locs hH hS9 (Or.inl ⟨hd, x, ty, rfl, h1, h2⟩)⟩
theorem s_lreturn (rt : Cx g L xs p R s m args meth c mi c0 s0 d hf → RetOk g p l e R s m args below meth c mi c0 s0 Q rv hf) (hd : decode (mCd mi) pc = .ok (.lreturn, 1)) (hc : chk mi pc .lreturn (op, pc + 1, a, b, c9, ci, cl, tg) = true) (wt : wtS L xs c0 s0 (pc, lo, st, h)) (H : o_op kn kc (op, pc + 1, a, b, c9, ci, cl, tg) lo st h = some (rv, hf)) : Gd g L xs p l e R s m args below meth c mi c0 s0 d Q rv hf (pc, lo, st, h) := by
  by_cases h63 : op = 63
  · subst h63
    have : (none : Option Rs) = some (rv, hf) := H
    cases this
  simp [chk, h63] at hc
  obtain ⟨rfl, hrt⟩ := hc
  change (match (generalizing := false) st with
    | [.inr (.inl x)] => some (some (vL x), h)
    | _ => none) = some (rv, hf) at H
  split at H
  · rename_i x
    cases H
    exact ⟨⟨gro.rf _, wt.1, fun v hv => by cases hv; trivial⟩, fun hC9 H locs ls hH hS9 hl => rt hC9 pc ls H locs hH hS9 (Or.inr (Or.inl ⟨hd, ⟨x, rfl⟩, hrt⟩))⟩
  · cases H
theorem s_return (rt : Cx g L xs p R s m args meth c mi c0 s0 d hf → RetOk g p l e R s m args below meth c mi c0 s0 Q rv hf) (hd : decode (mCd mi) pc = .ok (.return_, 1)) (hc : chk mi pc .return_ (op, pc + 1, a, b, c9, ci, cl, tg) = true) (wt : wtS L xs c0 s0 (pc, lo, st, h)) (H : o_op kn kc (op, pc + 1, a, b, c9, ci, cl, tg) lo st h = some (rv, hf)) : Gd g L xs p l e R s m args below meth c mi c0 s0 d Q rv hf (pc, lo, st, h) := by
  by_cases h63 : op = 63
  · subst h63
    have : (none : Option Rs) = some (rv, hf) := H
    cases this
  simp [chk, h63] at hc
  obtain ⟨rfl, hrt⟩ := hc
  change (match (generalizing := false) st with
    | [] => some (none, h)
    | _ => none) = some (rv, hf) at H
  split at H
  · cases H
    exact ⟨⟨gro.rf _, wt.1, fun v hv => by cases hv⟩, fun hC9 H locs ls hH hS9 hl => rt hC9 pc ls H locs hH hS9 (Or.inr (Or.inr ⟨hd, rfl, hrt⟩))⟩
  · cases H
end Snd5
