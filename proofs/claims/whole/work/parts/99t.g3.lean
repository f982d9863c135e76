/-! the law's own plain, whole -/
def tx_lp : Tx := ([(0, (4, 1, 3, 0, 0, 0, 0, [])), (1, (0, 2, 0, 0, 0, 0, 0, [])), (2, (4, 3, 0, 0, 0, 0, 0, [])), (3, (2, 4, 1, 0, 0, 0, 0, [])), (4, (2, 5, 2, 0, 0, 0, 0, [])), (5, (50, 8, 114, 3, 1, 0, 0, [11])), (8, (18, 9, 0, 0, 0, 0, 0, [])), (9, (43, 10, 0, 0, 0, 0, 0, [])), (10, (26, 13, 0, 17, 0, 0, 0, [])), (17, (0, 18, 0, 0, 0, 0, 0, [])), (18, (53, 19, 0, 0, 0, 0, 0, []))], [])
theorem tk_lp : tx_lp.1.all (fun z => enOk 255 z.1 z.2) = true := by decide +kernel
theorem e_lp (kc : Nat → List AV → Hp → Option Rs) (x o9 : Nat) (p0 p1 : Int32) (h : Hp) : evs kc tx_lp (0, [some (vR 11 x), some (vI p0), some (vI p1), some (vR 21 o9), none], [], h) = bI (kc 114 [vR 11 x, vI p0, vI p1] h) (fun y h2 => ifp (inb 0 (hN h2 o9) = true) (some (some (vI 0), sL h2 o9 0 y.toInt64)) none) := (evs_xpd kc tx_lp [] 20 _).trans rfl
def wsL : List Cond := Cond.codeWith (my 255) (mCd 255) 5 (some .int) [(0, 10, 13, 13)] :: gtbl
theorem tt_lp : tables_1[1094]? = some (.codeWith (my 255) (mCd 255) 5 (some .int) [(0, 10, 13, 13)]) ∧ tables_1[1092]? = some (.methodLink "StairWaysLaw" 77 (my 255)) ∧ tables_1[1093]? = some (.static (my 255)) ∧ tables_1[1095]? = some (.classLink "StairWaysLaw" 13 "java/util/NoSuchElementException") := by decide +kernel
theorem wsL_good : GoodIn gtbl wsL := by
  intro w hw
  rcases List.mem_cons.mp hw with rfl | q
  · exact ⟨gt_t tt_lp.1 rfl, Or.inl rfl⟩
  · exact ⟨q, gt_good q⟩
theorem dl_0 : decode (mCd 255) 0 = .ok (.aload_n 3, 1) := by decide +kernel
theorem dl_1 : decode (mCd 255) 1 = .ok (.iconst 0, 1) := by decide +kernel
theorem dl_2 : decode (mCd 255) 2 = .ok (.aload_n 0, 1) := by decide +kernel
theorem dl_3 : decode (mCd 255) 3 = .ok (.iload_n 1, 1) := by decide +kernel
theorem dl_4 : decode (mCd 255) 4 = .ok (.iload_n 2, 1) := by decide +kernel
theorem dl_13 : decode (mCd 255) 13 = .ok (.astore 4, 2) := by decide +kernel
theorem dl_15 : decode (mCd 255) 15 = .ok (.iconst 1, 1) := by decide +kernel
theorem dl_16 : decode (mCd 255) 16 = .ok (.ireturn, 1) := by decide +kernel
theorem lp_nm : plainName (my 255).cls = true := by decide +kernel
theorem lp_rt : mRt 255 = some .int ∧ mMx 255 = 5 ∧ rkd 114 = 11 := by decide
section Lp
variable {g : GG} {L : Nat} {xs : Nat → Int32} {l : Launch}
def PcL (g : GG) (L : Nat) (xs : Nat → Int32) (ar : List AV) (h : Hp) : Array Value → State → Prop := fun a U => PcM g L xs ar h a U ∧ ZTh g U
/-- a new exception's cell beside the world -/
theorem hold_ex {h : Hp} {s : State} {H H1 : Heap} (hE : Evn g L xs s) (hH : Hold g h H) {ce : Cell} (hce : H1[H.size]? = some ce) (hcc : s.vm.findClass "java/util/NoSuchElementException" = some ce.cls) (hcv : ce.vm = .none) (hz : H1.size = H.size + 1) (hk : ∀ k : Nat, k < H.size → H1[k]? = H[k]?) : Hold g (sN h 30 0 6) H1 := by
  have e0 : cE g (sN h 30 0 6) (hC h) = .inr (13, []) := by
    have k1 : hK (sN h 30 0 6) (hC h) = 30 := if_pos rfl
    unfold cE
    rw [k1, if_neg (by omega), if_neg (by omega), if_neg (by omega), if_neg (by omega)]
  refine ⟨?_, ?_⟩
  · rw [← wsO_push e0]
    refine (hH.1.kept (fun k q hq => hk q.1 ((hH.1 k q hq).lt))).app (fun k q hq => ?_)
    have hz0 : k < 1 := (List.getElem?_eq_some_iff.mp hq).1
    rw [show k = 0 by omega] at hq
    cases hq
    have hc13 := hE.1.1 13 (cC 13, cT 13, cF 13) (vcl_at (by omega))
    refine ⟨(cC 13, cT 13, cF 13), vcl_at (by omega), ce, by rw [← hH.2]; exact hce, ?_, hcv, fun k hk9 => ?_⟩
    · have h1 : s.vm.findClass (cC 13) = some ((gD g).1 13) := hc13.2.1
      rw [cls13.1, hcc] at h1
      exact Option.some.inj h1
    · have : k < cF 13 := hk9
      rw [cls13.2] at this
      omega
  · rw [hz, hH.2]; rfl
set_option maxHeartbeats 1000000 in
theorem lp_ret {d : Nat} {kc : Nat → List AV → Hp → Option Rs} (K : KcOk g L xs l d kc) {x o9 : Nat} {p0 p1 : Int32} {h : Hp} {r1 : Option AV} {h1 : Hp} (hev : evs kc tx_lp (0, [some (vR 11 x), some (vI p0), some (vI p1), some (vR 21 o9), none], [], h) = some (r1, h1)) (hw : wtH L xs h) (hv : ∀ v ∈ [vR 11 x, vI p0, vI p1, vR 21 o9], vok h v) :
    Met l (my 255) wsL (rmD (d + 1) h h1) (PcL g L xs [vR 11 x, vI p0, vI p1, vR 21 o9] h) (Fn g r1 h1) (hC h1 - hC h) (hS h1 - hS h) (gA g) := by
  obtain ⟨k, hk⟩ := evs_iff.mp hev
  have wt0 : wtS L xs (hC h) (hS h) (0, [some (vR 11 x), some (vI p0), some (vI p1), some (vR 21 o9), none], [], h) :=
    ⟨hw, fun v q => (by cases q), fun k v q => ael_vok [vR 11 x, vI p0, vI p1, vR 21 o9] hv k v (pad_sub 1 _ _ _ q), Nat.le_refl _, Nat.le_refl _⟩
  refine va_MetW (cc := mCd 255) (maxL := 5) (ret := some .int) (hh := [(0, 10, 13, 13)]) lp_nm rfl ?_
  intro p e s m args below meth c s₁ B hml hv9
  obtain ⟨⟨rfl, hH, hE⟩, -⟩ := hv9
  have hts9 : ∀ w ∈ wsL, w.before _ s = true := atoms_spec (ws := wsL) B.pre
  have hlocks := B.notSynchronized
  have hC9 : Cx g L xs p (headSpec wsL (rmD (d + 1) h h1)).room s m (([vR 11 x, vI p0, vI p1, vR 21 o9].map (cv g)).toArray) meth c 255 (hC h) (hS h) d h1 :=
    ⟨B.exec, B.bytes, hml.trans lp_rt.2.1.symm, findClass_of_methodNamed B.named, fun w hw9 => hts9 w (List.mem_cons_of_mem _ hw9), (name_of_methodNamed B.named B.method).1, hE, hH.2, ⟨Nat.le_refl _, Nat.le_refl _, Nat.le_refl _, Nat.le_refl _⟩⟩
  have rt : Cx g L xs p (headSpec wsL (rmD (d + 1) h h1)).room s m (([vR 11 x, vI p0, vI p1, vR 21 o9].map (cv g)).toArray) meth c 255 (hC h) (hS h) d h1 → RetOk g p l e (headSpec wsL (rmD (d + 1) h h1)).room s m (([vR 11 x, vI p0, vI p1, vR 21 o9].map (cv g)).toArray) below meth c 255 (hC h) (hS h) (MQ below (Fn g r1 h1) (([vR 11 x, vI p0, vI p1, vR 21 o9].map (cv g)).toArray) s (hC h1 - hC h) (hS h1 - hS h) (gA g)) r1 h1 := by
    intro _ pc ls H locs hH9 hS9 hcase
    have hfin : ∀ v, r1.map (cv g) = v → ∀ t : State, t.heap = H → s.WarmedH t.vm → Fn g r1 h1 (([vR 11 x, vI p0, vI p1, vR 21 o9].map (cv g)).toArray) s (.returned v) t := fun v hv9 t ht _ => ⟨by rw [hv9], by rw [ht]; exact hH9, hS9.F ht⟩
    rcases hcase with ⟨hd, y, ty, rfl, hty, hnar⟩ | ⟨hd, -, hty⟩ | ⟨hd, -, hty⟩
    · rw [lp_rt.1] at hty
      cases hty
      exact W.zret B.exec B.bytes B.returns hnar (hfin _ rfl) hS9.2.2 hd
    · rw [lp_rt.1] at hty; cases hty
    · rw [lp_rt.1] at hty; cases hty
  have q := (run_ok K rt (fun pc e9 he => Or.inl (List.all_eq_true.mp tk_lp (pc, e9) (lk_mem he))) k _ hk wt0).2 hC9 s.heap [] _ hH va_S.rf (by
    have := entry_lh (g := g) hE.2.2.2.2.2.2.2.2.2.2 (ar := [vR 11 x, vI p0, vI p1, vR 21 o9]) (n := 5) (Nat.le_of_ble_eq_true rfl)
    rw [lp_rt.2.1]
    exact this)
  rw [lg_entry_eq]
  have e1 : hC h - hC h = 0 := Nat.sub_self _
  have e2 : hS h - hS h = 0 := Nat.sub_self _
  simp only [e1, e2] at q
  exact q
set_option maxHeartbeats 1000000 in
theorem lp_thr (hfl : l.flags = flags0) {d : Nat} (hd : 8 ≤ d) {x o9 : Nat} {p0 p1 : Int32} {h : Hp} (hr : ¬ (0 ≤ p0 ∧ p0 ≤ 999999999 ∧ 1 ≤ p1 ∧ p1 ≤ 9999)) (hv : kok h 11 x) :
    Met l (my 255) wsL (rmD (d + 1) h (sN h 30 0 6)) (PcL g L xs [vR 11 x, vI p0, vI p1, vR 21 o9] h) (Fn g (some (vI 1)) (sN h 30 0 6)) (hC (sN h 30 0 6) - hC h) (hS (sN h 30 0 6) - hS h) (gA g) := by
  have z1 : hC (sN h 30 0 6) - hC h = 1 := by show hC h + 1 - hC h = 1; omega
  have z2 : hS (sN h 30 0 6) - hS h = 6 := by show hS h + 6 - hS h = 6; omega
  have z3 : rmD (d + 1) h (sN h 30 0 6) = { frames := d + 1, cells := 1, slots := 6, locals := 64 * (d + 1) } := by unfold rmD; rw [z1, z2]
  rw [z1, z2, z3]
  refine va_MetW (cc := mCd 255) (maxL := 5) (ret := some .int) (hh := [(0, 10, 13, 13)]) lp_nm rfl ?_
  intro p e s m args below meth c s₁ B hml hv9
  obtain ⟨⟨rfl, hH, hE⟩, hz⟩ := hv9
  have hts9 : ∀ w ∈ wsL, w.before _ s = true := atoms_spec (ws := wsL) B.pre
  have hg : ∀ w ∈ gtbl, w.before _ s = true := fun w hw => hts9 w (List.mem_cons_of_mem _ hw)
  have hx := B.exec
  have hb := B.bytes
  have hlocks := B.notSynchronized
  have hown : s.vm.findClass "StairWaysLaw" = some m.cls := findClass_of_methodNamed B.named
  have htab : c.exceptionTable.toList = [⟨0, 10, 13, 13⟩] := by
    obtain ⟨m9, meth9, c9, n1, n2, n3, -, -, n6, -⟩ := Cond.codeWith_spec (hts9 _ List.mem_cons_self)
    cases B.named.symm.trans n1
    cases B.method.symm.trans n2
    cases (Stand.of_body B).code.symm.trans n3
    rw [← table_eq c.exceptionTable.toList, n6]
    rfl
  obtain ⟨cellB, hcB, hoB, hclB⟩ := recv_ok (g := g) (s := s) (h := h) (a := 114) (by decide) (Or.inl (by decide)) (r := x) (by rw [lp_rt.2.2]; exact hv) hH (va_S.rf (A := gA g)) hE
  rw [lp_rt.2.2] at hcB
  have hl := lv_entry ([vR 11 x, vI p0, vI p1, vR 21 o9].map (cv g)) (n := 5) (Nat.le_of_ble_eq_true rfl)
  show W p l e _ s m (([vR 11 x, vI p0, vI p1, vR 21 o9].map (cv g)).toArray) below meth c s.heap [] 0 0 (MQ below (Fn g (some (vI 1)) (sN h 30 0 6)) (([vR 11 x, vI p0, vI p1, vR 21 o9].map (cv g)).toArray) s 1 6 (gA g)) (entryFrame m (([vR 11 x, vI p0, vI p1, vR 21 o9].map (cv g)).toArray) 5)
  rw [lg_entry_eq]
  generalize (lg_sl ([vR 11 x, vI p0, vI p1, vR 21 o9].map (cv g)) ++ List.replicate (5 - (lg_sl ([vR 11 x, vI p0, vI p1, vR 21 o9].map (cv g))).length) Slot.unset).toArray = ls at hl ⊢
  have hl : lv_has ls 5 [(0, .ref (adr g 11 x)), (1, .int p0), (2, .int p1), (3, .ref (adr g 21 o9))] := hl
  refine lv_aload_n hx hb dl_0 rfl (lv_at hl 3 rfl) ?_
  refine lv_iconst (v := 0) hx hb dl_1 rfl ?_
  refine lv_aload_n hx hb dl_2 rfl (lv_at hl 0 rfl) ?_
  refine lv_iload_n hx hb dl_3 rfl (lv_at hl 1 rfl) ?_
  refine lv_iload_n hx hb dl_4 rfl (lv_at hl 2 rfl) ?_
  intro T hT X
  obtain ⟨V, ce, XV, hce, hcc, hcv, hsz, hkp, st⟩ := thr_call hfl X hx hg hown hb hml (ls := ls) hl.1 (g := g) (q := adr g 11 x) (qo := adr g 21 o9) hr (fun U hU hW => hz.mv hW (fun a _ _ => by rw [hU, hT])) (by rw [hT]; exact hcB) hoB hclB (by show 9 ≤ d + 1; omega) (by show 200 ≤ 64 * (d + 1); omega) (by show 1 ≤ 1; omega) (by show 6 ≤ 6; omega)
  obtain ⟨vm', XV', st2⟩ := caught_row XV (f := F0 m 5 ls [.int 0, .ref (adr g 21 o9)]) rfl hown htab rfl (by decide) (hg _ (gt_t tt_lp.2.2.2 rfl)) hce hcv hcc
  have Hn : Hold g (sN h 30 0 6) V.heap := hold_ex hE hH (by rw [← hT]; exact hce) hcc hcv (by rw [hsz, hT]) (fun k hk => by rw [hkp k (by rw [hT]; exact hk), hT])
  have hS9 : va_S (gA g) s.heap V.heap [] := ⟨by rw [hsz, hT]; omega, fun k hk _ => by rw [hkp k (by rw [hT]; exact hk), hT], fun q hq => by cases hq⟩
  have Kw : W p l e ({ frames := d + 1, cells := 1, slots := 6, locals := 64 * (d + 1) } : Jvm.Room) s m (([vR 11 x, vI p0, vI p1, vR 21 o9].map (cv g)).toArray) below meth c V.heap [] 1 6 (MQ below (Fn g (some (vI 1)) (sN h 30 0 6)) (([vR 11 x, vI p0, vI p1, vR 21 o9].map (cv g)).toArray) s 1 6 (gA g)) (F0 m 13 ls [.ref T.heap.size]) := by
    refine lv_astore hx hb dl_13 hl (by omega) rfl (fun ls' hl' => ?_)
    refine lv_iconst (v := 1) hx hb dl_15 rfl ?_
    exact W.iret hx hb B.returns (fun t ht _ => ⟨rfl, by rw [ht]; exact Hn, hS9.F ht⟩) (fun q hq => by cases hq) dl_16 hlocks
  obtain ⟨t, a1, b1⟩ := Kw (V.setVm vm') rfl XV'
  exact ⟨t, (st.trans st2).trans a1, b1⟩
/-- both ways -/
theorem lp_met (hfl : l.flags = flags0) {d : Nat} (hd : 8 ≤ d) {kc : Nat → List AV → Hp → Option Rs} (K : KcOk g L xs l d kc) {ar : List AV} {h : Hp} {r1 : Option AV} {h1 : Hp} (hev : lawp kc ar h = some (r1, h1)) (hw : wtH L xs h) (hv : ∀ v ∈ ar, vok h v) :
    Met l (my 255) wsL (rmD (d + 1) h h1) (PcL g L xs ar h) (Fn g r1 h1) (hC h1 - hC h) (hS h1 - hS h) (gA g) := by
  unfold lawp at hev
  split at hev
  · rename_i k x p0 p1 k2 o9
    cases hk : (Nat.beq k 11 && Nat.beq k2 21)
    · rw [hk] at hev; cases hev
    · rw [hk, Bool.cond_true] at hev
      obtain ⟨hk1, hk2⟩ := Bool.and_eq_true_iff.mp hk
      have hk1 := beq_t hk1
      have hk2 := beq_t hk2
      subst hk1
      subst hk2
      by_cases hr : 0 ≤ p0 ∧ p0 ≤ 999999999 ∧ 1 ≤ p1 ∧ p1 ≤ 9999
      · rw [ifp_t hr] at hev
        exact lp_ret K (by rw [e_lp]; exact hev) hw hv
      · rw [ifp_f hr] at hev
        unfold alc at hev
        by_cases hc : hC h < 1000000
        · rw [ifp_t hc] at hev
          cases hev
          exact lp_thr hfl hd hr (hv (vR 11 x) List.mem_cons_self)
        · rw [ifp_f hc] at hev; cases hev
  · cases hev
end Lp
