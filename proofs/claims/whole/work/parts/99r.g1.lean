/-! StairWays.plain, where it throws -/
def rmT : Jvm.Room := { frames := 8, cells := 1, slots := 6, locals := 128 }
def oaX : List Cond := Bundle.ownAtoms0 "StairWays" 186 "java/util/NoSuchElementException" ["java/lang/RuntimeException", "java/lang/Exception"]
def ixTh : List Nat := [21, 1123, 1132, 1134, 1137, 1139, 1124, 1125, 31, 32, 1126, 1131, 1135, 1151, 1113, 1152, 1115, 1153, 1117, 1127, 1128, 1129, 1130, 1119, 1141, 1142, 1143, 1144, 1104, 1144, 1145, 1146, 1147, 1106, 1147, 1148, 1149, 1124, 1108, 1140, 1102, 1103, 1110, 1111, 1112, 1114, 1116, 1118, 0, 0, 1122, 1121, 1120]
def oaN : List Nat := [20, 22, 28, 33, 38, 41, 48, 49]
theorem oa_tb : ∀ k, k < 53 → ¬ k ∈ oaN → tables_1[ixTh.getD k 0]? = oaX[k]? ∧ (oaX[k]?).all goodWord = true := by decide +kernel
theorem oa_len : oaX.length = 53 := by decide +kernel
theorem oa_rf : oaX[20]? = some (.laysStatic "java/lang/Throwable" "UNASSIGNED_STACK" "[Ljava/lang/StackTraceElement;") ∧ oaX[22]? = some (.laysStatic "java/lang/Throwable" "SUPPRESSED_SENTINEL" "Ljava/util/List;") ∧ oaX[28]? = some (.declares ⟨"java/lang/RuntimeException", "<init>", "()V"⟩) ∧ oaX[33]? = some (.declares ⟨"java/lang/Exception", "<init>", "()V"⟩) ∧ oaX[38]? = some (.declares ⟨"java/lang/Throwable", "<init>", "()V"⟩) ∧ oaX[41]? = some (.castable "java/util/NoSuchElementException" "java/util/NoSuchElementException") ∧ oaX[48]? = some (.isRef (.static "java/lang/Throwable" "UNASSIGNED_STACK" "[Ljava/lang/StackTraceElement;")) ∧ oaX[49]? = some (.isRef (.static "java/lang/Throwable" "SUPPRESSED_SENTINEL" "Ljava/util/List;")) := by decide +kernel
theorem oa_ok {g : GG} {args : Array Value} {s : State} (hg : ∀ w ∈ gtbl, w.before args s = true) (hz : ZTh g s) : ∀ a ∈ oaX, a.before args s = true := by
  intro a ha
  obtain ⟨k, hk⟩ := List.mem_iff_getElem?.mp ha
  have hk2 : k < 53 := by rw [← oa_len]; exact (List.getElem?_eq_some_iff.mp hk).1
  obtain ⟨r1, r2, r3, r4, r5, r6, r7, r8⟩ := oa_rf
  by_cases hn : k ∈ oaN
  · have hn : k = 20 ∨ k = 22 ∨ k = 28 ∨ k = 33 ∨ k = 38 ∨ k = 41 ∨ k = 48 ∨ k = 49 := by simpa [oaN] using hn
    rcases hn with h | h | h | h | h | h | h | h
    · rw [h, r1] at hk; cases hk; exact hz.1.ls
    · rw [h, r2] at hk; cases hk; exact hz.2.1.ls
    · rw [h, r3] at hk; cases hk; exact va_Nw.use rfl hz.2.2.1
    · rw [h, r4] at hk; cases hk; exact va_Nw.use rfl hz.2.2.2.1
    · rw [h, r5] at hk; cases hk; exact va_Nw.use rfl hz.2.2.2.2.1
    · rw [h, r6] at hk; cases hk; exact va_Nw.use rfl hz.2.2.2.2.2
    · rw [h, r7] at hk; cases hk; exact hz.1.rf
    · rw [h, r8] at hk; cases hk; exact hz.2.1.rf
  · obtain ⟨q1, q2⟩ := oa_tb k hk2 hn
    rw [hk] at q1 q2
    exact hg a (gt_t q1 q2)
theorem tt_th : tables_1[1101]? = some (.classLink "StairWays" 184 "java/util/NoSuchElementException") ∧ tables_1[24]? = some (.initialized "java/util/NoSuchElementException") ∧ tables_1[1100]? = some (.constant "StairWays" 183 999999999) := by decide +kernel
theorem dp_0 : decode (mCd 114) 0 = .ok (.iload_n 1, 1) := by decide +kernel
theorem dp_1 : decode (mCd 114) 1 = .ok (.ifCond .lt 21, 3) := by decide +kernel
theorem dp_4 : decode (mCd 114) 4 = .ok (.iload_n 1, 1) := by decide +kernel
theorem dp_5 : decode (mCd 114) 5 = .ok (.ldc 183, 2) := by decide +kernel
theorem dp_7 : decode (mCd 114) 7 = .ok (.if_icmp .gt 15, 3) := by decide +kernel
theorem dp_10 : decode (mCd 114) 10 = .ok (.iload_n 2, 1) := by decide +kernel
theorem dp_11 : decode (mCd 114) 11 = .ok (.iconst 1, 1) := by decide +kernel
theorem dp_12 : decode (mCd 114) 12 = .ok (.if_icmp .lt 10, 3) := by decide +kernel
theorem dp_15 : decode (mCd 114) 15 = .ok (.iload_n 2, 1) := by decide +kernel
theorem dp_16 : decode (mCd 114) 16 = .ok (.sipush 9999, 3) := by decide +kernel
theorem dp_19 : decode (mCd 114) 19 = .ok (.if_icmp .le 11, 3) := by decide +kernel
theorem dp_22 : decode (mCd 114) 22 = .ok (.new 184, 3) := by decide +kernel
theorem dp_25 : decode (mCd 114) 25 = .ok (.dup, 1) := by decide +kernel
theorem dp_26 : decode (mCd 114) 26 = .ok (.invokespecial 186, 3) := by decide +kernel
theorem dp_29 : decode (mCd 114) 29 = .ok (.athrow, 1) := by decide +kernel
def PTh (g : GG) (q : Nat) (p0 p1 : Int32) : Array Value → State → Prop := fun a U => a = ([.ref q, .int p0, .int p1] : List Value).toArray ∧ ZTh g U
def QTh : Array Value → State → Outcome → State → Prop := fun _ U o t => o = .threw U.heap.size ∧ U.WarmedH t.vm ∧ U.sameButNew ({ t with vm := U.vm } : State) [] 1 6 ∧ ∃ ce, t.heap[U.heap.size]? = some ce ∧ U.vm.findClass "java/util/NoSuchElementException" = some ce.cls ∧ ce.vm = .none
theorem noTr {l : Launch} (hfl : l.flags = flags0) {e : Env} (ha : l.admits e) : e.platform.stackTraces = false := by
  rw [Jvm.Example.NoTraceControls.admits_follows ha]
  unfold Launch.stackTraces
  rw [hfl]
  decide +kernel
set_option maxHeartbeats 1000000 in
theorem plain_thr {l : Launch} (hfl : l.flags = flags0) (g : GG) (q : Nat) {p0 p1 : Int32} (hr : ¬ (0 ≤ p0 ∧ p0 ≤ 999999999 ∧ 1 ≤ p1 ∧ p1 ≤ 9999)) : MetFree l (my 114) (headSpec (mws 114) rmT) (PTh g q p0 p1) (fun _ _ _ _ _ => True) QTh := by
  refine MetFree.of_bodySF (code := mCd 114) (maxLocals := 3) (ret := mRt 114) (tt_pf 114 (by decide)) ?_ ?_
  · intro args s m h hn
    obtain ⟨meth, c, h1, h2, h3, h4, h5, h6, -, -⟩ := Cond.code_spec hn (atoms_spec (ws := mws 114) h _ List.mem_cons_self)
    exact ⟨meth, c, h1, h2, h3, h4, h5, h6⟩
  · intro p e s m args below meth c s₁ B hml hP _
    obtain ⟨rfl, hz⟩ := hP
    have hts : ∀ w ∈ mws 114, w.before _ s = true := atoms_spec (ws := mws 114) B.pre
    have hg : ∀ w ∈ gtbl, w.before _ s = true := fun w hw => hts w (List.mem_cons_of_mem _ hw)
    have hh0 : s₁.heap = s.heap := by rw [B.state]; rfl
    have hown : s.vm.findClass "StairWays" = some m.cls := findClass_of_methodNamed B.named
    have hx := B.exec
    have hb := B.bytes
    have hnh := B.noHandlers (hts _ List.mem_cons_self)
    have K22 : ∀ ls : Array Slot, ls.size = 3 → W p l e (headSpec (mws 114) rmT).room s m ([.ref q, .int p0, .int p1] : List Value).toArray below meth c s.heap [] 0 0 (fun t => ∃ o, t.status = .running ∧ Ended t below o ∧ QTh ([.ref q, .int p0, .int p1] : List Value).toArray s o t) (F0 m 22 ls []) := by
      intro ls hls T hT X
      have htr := noTr hfl X.admits
      obtain ⟨vm₁, cX, kX, hfX, hkX, -, -, X₁, st1⟩ := X.newCold hx (own := "StairWays") (C := "java/util/NoSuchElementException") (index := 184) (n := 6) hown (hg _ (gt_t tt_th.1 rfl)) (hg _ (gt_t tt_ls.2.2.2.2.2.2 rfl)) (hg _ (gt_t tt_th.2.1 rfl))
        (g := F0 m 22 ls []) rfl (by rw [hb]; exact dp_22) (Nat.le_of_ble_eq_true rfl) (Nat.le_of_ble_eq_true rfl)
      generalize hT1 : (T.setVm vm₁).pushCell { cls := cX, slots := kX.instanceTypes.map defaultValue, vm := .none } = T1 at X₁ st1
      have hcellA : T1.heap[T.heap.size]? = some (freshCell cX kX) := by rw [← hT1]; exact State.heap_pushCell_size _ _
      obtain ⟨U, hsteps, hrun, hend, hW, hsame, ce, hce, Kc⟩ := X₁.ctorThrow0 hx htr (own := "StairWays") (cls := "java/util/NoSuchElementException") (names := ["java/lang/RuntimeException", "java/lang/Exception"]) (ic := 186) hown (by decide +kernel) (by decide +kernel)
        (oa_ok hg hz) (fun y hy => by cases hy) hfX hkX hcellA (by rw [hT]; exact Nat.le_refl _)
        (g := F0 m 26 ls [.ref T.heap.size, .ref T.heap.size]) rfl (by rw [hml]; exact hls) rfl rfl (rest := []) rfl
        (by rw [hb]; exact dp_26) (by rw [hb]; exact dp_29) (covers_of_empty hnh _) (Nat.le_of_ble_eq_true rfl) (Nat.le_of_ble_eq_true rfl) B.notSynchronized
      rw [hT] at hend hce
      refine ⟨U, st1 _ ?_, .threw s.heap.size, hrun, hend, rfl, hW, hsame, ce, hce, Kc.cls, Kc.vm⟩
      show Steps p.tables e below (T1.setTop (F0 m 25 ls [.ref T.heap.size])) U
      jvm_step X₁.here [X₁.here.top, hx, hb, dp_25, Value.category]
      exact hsteps
    have hl := lv_entry ([.ref q, .int p0, .int p1]) (n := 3) (Nat.le_of_ble_eq_true rfl)
    have Wk : W p l e (headSpec (mws 114) rmT).room s m ([.ref q, .int p0, .int p1] : List Value).toArray below meth c s.heap [] 0 0 (fun t => ∃ o, t.status = .running ∧ Ended t below o ∧ QTh ([.ref q, .int p0, .int p1] : List Value).toArray s o t) (entryFrame m ([.ref q, .int p0, .int p1] : List Value).toArray 3) := by
      rw [lg_entry_eq]
      generalize (lg_sl ([.ref q, .int p0, .int p1]) ++ List.replicate (3 - (lg_sl ([.ref q, .int p0, .int p1])).length) Slot.unset).toArray = ls at hl ⊢
      have hl : lv_has ls 3 [(0, .ref q), (1, .int p0), (2, .int p1)] := hl
      refine lv_iload_n hx hb dp_0 rfl (lv_at hl 1 rfl) ?_
      refine lv_if_lt (tgt := 22) hx hb dp_1 (by decide) (fun h1 => K22 ls hl.1) (fun h1 => ?_)
      refine lv_iload_n hx hb dp_4 rfl (lv_at hl 1 rfl) ?_
      refine lv_ldc hx hb hown (hg _ (gt_t tt_th.2.2 rfl)) dp_5 ?_
      refine lv_icmp_gt (tgt := 22) hx hb dp_7 (by decide) (fun h2 => K22 ls hl.1) (fun h2 => ?_)
      refine lv_iload_n hx hb dp_10 rfl (lv_at hl 2 rfl) ?_
      refine lv_iconst (v := 1) hx hb dp_11 rfl ?_
      refine lv_icmp_lt (tgt := 22) hx hb dp_12 (by decide) (fun h3 => K22 ls hl.1) (fun h3 => ?_)
      refine lv_iload_n hx hb dp_15 rfl (lv_at hl 2 rfl) ?_
      refine lv_sipush (v := 9999) hx hb dp_16 (by decide) ?_
      exact lv_icmp_le (tgt := 30) hx hb dp_19 (by decide) (fun h4 => absurd ⟨Int32.not_lt.mp h1, Int32.not_lt.mp h2, Int32.not_lt.mp h3, h4⟩ hr) (fun _ => K22 ls hl.1)
    obtain ⟨t, a1, o, b1, b2, b3⟩ := Wk s₁ hh0 (Stand.of_body B)
    exact ⟨t, o, a1, b1, b2, b3⟩
