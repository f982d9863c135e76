/-! the world at the law's entry -/
def flL : List Cond := flatC (Jvm.Cond.and given_1 narrow_1)
def ixS : List Nat := [24, 36, 46, 59, 72, 85, 101, 117, 131, 147, 164, 183, 203, 221, 243, 266, 289, 312, 339, 365, 392, 421, 449]
def tmS (i : Nat) : Term := .string (ownOf (srf.getD i (0, 0, 0, 0)).1) (srf.getD i (0, 0, 0, 0)).2.1
theorem fl_ex : ∀ i, i < 23 → flL[ixS.getD i 0]? = some (.exactly (tmS i) "java/lang/String") := by decide +kernel
theorem fl_co : ∀ i, i < 23 → flL[ixS.getD i 0 + 1]? = some (.eq (.field (tmS i) "java/lang/String" "coder" "B") (.int 0)) := by decide +kernel
theorem fl_ar : ∀ i, i < 23 → flL[ixS.getD i 0 + 2]? = some (.arrayOf (.field (tmS i) "java/lang/String" "value" "[B") .byte) := by decide +kernel
theorem fl_le : ∀ i, i < 23 → flL[ixS.getD i 0 + 3]? = some (.eq (.length (.field (tmS i) "java/lang/String" "value" "[B")) (.int (Int32.ofNat (slens.getD i 0)))) := by decide +kernel
theorem fl_el : ∀ i, i < 23 → ∀ j, j < slens.getD i 0 → flL[ixS.getD i 0 + 4 + j]? = some (.eq (.elem (.field (tmS i) "java/lang/String" "value" "[B") (.int (Int32.ofNat j))) (.int ((sbyt.getD i []).getD j 0))) := by decide +kernel
theorem fl_ne : ∀ j, j < 23 → ∀ i, i < j → flL[ixS.getD j 0 + 4 + slens.getD j 0 + i]? = some (.not (.eq (tmS i) (tmS j))) := by decide +kernel
theorem fl_st : flL[4]? = some (.eq (.static "java/lang/String" "COMPACT_STRINGS" "Z") (.int 1)) ∧ flL[5]? = some (.isRef (.static "jdk/internal/util/Preconditions" "SIOOBE_FORMATTER" "Ljava/util/function/BiFunction;")) ∧ flL[9]? = some (.isRef (.static "java/lang/Throwable" "UNASSIGNED_STACK" "[Ljava/lang/StackTraceElement;")) ∧ flL[10]? = some (.isRef (.static "java/lang/Throwable" "SUPPRESSED_SENTINEL" "Ljava/util/List;")) := by decide +kernel
theorem tt_ls : tables_1[520]? = some (.laysStatic "java/lang/String" "COMPACT_STRINGS" "Z") ∧ tables_1[563]? = some (.laysStatic "jdk/internal/util/Preconditions" "SIOOBE_FORMATTER" "Ljava/util/function/BiFunction;") ∧ tables_1[1128]? = some (.laysStatic "java/lang/Throwable" "UNASSIGNED_STACK" "[Ljava/lang/StackTraceElement;") ∧ tables_1[1130]? = some (.laysStatic "java/lang/Throwable" "SUPPRESSED_SENTINEL" "Ljava/util/List;") ∧ tables_1[21]? = some (.initialized "java/lang/Throwable") ∧ tables_1[253]? = some (.arrayOver (.object "StairWays$Mark")) ∧ tables_1[1102]? = some (.instantiable "java/util/NoSuchElementException" 6) := by decide +kernel
theorem tt_dc : tables_1[1104]? = some (.declares ⟨"java/lang/RuntimeException", "<init>", "()V"⟩) ∧ tables_1[1106]? = some (.declares ⟨"java/lang/Exception", "<init>", "()V"⟩) ∧ tables_1[1108]? = some (.declares ⟨"java/lang/Throwable", "<init>", "()V"⟩) ∧ tables_1[1103]? = some (.castable "java/util/NoSuchElementException" "java/util/NoSuchElementException") := by decide +kernel
theorem srf_i : ∀ q ∈ srf, srf.getD q.2.2.1 (0, 0, 0, 0) = q := by decide +kernel
theorem slens_b : ∀ i, i < 23 → slens.getD i 0 < 2 ^ 31 := by decide +kernel
theorem cls13 : cC 13 = "java/util/NoSuchElementException" ∧ cF 13 = 0 := by decide
/-- a reference, or null -/
def isRv (v : Value) : Prop := v = .null ∨ ∃ a, v = .ref a
/-- a static field of the JDK's that holds a reference or null, out of the world's reach -/
def LSx (C n d : String) (A : Nat → Prop) (U : State) : Prop := ∃ (c : ClassId) (k : Class) (i : Nat) (f : Field) (a : Nat) (cell : Cell) (v : Value), U.vm.findClass C = some c ∧ U.fieldFound? C n d = some (c, k, i, f) ∧ f.isStatic = true ∧ k.statics = some a ∧ U.heap[a]? = some cell ∧ cell.vm.isStatics = true ∧ cell.cls = c ∧ f.slot < cell.slots.size ∧ k.staticTypes[f.slot]? = some f.type ∧ cell.slots[f.slot]? = some v ∧ isRv v ∧ ¬ A a
theorem LSx.mv {C n d : String} {A : Nat → Prop} {s U : State} (h : LSx C n d A s) (hW : s.WarmedH U.vm) (hq : ∀ a : Nat, a < s.heap.size → ¬ A a → U.heap[a]? = s.heap[a]?) : LSx C n d A U := by
  obtain ⟨c, k, i, f, a, cell, v, h1, h2, h3, h4, h5, h6, h7, h8, h9, h10, h11, h12⟩ := h
  obtain ⟨k', hi', he⟩ := State.fieldFound?_setVm hW.alike h2
  exact ⟨c, k', i, f, a, cell, v, by rw [hW.alike.findClass]; exact h1, hi', h3, by rw [he]; exact h4, by rw [hq a (Array.getElem?_eq_some_iff.mp h5).1 h12]; exact h5, h6, h7, h8, by rw [he]; exact h9, h10, h11, h12⟩
theorem LSx.ls {C n d : String} {A : Nat → Prop} {U : State} {args : Array Value} (h : LSx C n d A U) : (Cond.laysStatic C n d).before args U = true := by
  obtain ⟨c, k, i, f, a, cell, v, h1, h2, h3, h4, h5, h6, h7, h8, h9, h10, h11, h12⟩ := h
  exact Cond.laysStatic_of h1 h2 h3 h4 h5 h6 h7 h8 h9
theorem LSx.rf {C n d : String} {A : Nat → Prop} {U : State} {args : Array Value} (h : LSx C n d A U) : (Cond.isRef (.static C n d)).before args U = true := by
  obtain ⟨c, k, i, f, a, cell, v, h1, h2, h3, h4, h5, h6, h7, h8, h9, h10, h11, h12⟩ := h
  have e : (Term.static C n d).eval args U none [] U = some v := by
    simp [Term.eval, State.fieldNamed?, h2, h3, h4, h5, h6, h10]
  simp only [Cond.before, Cond.holds, Cond.value]
  rw [e]
  rcases h11 with rfl | ⟨b, rfl⟩ <;> rfl
def ZTh (g : GG) (U : State) : Prop :=
  LSx "java/lang/Throwable" "UNASSIGNED_STACK" "[Ljava/lang/StackTraceElement;" (gA g) U ∧ LSx "java/lang/Throwable" "SUPPRESSED_SENTINEL" "Ljava/util/List;" (gA g) U ∧ va_Nw (.declares ⟨"java/lang/RuntimeException", "<init>", "()V"⟩) U ∧ va_Nw (.declares ⟨"java/lang/Exception", "<init>", "()V"⟩) U ∧ va_Nw (.declares ⟨"java/lang/Throwable", "<init>", "()V"⟩) U ∧ va_Nw (.castable "java/util/NoSuchElementException" "java/util/NoSuchElementException") U
theorem ZTh.mv {g : GG} {s U : State} (h : ZTh g s) (hW : s.WarmedH U.vm) (hq : ∀ a : Nat, a < s.heap.size → ¬ gA g a → U.heap[a]? = s.heap[a]?) : ZTh g U :=
  ⟨h.1.mv hW hq, h.2.1.mv hW hq, va_Nw.warmD hW h.2.2.1, va_Nw.warmD hW h.2.2.2.1, va_Nw.warmD hW h.2.2.2.2.1, va_Nw.warmC hW h.2.2.2.2.2⟩
theorem isRef_of {t : Term} {args : Array Value} {s : State} (h : (Cond.isRef t).before args s = true) : ∃ v, t.eval args s none [] s = some v ∧ isRv v := by
  simp only [Cond.before, Cond.holds, Cond.value] at h
  cases hv : t.eval args s none [] s with
  | none => rw [hv] at h; simp at h
  | some v =>
    rw [hv] at h
    refine ⟨v, rfl, ?_⟩
    cases v with
    | null => exact Or.inl rfl
    | ref a => exact Or.inr ⟨a, rfl⟩
    | _ => simp at h
theorem LSx.of {C n d : String} {A : Nat → Prop} {s : State} {args : Array Value} (hl : (Cond.laysStatic C n d).before args s = true) (hr : (Cond.isRef (.static C n d)).before args s = true) (hA : ∀ a : Nat, a < s.heap.size → ¬ A a) : LSx C n d A s := by
  obtain ⟨c, k, i, f, a, cell, hc, hi, hst, ha, hcell, hs, hcls, hlt, hty⟩ := Cond.laysStatic_spec hl
  obtain ⟨v, hv, hv2⟩ := isRef_of hr
  have e : (Term.static C n d).eval args s none [] s = cell.slots[f.slot]? := by
    simp [Term.eval, State.fieldNamed?, hi, hst, ha, hcell, hs]
  rw [e] at hv
  exact ⟨c, k, i, f, a, cell, v, hc, hi, hst, ha, hcell, hs, hcls, hlt, hty, hv, hv2, hA a (Array.getElem?_eq_some_iff.mp hcell).1⟩
theorem isRv.cat {v : Value} (h : isRv v) : v.category = 1 := by
  rcases h with rfl | ⟨a, rfl⟩ <;> rfl
theorem arr_of {s : State} {args : Array Value} {ty : FieldType} (h : (Cond.arrayClass ty).before args s = true) (hp : ∀ C, ty ≠ .object C) : ∃ cA : ClassId, ArrOfT s cA ty ∧ va_RA s cA ty := by
  obtain ⟨cA, kA, comp, h1, h2, h3⟩ := Cond.arrayClass_spec h
  refine ⟨cA, fun n z => ⟨(fun k h => by cases h), kA, h2, comp, h3⟩, ?_⟩
  cases ty with
  | object C => exact absurd rfl (hp C)
  | _ => exact h1
theorem cls_known {s : State} {args : Array Value} (hg : ∀ w ∈ gtbl, w.before args s = true) : ∃ f : Nat → ClassId × (Nat → Nat), ∀ k, k < 14 → u_Kn s (cC k) (cT k) (cF k) (f k).1 (f k).2 := by
  have h0 : ∀ k : Nat, ∃ q : ClassId × (Nat → Nat), k < 14 → u_Kn s (cC k) (cT k) (cF k) q.1 q.2 := by
    intro k
    by_cases hk : k < 13
    · have hn : Cond.instantiable (cC k) (cF k) ∈ gtbl := by
        have d : ∀ k, k < 13 → ∃ q ∈ nwP, q.1 = k := by decide
        obtain ⟨q, hq, rfl⟩ := d k hk
        exact gt_t (tt_nw q hq) rfl
      obtain ⟨c, i, h⟩ := u_known (C := cC k) (T := cT k) (N := cF k) (n := cF k) hg (lay_in hk) (hg _ hn)
      exact ⟨(c, i), fun _ => h⟩
    · by_cases hk2 : k = 13
      · subst hk2
        have hn : Cond.instantiable "java/util/NoSuchElementException" 6 ∈ gtbl := gt_t tt_ls.2.2.2.2.2.2 rfl
        obtain ⟨c, i, h⟩ := u_known (C := cC 13) (T := cT 13) (N := cF 13) (n := 6) hg (fun w hw => by
          rw [cls13.2] at hw
          cases hw) (by rw [cls13.1]; exact hg _ hn)
        exact ⟨(c, i), fun _ => h⟩
      · exact ⟨(0, fun _ => 0), fun h => by omega⟩
  exact Classical.axiomOfChoice h0
theorem str_known {s : State} {args : Array Value} (hL : ∀ (i : Nat) (w : Cond), flL[i]? = some w → w.before args s = true) {A : Nat → Prop} (hA : ∀ a : Nat, a < s.heap.size → ¬ A a) : ∃ adK adV : Nat → Nat, vk_S 23 slens sbyt adK adV A s s.heap ∧ ∀ i : Nat, i < 23 → (tmS i).eval args s none [] s = some (.ref (adK i)) := by
  refine vk_Sof (tm := tmS) slens_b (fun i hi => hL _ _ (fl_ex i hi)) (fun i hi => hL _ _ (fl_co i hi)) (fun i hi => hL _ _ (fl_ar i hi)) (fun i hi => hL _ _ (fl_le i hi)) (fun i hi j hj => hL _ _ (fl_el i hi j hj)) (fun i j hi hj hij => ?_) hA
  rcases Nat.lt_or_gt_of_ne hij with h | h
  · exact Or.inl (hL _ _ (fl_ne j hj i h))
  · exact Or.inr (hL _ _ (fl_ne i hi j h))
/-- the law's entry: all that the pure machine stands on -/
theorem evn_start {s : State} {b L : Nat} {xs : Nat → Int32} (hts : ∀ w ∈ lw_tbl, w.before #[Value.ref b] s = true) (hX : va_X b L xs s s.heap) (hbl : b < s.heap.size) (hgv : (Jvm.Cond.and given_1 narrow_1).before #[Value.ref b] s = true) : ∃ g : GG, Evn g L xs s ∧ gB g = s.heap.size ∧ gX g = b ∧ ZTh g s := by
  have hg : ∀ w ∈ gtbl, w.before #[Value.ref b] s = true := fun w hw => hts w (List.mem_filter.mp hw).1
  have ht : ∀ (i : Nat) (w : Cond), tables_1[i]? = some w → w.before #[Value.ref b] s = true := fun i w h => hts w (List.mem_append_right _ (List.mem_of_getElem? h))
  have hL : ∀ (i : Nat) (w : Cond), flL[i]? = some w → w.before #[Value.ref b] s = true := fun i w h => flat_of_before _ hgv w (List.mem_of_getElem? h)
  have hA : ∀ a : Nat, a < s.heap.size → ¬ (fun q => s.heap.size ≤ q) a := fun a h q => by
    have q : s.heap.size ≤ a := q
    omega
  obtain ⟨f, hf⟩ := cls_known hg
  obtain ⟨adK, adV, hS, hev⟩ := str_known hL hA
  obtain ⟨fm, hfm, hfm2⟩ := isRef_of (hL _ _ fl_st.2.1)
  obtain ⟨y0, h0a, h0b⟩ := arr_of (hg _ (gt_m (tt_ac .int (by simp)) rfl)) (fun C h => by cases h)
  obtain ⟨y1, h1a, h1b⟩ := arr_of (hg _ (gt_m (tt_ac .long (by simp)) rfl)) (fun C h => by cases h)
  obtain ⟨y2, h2a, h2b⟩ := arr_of (hg _ (gt_m (tt_ac .char (by simp)) rfl)) (fun C h => by cases h)
  obtain ⟨y3, h3a, h3b⟩ := arr_of (hg _ (gt_m (tt_ac .boolean (by simp)) rfl)) (fun C h => by cases h)
  have hao := ht _ _ tt_ls.2.2.2.2.2.1
  obtain ⟨comp, y4, k4, q1, -, q3, q4, q5⟩ := Cond.arrayOver_spec hao
  refine ⟨((fun k => (f k).1, fun k => (f k).2), fun k => if k = 20 then y0 else if k = 21 then y1 else if k = 22 then y2 else if k = 23 then y3 else y4, s.heap.size, b, adK, adV, fm), ?_, rfl, rfl, LSx.of (ht _ _ tt_ls.2.2.1) (hL _ _ fl_st.2.2.1) hA, LSx.of (ht _ _ tt_ls.2.2.2.1) (hL _ _ fl_st.2.2.2) hA, va_Nw.of rfl (ht _ _ tt_dc.1), va_Nw.of rfl (ht _ _ tt_dc.2.1), va_Nw.of rfl (ht _ _ tt_dc.2.2.1), va_Nw.of rfl (ht _ _ tt_dc.2.2.2)⟩
  refine ⟨⟨fun k q hq => ?_, fun k q hq => ?_⟩, fun q hq hn => ?_, fun q hq => ?_, hS, va_Zof (ht _ _ tt_ls.1) (hg _ (in_o (k := 15) (by omega))) (va_eqt (hL _ _ fl_st.1)) hA, va_Zof (ht _ _ tt_ls.2.1) (hg _ (in_o (k := 17) (by omega))) hfm hA, va_AO.of hao, hX, hbl, Nat.le_refl _, hfm2.cat⟩
  · have hk : k < 14 := by
      have : k < vcl.length := (List.getElem?_eq_some_iff.mp hq).1
      rwa [show vcl.length = 14 from by decide] at this
    rw [vcl_at hk] at hq
    cases hq
    exact hf k hk
  · match k, hq with
    | 0, hq => cases hq; exact ⟨h0a, h0b⟩
    | 1, hq => cases hq; exact ⟨h1a, h1b⟩
    | 2, hq => cases hq; exact ⟨h2a, h2b⟩
    | 3, hq => cases hq; exact ⟨h3a, h3b⟩
    | 4, hq => cases hq; exact ⟨fun n z => ⟨(fun k h => by cases h), k4, q3, comp, q4⟩, k4, comp, q3, q4, q1, q5⟩
    | k + 5, hq => cases hq
  · have := (tt_mlk q hq).2
    rw [if_neg (by omega)] at this
    exact va_Nw.of rfl (ht _ _ this)
  · have e1 := hev q.2.2.1 (tt_srf q hq).2
    unfold tmS at e1
    rw [srf_i q hq] at e1
    exact vk_R.of (ht _ _ (tt_srf q hq).1) e1
