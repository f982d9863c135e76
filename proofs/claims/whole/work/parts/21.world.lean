/-! The pure machine's heap, as the JVM's heap holds it. -/
def gtbl : List Cond := lw_tbl.filter goodWord
theorem gt_t {w : Cond} {i : Nat} (h : tables_1[i]? = some w) (hg : goodWord w = true) : w ∈ gtbl := List.mem_filter.mpr ⟨List.mem_append_right _ (List.mem_of_getElem? h), hg⟩
theorem gt_s {q : MethodName × Nat} (h : q ∈ lw_privs) : Cond.selects q.1.cls q.1 q.1 ∈ gtbl := List.mem_filter.mpr ⟨List.mem_append_left _ (List.mem_map.mpr ⟨q, h, rfl⟩), rfl⟩
theorem gt_good {w : Cond} (h : w ∈ gtbl) : (w.onTables && w.keeps) = true ∨ ∃ ty, w = .arrayClass ty := good_of_word (List.mem_filter.mp h).2
abbrev GG : Type := va_G × (Nat → ClassId) × Nat × Nat × (Nat → Nat) × (Nat → Nat) × Value
def gD (g : GG) : va_G := g.1
def gY (g : GG) : Nat → ClassId := g.2.1
def gB (g : GG) : Nat := g.2.2.1
def gX (g : GG) : Nat := g.2.2.2.1
def gK (g : GG) : Nat → Nat := g.2.2.2.2.1
def gV (g : GG) : Nat → Nat := g.2.2.2.2.2.1
def gF (g : GG) : Value := g.2.2.2.2.2.2
def gA (g : GG) : Nat → Prop := fun q => gB g ≤ q
def adr (g : GG) (k r : Nat) : Nat := if k = 40 then gK g r else if k = 41 then gV g r else if k = 42 then gX g else gB g + r
def cv (g : GG) (v : AV) : Value := match v with
  | .inl x => .int x
  | .inr (.inl x) => .long x
  | .inr (.inr (k, r)) => if k = 43 then gF g else .ref (adr g k r)
theorem adr_h {g : GG} {k r : Nat} (h : k < 40) : adr g k r = gB g + r := by
  unfold adr
  rw [if_neg (by omega), if_neg (by omega), if_neg (by omega)]
theorem cv_r {g : GG} {k r : Nat} (h : k ≠ 43) : cv g (vR k r) = .ref (adr g k r) := by
  show (if k = 43 then gF g else .ref (adr g k r)) = _
  rw [if_neg h]
def fV (g : GG) (h : Hp) (ci i k : Nat) : Value := if fK ci k = 102 then .long (hL h i k) else if 99 < fK ci k then .int (hI h i k) else va_rf ((hR h i k).map (fun x => gB g + x))
def cE (g : GG) (h : Hp) (i : Nat) : va_E :=
  if hK h i < 13 then .inr (hK h i, (List.range (cF (hK h i))).map (fV g h (hK h i) i))
  else if hK h i = 21 then .inl (gY g 21, hN h i, .inr (.inl (hL h i)))
  else if hK h i = 24 then .inl (gY g 24, hN h i, .inr (.inr (.inr (.inr (fun j => (hR h i j).map (fun x => gB g + x))))))
  else if hK h i < 30 then .inl (gY g (hK h i), hN h i, .inl (hI h i))
  else .inr (13, [])
def wsO (g : GG) (h : Hp) : va_W := (List.range (hC h)).map (fun i => (gB g + i, cE g h i))
def Hold (g : GG) (h : Hp) (H : Heap) : Prop := va_P (gD g) vcl (wsO g h) H ∧ H.size = gB g + hC h
def tys (g : GG) : List (ClassId × FieldType) := [(gY g 20, .int), (gY g 21, .long), (gY g 22, .char), (gY g 23, .boolean), (gY g 24, .object "StairWays$Mark")]
def slens : List Nat := sbyt.map List.length
def Evn (g : GG) (L : Nat) (xs : Nat → Int32) (U : State) : Prop :=
  va_K (gD g) vcl (tys g) U ∧ (∀ q ∈ mlk, q.2.2.2.1 = 1 → va_Nw (.methodLinkNest (ownOf q.1) q.2.1 (my q.2.2.1) "StairWays") U) ∧ (∀ q ∈ srf, vk_R (ownOf q.1) q.2.1 (stx.getD q.2.2.1 "") (gK g q.2.2.1) U) ∧
  vk_S 23 slens sbyt (gK g) (gV g) (gA g) U U.heap ∧ va_Z "java/lang/String" "COMPACT_STRINGS" "Z" (.int 1) (gA g) U U.heap ∧
  va_Z "jdk/internal/util/Preconditions" "SIOOBE_FORMATTER" "Ljava/util/function/BiFunction;" (gF g) (gA g) U U.heap ∧ va_AO "StairWays$Mark" U ∧ va_X (gX g) L xs U U.heap ∧ gX g < gB g ∧ gB g ≤ U.heap.size ∧ (gF g).category = 1
theorem Evn.mv {g : GG} {L : Nat} {xs : Nat → Int32} {s U : State} (h : Evn g L xs s) (hW : s.WarmedH U.vm) (hz : s.heap.size ≤ U.heap.size) (hq : ∀ a : Nat, a < s.heap.size → ¬ gA g a → U.heap[a]? = s.heap[a]?) : Evn g L xs U := by
  obtain ⟨h1, h2, h3, h4, h5, h6, h7, h8, h9, h10, h11⟩ := h
  refine ⟨va_K.moved hW.alike h1, fun q hq hn => va_Nw.warmM hW (h2 q hq hn), fun q hq => vk_R.warm hW (h3 q hq), (vk_S.moved hW.alike h4).kept hq, (va_Z.moved hW.alike h5).kept hq, (va_Z.moved hW.alike h6).kept hq, va_AO.moved hW.alike h7, (va_X.moved hW.alike h8).kept ?_, h9, by omega, h11⟩
  exact hq _ (by omega) (by unfold gA; omega)
theorem Evn.cl {g : GG} {L : Nat} {xs : Nat → Int32} {U : State} (h : Evn g L xs U) (f : JFrame) (mk : MethodId) (a : Array Value) : Evn g L xs (U.calling f mk a) :=
  h.mv (U := U.calling f mk a) (State.WarmedH.refl U) (Nat.le_refl _) (fun _ _ _ => rfl)
/-! kinds -/
def kok (h : Hp) (k r : Nat) : Prop := (k < 40 → r < hC h ∧ hK h r = k ∧ (k < 13 ∨ 19 < k ∧ k < 25)) ∧ (k = 40 ∨ k = 41 → r < 23) ∧ (k = 42 → r = 9999999) ∧ k < 44
def vok (h : Hp) (v : AV) : Prop := match v with
  | .inr (.inr (k, r)) => kok h k r
  | _ => True
def rok (h : Hp) (r : Option AV) : Prop := ∀ v, r = some v → vok h v
def gro (h h' : Hp) : Prop := hC h ≤ hC h' ∧ hS h ≤ hS h' ∧ ∀ i, i < hC h → hK h' i = hK h i
theorem gro.rf (h : Hp) : gro h h := ⟨Nat.le_refl _, Nat.le_refl _, fun _ _ => rfl⟩
theorem gro.tr {a b c : Hp} (h1 : gro a b) (h2 : gro b c) : gro a c := ⟨Nat.le_trans h1.1 h2.1, Nat.le_trans h1.2.1 h2.2.1, fun i hi => (h2.2.2 i (Nat.lt_of_lt_of_le hi h1.1)).trans (h1.2.2 i hi)⟩
theorem kok.up {h h' : Hp} {k r : Nat} (g : gro h h') (q : kok h k r) : kok h' k r := ⟨fun hk => ⟨Nat.lt_of_lt_of_le (q.1 hk).1 g.1, (g.2.2 r (q.1 hk).1).trans (q.1 hk).2.1, (q.1 hk).2.2⟩, q.2⟩
theorem vok.up {h h' : Hp} {v : AV} (g : gro h h') (q : vok h v) : vok h' v := by
  rcases v with x | x | ⟨k, r⟩
  · trivial
  · trivial
  · exact kok.up g q
def wtH (L : Nat) (xs : Nat → Int32) (h : Hp) : Prop :=
  (∀ i, i < hC h → (hK h i < 13 ∨ (19 < hK h i ∧ hK h i < 25) ∨ hK h i = 30) ∧ (hK h i < 13 → ∀ k x, k < cF (hK h i) → fK (hK h i) k < 100 → hR h i k = some x → kok h (fK (hK h i) k) x) ∧ (hK h i = 24 → ∀ k x, hR h i k = some x → kok h 1 x)) ∧
  hC h ≤ 1000000 ∧ hN h 9999999 = L ∧ ∀ j, j < L → hI h 9999999 j = xs j
theorem fk_le {ci k : Nat} (h1 : ci < 13) (h2 : k < cF ci) : fK ci k < 103 := by
  have h := tt_fk ci h1 k h2
  unfold tyOk at h
  split at h <;> simp at h <;> omega
/-! the list of cells -/
theorem wsO_len (g : GG) (h : Hp) : (wsO g h).length = hC h := by simp [wsO]
theorem wsO_at {g : GG} {h : Hp} {i : Nat} (hi : i < hC h) : (wsO g h)[i]? = some (gB g + i, cE g h i) := by
  unfold wsO
  rw [List.getElem?_map, List.getElem?_range hi]
  rfl
theorem wsO_D (g : GG) (h : Hp) : va_D (gA g) (wsO g h) := by
  refine ⟨fun i j p q hp hq e => ?_, fun k q hk => ?_⟩
  · have hi : i < hC h := by rw [← wsO_len g h]; exact (List.getElem?_eq_some_iff.mp hp).1
    have hj : j < hC h := by rw [← wsO_len g h]; exact (List.getElem?_eq_some_iff.mp hq).1
    rw [wsO_at hi] at hp
    rw [wsO_at hj] at hq
    cases hp; cases hq
    simp at e
    exact e
  · have hi : k < hC h := by rw [← wsO_len g h]; exact (List.getElem?_eq_some_iff.mp hk).1
    rw [wsO_at hi] at hk
    cases hk
    exact Nat.le_add_right _ _
theorem wsO_set {g : GG} {h h2 : Hp} {r : Nat} {E : va_E} (hc : hC h2 = hC h) (hE : cE g h2 r = E) (ho : ∀ i, i ≠ r → cE g h2 i = cE g h i) : (wsO g h).set r (gB g + r, E) = wsO g h2 := by
  apply List.ext_getElem?
  intro i
  rw [List.getElem?_set]
  by_cases hi : i < hC h
  · rw [wsO_at hi, wsO_at (by rw [hc]; exact hi), wsO_len]
    by_cases hr : r = i
    · subst hr
      rw [if_pos rfl, if_pos hi, hE]
    · rw [if_neg hr, ho i (Ne.symm hr)]
  · have e1 : (wsO g h2)[i]? = none := List.getElem?_eq_none (by rw [wsO_len, hc]; omega)
    have e2 : (wsO g h)[i]? = none := List.getElem?_eq_none (by rw [wsO_len]; omega)
    rw [e1, e2, wsO_len]
    by_cases hr : r = i
    · subst hr
      rw [if_pos rfl, if_neg hi]
    · rw [if_neg hr]
theorem wsO_push {g : GG} {h : Hp} {kd len n : Nat} {E : va_E} (hE : cE g (sN h kd len n) (hC h) = E) : wsO g h ++ [(gB g + hC h, E)] = wsO g (sN h kd len n) := by
  have hc : hC (sN h kd len n) = hC h + 1 := rfl
  apply List.ext_getElem?
  intro i
  by_cases hi : i < hC h
  · rw [List.getElem?_append_left (by rw [wsO_len]; exact hi), wsO_at hi, wsO_at (by rw [hc]; omega)]
    have e : cE g (sN h kd len n) i = cE g h i := by
      have hne : i ≠ hC h := Nat.ne_of_lt hi
      have a1 : hK (sN h kd len n) i = hK h i := if_neg hne
      have a2 : hN (sN h kd len n) i = hN h i := if_neg hne
      have a3 : hI (sN h kd len n) i = hI h i := funext fun b => if_neg hne
      have a4 : hL (sN h kd len n) i = hL h i := funext fun b => if_neg hne
      have a5 : hR (sN h kd len n) i = hR h i := funext fun b => if_neg hne
      have a6 : fV g (sN h kd len n) (hK h i) i = fV g h (hK h i) i := by
        funext k
        unfold fV
        rw [a3, a4, a5]
      unfold cE
      rw [a1, a2, a3, a4, a5, a6]
    rw [e]
  · by_cases he : i = hC h
    · subst he
      rw [List.getElem?_append_right (by rw [wsO_len]; exact Nat.le_refl _), wsO_len, wsO_at (by rw [hc]; omega), hE]
      simp
    · rw [List.getElem?_eq_none (by simp [wsO_len]; omega), List.getElem?_eq_none (by rw [wsO_len, hc]; omega)]
theorem hold_of {g : GG} {h : Hp} {H : Heap} (hP : va_P (gD g) vcl (wsO g h) H) (h0 : 0 < hC h) (hs : H.size ≤ gB g + hC h) : Hold g h H := by
  refine ⟨hP, ?_⟩
  have := (hP (hC h - 1) _ (wsO_at (by omega))).lt
  simp at this
  omega
theorem newq_of {g : GG} {h : Hp} {q : Nat} {E : va_E} {H1 : Heap} (hP : va_P (gD g) vcl (wsO g h ++ [(q, E)]) H1) (hD : va_D (gA g) (wsO g h ++ [(q, E)])) (hs : H1.size ≤ gB g + (hC h + 1)) : q = gB g + hC h := by
  have hl : (wsO g h ++ [(q, E)])[hC h]? = some (q, E) := by
    rw [List.getElem?_append_right (by rw [wsO_len]; exact Nat.le_refl _), wsO_len]
    simp
  have h1 : gB g ≤ q := hD.2 _ _ hl
  have h2 := (hP _ _ hl).lt
  simp at h2
  by_cases hq : q < gB g + hC h
  · have hi : q - gB g < hC h := by omega
    have hm : (wsO g h ++ [(q, E)])[q - gB g]? = some (gB g + (q - gB g), cE g h (q - gB g)) := by
      rw [List.getElem?_append_left (by rw [wsO_len]; exact hi), wsO_at hi]
    have := hD.1 _ _ _ _ hl hm (by simp; omega)
    omega
  · omega
/-! what lies in a cell -/
theorem cE_o {g : GG} {h : Hp} {r ci : Nat} (hk : hK h r = ci) (hc : ci < 13) : cE g h r = .inr (ci, (List.range (cF ci)).map (fV g h ci r)) := by
  unfold cE
  rw [hk, if_pos hc]
theorem cE_i {g : GG} {h : Hp} {r k : Nat} (hk : hK h r = k) (hc : k = 20 ∨ k = 22 ∨ k = 23) : cE g h r = .inl (gY g k, hN h r, .inl (hI h r)) := by
  unfold cE
  rw [hk, if_neg (by omega), if_neg (by omega), if_neg (by omega), if_pos (by omega)]
theorem cE_l {g : GG} {h : Hp} {r : Nat} (hk : hK h r = 21) : cE g h r = .inl (gY g 21, hN h r, .inr (.inl (hL h r))) := by
  unfold cE
  rw [hk, if_neg (by omega), if_pos rfl]
theorem cE_q {g : GG} {h : Hp} {r : Nat} (hk : hK h r = 24) : cE g h r = .inl (gY g 24, hN h r, .inr (.inr (.inr (.inr (fun j => (hR h r j).map (fun x => gB g + x)))))) := by
  unfold cE
  rw [hk, if_neg (by omega), if_neg (by omega), if_pos rfl]
theorem rng_set {α : Type} (N k : Nat) (f f' : Nat → α) (x : α) (hk : f' k = x) (ho : ∀ j, j ≠ k → f' j = f j) : ((List.range N).map f).set k x = (List.range N).map f' := by
  apply List.ext_getElem?
  intro i
  rw [List.getElem?_set]
  by_cases hi : i < N
  · simp only [List.getElem?_map, List.getElem?_range hi, Option.map_some, List.length_map, List.length_range]
    by_cases h : k = i
    · subst h; rw [if_pos rfl, if_pos hi, hk]
    · rw [if_neg h, ho i (Ne.symm h)]
  · have e1 : ((List.range N).map f)[i]? = none := List.getElem?_eq_none (by simp; omega)
    have e2 : ((List.range N).map f')[i]? = none := List.getElem?_eq_none (by simp; omega)
    rw [e1, e2]
    by_cases h : k = i
    · subst h; rw [if_pos rfl, if_neg (by simp; omega)]
    · rw [if_neg h]
/-- a cell's own things alone change -/
theorem cE_same {g : GG} {h h2 : Hp} {i : Nat} (a1 : hK h2 i = hK h i) (a2 : hN h2 i = hN h i) (a3 : hI h2 i = hI h i) (a4 : hL h2 i = hL h i) (a5 : hR h2 i = hR h i) : cE g h2 i = cE g h i := by
  have a6 : fV g h2 (hK h i) i = fV g h (hK h i) i := by
    funext k
    unfold fV
    rw [a3, a4, a5]
  unfold cE
  rw [a1, a2, a3, a4, a5, a6]
theorem hI_sI (h : Hp) (r k : Nat) (v : Int32) (a b : Nat) : hI (sI h r k v) a b = if a = r ∧ b = k then v else hI h a b := rfl
theorem hL_sL (h : Hp) (r k : Nat) (v : Int64) (a b : Nat) : hL (sL h r k v) a b = if a = r ∧ b = k then v else hL h a b := rfl
theorem hR_sR (h : Hp) (r k v a b : Nat) : hR (sR h r k v) a b = if a = r ∧ b = k then some v else hR h a b := rfl
theorem ne_sI {h : Hp} {r k : Nat} {v : Int32} {g : GG} (i : Nat) (hi : i ≠ r) : cE g (sI h r k v) i = cE g h i := cE_same rfl rfl (funext fun b => by rw [hI_sI, if_neg (fun q => hi q.1)]) rfl rfl
theorem ne_sL {h : Hp} {r k : Nat} {v : Int64} {g : GG} (i : Nat) (hi : i ≠ r) : cE g (sL h r k v) i = cE g h i := cE_same rfl rfl rfl (funext fun b => by rw [hL_sL, if_neg (fun q => hi q.1)]) rfl
theorem ne_sR {h : Hp} {r k v : Nat} {g : GG} (i : Nat) (hi : i ≠ r) : cE g (sR h r k v) i = cE g h i := cE_same rfl rfl rfl rfl (funext fun b => by rw [hR_sR, if_neg (fun q => hi q.1)])
/-! locals -/
def lvp (g : GG) : Nat → Lo → List (Nat × Value)
  | _, [] => []
  | i, none :: l => lvp g (i + 1) l
  | i, some v :: l => (i, cv g v) :: lvp g (i + 1) l
theorem lvp_mem {g : GG} : ∀ {lo : Lo} {i k : Nat} {w : Value}, (k, w) ∈ lvp g i lo ↔ ∃ v, i ≤ k ∧ lo[k - i]? = some (some v) ∧ w = cv g v := by
  intro lo
  induction lo with
  | nil => intro i k w; simp [lvp]
  | cons x l ih =>
    intro i k w
    have key : (∃ v, i + 1 ≤ k ∧ l[k - (i + 1)]? = some (some v) ∧ w = cv g v) ↔ ∃ v, i ≤ k ∧ k ≠ i ∧ (x :: l)[k - i]? = some (some v) ∧ w = cv g v := by
      constructor
      · rintro ⟨v, h1, h2, h3⟩
        refine ⟨v, by omega, by omega, ?_, h3⟩
        rw [show k - i = (k - (i + 1)) + 1 by omega, List.getElem?_cons_succ]
        exact h2
      · rintro ⟨v, h1, h2, h3, h4⟩
        refine ⟨v, by omega, ?_, h4⟩
        rw [show k - i = (k - (i + 1)) + 1 by omega, List.getElem?_cons_succ] at h3
        exact h3
    cases x with
    | none =>
      rw [lvp, ih, key]
      constructor
      · rintro ⟨v, h1, -, h3, h4⟩; exact ⟨v, h1, h3, h4⟩
      · rintro ⟨v, h1, h3, h4⟩
        refine ⟨v, h1, fun e => ?_, h3, h4⟩
        subst e
        simp at h3
    | some u =>
      rw [lvp, List.mem_cons, ih, key]
      constructor
      · rintro (h | ⟨v, h1, -, h3, h4⟩)
        · cases h; exact ⟨u, Nat.le_refl _, by simp, rfl⟩
        · exact ⟨v, h1, h3, h4⟩
      · rintro ⟨v, h1, h3, h4⟩
        by_cases e : k = i
        · subst e
          simp at h3
          exact Or.inl (by rw [h4, h3])
        · exact Or.inr ⟨v, h1, e, h3, h4⟩
def lh (g : GG) (lo : Lo) (n : Nat) (ls : Array Slot) : Prop := lo.length = n ∧ lv_has ls n (lvp g 0 lo)
theorem lget_at {lo : Lo} {a : Nat} {v : AV} (h : lget lo a = some v) : lo[a]? = some (some v) := by
  unfold lget at h
  rw [List.getD_eq_getElem?_getD] at h
  cases hx : lo[a]? with
  | none => rw [hx] at h; cases h
  | some x => rw [hx] at h; simp at h; rw [h]
theorem lh.at {g : GG} {lo : Lo} {n a : Nat} {ls : Array Slot} {v : AV} (h : lh g lo n ls) (ha : lget lo a = some v) : ls[a]? = some (.val (cv g v)) :=
  h.2.2.2 (a, cv g v) (lvp_mem.mpr ⟨v, Nat.zero_le _, by rw [Nat.sub_zero]; exact lget_at ha, rfl⟩)
theorem lh.mono {g : GG} {lo lo' : Lo} {n : Nat} {ls : Array Slot} (h : lh g lo n ls) (hl : lo'.length = lo.length) (hs : ∀ (k : Nat) (v : AV), lo'[k]? = some (some v) → lo[k]? = some (some v)) : lh g lo' n ls := by
  refine ⟨hl.trans h.1, h.2.1, h.2.2.1, fun q hq => ?_⟩
  obtain ⟨v, h1, h2, h3⟩ := lvp_mem.mp (show (q.1, q.2) ∈ lvp g 0 lo' from hq)
  exact h.2.2.2 q (lvp_mem.mpr ⟨v, h1, by rw [Nat.sub_zero] at h2 ⊢; exact hs _ _ h2, h3⟩)
theorem lkill_len : ∀ (ks : List Nat) (lo : Lo), (lkill lo ks).length = lo.length
  | [], _ => rfl
  | k :: ks, lo => by rw [lkill, lkill_len ks, List.length_set]
theorem lkill_sub : ∀ (ks : List Nat) (lo : Lo) (k : Nat) (v : AV), (lkill lo ks)[k]? = some (some v) → lo[k]? = some (some v)
  | [], _, _, _, h => h
  | j :: ks, lo, k, v, h => by
    have h1 := lkill_sub ks _ k v h
    rw [List.getElem?_set] at h1
    by_cases e : j = k
    · subst e
      simp at h1
    · rw [if_neg e] at h1; exact h1
theorem lclr_len (lo : Lo) (a : Nat) : (lclr lo a).length = lo.length := by
  unfold lclr
  split
  · rfl
  · split <;> simp
theorem lclr_sub {lo : Lo} {a k : Nat} {v : AV} (h : (lclr lo a)[k]? = some (some v)) : lo[k]? = some (some v) ∧ (k + 1 = a → ∀ x, v ≠ vL x) := by
  unfold lclr at h
  split at h
  · exact ⟨h, fun e => by omega⟩
  · rename_i b
    split at h
    · rename_i x hx
      rw [List.getElem?_set] at h
      by_cases e : b = k
      · subst e; simp at h
      · rw [if_neg e] at h
        exact ⟨h, fun e2 => by omega⟩
    · rename_i hx
      refine ⟨h, fun e2 x hv => ?_⟩
      have : b = k := by omega
      subst this
      subst hv
      exact hx x (by unfold lget; rw [List.getD_eq_getElem?_getD, h]; rfl)
theorem cat1 {g : GG} (hF : (gF g).category = 1) {v : AV} (h : ∀ x, v ≠ vL x) : (cv g v).category = 1 := by
  rcases v with x | x | ⟨k, r⟩
  · rfl
  · exact absurd rfl (h x)
  · show (if k = 43 then gF g else .ref (adr g k r)).category = 1
    split
    · exact hF
    · rfl
theorem lh.set1 {g : GG} (hF : (gF g).category = 1) {lo : Lo} {n a : Nat} {ls ls' : Array Slot} {v : AV} (h : lh g lo n ls) (h' : lv_has ls' n ((a, cv g v) :: (lvp g 0 lo).filter (fun q => !(q.1 == a) && !(q.1 + 1 == a && q.2.category == 2)))) : lh g (lset1 lo a v) n ls' := by
  refine ⟨by unfold lset1; rw [List.length_set, lclr_len]; exact h.1, h'.1, h'.2.1, fun q hq => ?_⟩
  obtain ⟨w, -, h2, h3⟩ := lvp_mem.mp (show (q.1, q.2) ∈ lvp g 0 (lset1 lo a v) from hq)
  rw [Nat.sub_zero] at h2
  unfold lset1 at h2
  rw [List.getElem?_set] at h2
  refine h'.2.2 q ?_
  by_cases e : a = q.1
  · rw [if_pos e] at h2
    split at h2
    · have : v = w := by simpa using h2
      refine List.mem_cons.mpr (Or.inl ?_)
      rw [this, ← h3, e]
    · cases h2
  · rw [if_neg e] at h2
    obtain ⟨h4, h5⟩ := lclr_sub h2
    refine List.mem_cons.mpr (Or.inr (List.mem_filter.mpr ⟨lvp_mem.mpr ⟨w, Nat.zero_le _, by rw [Nat.sub_zero]; exact h4, h3⟩, ?_⟩))
    by_cases e2 : q.1 + 1 = a
    · have := cat1 hF (h5 e2)
      simp [Ne.symm e, h3, this]
    · simp [Ne.symm e, e2]
theorem lh.set2 {g : GG} (hF : (gF g).category = 1) {lo : Lo} {n a : Nat} {ls ls' : Array Slot} {v : AV} (h : lh g lo n ls) (h' : lv_has ls' n ((a, cv g v) :: (lvp g 0 lo).filter (fun q => !(q.1 == a) && (!(q.1 == a + 1) && !(q.1 + 1 == a && q.2.category == 2))))) : lh g (lset2 lo a v) n ls' := by
  refine ⟨by unfold lset2; rw [List.length_set, List.length_set, lclr_len]; exact h.1, h'.1, h'.2.1, fun q hq => ?_⟩
  obtain ⟨w, -, h2, h3⟩ := lvp_mem.mp (show (q.1, q.2) ∈ lvp g 0 (lset2 lo a v) from hq)
  rw [Nat.sub_zero] at h2
  unfold lset2 at h2
  rw [List.getElem?_set] at h2
  refine h'.2.2 q ?_
  by_cases e : a = q.1
  · rw [if_pos e] at h2
    split at h2
    · have : v = w := by simpa using h2
      refine List.mem_cons.mpr (Or.inl ?_)
      rw [this, ← h3, e]
    · cases h2
  · rw [if_neg e, List.getElem?_set] at h2
    by_cases e1 : a + 1 = q.1
    · rw [if_pos e1] at h2
      split at h2 <;> cases h2
    · rw [if_neg e1] at h2
      obtain ⟨h4, h5⟩ := lclr_sub h2
      refine List.mem_cons.mpr (Or.inr (List.mem_filter.mpr ⟨lvp_mem.mpr ⟨w, Nat.zero_le _, by rw [Nat.sub_zero]; exact h4, h3⟩, ?_⟩))
      by_cases e2 : q.1 + 1 = a
      · have := cat1 hF (h5 e2)
        simp [Ne.symm e, Ne.symm e1, h3, this]
      · simp [Ne.symm e, Ne.symm e1, e2]
