/-! arrays, new cells -/
section Snd4
variable {g : GG} {L : Nat} {xs : Nat → Int32} {p : Program} {l : Launch} {e : Env} {R : Room} {s : State} {m : MethodId} {args : Array Value} {below : List Frame} {meth : Method} {c : Code} {mi c0 s0 d : Nat} {Q : State → Prop} {rv : Option AV} {hf : Hp}
variable {kn : St → Option Rs} {kc : Nat → List AV → Hp → Option Rs} {pc pc' : Nat} {lo lo' : Lo} {st st' : List AV} {h : Hp} {op nx a b c9 : Nat} {ci : Int32} {cl : Int64} {tg : List Nat}
theorem tt_sl : ∀ r, r < 23 → slens.getD r 0 = slen r := by decide +kernel
theorem tt_ac : ∀ t ∈ [FieldType.int, .long, .char, .boolean], Cond.arrayClass t ∈ tables_1 := by decide +kernel
theorem fa_new {h : Hp} {kd len n : Nat} : (hI (sN h kd len n) (hC h) = fun _ => 0) ∧ (hL (sN h kd len n) (hC h) = fun _ => 0) ∧ (hR (sN h kd len n) (hC h) = fun _ => none) ∧ hK (sN h kd len n) (hC h) = kd ∧ hN (sN h kd len n) (hC h) = len :=
  ⟨funext fun _ => if_pos rfl, funext fun _ => if_pos rfl, funext fun _ => if_pos rfl, if_pos rfl, if_pos rfl⟩
theorem new_fin {kd len n q : Nat} {E : va_E} {H1 : Heap} {locs : List Loc} {ls : Array Slot} (hE : cE g (sN h kd len n) (hC h) = E) (hP : va_P (gD g) vcl (wsO g h ++ [(q, E)]) H1) (hD : va_D (gA g) (wsO g h ++ [(q, E)])) (hS1 : va_S (gA g) s.heap H1 locs) (hc0 : c0 ≤ hC h) (hs0 : s0 ≤ hS h) (hz : s.heap.size = gB g + c0)
    (ih : Gd g L xs p l e R s m args below meth c mi c0 s0 d Q rv hf (pc', lo, vR kd (hC h) :: st, sN h kd len n)) (hC9 : Cx g L xs p R s m args meth c mi c0 s0 d hf) (hl : lh g lo (mMx mi) ls) (hkd : kd < 40) : W p l e R s m args below meth c H1 locs (hC h - c0 + 1) (hS h - s0 + n) Q (F0 m pc' ls (.ref q :: st.map (cv g))) := by
  refine W.sz fun hsz => ?_
  have hq := newq_of hP hD (by omega)
  subst hq
  rw [wsO_push hE] at hP
  have hc : hC (sN h kd len n) = hC h + 1 := rfl
  have hs : hS (sN h kd len n) = hS h + n := rfl
  have q := ih.2 hC9 H1 locs ls (hold_of hP (by rw [hc]; omega) (by rw [hc]; omega)) hS1 hl
  simp only [List.map_cons] at q
  rw [cv_r (by omega), adr_h hkd, hc, hs, show hC h + 1 - c0 = hC h - c0 + 1 by omega, show hS h + n - s0 = hS h - s0 + n by omega] at q
  exact q
theorem Gd.room (ih : Gd g L xs p l e R s m args below meth c mi c0 s0 d Q rv hf (pc', lo', st', h)) (hc0 : c0 ≤ hC h) (hs0 : s0 ≤ hS h) (hRm : Rm R hf c0 s0 d) : hC h - c0 ≤ R.cells ∧ hS h - s0 ≤ R.slots := by
  have h1 : hC h ≤ hC hf := ih.1.1.1
  have h2 : hS h ≤ hS hf := ih.1.1.2.1
  have h3 := hRm.1
  have h4 := hRm.2.1
  omega
theorem ry_eq {g : GG} {s : State} {cA : ClassId} {ty : FieldType} {i : Nat} (h1 : va_K (gD g) vcl (tys g) s) (h2 : va_K (gD g) vcl (tys g ++ [(cA, ty)]) s) {cB : ClassId} (hi : (tys g)[i]? = some (cB, ty)) : cA = cB := by
  have a1 := (h1.2 i _ hi).2
  have a2 := (h2.2 5 (cA, ty) rfl).2
  cases ty <;> first | (exact Option.some.inj (a2.symm.trans a1)) | (obtain ⟨_, _, _, _, _, q1⟩ := a1; obtain ⟨_, _, _, _, _, q2⟩ := a2; exact Option.some.inj (q2.symm.trans q1))

theorem nw_in {a : Nat} (ha : a < 13) : Cond.instantiable (cC a) (cF a) ∈ gtbl := by
  obtain ⟨q, hq, rfl⟩ : ∃ q ∈ nwP, q.1 = a := (show ∀ a, a < 13 → ∃ q ∈ nwP, q.1 = a by decide +kernel) a ha
  exact gt_t (tt_nw q hq) rfl
theorem in_o {k : Nat} (hk : k < 18) : Cond.initialized (ownOf k) ∈ gtbl := by
  obtain ⟨q, hq, rfl⟩ : ∃ q ∈ inP, q.1 = k := (show ∀ a, a < 18 → ∃ q ∈ inP, q.1 = a by decide +kernel) k hk
  exact gt_t (tt_in q hq) rfl
theorem in_in {a : Nat} (ha : a < 13) : Cond.initialized (cC a) ∈ gtbl := by
  have h : ownOf a = cC a := (show ∀ a, a < 13 → ownOf a = cC a by decide +kernel) a ha
  rw [← h]
  exact in_o (by omega)
theorem ac_in {t : FieldType} (ht : t ∈ [FieldType.int, .long, .char, .boolean]) : Cond.arrayClass t ∈ gtbl := List.mem_filter.mpr ⟨List.mem_append_right _ (tt_ac t ht), rfl⟩

set_option maxHeartbeats 1000000 in
theorem s_alen (C : Pk g L xs p l e R s m args below meth c mi c0 s0 d Q rv hf kn) (hd : decode (mCd mi) pc = .ok (.arraylength, 1)) (hc : chk mi pc (.arraylength) (op, pc + 1, a, b, c9, ci, cl, tg) = true) (wt : wtS L xs c0 s0 (pc, lo, st, h)) (H : o_op kn kc (op, pc + 1, a, b, c9, ci, cl, tg) lo st h = some (rv, hf)) : Gd g L xs p l e R s m args below meth c mi c0 s0 d Q rv hf (pc, lo, st, h) := by
  have IH := C
  by_cases h63 : op = 63
  · subst h63
    have : (none : Option Rs) = some (rv, hf) := H
    cases this
  simp [chk, h63] at hc
  subst hc
  change (match (generalizing := false) st with
    | .inr (.inr (k, r)) :: st => bif Nat.blt 19 k && Nat.blt k 25 || Nat.beq k 42 then kn (pc + 1, lo, vI (nI (hN h r)) :: st, h) else bif Nat.beq k 41 then kn (pc + 1, lo, vI (nI (slen r)) :: st, h) else none
    | _ => none) = some (rv, hf) at H
  split at H
  · rename_i k r st
    cases hk : (Nat.blt 19 k && Nat.blt k 25 || Nat.beq k 42)
    · rw [hk] at H
      cases hk2 : Nat.beq k 41
      · rw [hk2] at H; cases H
      · rw [hk2] at H
        have hk2 := beq_t hk2
        subst hk2
        have hr : r < 23 := wt.top.2.1 (Or.inr rfl)
        refine gnop (IH _ H wt.dr.vi) (fun ⟨hx, hb, hml, hown, hts, hmn, hE, hz, hRm⟩ H locs ls hH hS hl kk => ?_)
        exact va_tlen hx hb (hE.2.2.2.1.1 r hr).2.2.2 hS (by rw [tt_sl r hr]; rfl) hd (kk ls hl)
    · rw [hk] at H
      refine gnop (IH _ H wt.dr.vi) (fun ⟨hx, hb, hml, hown, hts, hmn, hE, hz, hRm⟩ H locs ls hH hS hl kk => ?_)
      rcases Bool.or_eq_true_iff.mp hk with q | q
      · obtain ⟨q1, q2⟩ := Bool.and_eq_true_iff.mp q
        have q1 : 19 < k := by simpa using q1
        have q2 : k < 25 := by simpa using q2
        obtain ⟨hr, hkr, -⟩ := wt.top.1 (show k < 40 by omega)
        simp only [List.map_cons]
        rw [cv_r (by omega), adr_h (by omega)]
        rcases (show k = 20 ∨ k = 21 ∨ k = 22 ∨ k = 23 ∨ k = 24 by omega) with rfl | rfl | rfl | rfl | rfl
        · have he : (wsO g h)[r]? = some (gB g + r, .inl (gY g 20, hN h r, .inl (hI h r))) := by rw [wsO_at hr, cE_i hkr (by omega)]
          exact va_alen hx hb hE.1 hH.1 r 0 he rfl rfl hd (kk ls hl)
        · have he : (wsO g h)[r]? = some (gB g + r, .inl (gY g 21, hN h r, .inr (.inl (hL h r)))) := by rw [wsO_at hr, cE_l hkr]
          exact va_alen hx hb hE.1 hH.1 r 1 he rfl rfl hd (kk ls hl)
        · have he : (wsO g h)[r]? = some (gB g + r, .inl (gY g 22, hN h r, .inl (hI h r))) := by rw [wsO_at hr, cE_i hkr (by omega)]
          exact va_alen hx hb hE.1 hH.1 r 2 he rfl rfl hd (kk ls hl)
        · have he : (wsO g h)[r]? = some (gB g + r, .inl (gY g 23, hN h r, .inl (hI h r))) := by rw [wsO_at hr, cE_i hkr (by omega)]
          exact va_alen hx hb hE.1 hH.1 r 3 he rfl rfl hd (kk ls hl)
        · have he : (wsO g h)[r]? = some (gB g + r, .inl (gY g 24, hN h r, .inr (.inr (.inr (.inr (fun j => (hR h r j).map (fun x => gB g + x))))))) := by rw [wsO_at hr, cE_q hkr]
          exact va_alen hx hb hE.1 hH.1 r 4 he rfl rfl hd (kk ls hl)
      · have q := beq_t q
        subst q
        have hr := wt.top.2.2.1 rfl
        subst hr
        have hk9 := kk ls hl
        have hL9 : hN h 9999999 = L := wt.1.2.2.1
        rw [hL9] at hk9
        exact va_slen (b := gX g) hx hb hE.2.2.2.2.2.2.2.1 (by have := hE.2.2.2.2.2.2.2.2.1; have := hE.2.2.2.2.2.2.2.2.2.1; omega) (by have := hE.2.2.2.2.2.2.2.2.1; unfold gA; omega) hS hd hk9
  · cases H

set_option maxHeartbeats 1000000 in
theorem s_laload (C : Pk g L xs p l e R s m args below meth c mi c0 s0 d Q rv hf kn) (hd : decode (mCd mi) pc = .ok (.laload, 1)) (hc : chk mi pc (.laload) (op, pc + 1, a, b, c9, ci, cl, tg) = true) (wt : wtS L xs c0 s0 (pc, lo, st, h)) (H : o_op kn kc (op, pc + 1, a, b, c9, ci, cl, tg) lo st h = some (rv, hf)) : Gd g L xs p l e R s m args below meth c mi c0 s0 d Q rv hf (pc, lo, st, h) := by
  have IH := C
  by_cases h63 : op = 63
  · subst h63
    have : (none : Option Rs) = some (rv, hf) := H
    cases this
  simp [chk, h63] at hc
  subst hc
  change (match (generalizing := false) st with
    | .inl i :: .inr (.inr (k, r)) :: st => bif Nat.beq k 21 then (ifp (inb i (hN h r) = true) (kn (pc + 1, lo, vL (hL h r (ix i)) :: st, h)) none) else none
    | _ => none) = some (rv, hf) at H
  split at H
  · rename_i i k r st
    cases hk : Nat.beq k 21
    · rw [hk] at H; cases H
    · rw [hk] at H
      have hk := beq_t hk
      subst hk
      have H : ifp (inb i (hN h r) = true) (kn (pc + 1, lo, vL (hL h r (ix i)) :: st, h)) none = some (rv, hf) := H
      by_cases hi : inb i (hN h r) = true
      · rw [ifp_t hi] at H
        obtain ⟨hr, hkr, -⟩ := wt.dr.top.1 (show 21 < 40 by omega)
        refine gnop (IH _ H wt.dr.dr.vl) (fun ⟨hx, hb, hml, hown, hts, hmn, hE, hz, hRm⟩ H locs ls hH hS hl kk => ?_)
        simp only [List.map_cons]
        rw [cv_r (by omega), adr_h (by omega)]
        exact va_lald hx hb hE.1 hH.1 r 1 (by rw [wsO_at hr, cE_l hkr]) rfl (inb_vp hi) hd (kk ls hl)
      · rw [ifp_f hi] at H; cases H
  · cases H

set_option maxHeartbeats 1000000 in
theorem s_caload (C : Pk g L xs p l e R s m args below meth c mi c0 s0 d Q rv hf kn) (hd : decode (mCd mi) pc = .ok (.caload, 1)) (hc : chk mi pc (.caload) (op, pc + 1, a, b, c9, ci, cl, tg) = true) (wt : wtS L xs c0 s0 (pc, lo, st, h)) (H : o_op kn kc (op, pc + 1, a, b, c9, ci, cl, tg) lo st h = some (rv, hf)) : Gd g L xs p l e R s m args below meth c mi c0 s0 d Q rv hf (pc, lo, st, h) := by
  have IH := C
  by_cases h63 : op = 63
  · subst h63
    have : (none : Option Rs) = some (rv, hf) := H
    cases this
  simp [chk, h63] at hc
  subst hc
  change (match (generalizing := false) st with
    | .inl i :: .inr (.inr (k, r)) :: st => bif Nat.beq k 22 then (ifp (inb i (hN h r) = true) (kn (pc + 1, lo, vI (hI h r (ix i)) :: st, h)) none) else none
    | _ => none) = some (rv, hf) at H
  split at H
  · rename_i i k r st
    cases hk : Nat.beq k 22
    · rw [hk] at H; cases H
    · rw [hk] at H
      have hk := beq_t hk
      subst hk
      have H : ifp (inb i (hN h r) = true) (kn (pc + 1, lo, vI (hI h r (ix i)) :: st, h)) none = some (rv, hf) := H
      by_cases hi : inb i (hN h r) = true
      · rw [ifp_t hi] at H
        obtain ⟨hr, hkr, -⟩ := wt.dr.top.1 (show 22 < 40 by omega)
        refine gnop (IH _ H wt.dr.dr.vi) (fun ⟨hx, hb, hml, hown, hts, hmn, hE, hz, hRm⟩ H locs ls hH hS hl kk => ?_)
        simp only [List.map_cons]
        rw [cv_r (by omega), adr_h (by omega)]
        exact va_cald hx hb hE.1 hH.1 r 2 (by rw [wsO_at hr, cE_i hkr (by omega)]) rfl (inb_vp hi) hd (kk ls hl)
      · rw [ifp_f hi] at H; cases H
  · cases H

set_option maxHeartbeats 1000000 in
theorem s_iaload (C : Pk g L xs p l e R s m args below meth c mi c0 s0 d Q rv hf kn) (hd : decode (mCd mi) pc = .ok (.iaload, 1)) (hc : chk mi pc (.iaload) (op, pc + 1, a, b, c9, ci, cl, tg) = true) (wt : wtS L xs c0 s0 (pc, lo, st, h)) (H : o_op kn kc (op, pc + 1, a, b, c9, ci, cl, tg) lo st h = some (rv, hf)) : Gd g L xs p l e R s m args below meth c mi c0 s0 d Q rv hf (pc, lo, st, h) := by
  have IH := C
  by_cases h63 : op = 63
  · subst h63
    have : (none : Option Rs) = some (rv, hf) := H
    cases this
  simp [chk, h63] at hc
  subst hc
  change (match (generalizing := false) st with
    | .inl i :: .inr (.inr (k, r)) :: st => bif Nat.beq k 20 || Nat.beq k 42 then (ifp (inb i (hN h r) = true) (kn (pc + 1, lo, vI (hI h r (ix i)) :: st, h)) none) else none
    | _ => none) = some (rv, hf) at H
  split at H
  · rename_i i k r st
    cases hk : (Nat.beq k 20 || Nat.beq k 42)
    · rw [hk] at H; cases H
    · rw [hk] at H
      have H : ifp (inb i (hN h r) = true) (kn (pc + 1, lo, vI (hI h r (ix i)) :: st, h)) none = some (rv, hf) := H
      by_cases hi : inb i (hN h r) = true
      · rw [ifp_t hi] at H
        refine gnop (IH _ H wt.dr.dr.vi) (fun ⟨hx, hb, hml, hown, hts, hmn, hE, hz, hRm⟩ H locs ls hH hS hl kk => ?_)
        rcases Bool.or_eq_true_iff.mp hk with q | q
        · have q := beq_t q
          subst q
          obtain ⟨hr, hkr, -⟩ := wt.dr.top.1 (show 20 < 40 by omega)
          simp only [List.map_cons]
          rw [cv_r (by omega), adr_h (by omega)]
          exact va_iald hx hb hE.1 hH.1 r 0 (by rw [wsO_at hr, cE_i hkr (by omega)]) rfl (inb_vp hi) hd (kk ls hl)
        · have q := beq_t q
          subst q
          have hr := wt.dr.top.2.2.1 rfl
          subst hr
          have hL9 : hN h 9999999 = L := wt.1.2.2.1
          rw [hL9] at hi
          have hk9 := kk ls hl
          have hvp := inb_vp hi
          have hlt : ix i < L := Nat.not_le.mp fun q => hvp (Or.inr q)
          have hx9 : hI h 9999999 (ix i) = xs (ix i) := wt.1.2.2.2 _ hlt
          rw [hx9] at hk9
          exact va_sld (b := gX g) hx hb hE.2.2.2.2.2.2.2.1 (by have := hE.2.2.2.2.2.2.2.2.1; have := hE.2.2.2.2.2.2.2.2.2.1; omega) (by have := hE.2.2.2.2.2.2.2.2.1; unfold gA; omega) hS hvp hd hk9
      · rw [ifp_f hi] at H; cases H
  · cases H

set_option maxHeartbeats 1000000 in
theorem s_baload (C : Pk g L xs p l e R s m args below meth c mi c0 s0 d Q rv hf kn) (hd : decode (mCd mi) pc = .ok (.baload, 1)) (hc : chk mi pc (.baload) (op, pc + 1, a, b, c9, ci, cl, tg) = true) (wt : wtS L xs c0 s0 (pc, lo, st, h)) (H : o_op kn kc (op, pc + 1, a, b, c9, ci, cl, tg) lo st h = some (rv, hf)) : Gd g L xs p l e R s m args below meth c mi c0 s0 d Q rv hf (pc, lo, st, h) := by
  have IH := C
  by_cases h63 : op = 63
  · subst h63
    have : (none : Option Rs) = some (rv, hf) := H
    cases this
  simp [chk, h63] at hc
  subst hc
  change (match (generalizing := false) st with
    | .inl i :: .inr (.inr (k, r)) :: st => bif Nat.beq k 23 then (ifp (inb i (hN h r) = true) (kn (pc + 1, lo, vI (hI h r (ix i)) :: st, h)) none) else bif Nat.beq k 41 then (ifp (inb i (slen r) = true) (kn (pc + 1, lo, vI (sby r (ix i)) :: st, h)) none) else none
    | _ => none) = some (rv, hf) at H
  split at H
  · rename_i i k r st
    cases hk : Nat.beq k 23
    · rw [hk] at H
      cases hk2 : Nat.beq k 41
      · rw [hk2] at H; cases H
      · rw [hk2] at H
        have hk2 := beq_t hk2
        subst hk2
        have hr : r < 23 := wt.dr.top.2.1 (Or.inr rfl)
        have H : ifp (inb i (slen r) = true) (kn (pc + 1, lo, vI (sby r (ix i)) :: st, h)) none = some (rv, hf) := H
        by_cases hi : inb i (slen r) = true
        · rw [ifp_t hi] at H
          refine gnop (IH _ H wt.dr.dr.vi) (fun ⟨hx, hb, hml, hown, hts, hmn, hE, hz, hRm⟩ H locs ls hH hS hl kk => ?_)
          exact va_tb hx hb (hE.2.2.2.1.1 r hr).2.2.2 hS (by rw [tt_sl r hr]; exact inb_vp hi) rfl hd (kk ls hl)
        · rw [ifp_f hi] at H; cases H
    · rw [hk] at H
      have hk := beq_t hk
      subst hk
      have H : ifp (inb i (hN h r) = true) (kn (pc + 1, lo, vI (hI h r (ix i)) :: st, h)) none = some (rv, hf) := H
      by_cases hi : inb i (hN h r) = true
      · rw [ifp_t hi] at H
        obtain ⟨hr, hkr, -⟩ := wt.dr.top.1 (show 23 < 40 by omega)
        refine gnop (IH _ H wt.dr.dr.vi) (fun ⟨hx, hb, hml, hown, hts, hmn, hE, hz, hRm⟩ H locs ls hH hS hl kk => ?_)
        simp only [List.map_cons]
        rw [cv_r (by omega), adr_h (by omega)]
        exact va_zald hx hb hE.1 hH.1 r 3 (by rw [wsO_at hr, cE_i hkr (by omega)]) rfl (inb_vp hi) hd (kk ls hl)
      · rw [ifp_f hi] at H; cases H
  · cases H

set_option maxHeartbeats 1000000 in
theorem s_aaload (C : Pk g L xs p l e R s m args below meth c mi c0 s0 d Q rv hf kn) (hd : decode (mCd mi) pc = .ok (.aaload, 1)) (hc : chk mi pc (.aaload) (op, pc + 1, a, b, c9, ci, cl, tg) = true) (wt : wtS L xs c0 s0 (pc, lo, st, h)) (H : o_op kn kc (op, pc + 1, a, b, c9, ci, cl, tg) lo st h = some (rv, hf)) : Gd g L xs p l e R s m args below meth c mi c0 s0 d Q rv hf (pc, lo, st, h) := by
  have IH := C
  by_cases h63 : op = 63
  · subst h63
    have : (none : Option Rs) = some (rv, hf) := H
    cases this
  simp [chk, h63] at hc
  subst hc
  change (match (generalizing := false) st with
    | .inl i :: .inr (.inr (k, r)) :: st => bif Nat.beq k 24 then (ifp (inb i (hN h r) = true) (bR (hR h r (ix i)) (fun x => kn (pc + 1, lo, vR 1 x :: st, h))) none) else none
    | _ => none) = some (rv, hf) at H
  split at H
  · rename_i i k r st
    cases hk : Nat.beq k 24
    · rw [hk] at H; cases H
    · rw [hk] at H
      have hk := beq_t hk
      subst hk
      have H : ifp (inb i (hN h r) = true) (bR (hR h r (ix i)) (fun x => kn (pc + 1, lo, vR 1 x :: st, h))) none = some (rv, hf) := H
      by_cases hi : inb i (hN h r) = true
      · rw [ifp_t hi] at H
        obtain ⟨hr, hkr, -⟩ := wt.dr.top.1 (show 24 < 40 by omega)
        cases hq : hR h r (ix i) with
        | none => rw [hq] at H; cases H
        | some x =>
          rw [hq] at H
          have H : kn (pc + 1, lo, vR 1 x :: st, h) = some (rv, hf) := H
          refine gnop (IH _ H (wt.dr.dr.vr ((wt.1.1 r hr).2.2 hkr _ x hq))) (fun ⟨hx, hb, hml, hown, hts, hmn, hE, hz, hRm⟩ H locs ls hH hS hl kk => ?_)
          have e2 := kk ls hl
          simp only [List.map_cons] at e2 ⊢
          rw [cv_r (by omega), adr_h (by omega)] at e2 ⊢
          refine va_aldq hx hb hE.1 hH.1 r 4 (by rw [wsO_at hr, cE_q hkr]) rfl (inb_vp hi) hd ?_
          rw [show i.toNatClampNeg = ix i from rfl, hq]
          exact e2
      · rw [ifp_f hi] at H; cases H
  · cases H

set_option maxHeartbeats 1000000 in
theorem s_iastore (C : Pk g L xs p l e R s m args below meth c mi c0 s0 d Q rv hf kn) (hd : decode (mCd mi) pc = .ok (.iastore, 1)) (hc : chk mi pc (.iastore) (op, pc + 1, a, b, c9, ci, cl, tg) = true) (wt : wtS L xs c0 s0 (pc, lo, st, h)) (H : o_op kn kc (op, pc + 1, a, b, c9, ci, cl, tg) lo st h = some (rv, hf)) : Gd g L xs p l e R s m args below meth c mi c0 s0 d Q rv hf (pc, lo, st, h) := by
  have IH := C
  by_cases h63 : op = 63
  · subst h63
    have : (none : Option Rs) = some (rv, hf) := H
    cases this
  simp [chk, h63] at hc
  subst hc
  change (match (generalizing := false) st with
    | .inl v :: .inl i :: .inr (.inr (k, r)) :: st => bif Nat.beq k 20 then (ifp (inb i (hN h r) = true) (kn (pc + 1, lo, st, sI h r (ix i) v)) none) else none
    | _ => none) = some (rv, hf) at H
  split at H
  · rename_i v i k r st
    cases hk : Nat.beq k 20
    · rw [hk] at H; cases H
    · rw [hk] at H
      have hk := beq_t hk
      subst hk
      have H : ifp (inb i (hN h r) = true) (kn (pc + 1, lo, st, sI h r (ix i) v)) none = some (rv, hf) := H
      by_cases hi : inb i (hN h r) = true
      · rw [ifp_t hi] at H
        obtain ⟨hr, hkr, -⟩ := wt.dr.dr.top.1 (show 20 < 40 by omega)
        have ih := IH _ H (wt.dr.dr.dr.heap (gro.rf h) (wt.1.pI hr))
        refine ⟨ih.1, fun hC9 H locs ls hH hS hl => ?_⟩
        obtain ⟨hx, hb, hml, hown, hts, hmn, hE, hz, hRm⟩ := id hC9
        have hH : Hold g h H := hH
        simp only [List.map_cons]
        rw [cv_r (by omega), adr_h (by omega)]
        have hc0 : c0 ≤ hC h := wt.2.2.2.1
        refine va_iast hx hb hE.1 hH.1 (wsO_D g h) hS r 0 (by rw [wsO_at hr, cE_i hkr (by omega)]) rfl (inb_vp hi) hd (fun H1 locs1 hP1 _ hS1 => ?_)
        rw [wsO_set (h := h) (h2 := sI h r (ix i) v) rfl ?_ ne_sI] at hP1
        · exact W.sz fun hsz => ih.2 hC9 H1 locs1 ls (hold_of hP1 (show 0 < hC h by omega) (show H1.size ≤ gB g + hC h by omega)) hS1 hl
        · have e9 : hI (sI h r (ix i) v) r = upd (hI h r) (ix i) v := by
            funext j
            show (if r = r ∧ j = ix i then v else hI h r j) = upd (hI h r) (ix i) v j
            simp [upd]
          rw [cE_i (k := 20) (by exact hkr) (by omega), e9]
          rfl
      · rw [ifp_f hi] at H; cases H
  · cases H

set_option maxHeartbeats 1000000 in
theorem s_lastore (C : Pk g L xs p l e R s m args below meth c mi c0 s0 d Q rv hf kn) (hd : decode (mCd mi) pc = .ok (.lastore, 1)) (hc : chk mi pc (.lastore) (op, pc + 1, a, b, c9, ci, cl, tg) = true) (wt : wtS L xs c0 s0 (pc, lo, st, h)) (H : o_op kn kc (op, pc + 1, a, b, c9, ci, cl, tg) lo st h = some (rv, hf)) : Gd g L xs p l e R s m args below meth c mi c0 s0 d Q rv hf (pc, lo, st, h) := by
  have IH := C
  by_cases h63 : op = 63
  · subst h63
    have : (none : Option Rs) = some (rv, hf) := H
    cases this
  simp [chk, h63] at hc
  subst hc
  change (match (generalizing := false) st with
    | .inr (.inl v) :: .inl i :: .inr (.inr (k, r)) :: st => bif Nat.beq k 21 then (ifp (inb i (hN h r) = true) (kn (pc + 1, lo, st, sL h r (ix i) v)) none) else none
    | _ => none) = some (rv, hf) at H
  split at H
  · rename_i v i k r st
    cases hk : Nat.beq k 21
    · rw [hk] at H; cases H
    · rw [hk] at H
      have hk := beq_t hk
      subst hk
      have H : ifp (inb i (hN h r) = true) (kn (pc + 1, lo, st, sL h r (ix i) v)) none = some (rv, hf) := H
      by_cases hi : inb i (hN h r) = true
      · rw [ifp_t hi] at H
        obtain ⟨hr, hkr, -⟩ := wt.dr.dr.top.1 (show 21 < 40 by omega)
        have ih := IH _ H (wt.dr.dr.dr.heap (gro.rf h) wt.1.pL)
        refine ⟨ih.1, fun hC9 H locs ls hH hS hl => ?_⟩
        obtain ⟨hx, hb, hml, hown, hts, hmn, hE, hz, hRm⟩ := id hC9
        have hH : Hold g h H := hH
        simp only [List.map_cons]
        rw [cv_r (by omega), adr_h (by omega)]
        have hc0 : c0 ≤ hC h := wt.2.2.2.1
        refine va_last hx hb hE.1 hH.1 (wsO_D g h) hS r 1 (by rw [wsO_at hr, cE_l hkr]) rfl (inb_vp hi) hd (fun H1 locs1 hP1 _ hS1 => ?_)
        rw [wsO_set (h := h) (h2 := sL h r (ix i) v) rfl ?_ ne_sL] at hP1
        · exact W.sz fun hsz => ih.2 hC9 H1 locs1 ls (hold_of hP1 (show 0 < hC h by omega) (show H1.size ≤ gB g + hC h by omega)) hS1 hl
        · have e9 : hL (sL h r (ix i) v) r = vp_updL (hL h r) (ix i) v := by
            funext j
            show (if r = r ∧ j = ix i then v else hL h r j) = vp_updL (hL h r) (ix i) v j
            simp [vp_updL]
          rw [cE_l (by exact hkr), e9]
          rfl
      · rw [ifp_f hi] at H; cases H
  · cases H

set_option maxHeartbeats 1000000 in
theorem s_castore (C : Pk g L xs p l e R s m args below meth c mi c0 s0 d Q rv hf kn) (hd : decode (mCd mi) pc = .ok (.castore, 1)) (hc : chk mi pc (.castore) (op, pc + 1, a, b, c9, ci, cl, tg) = true) (wt : wtS L xs c0 s0 (pc, lo, st, h)) (H : o_op kn kc (op, pc + 1, a, b, c9, ci, cl, tg) lo st h = some (rv, hf)) : Gd g L xs p l e R s m args below meth c mi c0 s0 d Q rv hf (pc, lo, st, h) := by
  have IH := C
  by_cases h63 : op = 63
  · subst h63
    have : (none : Option Rs) = some (rv, hf) := H
    cases this
  simp [chk, h63] at hc
  subst hc
  change (match (generalizing := false) st with
    | .inl v :: .inl i :: .inr (.inr (k, r)) :: st => bif Nat.beq k 22 then (ifp (inb i (hN h r) = true) ((bif isCh v then kn (pc + 1, lo, st, sI h r (ix i) v) else none)) none) else none
    | _ => none) = some (rv, hf) at H
  split at H
  · rename_i v i k r st
    cases hk : Nat.beq k 22
    · rw [hk] at H; cases H
    · rw [hk] at H
      have hk := beq_t hk
      subst hk
      have H : ifp (inb i (hN h r) = true) ((bif isCh v then kn (pc + 1, lo, st, sI h r (ix i) v) else none)) none = some (rv, hf) := H
      by_cases hi : inb i (hN h r) = true
      · rw [ifp_t hi] at H
        cases hB : isCh v
        · rw [hB] at H; cases H
        rw [hB] at H
        obtain ⟨hr, hkr, -⟩ := wt.dr.dr.top.1 (show 22 < 40 by omega)
        have ih := IH _ H (wt.dr.dr.dr.heap (gro.rf h) (wt.1.pI hr))
        refine ⟨ih.1, fun hC9 H locs ls hH hS hl => ?_⟩
        obtain ⟨hx, hb, hml, hown, hts, hmn, hE, hz, hRm⟩ := id hC9
        have hH : Hold g h H := hH
        simp only [List.map_cons]
        rw [cv_r (by omega), adr_h (by omega)]
        have hc0 : c0 ≤ hC h := wt.2.2.2.1
        refine va_cast hx hb hE.1 hH.1 (wsO_D g h) hS r 2 (by rw [wsO_at hr, cE_i hkr (by omega)]) rfl (inb_vp hi) hd (fun H1 locs1 hP1 _ hS1 => ?_)
        rw [wsO_set (h := h) (h2 := sI h r (ix i) v) rfl ?_ ne_sI] at hP1
        · exact W.sz fun hsz => ih.2 hC9 H1 locs1 ls (hold_of hP1 (show 0 < hC h by omega) (show H1.size ≤ gB g + hC h by omega)) hS1 hl
        · have e9 : hI (sI h r (ix i) v) r = upd (hI h r) (ix i) v := by
            funext j
            show (if r = r ∧ j = ix i then v else hI h r j) = upd (hI h r) (ix i) v j
            simp [upd]
          rw [cE_i (k := 22) (by exact hkr) (by omega), chr_v hB, e9]
          rfl
      · rw [ifp_f hi] at H; cases H
  · cases H

set_option maxHeartbeats 1000000 in
theorem s_bastore (C : Pk g L xs p l e R s m args below meth c mi c0 s0 d Q rv hf kn) (hd : decode (mCd mi) pc = .ok (.bastore, 1)) (hc : chk mi pc (.bastore) (op, pc + 1, a, b, c9, ci, cl, tg) = true) (wt : wtS L xs c0 s0 (pc, lo, st, h)) (H : o_op kn kc (op, pc + 1, a, b, c9, ci, cl, tg) lo st h = some (rv, hf)) : Gd g L xs p l e R s m args below meth c mi c0 s0 d Q rv hf (pc, lo, st, h) := by
  have IH := C
  by_cases h63 : op = 63
  · subst h63
    have : (none : Option Rs) = some (rv, hf) := H
    cases this
  simp [chk, h63] at hc
  subst hc
  change (match (generalizing := false) st with
    | .inl v :: .inl i :: .inr (.inr (k, r)) :: st => bif Nat.beq k 23 then (ifp (inb i (hN h r) = true) ((bif isB v then kn (pc + 1, lo, st, sI h r (ix i) v) else none)) none) else none
    | _ => none) = some (rv, hf) at H
  split at H
  · rename_i v i k r st
    cases hk : Nat.beq k 23
    · rw [hk] at H; cases H
    · rw [hk] at H
      have hk := beq_t hk
      subst hk
      have H : ifp (inb i (hN h r) = true) ((bif isB v then kn (pc + 1, lo, st, sI h r (ix i) v) else none)) none = some (rv, hf) := H
      by_cases hi : inb i (hN h r) = true
      · rw [ifp_t hi] at H
        cases hB : isB v
        · rw [hB] at H; cases H
        rw [hB] at H
        obtain ⟨hr, hkr, -⟩ := wt.dr.dr.top.1 (show 23 < 40 by omega)
        have ih := IH _ H (wt.dr.dr.dr.heap (gro.rf h) (wt.1.pI hr))
        refine ⟨ih.1, fun hC9 H locs ls hH hS hl => ?_⟩
        obtain ⟨hx, hb, hml, hown, hts, hmn, hE, hz, hRm⟩ := id hC9
        have hH : Hold g h H := hH
        simp only [List.map_cons]
        rw [cv_r (by omega), adr_h (by omega)]
        have hc0 : c0 ≤ hC h := wt.2.2.2.1
        refine va_zast hx hb hE.1 hH.1 (wsO_D g h) hS r 3 (by rw [wsO_at hr, cE_i hkr (by omega)]) rfl (inb_vp hi) hd (fun H1 locs1 hP1 _ hS1 => ?_)
        rw [wsO_set (h := h) (h2 := sI h r (ix i) v) rfl ?_ ne_sI] at hP1
        · exact W.sz fun hsz => ih.2 hC9 H1 locs1 ls (hold_of hP1 (show 0 < hC h by omega) (show H1.size ≤ gB g + hC h by omega)) hS1 hl
        · have e9 : hI (sI h r (ix i) v) r = upd (hI h r) (ix i) v := by
            funext j
            show (if r = r ∧ j = ix i then v else hI h r j) = upd (hI h r) (ix i) v j
            simp [upd]
          rw [cE_i (k := 23) (by exact hkr) (by omega), boo_v hB, e9]
          rfl
      · rw [ifp_f hi] at H; cases H
  · cases H

set_option maxHeartbeats 1000000 in
theorem s_aastore (C : Pk g L xs p l e R s m args below meth c mi c0 s0 d Q rv hf kn) (hd : decode (mCd mi) pc = .ok (.aastore, 1)) (hc : chk mi pc (.aastore) (op, pc + 1, a, b, c9, ci, cl, tg) = true) (wt : wtS L xs c0 s0 (pc, lo, st, h)) (H : o_op kn kc (op, pc + 1, a, b, c9, ci, cl, tg) lo st h = some (rv, hf)) : Gd g L xs p l e R s m args below meth c mi c0 s0 d Q rv hf (pc, lo, st, h) := by
  have IH := C
  by_cases h63 : op = 63
  · subst h63
    have : (none : Option Rs) = some (rv, hf) := H
    cases this
  simp [chk, h63] at hc
  subst hc
  change (match (generalizing := false) st with
    | .inr (.inr (k2, v)) :: .inl i :: .inr (.inr (k, r)) :: st => bif Nat.beq k 24 && Nat.beq k2 1 then (ifp (inb i (hN h r) = true) (kn (pc + 1, lo, st, sR h r (ix i) v)) none) else none
    | _ => none) = some (rv, hf) at H
  split at H
  · rename_i k2 v i k r st
    cases hk : (Nat.beq k 24 && Nat.beq k2 1)
    · rw [hk] at H; cases H
    · rw [hk] at H
      obtain ⟨hk, hk2⟩ := Bool.and_eq_true_iff.mp hk
      have hk := beq_t hk
      have hk2 := beq_t hk2
      subst hk
      subst hk2
      have H : ifp (inb i (hN h r) = true) (kn (pc + 1, lo, st, sR h r (ix i) v)) none = some (rv, hf) := H
      by_cases hi : inb i (hN h r) = true
      · rw [ifp_t hi] at H
        have hv9 : kok h 1 v := wt.top
        obtain ⟨hv, hkv, -⟩ := hv9.1 (by omega)
        obtain ⟨hr, hkr, -⟩ := wt.dr.dr.top.1 (show 24 < 40 by omega)
        have ih := IH _ H (wt.dr.dr.dr.heap (gro.rf h) (wt.1.pR (fun q => by rw [hkr] at q; omega) (fun _ => hv9)))
        refine ⟨ih.1, fun hC9 H locs ls hH hS hl => ?_⟩
        obtain ⟨hx, hb, hml, hown, hts, hmn, hE, hz, hRm⟩ := id hC9
        have hH : Hold g h H := hH
        simp only [List.map_cons]
        rw [cv_r (by omega), cv_r (by omega), adr_h (by omega), adr_h (by omega)]
        have hc0 : c0 ≤ hC h := wt.2.2.2.1
        refine va_astq hx hb hE.1 hH.1 (wsO_D g h) hS r 4 v 1 (by rw [wsO_at hr, cE_q hkr]) (r := (cC 1, cT 1, cF 1)) rfl (by rw [wsO_at hv, cE_o hkv (by omega)]) (vcl_at (by omega)) (inb_vp hi) hd (fun H1 locs1 hP1 _ hS1 => ?_)
        rw [wsO_set (h := h) (h2 := sR h r (ix i) v) rfl ?_ ne_sR] at hP1
        · exact W.sz fun hsz => ih.2 hC9 H1 locs1 ls (hold_of hP1 (show 0 < hC h by omega) (show H1.size ≤ gB g + hC h by omega)) hS1 hl
        · have e9 : (fun j => (hR (sR h r (ix i) v) r j).map (fun x => gB g + x)) = va_up (fun j => (hR h r j).map (fun x => gB g + x)) (ix i) (some (gB g + v)) := by
            funext j
            rw [hR_sR]
            unfold va_up
            by_cases q : j = ix i
            · rw [if_pos ⟨rfl, q⟩, if_pos q]; rfl
            · rw [if_neg (fun z => q z.2), if_neg q]
          rw [cE_q (by exact hkr), e9]
          rfl
      · rw [ifp_f hi] at H; cases H
  · cases H

set_option maxHeartbeats 1000000 in
theorem s_new {k9 : Nat} (C : Pk g L xs p l e R s m args below meth c mi c0 s0 d Q rv hf kn) (hd : decode (mCd mi) pc = .ok (.new k9, 3)) (hc : chk mi pc (.new k9) (op, pc + 3, a, b, c9, ci, cl, tg) = true) (wt : wtS L xs c0 s0 (pc, lo, st, h)) (H : o_op kn kc (op, pc + 3, a, b, c9, ci, cl, tg) lo st h = some (rv, hf)) : Gd g L xs p l e R s m args below meth c mi c0 s0 d Q rv hf (pc, lo, st, h) := by
  have IH := C
  by_cases h63 : op = 63
  · subst h63
    have : (none : Option Rs) = some (rv, hf) := H
    cases this
  simp [chk, h63] at hc
  obtain ⟨⟨rfl, h3⟩, rfl⟩ := hc
  obtain ⟨z, hz3⟩ := any3_use h3
  obtain ⟨hcl9, ha⟩ := tt_clk _ hz3
  have ha : a < 13 := ha
  change alc h (fun q => kn (pc + 3, lo, vR a q :: st, sN h a 0 (cF a))) = some (rv, hf) at H
  unfold alc at H
  by_cases hlt : hC h < 1000000
  · rw [ifp_t hlt] at H
    have hkk : kok (sN h a 0 (cF a)) a (hC h) := ⟨fun _ => ⟨Nat.lt_succ_self _, fa_new.2.2.2.1, Or.inl ha⟩, fun q => by omega, fun q => by omega, by omega⟩
    have ih := IH _ H ((wt.heap (gro.pN h a 0 (cF a)) (wt.1.pN hlt (Or.inl ha))).vr hkk)
    refine ⟨⟨(gro.pN h a 0 (cF a)).tr ih.1.1, ih.1.2⟩, fun hC9 H locs ls hH hSv hl => ?_⟩
    obtain ⟨hx, hb, hml, hown, hts, hmn, hE, hz, hRm⟩ := id hC9
    have hH : Hold g h H := hH
    have hc0 : c0 ≤ hC h := wt.2.2.2.1
    have hs0 : s0 ≤ hS h := wt.2.2.2.2
    obtain ⟨r1, r2⟩ := ih.room (show c0 ≤ hC h + 1 by omega) (show s0 ≤ hS h + cF a by omega) hRm
    have r1 : hC h + 1 - c0 ≤ R.cells := r1
    have r2 : hS h + cF a - s0 ≤ R.slots := r2
    refine va_new (ci := a) (fs := (List.range (cF a)).map (fV g (sN h a 0 (cF a)) a (hC h))) hx hb hts (lay_in ha) (cY a) (tt_ty a ha) hown (hts _ (gt_t hcl9 rfl)) (hts _ (nw_in ha)) (hts _ (in_in ha)) hE.1 hH.1 (wsO_D g h) hSv (fun q hq => by unfold gA; omega) (vcl_at (by omega)) (fun j hj => ?_) (show hC h - c0 + 1 ≤ R.cells by omega) (show hS h - s0 + cF a ≤ R.slots by omega) hd (fun q H1 hP1 hD1 hS1 => ?_)
    · unfold vp_V
      rw [List.getD_eq_getElem?_getD, List.getElem?_map, List.getElem?_range hj]
      have hty := tt_fk a ha j hj
      show defaultValue (cY a j) = fV g (sN h a 0 (cF a)) a (hC h) j
      unfold fV
      rw [fa_new.1, fa_new.2.1, fa_new.2.2.1]
      unfold tyOk at hty
      split at hty <;> simp at hty
      · rename_i e9; rw [e9, hty]; rfl
      · rename_i e9; rw [e9, hty]; rfl
      · rename_i e9; rw [e9, hty]; rfl
      · rename_i e9; rw [e9, if_neg (by omega), if_neg (by omega)]; rfl
      · rename_i e9; rw [e9, if_neg (by omega), if_neg (by omega)]; rfl
    · exact new_fin (cE_o fa_new.2.2.2.1 ha) hP1 hD1 hS1 hc0 hs0 hz ih hC9 hl (by omega)
  · rw [ifp_f hlt] at H; cases H

set_option maxHeartbeats 1000000 in
theorem s_newarray {t9 : ArrayType} (C : Pk g L xs p l e R s m args below meth c mi c0 s0 d Q rv hf kn) (hd : decode (mCd mi) pc = .ok (.newarray t9, 2)) (hc : chk mi pc (.newarray t9) (op, pc + 2, a, b, c9, ci, cl, tg) = true) (wt : wtS L xs c0 s0 (pc, lo, st, h)) (H : o_op kn kc (op, pc + 2, a, b, c9, ci, cl, tg) lo st h = some (rv, hf)) : Gd g L xs p l e R s m args below meth c mi c0 s0 d Q rv hf (pc, lo, st, h) := by
  have IH := C
  by_cases h63 : op = 63
  · subst h63
    have : (none : Option Rs) = some (rv, hf) := H
    cases this
  simp [chk, h63] at hc
  obtain ⟨⟨rfl, ha⟩, h40⟩ := hc
  change (match (generalizing := false) st with
    | .inl n :: st => ifp (inb n 1000000 = true) (alc h (fun q => kn (pc + 2, lo, vR a q :: st, sN h a (ix n) (ix n)))) none
    | _ => none) = some (rv, hf) at H
  split at H
  rotate_left
  · cases H
  rename_i n st
  by_cases hi : inb n 1000000 = true
  rotate_left
  · rw [ifp_f hi] at H; cases H
  rw [ifp_t hi] at H
  unfold alc at H
  by_cases hlt : hC h < 1000000
  rotate_left
  · rw [ifp_f hlt] at H; cases H
  rw [ifp_t hlt] at H
  have hvp := inb_vp hi
  have hn0 : ¬ n < 0 := fun q => hvp (Or.inl q)
  have hn1 : ix n < 1000000 := Nat.not_le.mp fun q => hvp (Or.inr q)
  cases t9 <;> simp [aKd] at ha <;> first | (exfalso; omega) | (subst ha)
  · have hkk : kok (sN h 23 (ix n) (ix n)) 23 (hC h) := ⟨fun _ => ⟨Nat.lt_succ_self _, fa_new.2.2.2.1, by omega⟩, fun q => by omega, fun q => by omega, by omega⟩
    have ih := IH _ H ((wt.dr.heap (gro.pN h 23 (ix n) (ix n)) (wt.1.pN hlt (by omega))).vr hkk)
    refine ⟨⟨(gro.pN h 23 (ix n) (ix n)).tr ih.1.1, ih.1.2⟩, fun hC9 H locs ls hH hSv hl => ?_⟩
    obtain ⟨hx, hb, hml, hown, hts, hmn, hE, hz, hRm⟩ := id hC9
    have hH : Hold g h H := hH
    have hc0 : c0 ≤ hC h := wt.2.2.2.1
    have hs0 : s0 ≤ hS h := wt.2.2.2.2
    obtain ⟨r1, r2⟩ := ih.room (show c0 ≤ hC h + 1 by omega) (show s0 ≤ hS h + ix n by omega) hRm
    have r1 : hC h + 1 - c0 ≤ R.cells := r1
    have r2 : hS h + ix n - s0 ≤ R.slots := r2
    refine va_newa (atype := .boolean) (ty := .boolean) hx hb (hts _ (ac_in (by decide))) rfl hE.1 hH.1 (wsO_D g h) hSv (fun q hq => by unfold gA; omega) (a0 := (ix n, .inl (fun _ => 0))) (fun _ => rfl) hn0 rfl (by show ix n * 1 ≤ 536870912; omega) (show hC h - c0 + 1 ≤ R.cells by omega) (show hS h - s0 + ix n ≤ R.slots by omega) hd (fun q cA H1 hK1 hP1 hD1 hS1 => ?_)
    have e9 := ry_eq (i := 3) hE.1 hK1 rfl
    subst e9
    refine new_fin (E := .inl (gY g 23, ix n, .inl (fun _ => 0))) ?_ hP1 hD1 hS1 hc0 hs0 hz ih hC9 hl (by omega)
    rw [cE_i (k := 23) fa_new.2.2.2.1 (by omega), fa_new.1, fa_new.2.2.2.2]
  · have hkk : kok (sN h 22 (ix n) (ix n)) 22 (hC h) := ⟨fun _ => ⟨Nat.lt_succ_self _, fa_new.2.2.2.1, by omega⟩, fun q => by omega, fun q => by omega, by omega⟩
    have ih := IH _ H ((wt.dr.heap (gro.pN h 22 (ix n) (ix n)) (wt.1.pN hlt (by omega))).vr hkk)
    refine ⟨⟨(gro.pN h 22 (ix n) (ix n)).tr ih.1.1, ih.1.2⟩, fun hC9 H locs ls hH hSv hl => ?_⟩
    obtain ⟨hx, hb, hml, hown, hts, hmn, hE, hz, hRm⟩ := id hC9
    have hH : Hold g h H := hH
    have hc0 : c0 ≤ hC h := wt.2.2.2.1
    have hs0 : s0 ≤ hS h := wt.2.2.2.2
    obtain ⟨r1, r2⟩ := ih.room (show c0 ≤ hC h + 1 by omega) (show s0 ≤ hS h + ix n by omega) hRm
    have r1 : hC h + 1 - c0 ≤ R.cells := r1
    have r2 : hS h + ix n - s0 ≤ R.slots := r2
    refine va_newa (atype := .char) (ty := .char) hx hb (hts _ (ac_in (by decide))) rfl hE.1 hH.1 (wsO_D g h) hSv (fun q hq => by unfold gA; omega) (a0 := (ix n, .inl (fun _ => 0))) (fun _ => rfl) hn0 rfl (by show ix n * 2 ≤ 536870912; omega) (show hC h - c0 + 1 ≤ R.cells by omega) (show hS h - s0 + ix n ≤ R.slots by omega) hd (fun q cA H1 hK1 hP1 hD1 hS1 => ?_)
    have e9 := ry_eq (i := 2) hE.1 hK1 rfl
    subst e9
    refine new_fin (E := .inl (gY g 22, ix n, .inl (fun _ => 0))) ?_ hP1 hD1 hS1 hc0 hs0 hz ih hC9 hl (by omega)
    rw [cE_i (k := 22) fa_new.2.2.2.1 (by omega), fa_new.1, fa_new.2.2.2.2]
  · have hkk : kok (sN h 20 (ix n) (ix n)) 20 (hC h) := ⟨fun _ => ⟨Nat.lt_succ_self _, fa_new.2.2.2.1, by omega⟩, fun q => by omega, fun q => by omega, by omega⟩
    have ih := IH _ H ((wt.dr.heap (gro.pN h 20 (ix n) (ix n)) (wt.1.pN hlt (by omega))).vr hkk)
    refine ⟨⟨(gro.pN h 20 (ix n) (ix n)).tr ih.1.1, ih.1.2⟩, fun hC9 H locs ls hH hSv hl => ?_⟩
    obtain ⟨hx, hb, hml, hown, hts, hmn, hE, hz, hRm⟩ := id hC9
    have hH : Hold g h H := hH
    have hc0 : c0 ≤ hC h := wt.2.2.2.1
    have hs0 : s0 ≤ hS h := wt.2.2.2.2
    obtain ⟨r1, r2⟩ := ih.room (show c0 ≤ hC h + 1 by omega) (show s0 ≤ hS h + ix n by omega) hRm
    have r1 : hC h + 1 - c0 ≤ R.cells := r1
    have r2 : hS h + ix n - s0 ≤ R.slots := r2
    refine va_newa (atype := .int) (ty := .int) hx hb (hts _ (ac_in (by decide))) rfl hE.1 hH.1 (wsO_D g h) hSv (fun q hq => by unfold gA; omega) (a0 := (ix n, .inl (fun _ => 0))) (fun _ => rfl) hn0 rfl (by show ix n * 4 ≤ 536870912; omega) (show hC h - c0 + 1 ≤ R.cells by omega) (show hS h - s0 + ix n ≤ R.slots by omega) hd (fun q cA H1 hK1 hP1 hD1 hS1 => ?_)
    have e9 := ry_eq (i := 0) hE.1 hK1 rfl
    subst e9
    refine new_fin (E := .inl (gY g 20, ix n, .inl (fun _ => 0))) ?_ hP1 hD1 hS1 hc0 hs0 hz ih hC9 hl (by omega)
    rw [cE_i (k := 20) fa_new.2.2.2.1 (by omega), fa_new.1, fa_new.2.2.2.2]
  · have hkk : kok (sN h 21 (ix n) (ix n)) 21 (hC h) := ⟨fun _ => ⟨Nat.lt_succ_self _, fa_new.2.2.2.1, by omega⟩, fun q => by omega, fun q => by omega, by omega⟩
    have ih := IH _ H ((wt.dr.heap (gro.pN h 21 (ix n) (ix n)) (wt.1.pN hlt (by omega))).vr hkk)
    refine ⟨⟨(gro.pN h 21 (ix n) (ix n)).tr ih.1.1, ih.1.2⟩, fun hC9 H locs ls hH hSv hl => ?_⟩
    obtain ⟨hx, hb, hml, hown, hts, hmn, hE, hz, hRm⟩ := id hC9
    have hH : Hold g h H := hH
    have hc0 : c0 ≤ hC h := wt.2.2.2.1
    have hs0 : s0 ≤ hS h := wt.2.2.2.2
    obtain ⟨r1, r2⟩ := ih.room (show c0 ≤ hC h + 1 by omega) (show s0 ≤ hS h + ix n by omega) hRm
    have r1 : hC h + 1 - c0 ≤ R.cells := r1
    have r2 : hS h + ix n - s0 ≤ R.slots := r2
    refine va_newa (atype := .long) (ty := .long) hx hb (hts _ (ac_in (by decide))) rfl hE.1 hH.1 (wsO_D g h) hSv (fun q hq => by unfold gA; omega) (a0 := (ix n, .inr (.inl (fun _ => 0)))) (fun _ => rfl) hn0 rfl (by show ix n * 8 ≤ 536870912; omega) (show hC h - c0 + 1 ≤ R.cells by omega) (show hS h - s0 + ix n ≤ R.slots by omega) hd (fun q cA H1 hK1 hP1 hD1 hS1 => ?_)
    have e9 := ry_eq (i := 1) hE.1 hK1 rfl
    subst e9
    refine new_fin (E := .inl (gY g 21, ix n, .inr (.inl (fun _ => 0)))) ?_ hP1 hD1 hS1 hc0 hs0 hz ih hC9 hl (by omega)
    rw [cE_l fa_new.2.2.2.1, fa_new.2.1, fa_new.2.2.2.2]

set_option maxHeartbeats 1000000 in
theorem s_anewarray {k9 : Nat} (C : Pk g L xs p l e R s m args below meth c mi c0 s0 d Q rv hf kn) (hd : decode (mCd mi) pc = .ok (.anewarray k9, 3)) (hc : chk mi pc (.anewarray k9) (op, pc + 3, a, b, c9, ci, cl, tg) = true) (wt : wtS L xs c0 s0 (pc, lo, st, h)) (H : o_op kn kc (op, pc + 3, a, b, c9, ci, cl, tg) lo st h = some (rv, hf)) : Gd g L xs p l e R s m args below meth c mi c0 s0 d Q rv hf (pc, lo, st, h) := by
  have IH := C
  by_cases h63 : op = 63
  · subst h63
    have : (none : Option Rs) = some (rv, hf) := H
    cases this
  simp [chk, h63] at hc
  obtain ⟨rfl, h3⟩ := hc
  obtain ⟨z, hz3⟩ := any3_use h3
  obtain ⟨hcl9, -⟩ := tt_clk _ hz3
  change (match (generalizing := false) st with
    | .inl n :: st => ifp (inb n 1000000 = true) (alc h (fun q => kn (pc + 3, lo, vR 24 q :: st, sN h 24 (ix n) (ix n)))) none
    | _ => none) = some (rv, hf) at H
  split at H
  rotate_left
  · cases H
  rename_i n st
  by_cases hi : inb n 1000000 = true
  rotate_left
  · rw [ifp_f hi] at H; cases H
  rw [ifp_t hi] at H
  unfold alc at H
  by_cases hlt : hC h < 1000000
  rotate_left
  · rw [ifp_f hlt] at H; cases H
  rw [ifp_t hlt] at H
  have hvp := inb_vp hi
  have hn0 : ¬ n < 0 := fun q => hvp (Or.inl q)
  have hn1 : ix n < 1000000 := Nat.not_le.mp fun q => hvp (Or.inr q)
  · have hkk : kok (sN h 24 (ix n) (ix n)) 24 (hC h) := ⟨fun _ => ⟨Nat.lt_succ_self _, fa_new.2.2.2.1, by omega⟩, fun q => by omega, fun q => by omega, by omega⟩
    have ih := IH _ H ((wt.dr.heap (gro.pN h 24 (ix n) (ix n)) (wt.1.pN hlt (by omega))).vr hkk)
    refine ⟨⟨(gro.pN h 24 (ix n) (ix n)).tr ih.1.1, ih.1.2⟩, fun hC9 H locs ls hH hSv hl => ?_⟩
    obtain ⟨hx, hb, hml, hown, hts, hmn, hE, hz, hRm⟩ := id hC9
    have hH : Hold g h H := hH
    have hc0 : c0 ≤ hC h := wt.2.2.2.1
    have hs0 : s0 ≤ hS h := wt.2.2.2.2
    obtain ⟨r1, r2⟩ := ih.room (show c0 ≤ hC h + 1 by omega) (show s0 ≤ hS h + ix n by omega) hRm
    have r1 : hC h + 1 - c0 ≤ R.cells := r1
    have r2 : hS h + ix n - s0 ≤ R.slots := r2
    refine va_newq (C := "StairWays$Mark") hx hb hown (hts _ (gt_t hcl9 rfl)) hE.2.2.2.2.2.2.1 hE.1 hH.1 (wsO_D g h) hSv (fun q hq => by unfold gA; omega)  hn0 rfl (by show ix n * 4 ≤ 536870912; omega) (show hC h - c0 + 1 ≤ R.cells by omega) (show hS h - s0 + ix n ≤ R.slots by omega) hd (fun q cA H1 hK1 hP1 hD1 hS1 => ?_)
    have e9 := ry_eq (i := 4) hE.1 hK1 rfl
    subst e9
    refine new_fin (E := .inl (gY g 24, ix n, .inr (.inr (.inr (.inr (fun _ => none)))))) ?_ hP1 hD1 hS1 hc0 hs0 hz ih hC9 hl (by omega)
    rw [cE_q fa_new.2.2.2.1, fa_new.2.2.1, fa_new.2.2.2.2]
    rfl

theorem tt_oi : Cond.instanceMethod objectInit ∈ tables_1 ∧ Cond.code objectInit ⟨#[0xb1]⟩ 1 none ∈ tables_1 ∧ Cond.native arraycopyName ∈ tables_1 ∧ Cond.static arraycopyName ∈ tables_1 ∧ Cond.initialized "java/lang/System" ∈ tables_1 := by decide +kernel
theorem gt_m {w : Cond} (h : w ∈ tables_1) (hg : goodWord w = true) : w ∈ gtbl := List.mem_filter.mpr ⟨List.mem_append_right _ h, hg⟩
theorem wd_cat {g : GG} (hF : (gF g).category = 1) : ∀ st : List AV, ((st.map (cv g)).map fun v => v.category).sum = wd st
  | [] => rfl
  | v :: vs => by
    have ih := wd_cat hF vs
    simp only [List.map_cons, List.sum_cons, wd]
    rw [ih]
    congr 1
    rcases v with x | x | ⟨k, r⟩
    · rfl
    · rfl
    · exact cat1 hF (fun x q => by cases q)
theorem blt_f {a b : Nat} (h : Nat.blt a b = false) : b ≤ a := Nat.not_lt.mp (fun q => by
  have w : Nat.blt a b = true := Nat.ble_eq_true_of_le q
  rw [h] at w
  cases w)
theorem s_objInit {k9 : Nat} (C : Pk g L xs p l e R s m args below meth c mi c0 s0 d Q rv hf kn) (hd : decode (mCd mi) pc = .ok (.invokespecial k9, 3)) (h2 : any2 olk (mO mi) k9 = true) (wt : wtS L xs c0 s0 (pc, lo, st, h)) (H : o_op kn kc (51, pc + 3, a, b, c9, ci, cl, tg) lo st h = some (rv, hf)) : Gd g L xs p l e R s m args below meth c mi c0 s0 d Q rv hf (pc, lo, st, h) := by
  have IH := C
  obtain ⟨z, hz2⟩ := any2_use h2
  change (match (generalizing := false) st with
    | .inr (.inr (k, _)) :: st => bif Nat.beq k 43 || Nat.blt 8 (wd st) then none else kn (pc + 3, lo, st, h)
    | _ => none) = some (rv, hf) at H
  split at H
  · rename_i k r st
    cases hk : (Nat.beq k 43 || Nat.blt 8 (wd st))
    · rw [hk] at H
      obtain ⟨hk1, hk2⟩ := Bool.or_eq_false_iff.mp hk
      have hw8 : wd st ≤ 8 := blt_f hk2
      refine gnop (IH _ H wt.dr) (fun ⟨hx, hb, hml, hown, hts, hmn, hE, hz, hRm⟩ H locs ls hH hS hl kk => ?_)
      simp only [List.map_cons]
      rw [cv_r (Nat.ne_of_beq_eq_false hk1)]
      have h4 := hRm.2.2.1
      have h5 := hRm.2.2.2
      have h6 := lv_room (m := m) (pc := pc) (ls := ls) (rest := st.map (cv g)) (st := st.map (cv g)) (by rw [wd_cat hE.2.2.2.2.2.2.2.2.2.2]; exact hw8)
      exact W.objInit hx hb hown (hts _ (gt_t (tt_olk _ hz2) rfl)) (hts _ (gt_m tt_oi.1 rfl)) (hts _ (gt_m tt_oi.2.1 rfl)) rfl (by rw [hml]; exact hl.2.1) rfl hd (by omega) (Nat.le_trans (Nat.add_le_add_right h6 12) (by omega)) (kk ls hl)
    · rw [hk] at H; cases H
  · cases H
set_option maxHeartbeats 1000000 in
theorem s_copy {k9 : Nat} (C : Pk g L xs p l e R s m args below meth c mi c0 s0 d Q rv hf kn) (hd : decode (mCd mi) pc = .ok (.invokestatic k9, 3)) (h2 : any2 alk (mO mi) k9 = true) (wt : wtS L xs c0 s0 (pc, lo, st, h)) (H : o_op kn kc (52, pc + 3, a, b, c9, ci, cl, tg) lo st h = some (rv, hf)) : Gd g L xs p l e R s m args below meth c mi c0 s0 d Q rv hf (pc, lo, st, h) := by
  have IH := C
  obtain ⟨z, hz2⟩ := any2_use h2
  change (match (generalizing := false) st with
    | .inl n :: .inl dp :: .inr (.inr (k1, d)) :: .inl sp :: .inr (.inr (k0, s)) :: st => bif Nat.beq k1 20 && Nat.beq k0 20 && Nat.ble (wd st) 8 then (ifp (0 ≤ n.toInt ∧ 0 ≤ dp.toInt ∧ 0 ≤ sp.toInt ∧ ix sp + ix n ≤ hN h s ∧ ix dp + ix n ≤ hN h d) (kn (pc + 3, lo, st, sCp h s (ix sp) d (ix dp) (ix n))) none) else none
    | _ => none) = some (rv, hf) at H
  split at H
  · rename_i n dp k1 d1 sp k0 s1 st
    cases hk : (Nat.beq k1 20 && Nat.beq k0 20 && Nat.ble (wd st) 8)
    · rw [hk] at H; cases H
    · rw [hk] at H
      obtain ⟨hk, hw8⟩ := Bool.and_eq_true_iff.mp hk
      obtain ⟨hk1, hk0⟩ := Bool.and_eq_true_iff.mp hk
      have hk1 := beq_t hk1
      have hk0 := beq_t hk0
      subst hk1
      subst hk0
      have hw8 : wd st ≤ 8 := by simpa using hw8
      have H : ifp (0 ≤ n.toInt ∧ 0 ≤ dp.toInt ∧ 0 ≤ sp.toInt ∧ ix sp + ix n ≤ hN h s1 ∧ ix dp + ix n ≤ hN h d1) (kn (pc + 3, lo, st, sCp h s1 (ix sp) d1 (ix dp) (ix n))) none = some (rv, hf) := H
      by_cases hi : 0 ≤ n.toInt ∧ 0 ≤ dp.toInt ∧ 0 ≤ sp.toInt ∧ ix sp + ix n ≤ hN h s1 ∧ ix dp + ix n ≤ hN h d1
      · rw [ifp_t hi] at H
        obtain ⟨hd1, hkd1, -⟩ := wt.dr.dr.top.1 (show 20 < 40 by omega)
        obtain ⟨hs1, hks1, -⟩ := wt.dr.dr.dr.dr.top.1 (show 20 < 40 by omega)
        have ih := IH _ H (wt.dr.dr.dr.dr.dr.heap (gro.rf h) (wt.1.pCp hd1))
        refine ⟨ih.1, fun hC9 H locs ls hH hS hl => ?_⟩
        obtain ⟨hx, hb, hml, hown, hts, hmn, hE, hz, hRm⟩ := id hC9
        have hH : Hold g h H := hH
        simp only [List.map_cons]
        rw [cv_r (by omega), cv_r (by omega), adr_h (by omega), adr_h (by omega)]
        have hc0 : c0 ≤ hC h := wt.2.2.2.1
        have nn : ∀ z : Int32, 0 ≤ z.toInt → ¬ z < 0 := fun z q w => by
          have := Int32.lt_iff_toInt_lt.mp w
          simp at this
          omega
        have h4 := hRm.2.2.1
        have h5 := hRm.2.2.2
        refine va_copyi hx hb (by rw [hml]; exact hl.2.1.symm) hown (hts _ (gt_t (tt_alk _ hz2) rfl)) (hts _ (gt_m tt_oi.2.2.1 rfl)) (hts _ (gt_m tt_oi.2.2.2.1 rfl)) (hts _ (gt_m tt_oi.2.2.2.2 rfl)) hE.1 hH.1 (wsO_D g h) hS s1 d1 0 0 (by rw [wsO_at hs1, cE_i hks1 (by omega)]) (by rw [wsO_at hd1, cE_i hkd1 (by omega)]) (ty := .int) rfl rfl rfl (nn sp hi.2.2.1) (nn dp hi.2.1) (nn n hi.1) hi.2.2.2.1 hi.2.2.2.2 (fun _ _ => rfl) (by omega) ?_ hd (fun H1 locs1 hP1 _ hS1 => ?_)
        · rw [wd_cat hE.2.2.2.2.2.2.2.2.2.2]
          show wd st + (5 + 2 + 11) ≤ R.locals
          omega
        · rw [wsO_set (h := h) (h2 := sCp h s1 (ix sp) d1 (ix dp) (ix n)) rfl ?_ ?_] at hP1
          · exact W.sz fun hsz => ih.2 hC9 H1 locs1 ls (hold_of hP1 (show 0 < hC h by omega) (show H1.size ≤ gB g + hC h by omega)) hS1 hl
          · have e9 : hI (sCp h s1 (ix sp) d1 (ix dp) (ix n)) d1 = va_cpy (hI h s1) (hI h d1) (ix sp) (ix dp) (ix n) := by
              funext j
              show (if d1 = d1 ∧ (ix dp ≤ j ∧ j < ix dp + ix n) then hI h s1 (ix sp + (j - ix dp)) else hI h d1 j) = va_cpy (hI h s1) (hI h d1) (ix sp) (ix dp) (ix n) j
              unfold va_cpy
              simp
            rw [cE_i (k := 20) (by exact hkd1) (by omega), e9]
            rfl
          · intro i hi9
            exact cE_same rfl rfl (funext fun b => if_neg (fun q => hi9 q.1)) rfl rfl
      · rw [ifp_f hi] at H; cases H
  · cases H
end Snd4
