/-! more rows, an instruction each -/
section Snd3
variable {g : GG} {L : Nat} {xs : Nat → Int32} {p : Program} {l : Launch} {e : Env} {R : Room} {s : State} {m : MethodId} {args : Array Value} {below : List Frame} {meth : Method} {c : Code} {mi c0 s0 d : Nat} {Q : State → Prop} {rv : Option AV} {hf : Hp}
variable {kn : St → Option Rs} {kc : Nat → List AV → Hp → Option Rs} {pc pc' : Nat} {lo lo' : Lo} {st st' : List AV} {h : Hp} {op nx a b c9 : Nat} {ci : Int32} {cl : Int64} {tg : List Nat}

set_option maxHeartbeats 1000000 in
theorem s_dup (C : Pk g L xs p l e R s m args below meth c mi c0 s0 d Q rv hf kn) (hd : decode (mCd mi) pc = .ok (.dup, 1)) (hc : chk mi pc (.dup) (op, pc + 1, a, b, c9, ci, cl, tg) = true) (wt : wtS L xs c0 s0 (pc, lo, st, h)) (H : o_op kn kc (op, pc + 1, a, b, c9, ci, cl, tg) lo st h = some (rv, hf)) : Gd g L xs p l e R s m args below meth c mi c0 s0 d Q rv hf (pc, lo, st, h) := by
  have IH := C
  by_cases h63 : op = 63
  · subst h63
    have : (none : Option Rs) = some (rv, hf) := H
    cases this
  simp [chk, h63] at hc
  subst hc
  change (match (generalizing := false) st with
    | .inl x :: st => kn (pc + 1, lo, vI x :: vI x :: st, h)
    | .inr (.inr (k, r)) :: st => bif Nat.beq k 43 then none else kn (pc + 1, lo, vR k r :: vR k r :: st, h)
    | _ => none) = some (rv, hf) at H
  split at H
  · rename_i x st
    exact gnop (IH _ H wt.vi) (fun ⟨hx, hb, hml, hown, hts, hmn, hE, hz, hRm⟩ H locs ls hH hS hl kk => lv_dup hx hb hd rfl (kk ls hl))
  · rename_i k r st
    cases hk : Nat.beq k 43
    · rw [hk] at H
      refine gnop (IH _ H (wt.vr wt.top)) (fun ⟨hx, hb, hml, hown, hts, hmn, hE, hz, hRm⟩ H locs ls hH hS hl kk => ?_)
      have e2 := kk ls hl
      simp only [List.map_cons] at e2 ⊢
      rw [cv_r (Nat.ne_of_beq_eq_false hk)] at e2 ⊢
      exact lv_dup hx hb hd rfl e2
    · rw [hk] at H; cases H
  · cases H

set_option maxHeartbeats 1000000 in
theorem s_dup2 (C : Pk g L xs p l e R s m args below meth c mi c0 s0 d Q rv hf kn) (hd : decode (mCd mi) pc = .ok (.dup2, 1)) (hc : chk mi pc (.dup2) (op, pc + 1, a, b, c9, ci, cl, tg) = true) (wt : wtS L xs c0 s0 (pc, lo, st, h)) (H : o_op kn kc (op, pc + 1, a, b, c9, ci, cl, tg) lo st h = some (rv, hf)) : Gd g L xs p l e R s m args below meth c mi c0 s0 d Q rv hf (pc, lo, st, h) := by
  have IH := C
  by_cases h63 : op = 63
  · subst h63
    have : (none : Option Rs) = some (rv, hf) := H
    cases this
  simp [chk, h63] at hc
  subst hc
  change (match (generalizing := false) st with
    | .inl y :: .inr (.inr (k, r)) :: st => bif Nat.beq k 43 then none else kn (pc + 1, lo, vI y :: vR k r :: vI y :: vR k r :: st, h)
    | _ => none) = some (rv, hf) at H
  split at H
  · rename_i y k r st
    cases hk : Nat.beq k 43
    · rw [hk] at H
      refine gnop (IH _ H ((wt.vr wt.dr.top).vi)) (fun ⟨hx, hb, hml, hown, hts, hmn, hE, hz, hRm⟩ H locs ls hH hS hl kk => ?_)
      have e2 := kk ls hl
      simp only [List.map_cons] at e2 ⊢
      rw [cv_r (Nat.ne_of_beq_eq_false hk)] at e2 ⊢
      exact lv_dup2_11 hx hb hd rfl rfl e2
    · rw [hk] at H; cases H
  · cases H

set_option maxHeartbeats 1000000 in
theorem s_goto {off : Int} (C : Pk g L xs p l e R s m args below meth c mi c0 s0 d Q rv hf kn) (hd : decode (mCd mi) pc = .ok (.goto off, 3)) (hc : chk mi pc (.goto off) (op, pc + 3, a, b, c9, ci, cl, tg) = true) (wt : wtS L xs c0 s0 (pc, lo, st, h)) (H : o_op kn kc (op, pc + 3, a, b, c9, ci, cl, tg) lo st h = some (rv, hf)) : Gd g L xs p l e R s m args below meth c mi c0 s0 d Q rv hf (pc, lo, st, h) := by
  have IH := C
  by_cases h63 : op = 63
  · subst h63
    have : (none : Option Rs) = some (rv, hf) := H
    cases this
  simp [chk, h63] at hc
  obtain ⟨rfl, ht⟩ := hc
  change kn (b, lo, st, h) = some (rv, hf) at H
  exact gnop (IH _ H wt) (fun ⟨hx, hb, hml, hown, hts, hmn, hE, hz, hRm⟩ H locs ls hH hS hl kk => lv_goto hx hb hd ht (kk ls hl))

set_option maxHeartbeats 1000000 in
theorem s_ifnull {off : Int} (C : Pk g L xs p l e R s m args below meth c mi c0 s0 d Q rv hf kn) (hd : decode (mCd mi) pc = .ok (.ifnull off, 3)) (hc : chk mi pc (.ifnull off) (op, pc + 3, a, b, c9, ci, cl, tg) = true) (wt : wtS L xs c0 s0 (pc, lo, st, h)) (H : o_op kn kc (op, pc + 3, a, b, c9, ci, cl, tg) lo st h = some (rv, hf)) : Gd g L xs p l e R s m args below meth c mi c0 s0 d Q rv hf (pc, lo, st, h) := by
  have IH := C
  by_cases h63 : op = 63
  · subst h63
    have : (none : Option Rs) = some (rv, hf) := H
    cases this
  simp [chk, h63] at hc
  subst hc
  change (match (generalizing := false) st with
    | .inr (.inr (k, _)) :: st => bif Nat.beq k 43 then none else kn (pc + 3, lo, st, h)
    | _ => none) = some (rv, hf) at H
  split at H
  · rename_i k r st
    cases hk : Nat.beq k 43
    · rw [hk] at H
      refine gnop (IH _ H wt.dr) (fun ⟨hx, hb, hml, hown, hts, hmn, hE, hz, hRm⟩ H locs ls hH hS hl kk => ?_)
      simp only [List.map_cons]
      rw [cv_r (Nat.ne_of_beq_eq_false hk)]
      exact lv_ifnull hx hb hd (kk ls hl)
    · rw [hk] at H; cases H
  · cases H

theorem sw_up {lo : Int32} {z : Int} (hz : lo.toInt = z) (h1 : -1000 ≤ z) (h2 : z < 4000) : (lo + 1).toInt = z + 1 := by
  rw [Int32.toInt_add, hz, show (1 : Int32).toInt = 1 from rfl, Int.bmod]
  split <;> omega
theorem swt_use {x : Int32} {d : Nat} {kk : Nat → Option Rs} {r : Rs} : ∀ (tg : List Nat) (lo : Int32) (z : Int), lo.toInt = z → -1000 ≤ z → z + tg.length < 4000 → swt x lo tg kk (kk d) = some r → (∃ (j : Nat) (t : Nat), tg[j]? = some t ∧ x.toInt = z + j ∧ kk t = some r) ∨ ((x.toInt < z ∨ z + (tg.length : Int) - 1 < x.toInt) ∧ kk d = some r) := by
  intro tg
  induction tg with
  | nil =>
    intro lo z hlo h1 h2 H
    refine Or.inr ⟨?_, H⟩
    simp
    omega
  | cons t ts ih =>
    intro lo z hlo h1 h2 H
    rw [swt] at H
    by_cases hx : x = lo
    · rw [ifp_t hx] at H
      exact Or.inl ⟨0, t, rfl, by rw [hx, hlo]; simp, H⟩
    · rw [ifp_f hx] at H
      simp at h2
      rcases ih (lo + 1) (z + 1) (sw_up hlo h1 (by omega)) (by omega) (by omega) H with ⟨j, u, h3, h4, h5⟩ | ⟨h3, h4⟩
      · exact Or.inl ⟨j + 1, u, by simpa using h3, by rw [h4]; simp; omega, h5⟩
      · refine Or.inr ⟨?_, h4⟩
        have hne : x.toInt ≠ z := fun q => hx (Int32.toInt_inj.mp (by rw [hlo]; exact q))
        simp at h3 ⊢
        omega

set_option maxHeartbeats 1000000 in
theorem s_tsw {d9 lo9 hi9 : Int} {offs : Array Int} {len : Nat} (C : Pk g L xs p l e R s m args below meth c mi c0 s0 d Q rv hf kn) (hd : decode (mCd mi) pc = .ok (.tableswitch d9 lo9 hi9 offs, len)) (hc : chk mi pc (.tableswitch d9 lo9 hi9 offs) (op, pc + len, a, b, c9, ci, cl, tg) = true) (wt : wtS L xs c0 s0 (pc, lo, st, h)) (H : o_op kn kc (op, pc + len, a, b, c9, ci, cl, tg) lo st h = some (rv, hf)) : Gd g L xs p l e R s m args below meth c mi c0 s0 d Q rv hf (pc, lo, st, h) := by
  have IH := C
  by_cases h63 : op = 63
  · subst h63
    have : (none : Option Rs) = some (rv, hf) := H
    cases this
  simp [chk, h63] at hc
  obtain ⟨rfl, hlo, hdf, hhi, hoff, hci, hlen⟩ := hc
  change (match (generalizing := false) st with
    | .inl x :: st => swt x ci tg (fun t => kn (t, lo, st, h)) (kn (b, lo, st, h))
    | _ => none) = some (rv, hf) at H
  split at H
  · rename_i x st
    rcases swt_use (kk := fun t => kn (t, lo, st, h)) (d := b) tg ci lo9 hlo hci.1 (by omega) H with ⟨j, t, h1, h2, h3⟩ | ⟨h1, h2⟩
    · refine gnop (IH _ h3 wt.dr) (fun ⟨hx, hb, hml, hown, hts, hmn, hE, hz, hRm⟩ H locs ls hH hS hl kk => ?_)
      have hj : j < tg.length := (List.getElem?_eq_some_iff.mp h1).1
      have ho : (offs.toList.map (fun off => (pc : Int) + off))[j]? = some (t : Int) := by rw [hoff, List.getElem?_map, h1]; rfl
      rw [List.getElem?_map] at ho
      cases hq : offs.toList[j]? with
      | none => rw [hq] at ho; cases ho
      | some off =>
        rw [hq] at ho
        refine lv_tableIn hx hb hd (off := off) (by omega) (by omega) ?_ (Option.some.inj ho) (kk ls hl)
        rw [show (x.toInt - lo9).toNat = j by omega, ← Array.getElem?_toList]
        simpa using hq
    · refine gnop (IH _ h2 wt.dr) (fun ⟨hx, hb, hml, hown, hts, hmn, hE, hz, hRm⟩ H locs ls hH hS hl kk => ?_)
      exact lv_tableOut hx hb hd (by rcases h1 with q | q <;> omega) hdf (kk ls hl)
  · cases H

set_option maxHeartbeats 1000000 in
theorem s_ldc_w {k9 : Nat} (C : Pk g L xs p l e R s m args below meth c mi c0 s0 d Q rv hf kn) (hd : decode (mCd mi) pc = .ok (.ldc_w k9, 3)) (hc : chk mi pc (.ldc_w k9) (op, pc + 3, a, b, c9, ci, cl, tg) = true) (wt : wtS L xs c0 s0 (pc, lo, st, h)) (H : o_op kn kc (op, pc + 3, a, b, c9, ci, cl, tg) lo st h = some (rv, hf)) : Gd g L xs p l e R s m args below meth c mi c0 s0 d Q rv hf (pc, lo, st, h) := by
  have IH := C
  by_cases h63 : op = 63
  · subst h63
    have : (none : Option Rs) = some (rv, hf) := H
    cases this
  simp [chk, h63] at hc
  obtain ⟨rfl, h3⟩ := hc
  obtain ⟨z, hz3⟩ := any3_use h3
  change kn (pc + 3, lo, vI ci :: st, h) = some (rv, hf) at H
  exact gnop (IH _ H wt.vi) (fun ⟨hx, hb, hml, hown, hts, hmn, hE, hz, hRm⟩ H locs ls hH hS hl kk => lv_ldcw hx hb hown (hts _ (gt_t (tt_cst _ hz3) rfl)) hd (kk ls hl))

set_option maxHeartbeats 1000000 in
theorem s_ldc {k9 : Nat} (C : Pk g L xs p l e R s m args below meth c mi c0 s0 d Q rv hf kn) (hd : decode (mCd mi) pc = .ok (.ldc k9, 2)) (hc : chk mi pc (.ldc k9) (op, pc + 2, a, b, c9, ci, cl, tg) = true) (wt : wtS L xs c0 s0 (pc, lo, st, h)) (H : o_op kn kc (op, pc + 2, a, b, c9, ci, cl, tg) lo st h = some (rv, hf)) : Gd g L xs p l e R s m args below meth c mi c0 s0 d Q rv hf (pc, lo, st, h) := by
  have IH := C
  by_cases h63 : op = 63
  · subst h63
    have : (none : Option Rs) = some (rv, hf) := H
    cases this
  simp [chk, h63] at hc
  rcases hc with ⟨rfl, h3⟩ | ⟨rfl, h3⟩
  · obtain ⟨z, hz3⟩ := any3_use h3
    change kn (pc + 2, lo, vI ci :: st, h) = some (rv, hf) at H
    exact gnop (IH _ H wt.vi) (fun ⟨hx, hb, hml, hown, hts, hmn, hE, hz, hRm⟩ H locs ls hH hS hl kk => lv_ldc hx hb hown (hts _ (gt_t (tt_cst _ hz3) rfl)) hd (kk ls hl))
  · obtain ⟨z, hz3⟩ := any3_use h3
    change kn (pc + 2, lo, vR 40 a :: st, h) = some (rv, hf) at H
    refine gnop (IH _ H (wt.vr ⟨fun q => by omega, fun _ => (tt_srf _ hz3).2, fun q => by omega, by omega⟩)) (fun ⟨hx, hb, hml, hown, hts, hmn, hE, hz, hRm⟩ H locs ls hH hS hl kk => ?_)
    have hr9 := hE.2.2.1 _ hz3
    exact va_ldcS hx hb hown hr9 hd (kk ls hl)

set_option maxHeartbeats 1000000 in
theorem s_ldc2 {k9 : Nat} (C : Pk g L xs p l e R s m args below meth c mi c0 s0 d Q rv hf kn) (hd : decode (mCd mi) pc = .ok (.ldc2_w k9, 3)) (hc : chk mi pc (.ldc2_w k9) (op, pc + 3, a, b, c9, ci, cl, tg) = true) (wt : wtS L xs c0 s0 (pc, lo, st, h)) (H : o_op kn kc (op, pc + 3, a, b, c9, ci, cl, tg) lo st h = some (rv, hf)) : Gd g L xs p l e R s m args below meth c mi c0 s0 d Q rv hf (pc, lo, st, h) := by
  have IH := C
  by_cases h63 : op = 63
  · subst h63
    have : (none : Option Rs) = some (rv, hf) := H
    cases this
  simp [chk, h63] at hc
  obtain ⟨rfl, h3⟩ := hc
  obtain ⟨z, hz3⟩ := any3_use h3
  change kn (pc + 3, lo, vL cl :: st, h) = some (rv, hf) at H
  exact gnop (IH _ H wt.vl) (fun ⟨hx, hb, hml, hown, hts, hmn, hE, hz, hRm⟩ H locs ls hH hS hl kk => lv_ldc2 hx hb hown (hts _ (gt_t (tt_cstl _ hz3) rfl)) hd (kk ls hl))

set_option maxHeartbeats 1000000 in
theorem s_lconst {n9 : Fin 2} (C : Pk g L xs p l e R s m args below meth c mi c0 s0 d Q rv hf kn) (hd : decode (mCd mi) pc = .ok (.lconst n9, 1)) (hc : chk mi pc (.lconst n9) (op, pc + 1, a, b, c9, ci, cl, tg) = true) (wt : wtS L xs c0 s0 (pc, lo, st, h)) (H : o_op kn kc (op, pc + 1, a, b, c9, ci, cl, tg) lo st h = some (rv, hf)) : Gd g L xs p l e R s m args below meth c mi c0 s0 d Q rv hf (pc, lo, st, h) := by
  have IH := C
  by_cases h63 : op = 63
  · subst h63
    have : (none : Option Rs) = some (rv, hf) := H
    cases this
  simp [chk, h63] at hc
  obtain ⟨rfl, h3⟩ := hc
  change kn (pc + 1, lo, vL cl :: st, h) = some (rv, hf) at H
  exact gnop (IH _ H wt.vl) (fun ⟨hx, hb, hml, hown, hts, hmn, hE, hz, hRm⟩ H locs ls hH hS hl kk => lv_lconst hx hb hd h3.symm (kk ls hl))

set_option maxHeartbeats 1000000 in
theorem s_getfield {k9 : Nat} (C : Pk g L xs p l e R s m args below meth c mi c0 s0 d Q rv hf kn) (hd : decode (mCd mi) pc = .ok (.getfield k9, 3)) (hc : chk mi pc (.getfield k9) (op, pc + 3, a, b, c9, ci, cl, tg) = true) (wt : wtS L xs c0 s0 (pc, lo, st, h)) (H : o_op kn kc (op, pc + 3, a, b, c9, ci, cl, tg) lo st h = some (rv, hf)) : Gd g L xs p l e R s m args below meth c mi c0 s0 d Q rv hf (pc, lo, st, h) := by
  have IH := C
  by_cases h63 : op = 63
  · subst h63
    have : (none : Option Rs) = some (rv, hf) := H
    cases this
  have hc : (op = 29 ∧ any4 flk (mO mi) k9 a b = true ∧ (fK a b = 100 ∨ fK a b = 101)) ∨ (op = 30 ∧ any4 flk (mO mi) k9 a b = true ∧ fK a b = 102) ∨ (op = 31 ∧ any4 flk (mO mi) k9 a b = true ∧ fK a b = c9 ∧ c9 < 40) ∨ (op = 57 ∧ any3 slk (mO mi) k9 0 = true) ∨ (op = 58 ∧ any3 slk (mO mi) k9 1 = true) := by
    simp [chk, h63] at hc
    rcases hc with (((q | q) | q) | q) | q
    · exact Or.inl ⟨q.1.1, q.1.2, q.2⟩
    · exact Or.inr (Or.inl ⟨q.1.1, q.1.2, q.2⟩)
    · exact Or.inr (Or.inr (Or.inl ⟨q.1.1.1, q.1.1.2, q.1.2, q.2⟩))
    · exact Or.inr (Or.inr (Or.inr (Or.inl q)))
    · exact Or.inr (Or.inr (Or.inr (Or.inr q)))
  rcases hc with ⟨rfl, h4, hfk⟩ | ⟨rfl, h4, hfk⟩ | ⟨rfl, h4, hfk, h40⟩ | ⟨rfl, h3⟩ | ⟨rfl, h3⟩
  · obtain ⟨hlink, ha, hb9⟩ := flk_use h4
    change (match (generalizing := false) st with
      | .inr (.inr (k, r)) :: st => bif Nat.beq k a then kn (pc + 3, lo, vI (hI h r b) :: st, h) else none
      | _ => none) = some (rv, hf) at H
    split at H
    · rename_i k r st
      cases hk : Nat.beq k a
      · rw [hk] at H; cases H
      · rw [hk] at H
        have hk := beq_t hk
        subst hk
        obtain ⟨hr, hkr, -⟩ := wt.top.1 (show k < 40 by omega)
        refine gnop (IH _ H wt.dr.vi) (fun ⟨hx, hb, hml, hown, hts, hmn, hE, hz, hRm⟩ H locs ls hH hS hl kk => ?_)
        simp only [List.map_cons]
        rw [cv_r (by omega), adr_h (by omega)]
        refine va_get hx hb hts (lay_in ha) hown hE.1 hH.1 r (by rw [wsO_at hr, cE_o hkr ha]) (vcl_at (by omega)) b hb9 (hts _ hlink) (fun _ h9 => h9) ?_ hd (kk ls hl)
        rw [List.getElem?_map, List.getElem?_range hb9]
        show some (fV g h k r b) = some (.int (hI h r b))
        unfold fV
        rw [if_neg (by omega), if_pos (by omega)]
    · cases H
  · obtain ⟨hlink, ha, hb9⟩ := flk_use h4
    change (match (generalizing := false) st with
      | .inr (.inr (k, r)) :: st => bif Nat.beq k a then kn (pc + 3, lo, vL (hL h r b) :: st, h) else none
      | _ => none) = some (rv, hf) at H
    split at H
    · rename_i k r st
      cases hk : Nat.beq k a
      · rw [hk] at H; cases H
      · rw [hk] at H
        have hk := beq_t hk
        subst hk
        obtain ⟨hr, hkr, -⟩ := wt.top.1 (show k < 40 by omega)
        refine gnop (IH _ H wt.dr.vl) (fun ⟨hx, hb, hml, hown, hts, hmn, hE, hz, hRm⟩ H locs ls hH hS hl kk => ?_)
        simp only [List.map_cons]
        rw [cv_r (by omega), adr_h (by omega)]
        refine va_get hx hb hts (lay_in ha) hown hE.1 hH.1 r (by rw [wsO_at hr, cE_o hkr ha]) (vcl_at (by omega)) b hb9 (hts _ hlink) (fun _ h9 => h9) ?_ hd (kk ls hl)
        rw [List.getElem?_map, List.getElem?_range hb9]
        show some (fV g h k r b) = some (.long (hL h r b))
        unfold fV
        rw [if_pos hfk]
    · cases H
  · obtain ⟨hlink, ha, hb9⟩ := flk_use h4
    change (match (generalizing := false) st with
      | .inr (.inr (k, r)) :: st => bif Nat.beq k a then bR (hR h r b) (fun x => kn (pc + 3, lo, vR c9 x :: st, h)) else none
      | _ => none) = some (rv, hf) at H
    split at H
    · rename_i k r st
      cases hk : Nat.beq k a
      · rw [hk] at H; cases H
      · rw [hk] at H
        have hk := beq_t hk
        subst hk
        obtain ⟨hr, hkr, -⟩ := wt.top.1 (show k < 40 by omega)
        cases hq : hR h r b with
        | none => rw [hq] at H; cases H
        | some x =>
          rw [hq] at H
          have H : kn (pc + 3, lo, vR c9 x :: st, h) = some (rv, hf) := H
          have hx9 : kok h c9 x := by
            have q := (wt.1.1 r hr).2.1 (by show hK h r < 13; omega) b x (by show b < cF (hK h r); rw [hkr]; exact hb9) (by show fK (hK h r) b < 100; rw [hkr]; omega) hq
            have q : kok h (fK (hK h r) b) x := q
            rw [hkr, hfk] at q
            exact q
          refine gnop (IH _ H (wt.dr.vr hx9)) (fun ⟨hx, hb, hml, hown, hts, hmn, hE, hz, hRm⟩ H locs ls hH hS hl kk => ?_)
          have e2 := kk ls hl
          simp only [List.map_cons] at e2 ⊢
          rw [cv_r (by omega), adr_h (by omega)] at e2 ⊢
          refine va_get hx hb hts (lay_in ha) hown hE.1 hH.1 r (by rw [wsO_at hr, cE_o hkr ha]) (vcl_at (by omega)) b hb9 (hts _ hlink) (fun _ h9 => h9) ?_ hd e2
          rw [List.getElem?_map, List.getElem?_range hb9]
          show some (fV g h k r b) = some (.ref (gB g + x))
          unfold fV
          rw [if_neg (by omega), if_neg (by omega), hq]
          rfl
    · cases H
  · change (match (generalizing := false) st with
      | .inr (.inr (k, r)) :: st => bif Nat.beq k 40 then kn (pc + 3, lo, vR 41 r :: st, h) else none
      | _ => none) = some (rv, hf) at H
    split at H
    · rename_i k r st
      cases hk : Nat.beq k 40
      · rw [hk] at H; cases H
      · rw [hk] at H
        have hk := beq_t hk
        subst hk
        have hr : r < 23 := wt.top.2.1 (Or.inl rfl)
        refine gnop (IH _ H (wt.dr.vr ⟨fun q => by omega, fun _ => hr, fun q => by omega, by omega⟩)) (fun ⟨hx, hb, hml, hown, hts, hmn, hE, hz, hRm⟩ H locs ls hH hS hl kk => ?_)
        exact vk_getf hx hb (hE.2.2.2.1.1 r hr).2.2.1 hS hown (hts _ (slk_use h3)) (fun _ h9 => h9) hd (kk ls hl)
    · cases H
  · change (match (generalizing := false) st with
      | .inr (.inr (k, _)) :: st => bif Nat.beq k 40 then kn (pc + 3, lo, vI 0 :: st, h) else none
      | _ => none) = some (rv, hf) at H
    split at H
    · rename_i k r st
      cases hk : Nat.beq k 40
      · rw [hk] at H; cases H
      · rw [hk] at H
        have hk := beq_t hk
        subst hk
        have hr : r < 23 := wt.top.2.1 (Or.inl rfl)
        refine gnop (IH _ H wt.dr.vi) (fun ⟨hx, hb, hml, hown, hts, hmn, hE, hz, hRm⟩ H locs ls hH hS hl kk => ?_)
        exact vk_getf hx hb (hE.2.2.2.1.1 r hr).2.1 hS hown (hts _ (slk_use h3)) (fun _ h9 => h9) hd (kk ls hl)
    · cases H

set_option maxHeartbeats 1000000 in
theorem s_getstatic {k9 : Nat} (C : Pk g L xs p l e R s m args below meth c mi c0 s0 d Q rv hf kn) (hd : decode (mCd mi) pc = .ok (.getstatic k9, 3)) (hc : chk mi pc (.getstatic k9) (op, pc + 3, a, b, c9, ci, cl, tg) = true) (wt : wtS L xs c0 s0 (pc, lo, st, h)) (H : o_op kn kc (op, pc + 3, a, b, c9, ci, cl, tg) lo st h = some (rv, hf)) : Gd g L xs p l e R s m args below meth c mi c0 s0 d Q rv hf (pc, lo, st, h) := by
  have IH := C
  by_cases h63 : op = 63
  · subst h63
    have : (none : Option Rs) = some (rv, hf) := H
    cases this
  simp [chk, h63] at hc
  rcases hc with ⟨⟨rfl, rfl⟩, h3⟩ | ⟨rfl, h3⟩
  · change kn (pc + 3, lo, vI 1 :: st, h) = some (rv, hf) at H
    exact gnop (IH _ H wt.vi) (fun ⟨hx, hb, hml, hown, hts, hmn, hE, hz, hRm⟩ H locs ls hH hS hl kk => va_gets hx hb hE.2.2.2.2.1 hS hown (hts _ (slk_use h3)) (fun _ h9 => h9) hd (kk ls hl))
  · change kn (pc + 3, lo, vR 43 0 :: st, h) = some (rv, hf) at H
    exact gnop (IH _ H (wt.vr ⟨fun q => by omega, fun q => by omega, fun q => by omega, by omega⟩)) (fun ⟨hx, hb, hml, hown, hts, hmn, hE, hz, hRm⟩ H locs ls hH hS hl kk => va_gets hx hb hE.2.2.2.2.2.1 hS hown (hts _ (slk_use h3)) (fun _ h9 => h9) hd (kk ls hl))

set_option maxHeartbeats 1000000 in
theorem s_putfield {k9 : Nat} (C : Pk g L xs p l e R s m args below meth c mi c0 s0 d Q rv hf kn) (hd : decode (mCd mi) pc = .ok (.putfield k9, 3)) (hc : chk mi pc (.putfield k9) (op, pc + 3, a, b, c9, ci, cl, tg) = true) (wt : wtS L xs c0 s0 (pc, lo, st, h)) (H : o_op kn kc (op, pc + 3, a, b, c9, ci, cl, tg) lo st h = some (rv, hf)) : Gd g L xs p l e R s m args below meth c mi c0 s0 d Q rv hf (pc, lo, st, h) := by
  have IH := C
  by_cases h63 : op = 63
  · subst h63
    have : (none : Option Rs) = some (rv, hf) := H
    cases this
  have hc : any4 flk (mO mi) k9 a b = true ∧ finOk mi a b = true ∧ ((op = 32 ∧ fK a b = 100) ∨ (op = 33 ∧ fK a b = 101) ∨ (op = 34 ∧ fK a b = 102) ∨ (op = 35 ∧ fK a b = c9 ∧ c9 < 40)) := by
    simp [chk, h63] at hc
    refine ⟨hc.1.1, hc.1.2, ?_⟩
    rcases hc.2 with ((q | q) | q) | q
    · exact Or.inl q
    · exact Or.inr (Or.inl q)
    · exact Or.inr (Or.inr (Or.inl q))
    · exact Or.inr (Or.inr (Or.inr ⟨q.1.1, q.1.2, q.2⟩))
  obtain ⟨h4, hfo, hc⟩ := hc
  obtain ⟨hlink, ha, hb9⟩ := flk_use h4
  have hty := tt_fk a ha b hb9
  rcases hc with ⟨rfl, hfk⟩ | ⟨rfl, hfk⟩ | ⟨rfl, hfk⟩ | ⟨rfl, hfk, h40⟩
  · change (match (generalizing := false) st with
      | .inl v :: .inr (.inr (k, r)) :: st => bif Nat.beq k a then kn (pc + 3, lo, st, sI h r b v) else none
      | _ => none) = some (rv, hf) at H
    split at H
    · rename_i v k r st
      cases hk : Nat.beq k a
      · rw [hk] at H; cases H
      · rw [hk] at H
        have hk := beq_t hk
        subst hk
        obtain ⟨hr, hkr, -⟩ := wt.dr.top.1 (show k < 40 by omega)
        have ih := IH _ H (wt.dr.dr.heap (gro.rf h) (wt.1.pI hr))
        refine ⟨ih.1, fun hC H locs ls hH hS hl => ?_⟩
        simp only [List.map_cons]
        rw [cv_r (by omega), adr_h (by omega)]
        have hY : cY k b = .int := by
          unfold tyOk at hty
          split at hty <;> simp at hty <;> first | assumption | omega
        refine put_row (h2 := sI h r b v) hC wt.2.2.2.1 ha hb9 hlink hfo hr hkr (by rw [hY]; rfl) (by rw [hY]; rfl) rfl ?_ ne_sI hH hS hd (fun H1 locs1 hH1 hS1 => ih.2 hC H1 locs1 ls hH1 hS1 hl)
        rw [cE_o (ci := k) (by exact hkr) ha]
        congr 2
        refine (rng_set _ _ _ _ _ ?_ ?_).symm
        · unfold fV
          rw [if_neg (by omega), if_pos (by omega), hI_sI, if_pos ⟨rfl, rfl⟩]
          rfl
        · intro j hj
          have e9 : hI (sI h r b v) r j = hI h r j := by rw [hI_sI, if_neg (fun q => hj q.2)]
          unfold fV
          rw [e9]
          rfl
    · cases H
  · change (match (generalizing := false) st with
      | .inl v :: .inr (.inr (k, r)) :: st => bif Nat.beq k a then (bif isB v then kn (pc + 3, lo, st, sI h r b v) else none) else none
      | _ => none) = some (rv, hf) at H
    split at H
    · rename_i v k r st
      cases hk : Nat.beq k a
      · rw [hk] at H; cases H
      · rw [hk] at H
        have hk := beq_t hk
        subst hk
        cases hB : isB v with
        | false => rw [hB] at H; cases H
        | true =>
          rw [hB] at H
          obtain ⟨hr, hkr, -⟩ := wt.dr.top.1 (show k < 40 by omega)
          have ih := IH _ H (wt.dr.dr.heap (gro.rf h) (wt.1.pI hr))
          refine ⟨ih.1, fun hC H locs ls hH hS hl => ?_⟩
          simp only [List.map_cons]
          rw [cv_r (by omega), adr_h (by omega)]
          have hY : cY k b = .boolean := by
            unfold tyOk at hty
            split at hty <;> simp at hty <;> first | assumption | omega
          refine put_row (h2 := sI h r b v) hC wt.2.2.2.1 ha hb9 hlink hfo hr hkr (by rw [hY]; exact boo_n hB) (by rw [hY]; exact boo_f hB) rfl ?_ ne_sI hH hS hd (fun H1 locs1 hH1 hS1 => ih.2 hC H1 locs1 ls hH1 hS1 hl)
          rw [cE_o (ci := k) (by exact hkr) ha]
          congr 2
          refine (rng_set _ _ _ _ _ ?_ ?_).symm
          · unfold fV
            rw [if_neg (by omega), if_pos (by omega), hI_sI, if_pos ⟨rfl, rfl⟩]
            rfl
          · intro j hj
            have e9 : hI (sI h r b v) r j = hI h r j := by rw [hI_sI, if_neg (fun q => hj q.2)]
            unfold fV
            rw [e9]
            rfl
    · cases H
  · change (match (generalizing := false) st with
      | .inr (.inl v) :: .inr (.inr (k, r)) :: st => bif Nat.beq k a then kn (pc + 3, lo, st, sL h r b v) else none
      | _ => none) = some (rv, hf) at H
    split at H
    · rename_i v k r st
      cases hk : Nat.beq k a
      · rw [hk] at H; cases H
      · rw [hk] at H
        have hk := beq_t hk
        subst hk
        obtain ⟨hr, hkr, -⟩ := wt.dr.top.1 (show k < 40 by omega)
        have ih := IH _ H (wt.dr.dr.heap (gro.rf h) wt.1.pL)
        refine ⟨ih.1, fun hC H locs ls hH hS hl => ?_⟩
        simp only [List.map_cons]
        rw [cv_r (by omega), adr_h (by omega)]
        have hY : cY k b = .long := by
          unfold tyOk at hty
          split at hty <;> simp at hty <;> first | assumption | omega
        refine put_row (h2 := sL h r b v) hC wt.2.2.2.1 ha hb9 hlink hfo hr hkr (by rw [hY]; rfl) (by rw [hY]; rfl) rfl ?_ ne_sL hH hS hd (fun H1 locs1 hH1 hS1 => ih.2 hC H1 locs1 ls hH1 hS1 hl)
        rw [cE_o (ci := k) (by exact hkr) ha]
        congr 2
        refine (rng_set _ _ _ _ _ ?_ ?_).symm
        · unfold fV
          rw [if_pos hfk, hL_sL, if_pos ⟨rfl, rfl⟩]
          rfl
        · intro j hj
          have e9 : hL (sL h r b v) r j = hL h r j := by rw [hL_sL, if_neg (fun q => hj q.2)]
          unfold fV
          rw [e9]
          rfl
    · cases H
  · change (match (generalizing := false) st with
      | .inr (.inr (k2, v)) :: .inr (.inr (k, r)) :: st => bif Nat.beq k a && Nat.beq k2 c9 then kn (pc + 3, lo, st, sR h r b v) else none
      | _ => none) = some (rv, hf) at H
    split at H
    · rename_i k2 v k r st
      cases hk : (Nat.beq k a && Nat.beq k2 c9)
      · rw [hk] at H; cases H
      · rw [hk] at H
        obtain ⟨hk, hk2⟩ := Bool.and_eq_true_iff.mp hk
        have hk := beq_t hk
        have hk2 := beq_t hk2
        subst hk
        subst hk2
        have hv9 : kok h k2 v := wt.top
        obtain ⟨hr, hkr, -⟩ := wt.dr.top.1 (show k < 40 by omega)
        have ih := IH _ H (wt.dr.dr.heap (gro.rf h) (wt.1.pR (fun _ => by rw [hkr, hfk]; exact hv9) (fun q => by rw [hkr] at q; omega)))
        refine ⟨ih.1, fun hC H locs ls hH hS hl => ?_⟩
        simp only [List.map_cons]
        rw [cv_r (by omega), cv_r (by omega), adr_h (by omega), adr_h (by omega)]
        have hY : (∃ t, cY k b = .array t) ∨ ∃ t, cY k b = .object t := by
          unfold tyOk at hty
          split at hty <;> simp at hty
          · omega
          · omega
          · omega
          · exact Or.inl ⟨_, by assumption⟩
          · exact Or.inr ⟨_, by assumption⟩
        refine put_row (h2 := sR h r b v) hC wt.2.2.2.1 ha hb9 hlink hfo hr hkr (by rcases hY with ⟨t, hY⟩ | ⟨t, hY⟩ <;> rw [hY] <;> rfl) (by rcases hY with ⟨t, hY⟩ | ⟨t, hY⟩ <;> rw [hY] <;> rfl) rfl ?_ ne_sR hH hS hd (fun H1 locs1 hH1 hS1 => ih.2 hC H1 locs1 ls hH1 hS1 hl)
        rw [cE_o (ci := k) (by exact hkr) ha]
        congr 2
        refine (rng_set _ _ _ _ _ ?_ ?_).symm
        · unfold fV
          rw [if_neg (by omega), if_neg (by omega), hR_sR, if_pos ⟨rfl, rfl⟩]
          rfl
        · intro j hj
          have e9 : hR (sR h r b v) r j = hR h r j := by rw [hR_sR, if_neg (fun q => hj q.2)]
          unfold fV
          rw [e9]
          rfl
    · cases H
end Snd3
