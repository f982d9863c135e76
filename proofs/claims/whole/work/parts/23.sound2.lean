/-! fields, arrays, new cells -/
theorem any4_use {l : List (Nat × Nat × Nat × Nat × Nat)} {o k a b : Nat} (h : any4 l o k a b = true) : ∃ z, (o, k, a, b, z) ∈ l := by
  obtain ⟨q, hq, h1⟩ := List.any_eq_true.mp h
  simp at h1
  obtain ⟨⟨⟨rfl, rfl⟩, rfl⟩, rfl⟩ := h1
  exact ⟨_, hq⟩
theorem any2_use {l : List (Nat × Nat × Nat)} {o k : Nat} (h : any2 l o k = true) : ∃ z, (o, k, z) ∈ l := by
  obtain ⟨q, hq, h1⟩ := List.any_eq_true.mp h
  simp at h1
  obtain ⟨rfl, rfl⟩ := h1
  exact ⟨_, hq⟩
theorem any3_use {α : Type} [BEq α] [LawfulBEq α] {l : List (Nat × Nat × α × Nat)} {o k : Nat} {a : α} (h : any3 l o k a = true) : ∃ z, (o, k, a, z) ∈ l := by
  obtain ⟨q, hq, h1⟩ := List.any_eq_true.mp h
  simp at h1
  obtain ⟨⟨rfl, rfl⟩, rfl⟩ := h1
  exact ⟨_, hq⟩
theorem lay_in {a : Nat} (ha : a < 13) : ∀ w ∈ u_ws (cC a) (cT a) (cF a), w ∈ gtbl := by
  intro w hw
  unfold u_ws at hw
  obtain ⟨k, hk, rfl⟩ := List.mem_map.mp hw
  obtain ⟨q, hq, rfl, rfl⟩ := tt_layAll a ha k (List.mem_range.mp hk)
  exact gt_t (tt_lay q hq) (by unfold u_lay; split <;> rfl)
theorem flk_use {mi k a b : Nat} (h : any4 flk (mO mi) k a b = true) : Cond.fieldLink (ownOf (mO mi)) k (cT a b).1 (cT a b).2.1 (cT a b).2.2.1 ∈ gtbl ∧ a < 13 ∧ b < cF a := by
  obtain ⟨z, hz⟩ := any4_use h
  exact ⟨gt_t (tt_flk _ hz).1 rfl, (tt_flk _ hz).2⟩
theorem slk_use {mi k a : Nat} (h : any3 slk (mO mi) k a = true) : Cond.fieldLink (ownOf (mO mi)) k (slF a).1 (slF a).2.1 (slF a).2.2 ∈ gtbl := by
  obtain ⟨z, hz⟩ := any3_use h
  exact gt_t (tt_slk _ hz) rfl
theorem vcl_at {a : Nat} (ha : a < 14) : vcl[a]? = some (cC a, cT a, cF a) := by
  unfold vcl
  rw [List.getElem?_map, List.getElem?_range ha]
  rfl
theorem inb_vp {i : Int32} {n : Nat} (h : inb i n = true) : vp_in i n := vp_in_iff.mpr (by simpa [inb] using h)
theorem isB_v {x : Int32} (h : isB x = true) : x = 0 ∨ x = 1 := by simpa [isB] using h
theorem nat_i {x : Int32} (h : 0 ≤ x.toInt) : x = nI x.toInt.toNat := by
  have h1 : x.toInt < 2 ^ 31 := Int32.toInt_lt x
  apply Int32.toInt_inj.mp
  rw [nI_toInt (by omega)]
  omega
theorem chr_n {x : Int32} (h : isCh x = true) : narrow .char (.int x) = .int x := by
  have h1 : 0 ≤ x.toInt ∧ x.toInt < 65536 := by simpa [isCh] using h
  rw [nat_i h1.1]
  exact (pk_charN (by omega)).1
theorem chr_v {x : Int32} (h : isCh x = true) : vp_nar .char x = x := by
  unfold vp_nar
  rw [chr_n h]
theorem boo_n {x : Int32} (h : isB x = true) : narrow .boolean (.int x) = .int x := by
  rcases isB_v h with rfl | rfl <;> rfl
theorem boo_v {x : Int32} (h : isB x = true) : vp_nar .boolean x = x := by
  unfold vp_nar
  rw [boo_n h]
theorem boo_f {x : Int32} (h : isB x = true) : fits .boolean (.int x) = true := by
  rcases isB_v h with rfl | rfl <;> rfl
/-! the heap's kinds stay -/
theorem wtH.pI {L : Nat} {xs : Nat → Int32} {h : Hp} {r k : Nat} {v : Int32} (w : wtH L xs h) (hr : r < hC h) : wtH L xs (sI h r k v) := by
  refine ⟨w.1, w.2.1, w.2.2.1, fun j hj => ?_⟩
  rw [hI_sI, if_neg (fun q => by have := w.2.1; omega)]
  exact w.2.2.2 j hj
theorem wtH.pL {L : Nat} {xs : Nat → Int32} {h : Hp} {r k : Nat} {v : Int64} (w : wtH L xs h) : wtH L xs (sL h r k v) := w
theorem wtH.pCp {L : Nat} {xs : Nat → Int32} {h : Hp} {a b r c n : Nat} (w : wtH L xs h) (hr : r < hC h) : wtH L xs (sCp h a b r c n) := by
  refine ⟨w.1, w.2.1, w.2.2.1, fun j hj => ?_⟩
  show (if 9999999 = r ∧ _ then _ else hI h 9999999 j) = xs j
  rw [if_neg (fun q => by have := w.2.1; omega)]
  exact w.2.2.2 j hj
theorem wtH.pR {L : Nat} {xs : Nat → Int32} {h : Hp} {r k v : Nat} (w : wtH L xs h) (h1 : hK h r < 13 → kok h (fK (hK h r) k) v) (h2 : hK h r = 24 → kok h 1 v) : wtH L xs (sR h r k v) := by
  refine ⟨fun i hi => ⟨(w.1 i hi).1, fun hk j x hj hf hx => ?_, fun hk j x hx => ?_⟩, w.2⟩
  · rw [hR_sR] at hx
    split at hx
    · rename_i q
      cases hx
      obtain ⟨rfl, rfl⟩ := q
      exact h1 hk
    · exact (w.1 i hi).2.1 hk j x hj hf hx
  · rw [hR_sR] at hx
    split at hx
    · rename_i q
      cases hx
      obtain ⟨rfl, rfl⟩ := q
      exact h2 hk
    · exact (w.1 i hi).2.2 hk j x hx
theorem gro.pN (h : Hp) (kd len n : Nat) : gro h (sN h kd len n) := ⟨Nat.le_succ _, Nat.le_add_right _ _, fun i hi => if_neg (Nat.ne_of_lt hi)⟩
theorem wtH.pN {L : Nat} {xs : Nat → Int32} {h : Hp} {kd len n : Nat} (w : wtH L xs h) (hc : hC h < 1000000) (hkd : kd < 13 ∨ (19 < kd ∧ kd < 25) ∨ kd = 30) : wtH L xs (sN h kd len n) := by
  have hne : (9999999 : Nat) ≠ hC h := by omega
  refine ⟨fun i hi => ?_, hc, (if_neg hne).trans w.2.2.1, fun j hj => (if_neg hne).trans (w.2.2.2 j hj)⟩
  have hi : i < hC h + 1 := hi
  by_cases e : i = hC h
  · have e1 : hK (sN h kd len n) i = kd := if_pos e
    have e2 : ∀ k, hR (sN h kd len n) i k = none := fun k => if_pos e
    refine ⟨by rw [e1]; exact hkd, fun _ k x _ _ hx => ?_, fun _ k x hx => ?_⟩
    · rw [e2] at hx; cases hx
    · rw [e2] at hx; cases hx
  · have e1 : hK (sN h kd len n) i = hK h i := if_neg e
    have e2 : ∀ k, hR (sN h kd len n) i k = hR h i k := fun k => if_neg e
    have w1 := w.1 i (by omega)
    refine ⟨by rw [e1]; exact w1.1, fun q k x h1 h2 hx => ?_, fun q k x hx => ?_⟩
    · rw [e1] at q h1 h2 ⊢
      rw [e2] at hx
      exact kok.up (gro.pN h kd len n) (w1.2.1 q k x h1 h2 hx)
    · rw [e1] at q
      rw [e2] at hx
      exact kok.up (gro.pN h kd len n) (w1.2.2 q k x hx)
section Snd2
variable {g : GG} {L : Nat} {xs : Nat → Int32} {p : Program} {l : Launch} {e : Env} {R : Room} {s : State} {m : MethodId} {args : Array Value} {below : List Frame} {meth : Method} {c : Code} {mi c0 s0 d : Nat} {Q : State → Prop} {rv : Option AV} {hf : Hp}
variable {kn : St → Option Rs} {kc : Nat → List AV → Hp → Option Rs} {pc pc' : Nat} {lo lo' : Lo} {st st' : List AV} {h : Hp} {op nx a b c9 : Nat} {ci : Int32} {cl : Int64} {tg : List Nat}
theorem wtS.heap {h2 : Hp} (w : wtS L xs c0 s0 (pc, lo, st, h)) (g1 : gro h h2) (w2 : wtH L xs h2) : wtS L xs c0 s0 (pc, lo, st, h2) :=
  ⟨w2, fun v hv => (w.2.1 v hv).up g1, fun k v hv => (w.2.2.1 k v hv).up g1, Nat.le_trans w.2.2.2.1 g1.1, Nat.le_trans w.2.2.2.2 g1.2.1⟩
set_option maxHeartbeats 1000000 in
/-- a field of a cell is written -/
theorem put_row {k r : Nat} {v : Value} {h2 : Hp} {H : Heap} {locs : List Loc} {ls : Array Slot} {rest : List Value} (C : Cx g L xs p R s m args meth c mi c0 s0 d hf) (hc0 : c0 ≤ hC h) (ha : a < 13) (hb9 : b < cF a) (hlink : Cond.fieldLink (ownOf (mO mi)) k (cT a b).1 (cT a b).2.1 (cT a b).2.2.1 ∈ gtbl) (hfo : finOk mi a b = true)
    (hr : r < hC h) (hkr : hK h r = a) (hn : narrow (cY a b) v = v) (hfit : fits (cY a b) v = true) (hc2 : hC h2 = hC h) (hE2 : cE g h2 r = .inr (a, ((List.range (cF a)).map (fV g h a r)).set b v)) (ho : ∀ i, i ≠ r → cE g h2 i = cE g h i)
    (hH : Hold g h H) (hS0 : va_S (gA g) s.heap H locs) (hd : decode (mCd mi) pc = .ok (.putfield k, 3))
    (kk : ∀ (H1 : Heap) (locs1 : List Loc), Hold g h2 H1 → va_S (gA g) s.heap H1 locs1 → W p l e R s m args below meth c H1 locs1 (hC h - c0) (hS h - s0) Q (F0 m (pc + 3) ls rest)) :
    W p l e R s m args below meth c H locs (hC h - c0) (hS h - s0) Q (F0 m pc ls (v :: .ref (gB g + r) :: rest)) := by
  obtain ⟨hx, hb, hml, hown, hts, hmn, hE, hz, hRm⟩ := C
  have kk2 : ∀ (H1 : Heap) (locs1 : List Loc), va_P (gD g) vcl ((wsO g h).set r (gB g + r, .inr (a, ((List.range (cF a)).map (fV g h a r)).set b v))) H1 → va_D (gA g) ((wsO g h).set r (gB g + r, .inr (a, ((List.range (cF a)).map (fV g h a r)).set b v))) → va_S (gA g) s.heap H1 locs1 → W p l e R s m args below meth c H1 locs1 (hC h - c0) (hS h - s0) Q (F0 m (pc + 3) ls rest) := by
    intro H1 locs1 hP1 _ hS1
    rw [wsO_set hc2 hE2 ho] at hP1
    exact W.sz fun hsz => kk H1 locs1 (hold_of hP1 (by omega) (by omega)) hS1
  have he : (wsO g h)[r]? = some (gB g + r, .inr (a, (List.range (cF a)).map (fV g h a r))) := by rw [wsO_at hr, cE_o hkr ha]
  cases hfin : (cT a b).2.2.2 with
  | false => exact va_put hx hb hts (lay_in ha) (cY a) (tt_ty a ha) (tt_nm a ha) hown hE.1 hH.1 (wsO_D g h) hS0 r he (vcl_at (by omega)) b hb9 (hts _ hlink) (fun _ h9 => h9) hfin (tt_ty a ha b hb9) hn hfit (by simp; exact hb9) hd kk2
  | true =>
    have h1 : mNm mi = "<init>" ∧ mO mi = a := by
      unfold finOk at hfo
      rw [hfin] at hfo
      simpa using hfo
    exact va_putF hx hb hts (lay_in ha) (cY a) (tt_ty a ha) (tt_nm a ha) hown hE.1 hH.1 (wsO_D g h) hS0 r he (vcl_at (by omega)) b hb9 (hts _ hlink) (fun _ h9 => h9) hfin (hmn.trans h1.1) (by rw [(tt_dcl a ha b hb9).1, h1.2, (tt_dcl a ha b hb9).2]) (tt_ty a ha b hb9) hn hfit (by simp; exact hb9) hd kk2
theorem beq_t {k a : Nat} (h : Nat.beq k a = true) : k = a := Nat.eq_of_beq_eq_true h
end Snd2
