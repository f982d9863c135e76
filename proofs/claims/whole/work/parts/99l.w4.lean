/-! the law's loop -/
def LOk (B : Nat) (X : Option Rs) : Prop := ∃ hf, X = some (some (vI (1 : Int32)), hf) ∧ hC hf ≤ 600000 ∧ hS hf ≤ B
theorem LOk.c {B : Nat} {c : Prop} {a b : Option Rs} (h1 : c → LOk B a) (h2 : ¬ c → LOk B b) : LOk B (ifp c a b) := by
  by_cases y : c
  · rw [ifp_t y]; exact h1 y
  · rw [ifp_f y]; exact h2 y
theorem cmp_s (y : Int64) : lg_cmp y y = 0 := by
  obtain ⟨z, z1, z2, rfl⟩ := jz_of y
  rw [cmp_jz (by omega), if_neg (by omega), if_pos rfl]
  rfl
theorem INV.room {h : Hp} {c0 s0 : Nat} (I : INV h c0 s0) : hC h ≤ 600000 ∧ hS h ≤ s0 + 480000 := by
  obtain ⟨o, p, A, G, P, q, co, ca, n, S, W, _⟩ := I
  obtain ⟨w1, w2, w3, w4, w5, wc, wt, ⟨r1, r2⟩, w9⟩ := W
  have a1 : raN (hN h A) 143500 ≤ 430500 := by unfold raN; split <;> omega
  have a2 : raN (hN h G) 14000 ≤ 42000 := by unfold raN; split <;> omega
  omega
theorem law_s {B n : Nat} (hn : n ≤ 3584) {i : Int} (hi : 0 ≤ i ∧ i + 7 ≤ n) {h : Hp} {c0 s0 : Nat} (I : INV h c0 s0) (hc0 : c0 < 1000) (hN9 : hN h 9999999 = n) (next : ∀ l : Hp, INV l (c0 + 1) (s0 + 6) → hN l 9999999 = n → LOk B (L_Law_law_23 1000 9999999 0 68 92 (iZ i + (7 : Int32)) l)) : LOk B (L_Law_law_33 1000 9999999 0 68 92 (iZ i) h) := by
  have ib0 : inb (iZ i) n = true := (inb_iz (by omega)).mpr (by omega)
  have ib1 : inb (iZ i + (1 : Int32)) n = true := by rw [show (1 : Int32) = iZ 1 from rfl, iz_add]; exact (inb_iz (by omega)).mpr (by omega)
  have ib2 : inb (iZ i + (2 : Int32)) n = true := by rw [show (2 : Int32) = iZ 2 from rfl, iz_add]; exact (inb_iz (by omega)).mpr (by omega)
  have ib3 : inb (iZ i + (3 : Int32)) n = true := by rw [show (3 : Int32) = iZ 3 from rfl, iz_add]; exact (inb_iz (by omega)).mpr (by omega)
  have ib4 : inb (iZ i + (4 : Int32)) n = true := by rw [show (4 : Int32) = iZ 4 from rfl, iz_add]; exact (inb_iz (by omega)).mpr (by omega)
  have ib5 : inb (iZ i + (5 : Int32)) n = true := by rw [show (5 : Int32) = iZ 5 from rfl, iz_add]; exact (inb_iz (by omega)).mpr (by omega)
  have ib6 : inb (iZ i + (6 : Int32)) n = true := by rw [show (6 : Int32) = iZ 6 from rfl, iz_add]; exact (inb_iz (by omega)).mpr (by omega)
  have nx : ∀ {k l : Hp}, Stq h k l c0 s0 → LOk B (L_Law_law_23 1000 9999999 0 68 92 (iZ i + (7 : Int32)) l) := fun {k l} sq => next l (sq.2.2.mo hc0) (sq.2.1.2.trans hN9)
  rw [e_Law_law_33, hN9, ifp_t ib0]
  refine LOk.c (fun _ => ?_) (fun _ => ?_)
  · obtain ⟨a, k, l, e1, e2, sq⟩ := st_feed I (((hI h 9999999 (ix (iZ i + (1 : Int32)))).toInt64 <<< ((32 : Int32).toInt64 &&& 63)) ||| ((hI h 9999999 (ix (iZ i + (2 : Int32)))).toInt64 &&& (4294967295 : Int64))) (((hI h 9999999 (ix (iZ i + (3 : Int32)))).toInt64 <<< ((32 : Int32).toInt64 &&& 63)) ||| ((hI h 9999999 (ix (iZ i + (4 : Int32)))).toInt64 &&& (4294967295 : Int64))) (((hI h 9999999 (ix (iZ i + (5 : Int32)))).toInt64 <<< ((32 : Int32).toInt64 &&& 63)) ||| ((hI h 9999999 (ix (iZ i + (6 : Int32)))).toInt64 &&& (4294967295 : Int64)))
    rw [e_Law_law_164, hN9, ifp_t ib1, ifp_t ib2, ifp_t ib3, ifp_t ib4, ifp_t ib5, ifp_t ib6, e1, bI_s, sq.1.1, sq.1.2, hN9, ifp_t ib1, ifp_t ib2, ifp_t ib3, ifp_t ib4, ifp_t ib5, ifp_t ib6, e2, bI_s, ifp_t rfl]
    exact nx sq
  refine LOk.c (fun _ => ?_) (fun _ => ?_)
  · obtain ⟨a, k, l, e1, e2, sq⟩ := st_stair I 
    rw [e1, bI_s, e2, bI_s, ifp_t rfl]
    exact nx sq
  refine LOk.c (fun _ => ?_) (fun _ => ?_)
  · obtain ⟨a, k, l, e1, e2, sq⟩ := st_step I (hI h 9999999 (ix (iZ i + (1 : Int32)))) (hI h 9999999 (ix (iZ i + (2 : Int32))))
    rw [e_Law_law_324, hN9, ifp_t ib1, ifp_t ib2, e1, bI_s, sq.1.1, sq.1.2, hN9, ifp_t ib1, ifp_t ib2, e2, bI_s, ifp_t rfl]
    exact nx sq
  refine LOk.c (fun _ => ?_) (fun _ => ?_)
  · obtain ⟨a, k, l, e1, e2, sq⟩ := st_may I (hI h 9999999 (ix (iZ i + (1 : Int32))))
    rw [e_Law_law_361, hN9, ifp_t ib1, e1, bI_s, sq.1.1, sq.1.2, hN9, ifp_t ib1, e2, bI_s, ifp_t rfl]
    exact nx sq
  refine LOk.c (fun _ => ?_) (fun _ => ?_)
  · obtain ⟨a, k, l, e1, e2, sq⟩ := st_stride I (hI h 9999999 (ix (iZ i + (1 : Int32))))
    rw [e_Law_law_386, hN9, ifp_t ib1, e1, bI_s, sq.1.1, sq.1.2, hN9, ifp_t ib1, e2, bI_s, ifp_t rfl]
    exact nx sq
  refine LOk.c (fun _ => ?_) (fun _ => ?_)
  · rw [ifp_t ib1]
    have bk : ∀ (b : Prop) (x : Int32), x = bZ b → (∀ {k : Hp}, hI k 9999999 = hI h 9999999 → ((hI k 9999999 (ix (iZ i + (1 : Int32)))) = 0 ↔ ¬ b)) → LOk B (L_Law_law_426 1000 9999999 0 68 92 (iZ i) x 0 h) := by
      intro b x ex eb
      obtain ⟨a, k, l, e1, e2, sq⟩ := st_back I b
      rw [e_Law_law_426, ex, e1, bI_s, sq.1.2, hN9, ifp_t ib1]
      by_cases bb : b
      · rw [ifp_f (fun y => (eb sq.1.1).mp y bb), show (1 : Int32) = bZ b from (bZ_t bb).symm, e2, bI_s, ifp_t rfl]
        exact nx sq
      · rw [ifp_t ((eb sq.1.1).mpr bb), show evm 1000 202 [vR 12 68, vI (0 : Int32)] k = some (some (vI a), l) from (by have e3 := e2; rw [bZ_f bb] at e3; exact e3), bI_s, ifp_t rfl]
        exact nx sq
    refine LOk.c (fun y => ?_) (fun y => ?_)
    · exact bk False 0 (bZ_f id).symm (fun e => by rw [e]; exact ⟨fun _ => id, fun _ => y⟩)
    · exact bk True 1 (bZ_t trivial).symm (fun e => by rw [e]; exact ⟨fun z => absurd z y, fun z => absurd trivial z⟩)
  refine LOk.c (fun _ => ?_) (fun _ => ?_)
  · obtain ⟨a, k, l, e1, e2, sq⟩ := st_taken I (hI h 9999999 (ix (iZ i + (1 : Int32))))
    rw [e_Law_law_452, hN9, ifp_t ib1, e1, bI_s, sq.1.1, sq.1.2, hN9, ifp_t ib1, e2, bI_s, ifp_t rfl]
    exact nx sq
  refine LOk.c (fun _ => ?_) (fun _ => ?_)
  · obtain ⟨a, k, l, e1, e2, sq⟩ := st_lawful I 
    rw [e1, bI_s, e2, bI_s, ifp_t rfl]
    exact nx sq
  refine LOk.c (fun _ => ?_) (fun _ => ?_)
  · obtain ⟨a, k, l, e1, e2, sq⟩ := st_many I 
    rw [e1, bL_s, e2, bL_s, ifp_t (cmp_s _)]
    exact nx sq
  refine LOk.c (fun _ => ?_) (fun _ => ?_)
  · obtain ⟨a, k, l, e1, e2, sq⟩ := st_manyOf I (hI h 9999999 (ix (iZ i + (1 : Int32))))
    rw [e_Law_law_504, hN9, ifp_t ib1, e1, bL_s, sq.1.1, sq.1.2, hN9, ifp_t ib1, e2, bL_s, ifp_t (cmp_s _)]
    exact nx sq
  refine LOk.c (fun _ => ?_) (fun _ => ?_)
  · obtain ⟨a, k, l, e1, e2, sq⟩ := st_rank I 
    rw [e1, bL_s, e2, bL_s, ifp_t (cmp_s _)]
    exact nx sq
  refine LOk.c (fun _ => ?_) (fun _ => ?_)
  · obtain ⟨a, k, l, e1, e2, sq⟩ := st_nth I (((hI h 9999999 (ix (iZ i + (1 : Int32)))).toInt64 <<< ((32 : Int32).toInt64 &&& 63)) ||| ((hI h 9999999 (ix (iZ i + (2 : Int32)))).toInt64 &&& (4294967295 : Int64))) (hI h 9999999 (ix (iZ i + (3 : Int32))))
    rw [e_Law_law_544, hN9, ifp_t ib1, ifp_t ib2, ifp_t ib3, e1, bI_s, sq.1.1, sq.1.2, hN9, ifp_t ib1, ifp_t ib2, ifp_t ib3, e2, bI_s, ifp_t rfl]
    exact nx sq
  refine LOk.c (fun _ => ?_) (fun _ => ?_)
  · obtain ⟨t, a, k, l, e1, e2, e3, e4, e5, sq⟩ := st_plain I hc0 (hI h 9999999 (ix (iZ i + (1 : Int32)))) (hI h 9999999 (ix (iZ i + (2 : Int32))))
    rw [e_Law_law_613, hN9, ifp_t ib1, ifp_t ib2, e1, bI_s, sq.1.1, sq.1.2, hN9, ifp_t ib1, ifp_t ib2, e2, bI_s, e3, bI_s, ifp_t rfl]
    have nn : LOk B (L_Law_law_23 1000 9999999 0 68 92 (iZ i + (7 : Int32)) l) := next l sq.2.2 (sq.2.1.2.trans hN9)
    refine LOk.c (fun y => ?_) (fun y => nn)
    rw [e4, ifp_t (show inb (0 : Int32) 1 = true by decide), show ix (0 : Int32) = 0 from rfl, ifp_t (e5 y)]
    exact nn
  refine LOk.c (fun _ => ?_) (fun _ => ?_)
  · obtain ⟨a, k, l, e1, e2, sq⟩ := st_crowd I (((hI h 9999999 (ix (iZ i + (1 : Int32)))).toInt64 <<< ((32 : Int32).toInt64 &&& 63)) ||| ((hI h 9999999 (ix (iZ i + (2 : Int32)))).toInt64 &&& (4294967295 : Int64))) (hI h 9999999 (ix (iZ i + (3 : Int32))))
    rw [e_Law_law_681, hN9, ifp_t ib1, ifp_t ib2, ifp_t ib3, e1, bL_s, sq.1.1, sq.1.2, hN9, ifp_t ib1, ifp_t ib2, ifp_t ib3, e2, bL_s, ifp_t (cmp_s _)]
    exact nx sq
  refine LOk.c (fun _ => ?_) (fun _ => ?_)
  · obtain ⟨a, k, l, e1, e2, sq⟩ := st_weary I (((hI h 9999999 (ix (iZ i + (1 : Int32)))).toInt64 <<< ((32 : Int32).toInt64 &&& 63)) ||| ((hI h 9999999 (ix (iZ i + (2 : Int32)))).toInt64 &&& (4294967295 : Int64)))
    rw [e_Law_law_751, hN9, ifp_t ib1, ifp_t ib2, e1, bL_s, sq.1.1, sq.1.2, hN9, ifp_t ib1, ifp_t ib2, e2, bL_s, ifp_t (cmp_s _)]
    exact nx sq
  refine LOk.c (fun _ => ?_) (fun _ => ?_)
  · obtain ⟨a, k, l, e1, e2, sq⟩ := st_weight I (hI h 9999999 (ix (iZ i + (1 : Int32))))
    rw [e_Law_law_809, hN9, ifp_t ib1, e1, bI_s, sq.1.1, sq.1.2, hN9, ifp_t ib1, e2, bI_s, ifp_t rfl]
    exact nx sq
  refine LOk.c (fun _ => ?_) (fun _ => ?_)
  · obtain ⟨a, k, l, e1, e2, sq⟩ := st_two I 
    rw [e1, bL_s, e2, bL_s, ifp_t (cmp_s _)]
    exact nx sq
  refine LOk.c (fun _ => ?_) (fun _ => ?_)
  · obtain ⟨a, k, l, e1, e2, sq⟩ := st_game I 
    rw [e1, bI_s, e2, bI_s, ifp_t rfl]
    exact nx sq
  refine LOk.c (fun _ => ?_) (fun _ => ?_)
  · obtain ⟨a, k, l, e1, e2, sq⟩ := st_heaps I (hI h 9999999 (ix (iZ i + (1 : Int32))))
    rw [e_Law_law_861, hN9, ifp_t ib1, e1, bI_s, sq.1.1, sq.1.2, hN9, ifp_t ib1, e2, bI_s, ifp_t rfl]
    exact nx sq
  refine LOk.c (fun _ => ?_) (fun _ => ?_)
  · obtain ⟨a, k, l, e1, e2, sq⟩ := st_dust I (hI h 9999999 (ix (iZ i + (1 : Int32)))) (hI h 9999999 (ix (iZ i + (2 : Int32))))
    rw [e_Law_law_886, hN9, ifp_t ib1, ifp_t ib2, e1, bI_s, sq.1.1, sq.1.2, hN9, ifp_t ib1, ifp_t ib2, e2, bI_s, ifp_t rfl]
    exact nx sq
  refine LOk.c (fun _ => ?_) (fun _ => ?_)
  · obtain ⟨a, k, l, e1, e2, sq⟩ := st_fit I 
    rw [e1, bL_s, e2, bL_s, ifp_t (cmp_s _)]
    exact nx sq
  refine LOk.c (fun _ => ?_) (fun _ => ?_)
  · obtain ⟨a, k, l, e1, e2, sq⟩ := st_fewest I 
    rw [e1, bI_s, e2, bI_s, ifp_t rfl]
    exact nx sq
  refine LOk.c (fun _ => ?_) (fun _ => ?_)
  · obtain ⟨a, k, l, e1, e2, sq⟩ := st_still I (hI h 9999999 (ix (iZ i + (1 : Int32)))) (hI h 9999999 (ix (iZ i + (2 : Int32)))) (hI h 9999999 (ix (iZ i + (3 : Int32)))) (hI h 9999999 (ix (iZ i + (4 : Int32)))) (hI h 9999999 (ix (iZ i + (5 : Int32))))
    rw [e_Law_law_950, hN9, ifp_t ib1, ifp_t ib2, ifp_t ib3, ifp_t ib4, ifp_t ib5, e1, bI_s, sq.1.1, sq.1.2, hN9, ifp_t ib1, ifp_t ib2, ifp_t ib3, ifp_t ib4, ifp_t ib5, e2, bI_s, ifp_t rfl]
    exact nx sq
  refine LOk.c (fun _ => ?_) (fun _ => ?_)
  · obtain ⟨a, k, l, e1, e2, sq⟩ := st_fair I (hI h 9999999 (ix (iZ i + (1 : Int32)))) (hI h 9999999 (ix (iZ i + (2 : Int32))))
    rw [e_Law_law_1023, hN9, ifp_t ib1, ifp_t ib2, e1, bI_s, sq.1.1, sq.1.2, hN9, ifp_t ib1, ifp_t ib2, e2, bI_s, ifp_t rfl]
    exact nx sq
  refine LOk.c (fun _ => ?_) (fun _ => ?_)
  · obtain ⟨a, k, l, e1, e2, sq⟩ := st_climb I (hI h 9999999 (ix (iZ i + (1 : Int32)))) (hI h 9999999 (ix (iZ i + (2 : Int32))))
    rw [e_Law_law_1060, hN9, ifp_t ib1, ifp_t ib2, e1, bI_s, sq.1.1, sq.1.2, hN9, ifp_t ib1, ifp_t ib2, e2, bI_s, ifp_t rfl]
    exact nx sq
  refine LOk.c (fun _ => ?_) (fun _ => ?_)
  · rw [e_Law_law_1097, hN9, ifp_t ib1, ifp_t ib2]
    have bk : ∀ (b : Prop) (x : Int32), x = bZ b → (∀ {k : Hp}, hI k 9999999 = hI h 9999999 → ((hI k 9999999 (ix (iZ i + (2 : Int32)))) = 0 ↔ ¬ b)) → LOk B (L_Law_law_1118 1000 9999999 0 68 92 (iZ i) x (hI h 9999999 (ix (iZ i + (1 : Int32)))) 0 h) := by
      intro b x ex eb
      obtain ⟨a, k, l, e1, e2, sq⟩ := st_mark I (hI h 9999999 (ix (iZ i + (1 : Int32)))) b
      rw [e_Law_law_1118, ex, e1, bI_s, sq.1.2, hN9, ifp_t ib1, ifp_t ib2]
      by_cases bb : b
      · rw [ifp_f (fun y => (eb sq.1.1).mp y bb), sq.1.1, show evm 1000 238 [vR 12 68, vI (hI h 9999999 (ix (iZ i + (1 : Int32)))), vI (1 : Int32)] k = some (some (vI a), l) from (by have e3 := e2; rw [bZ_t bb] at e3; exact e3), bI_s, ifp_t rfl]
        exact nx sq
      · rw [ifp_t ((eb sq.1.1).mpr bb), sq.1.1, show evm 1000 238 [vR 12 68, vI (hI h 9999999 (ix (iZ i + (1 : Int32)))), vI (0 : Int32)] k = some (some (vI a), l) from (by have e3 := e2; rw [bZ_f bb] at e3; exact e3), bI_s, ifp_t rfl]
        exact nx sq
    refine LOk.c (fun y => ?_) (fun y => ?_)
    · exact bk False 0 (bZ_f id).symm (fun e => by rw [e]; exact ⟨fun _ => id, fun _ => y⟩)
    · exact bk True 1 (bZ_t trivial).symm (fun e => by rw [e]; exact ⟨fun z => absurd z y, fun z => absurd trivial z⟩)
  refine LOk.c (fun _ => ?_) (fun _ => ?_)
  · obtain ⟨a, k, l, e1, e2, sq⟩ := st_count I (hI h 9999999 (ix (iZ i + (1 : Int32))))
    rw [e_Law_law_1150, hN9, ifp_t ib1, e1, bI_s, sq.1.1, sq.1.2, hN9, ifp_t ib1, e2, bI_s, ifp_t rfl]
    exact nx sq
  exact next h (I.mo hc0) hN9
theorem law_l {n : Nat} (hn : n ≤ 3584) {B : Nat} : ∀ (t : Nat) (i : Int) (h : Hp) (c0 s0 : Nat), 0 ≤ i → i ≤ 4000 → (n : Int) < i + 7 * t + 7 → c0 + t < 1000 → s0 + 6 * t + 480000 ≤ B → INV h c0 s0 → hN h 9999999 = n → LOk B (L_Law_law_23 1000 9999999 0 68 92 (iZ i) h) := by
  intro t
  induction t with
  | zero =>
    intro i h c0 s0 i0 i4 hi hc hs I hN9
    rw [e_Law_law_23, hN9, nI_iz, show (7 : Int32) = iZ 7 from rfl, iz_sub, ifp_t ((iz_lt (by omega)).mpr (by omega))]
    have r := I.room
    exact ⟨h, rfl, by omega, by omega⟩
  | succ t ih =>
    intro i h c0 s0 i0 i4 hi hc hs I hN9
    by_cases done : (n : Int) - 7 < i
    · rw [e_Law_law_23, hN9, nI_iz, show (7 : Int32) = iZ 7 from rfl, iz_sub, ifp_t ((iz_lt (by omega)).mpr done)]
      have r := I.room
      exact ⟨h, rfl, by omega, by omega⟩
    · rw [e_Law_law_23, hN9, nI_iz, show (7 : Int32) = iZ 7 from rfl, iz_sub, ifp_f (fun y => done ((iz_lt (by omega)).mp y))]
      refine law_s hn ⟨i0, by omega⟩ I (by omega) hN9 (fun l Il nl => ?_)
      rw [show (7 : Int32) = iZ 7 from rfl, iz_add]
      exact ih (i + 7) l (c0 + 1) (s0 + 6) (by omega) (by omega) (by omega) (by omega) (by omega) Il nl
