/-! a stair is finished -/
def SRb (h : Hp) (p : Nat) (q : Int → Int) : Prop := P9 h p q ∧ PBt h p q ∧ (∀ k : Int, 0 ≤ k → k < q 8 → hI h (p + 1) k.toNat = iZ (q (9 + k))) ∧ PKi h p q ∧ PBr h p q
theorem SRb.tr {h h' : Hp} {p : Nat} {q : Int → Int} (S : SRb h p q) (e : ∀ r, p ≤ r → r ≤ p + 4 → r ≠ p + 2 → hI h' r = hI h r) : SRb h' p q := by
  obtain ⟨a, b, c, d, f⟩ := S
  unfold SRb P9 PBt PKi PBr
  rw [e p (by omega) (by omega) (by omega), e (p + 1) (by omega) (by omega) (by omega), e (p + 3) (by omega) (by omega) (by omega), e (p + 4) (by omega) (by omega) (by omega)]
  exact ⟨a, b, c, d, f⟩
theorem x_places {d : Nat} {h : Hp} (X : SX h) {p : Nat} (tt : TO p) {q : Int → Int} (V : VS q) (S : SRb h p q) : ∃ F, L_Stair_finish_19 d p (0 : Int32) h = (bV (evm d 35 [vR 5 p] (wI h (p + 2) F)) fun h1 => bV (evm d 36 [vR 5 p] h1) fun h2 => some (none, h2)) ∧ F 0 = iZ 0 ∧ ∀ k : Int, 0 ≤ k → k < q 8 → F (q (9 + k)).toNat = iZ (k + 1) := by
  have tp : 48 ≤ p := by unfold TO at tt; omega
  have vn := V.n
  have L2 : ∀ a : Int, 0 ≤ a → a ≤ q 8 → ∀ f : Nat → Int32, f 0 = iZ 0 → (∀ k : Int, 0 ≤ k → k < a → f (q (9 + k)).toNat = iZ (k + 1)) → ∃ F, L_Stair_finish_43 d p (iZ a) (wI h (p + 2) f) = (bV (evm d 35 [vR 5 p] (wI h (p + 2) F)) fun h1 => bV (evm d 36 [vR 5 p] h1) fun h2 => some (none, h2)) ∧ F 0 = iZ 0 ∧ ∀ k : Int, 0 ≤ k → k < q 8 → F (q (9 + k)).toNat = iZ (k + 1) := by
    refine lpZ (q 8) (fun a ha h0 h1 f f0 hf => ?_) (fun a ha ih h0 h1 f f0 hf => ?_)
    · have e8 : hI (wI h (p + 2) f) p 8 = iZ (q 8) := by rw [wI_n _ _ (by omega)]; exact S.1.2.1
      rw [e_Stair_finish_43, e8, ifp_f (fun y => by have := (iz_lt (by omega)).mp y; omega)]
      exact ⟨f, rfl, f0, fun k k1 k2 => hf k k1 (by omega)⟩
    · have e8 : hI (wI h (p + 2) f) p 8 = iZ (q 8) := by rw [wI_n _ _ (by omega)]; exact S.1.2.1
      have e1 : hI (wI h (p + 2) f) (p + 1) a.toNat = iZ (q (9 + a)) := by rw [wI_n _ _ (by omega)]; exact S.2.2.1 a h0 ha
      have vs := V.str h0 ha
      rw [e_Stair_finish_43, e8, ifp_t ((iz_lt (by omega)).mpr ha)]
      simp only [wI_R, wI_N, X.o1 tt, X.o0 tt, X.n1 tt, X.n2 tt, bR_s]
      rw [ifp_t ((inb_iz (show -2147483648 ≤ a ∧ a < 2147483648 by omega)).mpr (by omega)), ix_iz (show 0 ≤ a ∧ a < 2147483648 by omega), e1, ifp_t ((inb_iz (show -2147483648 ≤ q (9 + a) ∧ q (9 + a) < 2147483648 by omega)).mpr (by omega)), ix_iz (by omega), sI_wI, show (1 : Int32) = iZ 1 from rfl, iz_add]
      refine ih (by omega) (by omega) _ ?_ (fun k k1 k2 => ?_)
      · rw [up_n _ _ (by omega)]; exact f0
      · by_cases e : k = a
        · subst e; rw [up_e]
        · have := V.inc k1 (show k < a by omega) ha
          have vk := V.str k1 (by omega)
          rw [up_n _ _ (by omega)]; exact hf k k1 (by omega)
  have L1 : ∀ a : Int, 0 ≤ a → a ≤ 13 → ∀ f : Nat → Int32, (0 < a → f 0 = iZ 0) → ∃ F, L_Stair_finish_19 d p (iZ a) (wI h (p + 2) f) = (bV (evm d 35 [vR 5 p] (wI h (p + 2) F)) fun h1 => bV (evm d 36 [vR 5 p] h1) fun h2 => some (none, h2)) ∧ F 0 = iZ 0 ∧ ∀ k : Int, 0 ≤ k → k < q 8 → F (q (9 + k)).toNat = iZ (k + 1) := by
    refine lpZ 13 (fun a ha h0 h1 f f0 => ?_) (fun a ha ih h0 h1 f f0 => ?_)
    · rw [e_Stair_finish_19]
      simp only [wI_R, wI_N, X.o1 tt, X.n2 tt, bR_s, nI_iz]
      rw [ifp_f (fun y => by have := (iz_lt (by omega)).mp y; omega)]
      exact L2 0 (by omega) (by omega) f (f0 (by omega)) (fun k k1 k2 => by omega)
    · rw [e_Stair_finish_19]
      simp only [wI_R, wI_N, X.o1 tt, X.n2 tt, bR_s, nI_iz]
      rw [ifp_t ((iz_lt (by omega)).mpr (by omega)), ifp_t ((inb_iz (by omega)).mpr (by omega)), ix_iz (by omega), sI_wI, show (1 : Int32) = iZ 1 from rfl, iz_add]
      refine ih (by omega) (by omega) _ (fun _ => ?_)
      by_cases e : a = 0
      · subst e; exact up_e _ _ _
      · rw [up_n _ _ (by omega)]; exact f0 (by omega)
  have := L1 0 (by omega) (by omega) (hI h (p + 2)) (fun y => by omega)
  rw [wI_self] at this
  exact this
theorem x_far {d : Nat} (hd : 1 ≤ d) {h : Hp} (X : SX h) {p : Nat} (tt : TO p) {q : Int → Int} (V : VS q) (S : SRb h p q) : ∃ F, evm d 35 [vR 5 p] h = some (none, wI h (p + 6) F) ∧ ∀ s : Int, 0 ≤ s → s ≤ q 0 → ∃ B : Int, B ≤ q 0 ∧ s ≤ B ∧ F s.toNat = iZ B ∧ ∀ t, s < t → (t ≤ B ↔ t ≤ q 0 ∧ ¬ ∃ j, s < j ∧ j < t ∧ q (26 + j) = 3) := by
  obtain ⟨d, rfl⟩ : ∃ e, d = e + 1 := ⟨d - 1, by omega⟩
  have tp : 48 ≤ p := by unfold TO at tt; omega
  have v1 := V.top
  have L : ∀ s : Int, -1 ≤ s ∧ s ≤ q 0 → ∀ b : Int, b ≤ q 0 → s ≤ b → (∀ t, s < t → (t ≤ b ↔ t ≤ q 0 ∧ ¬ ∃ j, s < j ∧ j < t ∧ q (26 + j) = 3)) → ∀ f : Nat → Int32, (∀ r : Int, s < r → r ≤ q 0 → ∃ B : Int, B ≤ q 0 ∧ r ≤ B ∧ f r.toNat = iZ B ∧ ∀ t, r < t → (t ≤ B ↔ t ≤ q 0 ∧ ¬ ∃ j, r < j ∧ j < t ∧ q (26 + j) = 3)) → ∃ F, L_Stair_findFarthest_10 d p (iZ b) (iZ s) (wI h (p + 6) f) = some (none, wI h (p + 6) F) ∧ ∀ s : Int, 0 ≤ s → s ≤ q 0 → ∃ B : Int, B ≤ q 0 ∧ s ≤ B ∧ F s.toNat = iZ B ∧ ∀ t, s < t → (t ≤ B ↔ t ≤ q 0 ∧ ¬ ∃ j, s < j ∧ j < t ∧ q (26 + j) = 3) := by
    refine lpD (fun s hs hb b b1 b2 hbb f hf => ?_) (fun s hs ih hb b b1 b2 hbb f hf => ?_)
    · rw [e_Stair_findFarthest_10, ifp_t (by rw [show (0 : Int32) = iZ 0 from rfl]; exact (iz_lt (by omega)).mpr (by omega))]
      exact ⟨f, rfl, fun r r1 r2 => hf r (by omega) r2⟩
    · rw [e_Stair_findFarthest_10, ifp_f (fun y => by rw [show (0 : Int32) = iZ 0 from rfl] at y; have := (iz_lt (by omega)).mp y; omega)]
      have ib : inb (iZ s) 41 = true := (inb_iz (by omega)).mpr (by omega)
      simp only [wI_R, wI_N, X.o5 tt, X.n6 tt, bR_s, ix_iz (show 0 ≤ s ∧ s < 2147483648 by omega), sI_wI, X.o2 tt, X.n3 tt]
      rw [ifp_t ib, ifp_t ib, wI_n _ _ (by omega), S.2.2.2.1 s hs (by omega)]
      have kb := V.kin (s := s) hs (by omega)
      have nf : ∀ r : Int, s - 1 < r → r ≤ q 0 → ∃ B : Int, B ≤ q 0 ∧ r ≤ B ∧ (up f s.toNat (iZ b)) r.toNat = iZ B ∧ ∀ t, r < t → (t ≤ B ↔ t ≤ q 0 ∧ ¬ ∃ j, r < j ∧ j < t ∧ q (26 + j) = 3) := by
        intro r r1 r2
        by_cases e : r = s
        · subst e; exact ⟨b, b1, b2, up_e _ _ _, hbb⟩
        · obtain ⟨B, c1, c2, c3, c4⟩ := hf r (by omega) r2
          exact ⟨B, c1, c2, by rw [up_n _ _ (by omega)]; exact c3, c4⟩
      rw [show (-1 : Int32) = iZ (-1) from rfl, iz_add, show s + -1 = s - 1 by omega]
      by_cases k3 : q (26 + s) = 3
      · rw [ifp_t (by rw [k3]; rfl)]
        refine ih (by omega) s (by omega) (by omega) (fun t ht => ?_) _ nf
        constructor
        · intro y
          exact ⟨by omega, fun ⟨j, j1, j2, _⟩ => by omega⟩
        · rintro ⟨y1, y2⟩
          refine Classical.byContradiction fun y => y2 ⟨s, by omega, by omega, k3⟩
      · rw [ifp_f (fun y => k3 (by rw [show (3 : Int32) = iZ 3 from rfl] at y; exact (iz_eq (by omega)).mp y))]
        refine ih (by omega) b b1 (by omega) (fun t ht => ?_) _ nf
        by_cases e : t = s
        · subst e
          exact ⟨fun _ => ⟨by omega, fun ⟨j, j1, j2, _⟩ => by omega⟩, fun _ => b2⟩
        · rw [hbb t (by omega)]
          constructor
          · rintro ⟨y1, y2⟩
            refine ⟨y1, fun ⟨j, j1, j2, j3⟩ => ?_⟩
            by_cases ej : j = s
            · subst ej; exact k3 j3
            · exact y2 ⟨j, by omega, j2, j3⟩
          · rintro ⟨y1, y2⟩
            exact ⟨y1, fun ⟨j, j1, j2, j3⟩ => y2 ⟨j, by omega, j2, j3⟩⟩
  rw [e_Stair_findFarthest, S.1.1]
  have := L (q 0) (by omega) (q 0) (by omega) (by omega) (fun t ht => ⟨fun y => by omega, fun y => by omega⟩) (hI h (p + 6)) (fun r r1 r2 => by omega)
  rw [wI_self] at this
  exact this
theorem x_least {d : Nat} (hd : 1 ≤ d) {h : Hp} (X : SX h) {p : Nat} (tt : TO p) {q : Int → Int} (V : VS q) (S : SRb h p q) {s : Int} (hs : 0 ≤ s ∧ s ≤ q 0) (hF : ∀ j, s < j → j ≤ q 0 → hI h (p + 5) j.toNat = iZ (Hpv q j)) : evm d 37 [vR 5 p, vI (iZ s)] h = some (some (vI (iZ (mx fun m => ∃ k, 0 ≤ k ∧ k < q 8 ∧ s + q (9 + k) ≤ q 0 ∧ q (26 + (s + q (9 + k))) ≠ 1 ∧ Hpv q (s + q (9 + k)) = m))), h) := by
  obtain ⟨d, rfl⟩ : ∃ e, d = e + 1 := ⟨d - 1, by omega⟩
  have tp : 48 ≤ p := by unfold TO at tt; omega
  have v1 := V.top
  have vn := V.n
  obtain ⟨v, w1, w2, w3, w4⟩ := Mt_v V hs.1 hs.2
  obtain ⟨mb, _⟩ := Mt_b V hs.1 (q 8).toNat (by omega)
  rw [w4]
  have L62 : ∀ k : Int, 0 ≤ k ∧ k ≤ v → L_Stair_leastHeap_62 d (iZ (Mt q s (q 8).toNat)) (iZ k) h = some (some (vI (iZ v)), h) := by
    refine lpZ v (fun k hk hkb => ?_) (fun k hk ihk hkb => ?_)
    · have ek : k = v := by omega
      subst ek
      rw [e_Stair_leastHeap_62, ifp_f (fun y => by rw [show (6 : Int32) = iZ 6 from rfl] at y; have := (iz_lt (by omega)).mp y; omega)]
      rw [show (31 : Int32) = iZ 31 from rfl, show (1 : Int32) = iZ 1 from rfl, show (0 : Int32) = iZ 0 from rfl, ifp_n (b_tst (by omega) (by omega)), ifp_t w3]
    · have t := w2 k.toNat (by omega)
      have e : ((k.toNat : Nat) : Int) = k := by omega
      rw [e_Stair_leastHeap_62, ifp_f (fun y => by rw [show (6 : Int32) = iZ 6 from rfl] at y; have := (iz_lt (by omega)).mp y; omega)]
      rw [show (31 : Int32) = iZ 31 from rfl, show (1 : Int32) = iZ 1 from rfl, show (0 : Int32) = iZ 0 from rfl]
      have bt := b_tst (n := Mt q s (q 8).toNat) (k := k.toNat) (by omega) (by omega)
      rw [e] at bt
      rw [ifp_n bt, ifp_f (by rw [t]; decide), iz_add]
      exact ihk (by omega)
  have L4 : ∀ k : Int, 0 ≤ k ∧ k ≤ q 8 → L_Stair_leastHeap_4 d p (iZ s) (iZ (Mt q s k.toNat)) (iZ k) h = some (some (vI (iZ v)), h) := by
    refine lpZ (q 8) (fun k hk hkb => ?_) (fun k hk ihk hkb => ?_)
    · have ek : k = q 8 := by omega
      subst ek
      rw [e_Stair_leastHeap_4, S.1.2.1, ifp_f (fun y => by have := (iz_lt (by omega)).mp y; omega)]
      exact L62 0 (by omega)
    · have vs := V.str hkb.1 hk
      obtain ⟨mk, _⟩ := Mt_b V hs.1 k.toNat (by omega)
      have st := S.2.2.1 k hkb.1 hk
      have sn : Mt q s (k + 1).toNat = @ite _ (s + q (9 + k) ≤ q 0 ∧ q (26 + (s + q (9 + k))) ≠ 1) (Classical.propDecidable _) (Mt q s k.toNat ||| 2 ^ (Hpv q (s + q (9 + k))).toNat) (Mt q s k.toNat) := by
        rw [show (k + 1).toNat = k.toNat + 1 by omega]
        rw [Mt, show ((k.toNat : Nat) : Int) = k by omega]
      have nx := ihk (by omega)
      rw [e_Stair_leastHeap_4, S.1.2.1, ifp_t ((iz_lt (by omega)).mpr hk)]
      simp only [X.o0 tt, X.n1 tt, X.o2 tt, X.n3 tt, X.o4 tt, X.n5 tt, bR_s, show (1 : Int32) = iZ 1 from rfl, iz_add]
      rw [ifp_t ((inb_iz (show -2147483648 ≤ k ∧ k < 2147483648 by omega)).mpr (by omega)), ix_iz (show 0 ≤ k ∧ k < 2147483648 by omega), st, S.1.1, iz_add]
      by_cases c1 : q 0 < s + q (9 + k)
      · rw [ifp_t ((iz_lt (by omega)).mpr c1)]
        rw [sn, if_neg (fun y => by omega)] at nx
        exact nx
      · rw [ifp_f (fun y => c1 ((iz_lt (by omega)).mp y))]
        have ib : inb (iZ (s + q (9 + k))) 41 = true := (inb_iz (by omega)).mpr (by omega)
        have kb := V.kin (s := s + q (9 + k)) (by omega) (by omega)
        rw [ifp_t ib, ix_iz (show 0 ≤ s + q (9 + k) ∧ s + q (9 + k) < 2147483648 by omega), S.2.2.2.1 (s + q (9 + k)) (by omega) (by omega)]
        by_cases c2 : q (26 + (s + q (9 + k))) = 1
        · rw [ifp_t (by rw [c2])]
          rw [sn, if_neg (fun y => y.2 c2)] at nx
          exact nx
        · rw [ifp_f (fun y => c2 ((iz_eq (by omega)).mp y)), ifp_t ib, hF _ (by omega) (by omega)]
          have hb := Hpv_b V (s := s + q (9 + k)) (by omega) (by omega) c2
          have sh : (iZ 1 : Int32) <<< (iZ (Hpv q (s + q (9 + k))) &&& 31) = iZ ((2 ^ (Hpv q (s + q (9 + k))).toNat : Nat) : Int) := by
            have := b_one (k := (Hpv q (s + q (9 + k))).toNat) (by omega)
            rw [show (((Hpv q (s + q (9 + k))).toNat : Nat) : Int) = Hpv q (s + q (9 + k)) by omega] at this
            exact this
          rw [sh, b_or]
          rw [sn, if_pos ⟨by omega, c2⟩] at nx
          exact nx
  rw [e_Stair_leastHeap]
  exact L4 0 (by omega)
theorem x_heapsF {d : Nat} (hd : 2 ≤ d) {h : Hp} (X : SX h) {p : Nat} (tt : TO p) {q : Int → Int} (V : VS q) (S : SRb h p q) : ∃ F, evm d 36 [vR 5 p] h = some (none, wI h (p + 5) F) ∧ ∀ s : Int, 0 ≤ s → s ≤ q 0 → F s.toNat = iZ (Hpv q s) := by
  obtain ⟨d, rfl⟩ : ∃ e, d = e + 1 := ⟨d - 1, by omega⟩
  have tp : 48 ≤ p := by unfold TO at tt; omega
  have v1 := V.top
  have L : ∀ s : Int, -1 ≤ s ∧ s ≤ q 0 → ∀ f : Nat → Int32, (∀ r : Int, s < r → r ≤ q 0 → f r.toNat = iZ (Hpv q r)) → ∃ F, L_Stair_findHeaps_5 d p (iZ s) (wI h (p + 5) f) = some (none, wI h (p + 5) F) ∧ ∀ s : Int, 0 ≤ s → s ≤ q 0 → F s.toNat = iZ (Hpv q s) := by
    refine lpD (fun s hs hb f hf => ?_) (fun s hs ih hb f hf => ?_)
    · rw [e_Stair_findHeaps_5, ifp_t (by rw [show (0 : Int32) = iZ 0 from rfl]; exact (iz_lt (by omega)).mpr (by omega))]
      exact ⟨f, rfl, fun r r1 r2 => hf r (by omega) r2⟩
    · have S' : SRb (wI h (p + 5) f) p q := S.tr (fun r r1 r2 r3 => wI_n _ _ (by omega))
      have ib : inb (iZ s) 41 = true := (inb_iz (by omega)).mpr (by omega)
      have kb := V.kin (s := s) hs (by omega)
      have he := Hpv_e V hs hb.2
      have put : ∀ x : Int, x = Hpv q s → ∃ F, L_Stair_findHeaps_5 d p (iZ (s - 1)) (wI h (p + 5) (up f s.toNat (iZ x))) = some (none, wI h (p + 5) F) ∧ ∀ s : Int, 0 ≤ s → s ≤ q 0 → F s.toNat = iZ (Hpv q s) := by
        intro x hx
        refine ih (by omega) _ (fun r r1 r2 => ?_)
        by_cases e : r = s
        · rw [e, up_e, hx]
        · rw [up_n _ _ (by omega)]; exact hf r (by omega) r2
      rw [e_Stair_findHeaps_5, ifp_f (fun y => by rw [show (0 : Int32) = iZ 0 from rfl] at y; have := (iz_lt (by omega)).mp y; omega)]
      simp only [wI_R, wI_N, X.o4 tt, X.n5 tt, X.o2 tt, X.n3 tt, bR_s, ix_iz (show 0 ≤ s ∧ s < 2147483648 by omega)]
      rw [ifp_t ib, S'.2.2.2.1 s hs (by omega)]
      by_cases c1 : q (26 + s) = 1
      · rw [ifp_t (by rw [c1]; rfl), ifp_t ib, sI_wI, show (-1 : Int32) = iZ (-1) from rfl, iz_add, show s + -1 = s - 1 by omega]
        exact put (-1) (by rw [he, pif_t c1])
      · rw [ifp_f (fun y => c1 (by rw [show (1 : Int32) = iZ 1 from rfl] at y; exact (iz_eq (by omega)).mp y))]
        rw [x_least (by omega) (show SX (wI h (p + 5) f) from X) tt V S' ⟨hs, hb.2⟩ (fun j j1 j2 => by rw [wI_I]; exact hf j j1 j2)]
        simp only [bI_s, wI_N, X.n5 tt]
        rw [ifp_t ib, sI_wI, show (-1 : Int32) = iZ (-1) from rfl, iz_add, show s + -1 = s - 1 by omega]
        exact put _ (by rw [he, pif_f c1])
  rw [e_Stair_findHeaps, S.1.1]
  have := L (q 0) (by omega) (hI h (p + 5)) (fun r r1 r2 => by omega)
  rw [wI_self] at this
  exact this
theorem x_finB {d : Nat} (hd : 2 ≤ d) {h : Hp} (X : SX h) {p : Nat} (tt : TO p) {q : Int → Int} (V : VS q) (S : SRb h p q) : ∃ h', L_Stair_finish_19 d p (0 : Int32) h = some (none, h') ∧ h'.2 = h.2 ∧ (∀ r, r ≠ p + 2 → r ≠ p + 5 → r ≠ p + 6 → hI h' r = hI h r) ∧ SR h' p q := by
  have tp : 48 ≤ p := by unfold TO at tt; omega
  obtain ⟨F2, a1, a2, a3⟩ := x_places (d := d) X tt V S
  have S1 : SRb (wI h (p + 2) F2) p q := S.tr (fun r r1 r2 r3 => wI_n _ _ r3)
  obtain ⟨F6, b1, b2⟩ := x_far (d := d) (by omega) (show SX (wI h (p + 2) F2) from X) tt V S1
  have S2 : SRb (wI (wI h (p + 2) F2) (p + 6) F6) p q := S1.tr (fun r r1 r2 r3 => wI_n _ _ (by omega))
  obtain ⟨F5, c1, c2⟩ := x_heapsF (d := d) hd (show SX (wI (wI h (p + 2) F2) (p + 6) F6) from X) tt V S2
  have S3 : SRb (wI (wI (wI h (p + 2) F2) (p + 6) F6) (p + 5) F5) p q := S2.tr (fun r r1 r2 r3 => wI_n _ _ (by omega))
  refine ⟨wI (wI (wI h (p + 2) F2) (p + 6) F6) (p + 5) F5, ?_, rfl, fun r r1 r2 r3 => ?_, ?_⟩
  · rw [a1, b1]
    simp only [bV_s]
    rw [c1]
    rfl
  · rw [wI_n _ _ r2, wI_n _ _ r3, wI_n _ _ r1]
  · refine ⟨S3.1, S3.2.1, S3.2.2.1, ⟨?_, fun k k1 k2 => ?_⟩, S3.2.2.2.1, S3.2.2.2.2, fun s s1 s2 => ?_, fun s s1 s2 => ?_⟩
    · rw [wI_n _ _ (by omega), wI_n _ _ (by omega), wI_I]; exact a2
    · rw [wI_n _ _ (by omega), wI_n _ _ (by omega), wI_I]; exact a3 k k1 k2
    · rw [wI_I]; exact c2 s s1 s2
    · obtain ⟨B, d1, d2, d3, d4⟩ := b2 s s1 s2
      exact ⟨B, d1, d2, by rw [wI_n _ _ (by omega), wI_I]; exact d3, d4⟩
