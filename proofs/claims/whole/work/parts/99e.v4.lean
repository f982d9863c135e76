/-! the model takes the stair over -/
theorem inc_eq {n : Int} {s g : Int → Int} (hs : ∀ i j, 0 ≤ i → i < j → j < n → s i < s j) (hg : ∀ i j, 0 ≤ i → i < j → j < n → g i < g j) (e : ∀ z, (∃ k, 0 ≤ k ∧ k < n ∧ s k = z) ↔ ∃ k, 0 ≤ k ∧ k < n ∧ g k = z) : ∀ m : Nat, ∀ k : Int, 0 ≤ k → k < n → k ≤ m → s k = g k := by
  intro m
  induction m with
  | zero =>
    intro k k1 k2 k3
    obtain ⟨j, j1, j2, j3⟩ := (e (s k)).mp ⟨k, k1, k2, rfl⟩
    obtain ⟨l, l1, l2, l3⟩ := (e (g k)).mpr ⟨k, k1, k2, rfl⟩
    have k0 : k = 0 := by omega
    subst k0
    by_cases cj : j = 0
    · rw [← j3, cj]
    · by_cases cl : l = 0
      · rw [← l3, cl]
      · have := hg 0 j (by omega) (by omega) j2
        have := hs 0 l (by omega) (by omega) l2
        omega
  | succ m ih =>
    intro k k1 k2 k3
    by_cases km : k ≤ m
    · exact ih k k1 k2 km
    · obtain ⟨j, j1, j2, j3⟩ := (e (s k)).mp ⟨k, k1, k2, rfl⟩
      obtain ⟨l, l1, l2, l3⟩ := (e (g k)).mpr ⟨k, k1, k2, rfl⟩
      have jk : k ≤ j := Classical.byContradiction fun y => by
        have a := ih j j1 j2 (by omega)
        have b := hs j k j1 (by omega) k2
        omega
      have lk : k ≤ l := Classical.byContradiction fun y => by
        have a := ih l l1 l2 (by omega)
        have b := hg l k l1 (by omega) k2
        omega
      by_cases cj : j = k
      · rw [← j3, cj]
      · by_cases cl : l = k
        · rw [← l3, cl]
        · have := hg k j k1 (by omega) j2
          have := hs k l k1 (by omega) l2
          omega
/-- strides in a row of the model -/
def GRow (F F0 : Nat → Int32) (n : Int) (g : Int → Int) : Prop := (∀ j, 0 ≤ j → j < n → F (9 + j).toNat = iZ (g j)) ∧ ∀ k : Nat, ¬ (9 ≤ k ∧ (k : Int) < 9 + n) → F k = F0 k
theorem u_sorts {d : Nat} (hd : 2 ≤ d) {h : Hp} (M : SM h) {n : Int} (hn : 0 ≤ n ∧ n ≤ 6) (h8 : hI h 74 8 = iZ n) {g0 : Int → Int} (hg : ∀ j, 0 ≤ j → j < n → hI h 74 (9 + j).toNat = iZ (g0 j)) (gb : ∀ j, 0 ≤ j → j < n → 1 ≤ g0 j ∧ g0 j ≤ 12) (gd : ∀ i j, 0 ≤ i → i < j → j < n → g0 i ≠ g0 j) : ∃ F g, evm d 159 [vR 12 68] h = some (none, wI h 74 F) ∧ GRow F (hI h 74) n g ∧ (∀ i j, 0 ≤ i → i < j → j < n → g i < g j) ∧ ∀ z, (∃ k, 0 ≤ k ∧ k < n ∧ g k = z) ↔ ∃ k, 0 ≤ k ∧ k < n ∧ g0 k = z := by
  obtain ⟨d, rfl⟩ : ∃ e, d = e + 2 := ⟨d - 2, by omega⟩
  -- inner and outer at once
  have key : ∀ (m : Nat) (k e : Int) (F : Nat → Int32) (g : Int → Int), 0 ≤ k → k ≤ n → 0 ≤ e → e ≤ k → GRow F (hI h 74) n g → (∀ i j, 0 ≤ i → i < j → j < k → g i < g j) → (∀ i j, 0 ≤ i → i < j → j < n → g i ≠ g j) → (∀ z, (∃ k, 0 ≤ k ∧ k < n ∧ g k = z) ↔ ∃ k, 0 ≤ k ∧ k < n ∧ g0 k = z) →
      (((n - k) * 8 + (k - e)).toNat ≤ m → k < n → (∀ j, 0 ≤ j → j < e → g j < g k) → ∃ F' g', L_M_sorts_12 (d + 1) 68 (iZ k) (iZ e) (wI h 74 F) = some (none, wI h 74 F') ∧ GRow F' (hI h 74) n g' ∧ (∀ i j, 0 ≤ i → i < j → j < n → g' i < g' j) ∧ ∀ z, (∃ k, 0 ≤ k ∧ k < n ∧ g' k = z) ↔ ∃ k, 0 ≤ k ∧ k < n ∧ g0 k = z) ∧
      (((n - k) * 8 + 7).toNat ≤ m → ∃ F' g', L_M_sorts_2 (d + 1) 68 (iZ k) (wI h 74 F) = some (none, wI h 74 F') ∧ GRow F' (hI h 74) n g' ∧ (∀ i j, 0 ≤ i → i < j → j < n → g' i < g' j) ∧ ∀ z, (∃ k, 0 ≤ k ∧ k < n ∧ g' k = z) ↔ ∃ k, 0 ≤ k ∧ k < n ∧ g0 k = z) := by
    intro m
    induction m with
    | zero =>
      intro k e F g k0 k1 e0 e1 G inc dis set
      exact ⟨fun hm y => by omega, fun hm => by omega⟩
    | succ m ih =>
      intro k e F g k0 k1 e0 e1 G inc dis set
      have M' : SM (wI h 74 F) := M
      have gb' : ∀ j, 0 ≤ j → j < n → 1 ≤ g j ∧ g j ≤ 12 := by
        intro j j1 j2
        obtain ⟨l, l1, l2, l3⟩ := (set (g j)).mp ⟨j, j1, j2, rfl⟩
        rw [← l3]; exact gb l l1 l2
      refine ⟨fun hm kn lo => ?_, fun hm => ?_⟩
      · by_cases c : e < k
        · have ibe : inb (iZ (9 + e)) 140 = true := (inb_iz (by omega)).mpr (by omega)
          have ibk : inb (iZ (9 + k)) 140 = true := (inb_iz (by omega)).mpr (by omega)
          have ge := gb' e e0 (by omega)
          have gk := gb' k k0 kn
          have fe : hI (wI h 74 F) 74 (9 + e).toNat = iZ (g e) := by rw [wI_I]; exact G.1 e e0 (by omega)
          have fk : hI (wI h 74 F) 74 (9 + k).toNat = iZ (g k) := by rw [wI_I]; exact G.1 k k0 kn
          rw [e_M_sorts_12, ifp_t ((iz_lt (by omega)).mpr c)]
          simp only [M'.r 10 74, M'.n 74 140, bR_s, show (9 : Int32) = iZ 9 from rfl, iz_add, ix_iz (show 0 ≤ 9 + e ∧ 9 + e < 2147483648 by omega), ix_iz (show 0 ≤ 9 + k ∧ 9 + k < 2147483648 by omega), fe, fk]
          rw [ifp_t ibe, ifp_t ibk]
          have M2 : ∀ x, SM (sI (wI h 74 F) 74 (9 + e).toNat x) := fun _ => M
          by_cases lt : g e < g k
          · rw [ifp_t ((iz_lt (by omega)).mpr lt), e_M_sorts_58]
            simp only [M'.n 74 140, (M2 _).r 10 74, (M2 _).n 74 140, bR_s, show (9 : Int32) = iZ 9 from rfl, show (1 : Int32) = iZ 1 from rfl, iz_add, ix_iz (show 0 ≤ 9 + e ∧ 9 + e < 2147483648 by omega), ix_iz (show 0 ≤ 9 + k ∧ 9 + k < 2147483648 by omega)]
            rw [ifp_t ibe, ifp_t ((iz_lt (by omega)).mpr lt), ifp_t ibk, sI_wI, sI_wI]
            refine (ih k (e + 1) _ g k0 k1 (by omega) (by omega) ⟨fun j j1 j2 => ?_, fun k' hk' => ?_⟩ inc dis set).1 (by omega) kn (fun j j1 j2 => ?_)
            · by_cases c1 : j = k
              · subst c1; rw [up_e]
              · rw [up_n _ _ (by omega)]
                by_cases c2 : j = e
                · subst c2; rw [up_e]
                · rw [up_n _ _ (by omega)]; exact G.1 j j1 j2
            · rw [up_n _ _ (by omega), up_n _ _ (by omega)]; exact G.2 k' hk'
            · by_cases c1 : j = e
              · subst c1; exact lt
              · exact lo j j1 (by omega)
          · have gt : g k < g e := by
              have := dis e k e0 c kn
              omega
            rw [ifp_f (fun y => lt ((iz_lt (by omega)).mp y)), e_M_sorts_58]
            simp only [M'.n 74 140, (M2 _).r 10 74, (M2 _).n 74 140, bR_s, show (9 : Int32) = iZ 9 from rfl, show (1 : Int32) = iZ 1 from rfl, iz_add, ix_iz (show 0 ≤ 9 + e ∧ 9 + e < 2147483648 by omega), ix_iz (show 0 ≤ 9 + k ∧ 9 + k < 2147483648 by omega)]
            rw [ifp_t ibe, ifp_f (fun y => lt ((iz_lt (by omega)).mp y)), ifp_t ibk, sI_wI, sI_wI]
            have g1 : ∀ j, j ≠ e → j ≠ k → upv (upv g e (g k)) k (g e) j = g j := fun j h1 h2 => by rw [upv_n _ _ h2, upv_n _ _ h1]
            have g2 : upv (upv g e (g k)) k (g e) k = g e := upv_e _ _ _
            have g3 : upv (upv g e (g k)) k (g e) e = g k := by rw [upv_n _ _ (by omega), upv_e]
            refine (ih k (e + 1) _ (upv (upv g e (g k)) k (g e)) k0 k1 (by omega) (by omega) ⟨fun j j1 j2 => ?_, fun k' hk' => ?_⟩ (fun i j i1 i2 i3 => ?_) (fun i j i1 i2 i3 => ?_) (fun z => ?_)).1 (by omega) kn (fun j j1 j2 => ?_)
            · by_cases c1 : j = k
              · subst c1; rw [up_e, g2]
              · rw [up_n _ _ (by omega)]
                by_cases c2 : j = e
                · subst c2; rw [up_e, g3]
                · rw [up_n _ _ (by omega), g1 j c2 c1]; exact G.1 j j1 j2
            · rw [up_n _ _ (by omega), up_n _ _ (by omega)]; exact G.2 k' hk'
            · by_cases c1 : i = e
              · subst c1
                rw [g3, g1 j (by omega) (by omega)]
                have := inc i j i1 i2 i3
                omega
              · rw [g1 i c1 (by omega)]
                by_cases c2 : j = e
                · subst c2; rw [g3]; exact lo i i1 i2
                · rw [g1 j c2 (by omega)]; exact inc i j i1 i2 i3
            · by_cases a1 : i = e
              · rw [a1, g3]
                by_cases b1 : j = k
                · rw [b1, g2]; omega
                · rw [g1 j (by omega) b1]
                  intro y
                  rcases Int.lt_trichotomy j k with z | z | z
                  · exact dis j k (by omega) z kn y.symm
                  · exact b1 z
                  · exact dis k j k0 z i3 y
              · by_cases a2 : i = k
                · rw [a2, g2]
                  rw [g1 j (by omega) (by omega)]
                  exact dis e j e0 (by omega) i3
                · rw [g1 i a1 a2]
                  by_cases b1 : j = e
                  · rw [b1, g3]
                    exact dis i k i1 (by omega) kn
                  · by_cases b2 : j = k
                    · rw [b2, g2]
                      intro y
                      rcases Int.lt_trichotomy i e with z | z | z
                      · exact dis i e i1 z (by omega) y
                      · exact a1 z
                      · exact dis e i e0 z (by omega) y.symm
                    · rw [g1 j b1 b2]; exact dis i j i1 i2 i3
            · rw [← set z]
              constructor
              · rintro ⟨j, j1, j2, j3⟩
                by_cases b1 : j = e
                · rw [b1, g3] at j3; exact ⟨k, k0, kn, j3⟩
                · by_cases b2 : j = k
                  · rw [b2, g2] at j3; exact ⟨e, e0, by omega, j3⟩
                  · rw [g1 j b1 b2] at j3; exact ⟨j, j1, j2, j3⟩
              · rintro ⟨j, j1, j2, j3⟩
                by_cases b1 : j = e
                · exact ⟨k, k0, kn, by rw [g2, ← b1]; exact j3⟩
                · by_cases b2 : j = k
                  · exact ⟨e, e0, by omega, by rw [g3, ← b2]; exact j3⟩
                  · exact ⟨j, j1, j2, by rw [g1 j b1 b2]; exact j3⟩
            · rw [g2]
              by_cases c1 : j = e
              · subst c1; rw [g3]; exact gt
              · rw [g1 j c1 (by omega)]; exact inc j e j1 (by omega) c
        · have ek : e = k := by omega
          rw [e_M_sorts_12, ifp_f (fun y => c ((iz_lt (by omega)).mp y)), show (1 : Int32) = iZ 1 from rfl, iz_add]
          refine (ih (k + 1) (k + 1) F g (by omega) (by omega) (by omega) (by omega) G (fun i j i1 i2 i3 => ?_) dis set).2 (by omega)
          by_cases c1 : j = k
          · rw [c1]; exact lo i i1 (by omega)
          · exact inc i j i1 i2 (by omega)
      · have r8 : rz (wI h 74 F) 74 8 = n := by
          unfold rz; rw [wI_I, show (8 : Int).toNat = 8 from rfl, G.2 8 (by omega), h8, iz_i (by omega) (by omega)]
        rw [e_M_sorts_2, m_strides d M', r8]
        simp only [bI_s]
        by_cases c : k < n
        · rw [ifp_t ((iz_lt (by omega)).mpr c)]
          exact (ih k 0 F g k0 k1 (by omega) k0 G inc dis set).1 (by omega) c (fun j j1 j2 => by omega)
        · rw [ifp_f (fun y => c ((iz_lt (by omega)).mp y))]
          have kn : k = n := by omega
          exact ⟨F, g, rfl, G, by rw [← kn]; exact inc, set⟩
  have r := (key ((n - 0) * 8 + 7).toNat 0 0 (hI h 74) g0 (by omega) hn.1 (by omega) (by omega) ⟨hg, fun _ _ => rfl⟩ (fun i j i1 i2 i3 => by omega) gd (fun z => Iff.rfl)).2 (Nat.le_refl _)
  rw [wI_self] at r
  rw [e_M_sorts]
  exact r
theorem u_copy {d : Nat} {h : Hp} (M : SM h) : ∃ F, L_M_stair_130 d 68 (0 : Int32) h = (bV (evm d 159 [vR 12 68] (wI h 74 F)) fun h1 => L_M_stair_163 d 68 (0 : Int32) h1) ∧ (∀ k : Nat, 70 ≤ k → F k = hI h 74 k) ∧ ∀ k : Nat, k < 70 → F k = hI h 74 (70 + k) := by
  have L : ∀ a : Int, 0 ≤ a → a ≤ 70 → ∀ f : Nat → Int32, (∀ k : Nat, 70 ≤ k → f k = hI h 74 k) → (∀ k : Nat, (k : Int) < a → f k = hI h 74 (70 + k)) → ∃ F, L_M_stair_130 d 68 (iZ a) (wI h 74 f) = (bV (evm d 159 [vR 12 68] (wI h 74 F)) fun h1 => L_M_stair_163 d 68 (0 : Int32) h1) ∧ (∀ k : Nat, 70 ≤ k → F k = hI h 74 k) ∧ ∀ k : Nat, k < 70 → F k = hI h 74 (70 + k) := by
    refine lpZ 70 (fun a ha h0 h1 f f1 f2 => ?_) (fun a ha ih h0 h1 f f1 f2 => ?_)
    · rw [e_M_stair_130, ifp_f (fun y => by rw [show (70 : Int32) = iZ 70 from rfl] at y; have := (iz_lt (by omega)).mp y; omega)]
      exact ⟨f, rfl, f1, fun k hk => f2 k (by omega)⟩
    · rw [e_M_stair_130, ifp_t (by rw [show (70 : Int32) = iZ 70 from rfl]; exact (iz_lt (by omega)).mpr (by omega))]
      have e70 : (70 : Int32) + iZ a = iZ (70 + a) := by rw [show (70 : Int32) = iZ 70 from rfl, iz_add]
      simp only [wI_R, wI_N, M.r 10 74, M.n 74 140, bR_s, e70]
      rw [ifp_t ((inb_iz (show -2147483648 ≤ 70 + a ∧ 70 + a < 2147483648 by omega)).mpr (by omega)), ifp_t ((inb_iz (show -2147483648 ≤ a ∧ a < 2147483648 by omega)).mpr (by omega)), ix_iz (show 0 ≤ a ∧ a < 2147483648 by omega), ix_iz (show 0 ≤ 70 + a ∧ 70 + a < 2147483648 by omega), sI_wI, wI_I, show (1 : Int32) = iZ 1 from rfl, iz_add]
      refine ih (by omega) (by omega) _ (fun k hk => ?_) (fun k hk => ?_)
      · rw [up_n _ _ (by omega)]; exact f1 k hk
      · by_cases e : k = a.toNat
        · subst e
          rw [up_e, f1 _ (by omega), show (70 + a).toNat = 70 + a.toNat by omega]
        · rw [up_n _ _ e]; exact f2 k (by omega)
  have := L 0 (by omega) (by omega) (hI h 74) (fun _ _ => rfl) (fun k hk => by omega)
  rw [wI_self] at this
  exact this
theorem u_codes {d : Nat} {h : Hp} (M : SM h) {cl : Nat} (hc : cl ≤ 1002) (h13 : hI h 68 13 = iZ cl) : ∃ A B, L_M_stair_163 d 68 (0 : Int32) h = L_M_stair_211 d 68 (0 : Int32) (wI (wI h 75 A) 76 B) ∧ (∀ k : Nat, k < cl → A k = hI h 75 (1100 + k) ∧ B k = hI h 76 (1100 + k)) ∧ ∀ k : Nat, cl ≤ k → A k = hI h 75 k ∧ B k = hI h 76 k := by
  have L : ∀ a : Int, 0 ≤ a → a ≤ cl → ∀ f g : Nat → Int32, (∀ k : Nat, (k : Int) < a → f k = hI h 75 (1100 + k) ∧ g k = hI h 76 (1100 + k)) → (∀ k : Nat, a ≤ (k : Int) → f k = hI h 75 k ∧ g k = hI h 76 k) → ∃ A B, L_M_stair_163 d 68 (iZ a) (wI (wI h 75 f) 76 g) = L_M_stair_211 d 68 (0 : Int32) (wI (wI h 75 A) 76 B) ∧ (∀ k : Nat, k < cl → A k = hI h 75 (1100 + k) ∧ B k = hI h 76 (1100 + k)) ∧ ∀ k : Nat, cl ≤ k → A k = hI h 75 k ∧ B k = hI h 76 k := by
    refine lpZ (cl : Int) (fun a ha h0 h1 f g f1 f2 => ?_) (fun a ha ih h0 h1 f g f1 f2 => ?_)
    · have e13 : hI (wI (wI h 75 f) 76 g) 68 13 = iZ cl := by rw [wI_n _ _ (by decide), wI_n _ _ (by decide)]; exact h13
      rw [e_M_stair_163, e13, ifp_f (fun y => by have := (iz_lt (by omega)).mp y; omega)]
      exact ⟨f, g, rfl, fun k hk => f1 k (by omega), fun k hk => f2 k (by omega)⟩
    · have e13 : hI (wI (wI h 75 f) 76 g) 68 13 = iZ cl := by rw [wI_n _ _ (by decide), wI_n _ _ (by decide)]; exact h13
      rw [e_M_stair_163, e13, ifp_t ((iz_lt (by omega)).mpr ha)]
      have e11 : (1100 : Int32) + iZ a = iZ (1100 + a) := by rw [show (1100 : Int32) = iZ 1100 from rfl, iz_add]
      have ibh : inb (iZ (1100 + a)) 2200 = true := (inb_iz (by omega)).mpr (by omega)
      have ibl : inb (iZ a) 2200 = true := (inb_iz (by omega)).mpr (by omega)
      have r75 : ∀ f, hI (wI (wI h 75 f) 76 g) 75 = f := fun f => by rw [wI_n _ _ (by decide), wI_I]
      have s75 : ∀ k v, sI (wI (wI h 75 f) 76 g) 75 k v = wI (wI h 75 (up f k v)) 76 g := fun k v => by
        rw [sI_w, r75, wI_c _ _ _ (by decide), wI_wI]
      simp only [wI_R, wI_N, M.r 11 75, M.n 75 2200, M.r 12 76, M.n 76 2200, bR_s, e11, ix_iz (show 0 ≤ a ∧ a < 2147483648 by omega), ix_iz (show 0 ≤ 1100 + a ∧ 1100 + a < 2147483648 by omega), r75, s75, sI_wI, wI_I]
      rw [ifp_t ibh, ifp_t ibl, ifp_t ibh, ifp_t ibl, show (1 : Int32) = iZ 1 from rfl, iz_add]
      refine ih (by omega) (by omega) _ _ (fun k hk => ?_) (fun k hk => ?_)
      · by_cases e : k = a.toNat
        · subst e
          have := f2 (1100 + a).toNat (by omega)
          rw [up_e, up_e, this.1, this.2, show (1100 + a).toNat = 1100 + a.toNat by omega]
          exact ⟨rfl, rfl⟩
        · rw [up_n _ _ e, up_n _ _ e]; exact f1 k (by omega)
      · rw [up_n _ _ (by omega), up_n _ _ (by omega)]; exact f2 k (by omega)
  have := L 0 (by omega) (by omega) (hI h 75) (hI h 76) (fun k hk => by omega) (fun k _ => ⟨rfl, rfl⟩)
  rw [show wI (wI h 75 (hI h 75)) 76 (hI h 76) = h by rw [wI_self, wI_self]] at this
  exact this
theorem u_zeros {d : Nat} {h : Hp} (M : SM h) : ∃ A B, L_M_stair_211 d 68 (0 : Int32) h = some (some (vI (0 : Int32)), wI (wI h 79 A) 80 B) ∧ (∀ k : Nat, k < 84 → A k = iZ 0) ∧ ∀ k : Nat, k < 4 → B k = iZ 0 := by
  have L2 : ∀ (A : Nat → Int32) (a : Int), 0 ≤ a → a ≤ 4 → ∀ g : Nat → Int32, (∀ k : Nat, (k : Int) < a → g k = iZ 0) → ∃ B, L_M_stair_232 d 68 (iZ a) (wI (wI h 79 A) 80 g) = some (some (vI (0 : Int32)), wI (wI h 79 A) 80 B) ∧ ∀ k : Nat, k < 4 → B k = iZ 0 := by
    intro A
    refine lpZ 4 (fun a ha h0 h1 g hg => ?_) (fun a ha ih h0 h1 g hg => ?_)
    · rw [e_M_stair_232, ifp_f (fun y => by rw [show (4 : Int32) = iZ 4 from rfl] at y; have := (iz_lt (by omega)).mp y; omega)]
      exact ⟨g, rfl, fun k hk => hg k (by omega)⟩
    · rw [e_M_stair_232, ifp_t (by rw [show (4 : Int32) = iZ 4 from rfl]; exact (iz_lt (by omega)).mpr (by omega))]
      simp only [wI_R, wI_N, M.r 18 80, M.n 80 4, bR_s]
      rw [ifp_t ((inb_iz (by omega)).mpr (by omega)), ix_iz (by omega), sI_wI, show (1 : Int32) = iZ 1 from rfl, iz_add]
      refine ih (by omega) (by omega) _ (fun k hk => ?_)
      by_cases e : k = a.toNat
      · subst e; rw [up_e]; rfl
      · rw [up_n _ _ e]; exact hg k (by omega)
  have L1 : ∀ a : Int, 0 ≤ a → a ≤ 84 → ∀ f : Nat → Int32, (∀ k : Nat, (k : Int) < a → f k = iZ 0) → ∃ A B, L_M_stair_211 d 68 (iZ a) (wI h 79 f) = some (some (vI (0 : Int32)), wI (wI h 79 A) 80 B) ∧ (∀ k : Nat, k < 84 → A k = iZ 0) ∧ ∀ k : Nat, k < 4 → B k = iZ 0 := by
    refine lpZ 84 (fun a ha h0 h1 f hf => ?_) (fun a ha ih h0 h1 f hf => ?_)
    · rw [e_M_stair_211, ifp_f (fun y => by rw [show (84 : Int32) = iZ 84 from rfl] at y; have := (iz_lt (by omega)).mp y; omega)]
      obtain ⟨B, b1, b2⟩ := L2 f 0 (by omega) (by omega) (hI (wI h 79 f) 80) (fun k hk => by omega)
      rw [wI_self] at b1
      exact ⟨f, B, b1, fun k hk => hf k (by omega), b2⟩
    · rw [e_M_stair_211, ifp_t (by rw [show (84 : Int32) = iZ 84 from rfl]; exact (iz_lt (by omega)).mpr (by omega))]
      simp only [wI_R, wI_N, M.r 17 79, M.n 79 420, bR_s]
      rw [ifp_t ((inb_iz (by omega)).mpr (by omega)), ix_iz (by omega), sI_wI, show (1 : Int32) = iZ 1 from rfl, iz_add]
      refine ih (by omega) (by omega) _ (fun k hk => ?_)
      by_cases e : k = a.toNat
      · subst e; rw [up_e]; rfl
      · rw [up_n _ _ e]; exact hf k (by omega)
  have := L1 0 (by omega) (by omega) (hI h 79) (fun k hk => by omega)
  rw [wI_self] at this
  exact this
