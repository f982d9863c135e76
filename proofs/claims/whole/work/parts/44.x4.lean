/-! on what the ways from a node depend -/
theorem sZ_z {f : Int → Int} {n : Int} (h : ∀ k, 0 ≤ k → k < n → f k = 0) : sZ f n = 0 := by
  have z : ∀ m, 0 ≤ m → m ≤ n → sZ f m = 0 := by
    refine upZ (fun _ => sZ_0 _ (by omega)) (fun k hk ih hle => ?_)
    rw [sZ_s _ hk, ih (by omega), h k hk (by omega)]; rfl
  by_cases hn : 0 ≤ n
  · exact z n hn (Int.le_refl _)
  · exact sZ_0 _ (by omega)
theorem Wf_z {q v : Int → Int} {u : Prop} {e : Int → Prop} {mo : Int} (he : ∀ t, e t → t ≤ mo) : ∀ (n : Nat) (s l c g t : Int), mo < t → Wf q v u e n s l c g t = 0 := by
  intro n
  induction n with
  | zero => intro s l c g t ht; rfl
  | succ n ih =>
    intro s l c g t ht
    rw [Wf]
    by_cases h1 : s = q 0
    · rw [pif_t h1, pif_f (fun y => by have := he t y; omega)]
    · rw [pif_f h1]
      refine sZ_z fun k k1 k2 => ?_
      by_cases hm : May q v u s l c g t k
      · rw [pif_t hm]; exact ih _ _ _ _ _ (by omega)
      · rw [pif_f hm]
theorem Wy_X {q v : Int → Int} (V : VS q) {u : Prop} {e : Int → Prop} {mo : Int} (he : ∀ t, e t → t ≤ mo) {s l c g t : Int} (h0 : 0 ≤ s) (h1 : s < q 0) : Wy q v u e s l c g t = sZ (fun k => pif (May q v u s l c g t k ∧ t < mo) (Wy q v u e (s + q (9 + k)) (k + 1) (nxC q s c k) (nxG q g k) (t + 1)) 0) (q 8) := by
  rw [Wy_e V h0 (by omega), pif_f (by omega)]
  refine sZ_c fun k k1 k2 => ?_
  by_cases hm : May q v u s l c g t k
  · by_cases ht : t < mo
    · rw [pif_t hm, pif_t ⟨hm, ht⟩]
    · rw [pif_t hm, pif_f (fun y => ht y.2)]
      exact Wf_z he _ _ _ _ _ _ (by omega)
  · rw [pif_f hm, pif_f (fun y => hm y.1)]
/-- of two nodes nothing is told apart -/
def Bl (q : Int → Int) (l l' : Int) : Prop := ∀ k, 0 ≤ k → k < q 8 → ((0 < l ∧ Brd q 0 (q (9 + (l - 1))) (q (9 + k))) ↔ (0 < l' ∧ Brd q 0 (q (9 + (l' - 1))) (q (9 + k))))
theorem May_sim {q v : Int → Int} {u : Prop} {s l l' c g t t' k : Int} (b : Bl q l l') (hk : 0 ≤ k ∧ k < q 8) (ht : t + 1 ≤ q 4 ↔ t' + 1 ≤ q 4) : May q v u s l c g t k ↔ May q v u s l' c g t' k := by
  unfold May
  rw [b k hk.1 hk.2, ht]
theorem Wy_sim {q v : Int → Int} (V : VS q) {u : Prop} {e : Int → Prop} {le mo : Int} (he : ∀ t, e t ↔ FtT q t ∧ le ≤ t ∧ t ≤ mo) (hm : mo ≤ q 4) : ∀ (n : Nat) (s l l' c g t t' : Int), q 0 - s < n → (0 ≤ s ∧ s ≤ q 0) → (0 ≤ t ∧ t ≤ s ∧ (0 < s → 0 < t)) → (0 ≤ t' ∧ t' ≤ s ∧ (0 < s → 0 < t')) → Bl q l l' → (1 < le ∨ mo < q 0 → t = t') → (0 ≤ q 2 → t % 2 = t' % 2) → Wy q v u e s l c g t = Wy q v u e s l' c g t' := by
  have v1 := V.top
  intro n
  induction n with
  | zero => intro s l l' c g t t' h1 h2; omega
  | succ n ih =>
    intro s l l' c g t t' h1 h2 h3 h4 h5 h6 h7
    rw [Wy_e V h2.1 h2.2, Wy_e V h2.1 h2.2]
    by_cases hs : s = q 0
    · rw [pif_t hs, pif_t hs]
      refine pif_c ?_ (fun _ => rfl) (fun _ => rfl)
      rw [he, he]
      unfold FtT
      by_cases pm : 1 < le ∨ mo < q 0
      · rw [h6 pm]
      · constructor
        · rintro ⟨a, b, c⟩
          exact ⟨by omega, by omega, by omega⟩
        · rintro ⟨a, b, c⟩
          exact ⟨by omega, by omega, by omega⟩
    · rw [pif_f hs, pif_f hs]
      refine sZ_c fun k k1 k2 => ?_
      have vs := V.str k1 k2
      have hM : May q v u s l c g t k ↔ May q v u s l' c g t' k := by
        refine May_sim h5 ⟨k1, k2⟩ ?_
        by_cases pm : 1 < le ∨ mo < q 0
        · rw [h6 pm]
        · omega
      refine pif_c hM (fun m => ?_) (fun _ => rfl)
      have := m.1
      exact ih _ _ _ _ _ _ _ (by omega) (by omega) (by omega) (by omega) (fun _ _ _ => Iff.rfl) (fun pm => by rw [h6 pm]) (fun f => by have := h7 f; omega)
theorem Gm_sim {q v : Int → Int} (V : VS q) {u : Prop} : ∀ (n : Nat) (s l l' c g t t' : Int), q 0 - s < n → (0 ≤ s ∧ s ≤ q 0) → (0 ≤ t ∧ t ≤ s) → (0 ≤ t' ∧ t' ≤ s) → Bl q l l' → (q 4 < q 0 → t = t') → (Gm q v u s l c g t ↔ Gm q v u s l' c g t') := by
  have v1 := V.top
  intro n
  induction n with
  | zero => intro s l l' c g t t' h1 h2; omega
  | succ n ih =>
    intro s l l' c g t t' h1 h2 h3 h4 h5 h6
    rw [Gm_e V h2.1 h2.2, Gm_e V h2.1 h2.2]
    have key : ∀ k, 0 ≤ k → k < q 8 → ((May q v u s l c g t k ∧ (s + q (9 + k) = q 0 ∨ ¬ Gm q v u (s + q (9 + k)) (k + 1) (nxC q s c k) (nxG q g k) (t + 1))) ↔ (May q v u s l' c g t' k ∧ (s + q (9 + k) = q 0 ∨ ¬ Gm q v u (s + q (9 + k)) (k + 1) (nxC q s c k) (nxG q g k) (t' + 1)))) := by
      intro k k1 k2
      have vs := V.str k1 k2
      by_cases hs : s + q (9 + k) ≤ q 0
      · have hM : May q v u s l c g t k ↔ May q v u s l' c g t' k := by
          refine May_sim h5 ⟨k1, k2⟩ ?_
          by_cases pm : q 4 < q 0
          · rw [h6 pm]
          · omega
        have := ih (s + q (9 + k)) (k + 1) (k + 1) (nxC q s c k) (nxG q g k) (t + 1) (t' + 1) (by omega) (by omega) (by omega) (by omega) (fun _ _ _ => Iff.rfl) (fun pm => by rw [h6 pm])
        rw [hM, this]
      · exact ⟨fun y => absurd y.1.1 hs, fun y => absurd y.1.1 hs⟩
    constructor
    · rintro ⟨k, k1, k2, k3⟩; exact ⟨k, k1, k2, (key k k1 k2).mp k3⟩
    · rintro ⟨k, k1, k2, k3⟩; exact ⟨k, k1, k2, (key k k1 k2).mpr k3⟩
/-- the first of which P holds, or -1 -/
noncomputable def frF (P : Int → Prop) : Nat → Int
  | 0 => -1
  | m + 1 => pif (0 ≤ frF P m) (frF P m) (pif (P m) m (-1))
noncomputable def frs (P : Int → Prop) (n : Int) : Int := frF P n.toNat
theorem frs_0 (P : Int → Prop) {n : Int} (h : n ≤ 0) : frs P n = -1 := by
  unfold frs; rw [show n.toNat = 0 by omega]; rfl
theorem frs_s (P : Int → Prop) {n : Int} (h : 0 ≤ n) : frs P (n + 1) = pif (0 ≤ frs P n) (frs P n) (pif (P n) n (-1)) := by
  unfold frs; rw [show (n + 1).toNat = n.toNat + 1 by omega, frF, show ((n.toNat : Nat) : Int) = n by omega]
theorem frs_c {P P' : Int → Prop} {n : Int} (h : ∀ k, 0 ≤ k → k < n → (P k ↔ P' k)) : frs P n = frs P' n := by
  have : ∀ m, 0 ≤ m → m ≤ n → frs P m = frs P' m := by
    refine upZ (fun _ => by rw [frs_0 P (by omega), frs_0 P' (by omega)]) (fun k hk ih hle => ?_)
    rw [frs_s P hk, frs_s P' hk, ih (by omega)]
    exact pif_c Iff.rfl (fun _ => rfl) (fun _ => pif_c (h k hk (by omega)) (fun _ => rfl) (fun _ => rfl))
  by_cases hn : 0 ≤ n
  · exact this n hn (Int.le_refl _)
  · rw [frs_0 P (by omega), frs_0 P' (by omega)]
theorem frs_b (P : Int → Prop) : ∀ n, 0 ≤ n → (frs P n = -1 ∧ (∀ k, 0 ≤ k → k < n → ¬ P k)) ∨ (0 ≤ frs P n ∧ frs P n < n ∧ P (frs P n) ∧ ∀ k, 0 ≤ k → k < frs P n → ¬ P k) := by
  refine upZ (Or.inl ⟨frs_0 P (by omega), fun k k1 k2 => by omega⟩) (fun n hn ih => ?_)
  rw [frs_s P hn]
  rcases ih with ⟨a, b⟩ | ⟨a, b, c, e⟩
  · rw [pif_f (by omega)]
    by_cases h : P n
    · rw [pif_t h]
      exact Or.inr ⟨hn, by omega, h, b⟩
    · rw [pif_f h]
      refine Or.inl ⟨rfl, fun k k1 k2 => ?_⟩
      by_cases ek : k = n
      · subst ek; exact h
      · exact b k k1 (by omega)
  · rw [pif_t a]
    exact Or.inr ⟨a, by omega, c, e⟩
/-- a stride that wins -/
def Gw (q v : Int → Int) (u : Prop) (s l c g t k : Int) : Prop := May q v u s l c g t k ∧ (s + q (9 + k) = q 0 ∨ ¬ Gm q v u (s + q (9 + k)) (k + 1) (nxC q s c k) (nxG q g k) (t + 1))
noncomputable def frZ (q : Int → Int) (x : Int) : Int := if x < 0 then 0 else q (9 + x)
noncomputable def Gv (q v : Int → Int) (u : Prop) (s l c g t : Int) : Int := frZ q (frs (Gw q v u s l c g t) (q 8))
theorem Gm_v {q v : Int → Int} (V : VS q) {u : Prop} {s l c g t : Int} (h0 : 0 ≤ s) (h1 : s ≤ q 0) : Gm q v u s l c g t ↔ Gv q v u s l c g t ≠ 0 := by
  rw [Gm_e V h0 h1]
  unfold Gv frZ
  have vn := V.n
  rcases frs_b (Gw q v u s l c g t) (q 8) (by omega) with ⟨a, b⟩ | ⟨a, b, c, e⟩
  · rw [if_pos (by omega)]
    constructor
    · rintro ⟨k, k1, k2, k3⟩; exact absurd k3 (b k k1 k2)
    · intro y; exact absurd rfl y
  · rw [if_neg (by omega)]
    have := V.str a b
    exact ⟨fun _ => by omega, fun _ => ⟨_, a, b, c⟩⟩
theorem Gv_b {q v : Int → Int} (V : VS q) {u : Prop} {s l c g t : Int} : 0 ≤ Gv q v u s l c g t ∧ Gv q v u s l c g t ≤ 12 := by
  unfold Gv frZ
  have vn := V.n
  rcases frs_b (Gw q v u s l c g t) (q 8) (by omega) with ⟨a, b⟩ | ⟨a, b, c, e⟩
  · rw [if_pos (by omega)]; omega
  · rw [if_neg (by omega)]
    have := V.str a b
    omega
theorem Gv_sim {q v : Int → Int} (V : VS q) {u : Prop} {s l l' c g t t' : Int} (h2 : 0 ≤ s ∧ s ≤ q 0) (h3 : 0 ≤ t ∧ t ≤ s) (h4 : 0 ≤ t' ∧ t' ≤ s) (h5 : Bl q l l') (h6 : q 4 < q 0 → t = t') : Gv q v u s l c g t = Gv q v u s l' c g t' := by
  have v1 := V.top
  unfold Gv
  rw [frs_c fun k k1 k2 => ?_]
  have vs := V.str k1 k2
  unfold Gw
  by_cases hs : s + q (9 + k) ≤ q 0
  · have hM : May q v u s l c g t k ↔ May q v u s l' c g t' k := by
      refine May_sim h5 ⟨k1, k2⟩ ?_
      by_cases pm : q 4 < q 0
      · rw [h6 pm]
      · omega
    have := Gm_sim (v := v) V (u := u) 41 (s + q (9 + k)) (k + 1) (k + 1) (nxC q s c k) (nxG q g k) (t + 1) (t' + 1) (by omega) (by omega) (by omega) (by omega) (fun _ _ _ => Iff.rfl) (fun pm => by rw [h6 pm])
    rw [hM, this]
  · exact ⟨fun y => absurd y.1.1 hs, fun y => absurd y.1.1 hs⟩
/-! kinds of last strides -/
def Kb (q : Int → Int) (a : Int) : Prop := Tld q a ∧ ∃ k, 0 ≤ k ∧ k < q 8 ∧ Brd q 0 a (q (9 + k))
noncomputable def nK (q : Int → Int) (a : Int) : Int := sZ (fun j => pif (Kb q j) 1 0) a
noncomputable def klq (q : Int → Int) (a : Int) : Int := pif (Kb q a) (1 + nK q a) 0
noncomputable def lkq (q : Int → Int) : Int := 1 + nK q 13
theorem p01 (c : Prop) : 0 ≤ pif c 1 0 ∧ pif c 1 0 ≤ 1 := by
  by_cases h : c
  · rw [pif_t h]; omega
  · rw [pif_f h]; omega
theorem nK_m {q : Int → Int} {a b : Int} (h0 : 0 ≤ a) (h : a ≤ b) : nK q a ≤ nK q b := sZ_m (n := b) (fun k _ _ => (p01 _).1) h0 h (Int.le_refl _)
theorem nK_s {q : Int → Int} {a : Int} (h0 : 0 ≤ a) (h : Kb q a) : nK q (a + 1) = nK q a + 1 := by
  unfold nK; rw [sZ_s _ h0, pif_t h]
theorem nK_b {q : Int → Int} (V : VS q) : ∀ a, 0 ≤ a → ∀ j, 0 ≤ j → (∀ k, 0 ≤ k → k < q 8 → q (9 + k) < a → k < j) → nK q a ≤ j := by
  refine upZ (fun j hj _ => ?_) (fun a ha ih j hj hk => ?_)
  · unfold nK; rw [sZ_0 _ (by omega)]; exact hj
  · by_cases h : Kb q a
    · obtain ⟨k, k1, k2, k3⟩ := h.1
      have i1 := ih k k1 (fun k' k1' k2' k3' => Classical.byContradiction fun y => by
        by_cases e : k' = k
        · subst e; omega
        · have := V.inc k1 (show k < k' by omega) k2'; omega)
      have := hk k k1 k2 (by omega)
      rw [nK_s ha h]; omega
    · have := ih j hj (fun k k1 k2 k3 => hk k k1 k2 (by omega))
      unfold nK at *
      rw [sZ_s _ ha, pif_f h]; omega
theorem nK_0 {q : Int → Int} {a : Int} : 0 ≤ nK q a := sZ_nn fun k _ _ => (p01 _).1
theorem lkq_b {q : Int → Int} (V : VS q) : 1 ≤ lkq q ∧ lkq q ≤ 7 := by
  have h1 := nK_b V 13 (by omega) (q 8) (by have := V.n; omega) (fun k _ h _ => h)
  have h2 := nK_0 (q := q) (a := 13)
  have := V.n
  unfold lkq
  omega
theorem klq_b {q : Int → Int} (V : VS q) {a : Int} (ha : 0 ≤ a ∧ a ≤ 12) : 0 ≤ klq q a ∧ klq q a < lkq q := by
  have b := lkq_b V
  have h2 := nK_0 (q := q) (a := a)
  unfold klq
  by_cases h : Kb q a
  · have := nK_s ha.1 h
    have := nK_m (q := q) (a := a + 1) (b := 13) (by omega) (by omega)
    rw [pif_t h]; unfold lkq; omega
  · rw [pif_f h]; omega
theorem Brd_stv {q : Int → Int} (V : VS q) {l z : Int} (hl : 0 ≤ l) (hz : 0 ≤ z ∧ z ≤ 12) : (0 < l ∧ Brd q 0 (q (9 + (l - 1))) z) ↔ Brd q 0 (stv q l) z := by
  unfold stv
  by_cases h : l ≤ 0
  · rw [if_pos h]
    exact ⟨fun y => by omega, fun y => absurd y (Brd_0 V _ hz)⟩
  · rw [if_neg h]
    exact ⟨fun y => y.2, fun y => ⟨by omega, y⟩⟩
theorem klq_i {q : Int → Int} (V : VS q) {l l' : Int} (hl : 0 ≤ l ∧ l ≤ q 8) (hl' : 0 ≤ l' ∧ l' ≤ q 8) (e : klq q (stv q l) = klq q (stv q l')) : Bl q l l' := by
  intro k k1 k2
  have vs := V.str k1 k2
  have b := stv_b V hl
  have b' := stv_b V hl'
  rw [Brd_stv V hl.1 (by omega), Brd_stv V hl'.1 (by omega)]
  have no : ∀ l, 0 ≤ l ∧ l ≤ q 8 → ¬ Kb q (stv q l) → ¬ Brd q 0 (stv q l) (q (9 + k)) := by
    intro l hl hn y
    by_cases h0 : l ≤ 0
    · unfold stv at y; rw [if_pos h0] at y
      exact Brd_0 V _ (by omega) y
    · refine hn ⟨⟨l - 1, by omega, by omega, ?_⟩, k, k1, k2, y⟩
      unfold stv; rw [if_neg h0]
  have n0 := nK_0 (q := q) (a := stv q l)
  have n0' := nK_0 (q := q) (a := stv q l')
  unfold klq at e
  by_cases h : Kb q (stv q l)
  · by_cases h' : Kb q (stv q l')
    · rw [pif_t h, pif_t h'] at e
      have : stv q l = stv q l' := by
        rcases Int.lt_trichotomy (stv q l) (stv q l') with z | z | z
        · have := nK_s b.1 h
          have := nK_m (q := q) (a := stv q l + 1) (b := stv q l') (by omega) (by omega)
          omega
        · exact z
        · have := nK_s b'.1 h'
          have := nK_m (q := q) (a := stv q l' + 1) (b := stv q l) (by omega) (by omega)
          omega
      rw [this]
    · rw [pif_t h, pif_f h'] at e; omega
  · by_cases h' : Kb q (stv q l')
    · rw [pif_f h, pif_t h'] at e; omega
    · exact ⟨fun y => absurd y (no l hl h), fun y => absurd y (no l' hl' h')⟩
/-! places -/
theorem mr {a A x n : Int} (h0 : 0 ≤ a) (h1 : a < A) (h2 : 0 ≤ x) (h3 : x < n) : 0 ≤ a * n + x ∧ a * n + x < A * n := by
  have e := Int.mul_le_mul_of_nonneg_right (show a + 1 ≤ A by omega) (show 0 ≤ n by omega)
  have e2 := Int.mul_nonneg h0 (show 0 ≤ n by omega)
  rw [Int.add_mul, Int.one_mul] at e
  omega
theorem mri {a b x y n : Int} (h1 : 0 ≤ x ∧ x < n) (h2 : 0 ≤ y ∧ y < n) (e : a * n + x = b * n + y) : a = b ∧ x = y := by
  have e1 : (a * n + x) % n = x := by rw [Int.add_comm, Int.add_mul_emod_self_right]; exact Int.emod_eq_of_lt h1.1 h1.2
  have e2 : (b * n + y) % n = y := by rw [Int.add_comm, Int.add_mul_emod_self_right]; exact Int.emod_eq_of_lt h2.1 h2.2
  have e3 : x = y := by rw [← e1, ← e2, e]
  refine ⟨?_, e3⟩
  have e4 : a * n = b * n := by omega
  exact Int.eq_of_mul_eq_mul_right (by omega) e4
def tr (s : Int) : Int := s * (s + 1) / 2
theorem tr_s (s : Int) : tr (s + 1) = tr s + (s + 1) := by
  unfold tr
  have e : (s + 1) * (s + 1 + 1) = s * (s + 1) + (s + 1) * 2 := by
    rw [Int.mul_comm s (s + 1), ← Int.mul_add]; congr 1; omega
  rw [e, Int.add_mul_ediv_right _ _ (by decide)]
theorem tr_m {a b : Int} (h0 : 0 ≤ a) (h : a ≤ b) : tr a ≤ tr b := by
  have : ∀ d, 0 ≤ d → tr a ≤ tr (a + d) := by
    refine upZ (by rw [Int.add_zero]; exact Int.le_refl _) (fun d hd ih => ?_)
    rw [← Int.add_assoc, tr_s]; omega
  have := this (b - a) (by omega)
  rwa [show a + (b - a) = b by omega] at this
theorem tr_0 {a : Int} (h : 0 ≤ a) : 0 ≤ tr a := by
  have := tr_m (Int.le_refl 0) h
  have e : tr 0 = 0 := by decide
  omega
theorem tr_40 {a : Int} (h0 : 0 ≤ a) (h : a ≤ 40) : tr a ≤ 820 := by
  have := tr_m h0 h
  have e : tr 40 = 820 := by decide
  omega
noncomputable def bsX (pm fm : Prop) (s t : Int) : Int := pif pm (tr s + t) (pif fm (2 * s + t % 2) s)
noncomputable def tmX (pm fm : Prop) (n : Int) : Int := pif pm (tr n) (pif fm (2 * n) n)
theorem bsX_b {pm fm : Prop} {s t n : Int} (h0 : 0 ≤ t) (h1 : t ≤ s) (h2 : s < n) : 0 ≤ bsX pm fm s t ∧ bsX pm fm s t < tmX pm fm n := by
  unfold bsX tmX
  by_cases p : pm
  · rw [pif_t p, pif_t p]
    have := tr_0 (show 0 ≤ s by omega)
    have := tr_s s
    have := tr_m (show 0 ≤ s + 1 by omega) (show s + 1 ≤ n by omega)
    omega
  · rw [pif_f p, pif_f p]
    by_cases f : fm
    · rw [pif_t f, pif_t f]; omega
    · rw [pif_f f, pif_f f]; omega
theorem tmX_b {pm fm : Prop} {n : Int} (h0 : 1 ≤ n) (h1 : n ≤ 40) : 1 ≤ tmX pm fm n ∧ tmX pm fm n ≤ 820 := by
  unfold tmX
  by_cases p : pm
  · rw [pif_t p]
    have := tr_40 (show 0 ≤ n by omega) h1
    have := tr_m (show (0 : Int) ≤ 1 by omega) h0
    have e : tr 1 = 1 := by decide
    omega
  · rw [pif_f p]
    by_cases f : fm
    · rw [pif_t f]; omega
    · rw [pif_f f]; omega
theorem bsX_i {pm fm : Prop} {s t s' t' : Int} (h : 0 ≤ t ∧ t ≤ s) (h' : 0 ≤ t' ∧ t' ≤ s') (e : bsX pm fm s t = bsX pm fm s' t') : s = s' ∧ (pm → t = t') ∧ (¬ pm → fm → t % 2 = t' % 2) := by
  unfold bsX at e
  by_cases p : pm
  · rw [pif_t p, pif_t p] at e
    have es : s = s' := by
      rcases Int.lt_trichotomy s s' with z | z | z
      · have := tr_s s
        have := tr_m (show 0 ≤ s + 1 by omega) (show s + 1 ≤ s' by omega)
        omega
      · exact z
      · have := tr_s s'
        have := tr_m (show 0 ≤ s' + 1 by omega) (show s' + 1 ≤ s by omega)
        omega
    subst es
    exact ⟨rfl, fun _ => by omega, fun y => absurd p y⟩
  · rw [pif_f p, pif_f p] at e
    by_cases f : fm
    · rw [pif_t f, pif_t f] at e
      exact ⟨by omega, fun y => absurd y p, fun _ _ => by omega⟩
    · rw [pif_f f, pif_f f] at e
      exact ⟨e, fun y => absurd y p, fun _ y => absurd y f⟩
noncomputable def plX (q : Int → Int) (pm fm : Prop) (s l c g t : Int) : Int := ((bsX pm fm s t * lkq q + klq q (stv q l)) * (mxC q + 1) + c) * (mxG q + 1) + g
noncomputable def szX (q : Int → Int) (pm fm : Prop) : Int := tmX pm fm (q 0) * lkq q * (mxC q + 1) * (mxG q + 1)
theorem plX_b {q : Int → Int} (V : VS q) {pm fm : Prop} {s l c g t : Int} (n : Nd q s l c g t) (hs : s < q 0) : 0 ≤ plX q pm fm s l c g t ∧ plX q pm fm s l c g t < szX q pm fm := by
  obtain ⟨n1, n2, n3, n4⟩ := n
  have a := bsX_b (pm := pm) (fm := fm) n1.1 n1.2.1 hs
  have b := klq_b V (stv_b V n2)
  have e1 := mr a.1 a.2 b.1 b.2
  have e2 := mr (x := c) (n := mxC q + 1) e1.1 e1.2 n3.1 (by omega)
  exact mr (x := g) (n := mxG q + 1) e2.1 e2.2 n4.1 (by omega)
theorem szX_b {q : Int → Int} (V : VS q) {pm fm : Prop} : 1 ≤ szX q pm fm ∧ szX q pm fm ≤ 143500 := by
  have v := V.top
  have a := tmX_b (pm := pm) (fm := fm) v.1 v.2
  have b := lkq_b V
  have c := mxC_b V
  have e := mxG_b V
  unfold szX
  have h1 : 1 ≤ tmX pm fm (q 0) * lkq q ∧ tmX pm fm (q 0) * lkq q ≤ 820 * 7 := ⟨by have := Int.mul_le_mul a.1 b.1 (by omega) (by omega); omega, Int.mul_le_mul a.2 b.2 (by omega) (by omega)⟩
  have h2 : 1 ≤ tmX pm fm (q 0) * lkq q * (mxC q + 1) ∧ tmX pm fm (q 0) * lkq q * (mxC q + 1) ≤ 820 * 7 * 5 := ⟨by have := Int.mul_le_mul h1.1 (show 1 ≤ mxC q + 1 by omega) (by omega) (by omega); omega, Int.mul_le_mul h1.2 (by omega) (by omega) (by omega)⟩
  exact ⟨by have := Int.mul_le_mul h2.1 (show 1 ≤ mxG q + 1 by omega) (by omega) (by omega); omega, Int.mul_le_mul h2.2 (show mxG q + 1 ≤ 5 by omega) (by omega) (by omega)⟩
theorem plX_i {q : Int → Int} (V : VS q) {pm fm : Prop} {s l c g t s' l' c' g' t' : Int} (n : Nd q s l c g t) (n' : Nd q s' l' c' g' t') (e : plX q pm fm s l c g t = plX q pm fm s' l' c' g' t') : s = s' ∧ Bl q l l' ∧ c = c' ∧ g = g' ∧ (pm → t = t') ∧ (¬ pm → fm → t % 2 = t' % 2) := by
  obtain ⟨n1, n2, n3, n4⟩ := n
  obtain ⟨m1, m2, m3, m4⟩ := n'
  unfold plX at e
  obtain ⟨e1, e2⟩ := mri (by omega) (by omega) e
  obtain ⟨e3, e4⟩ := mri (by omega) (by omega) e1
  obtain ⟨e5, e6⟩ := mri (klq_b V (stv_b V n2)) (klq_b V (stv_b V m2)) e3
  obtain ⟨e7, e8, e9⟩ := bsX_i (by omega) (by omega) e5
  exact ⟨e7, klq_i V n2 m2 e6, e4, e2, e8, e9⟩
