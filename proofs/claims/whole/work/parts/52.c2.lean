/-! the part of a number that has come so far -/
noncomputable def trm (q co ca : Int → Int) (x : Int) (t : Nat) (s l c g j : Int) : Int := pif (0 ≤ s - q (9 + (l - 1)) ∧ 0 ≤ c - dc q s ∧ 0 ≤ g - dg q (l - 1)) (shr q z0 co ca (s - q (9 + (l - 1))) j (c - dc q s) (g - dg q (l - 1)) t (l - 1) (Nn q co ca x t (s - q (9 + (l - 1))) j (c - dc q s) (g - dg q (l - 1)))) 0
noncomputable def NP (q co ca : Int → Int) (x : Int) (Pr : Int → Int → Int → Int → Int → Prop) : Nat → Int → Int → Int → Int → Int
  | 0, s, l, c, g => pif (s = 0 ∧ l = 0 ∧ c = 0 ∧ g = 0) x 0
  | t + 1, s, l, c, g => pif (1 ≤ l ∧ l ≤ q 8) (sZ (fun j => pif (Pr (s - q (9 + (l - 1))) j (c - dc q s) (g - dg q (l - 1)) t) (trm q co ca x t s l c g j) 0) (q 8 + 1)) 0
theorem trm_n {q co ca : Int → Int} (V : VS q) {x : Int} {t : Nat} {s l c g j : Int} (hl : 1 ≤ l ∧ l ≤ q 8) (h : trm q co ca x t s l c g j ≠ 0) : Nr q (s - q (9 + (l - 1))) j (c - dc q s) (g - dg q (l - 1)) t ∧ May q z0 False (s - q (9 + (l - 1))) j (c - dc q s) (g - dg q (l - 1)) t (l - 1) := by
  unfold trm at h
  by_cases h2 : 0 ≤ s - q (9 + (l - 1)) ∧ 0 ≤ c - dc q s ∧ 0 ≤ g - dg q (l - 1)
  · rw [pif_t h2] at h
    exact ⟨Nn_o V _ _ _ _ _ fun y => h (by rw [y]; exact shr_0), Classical.byContradiction fun y => h (shr_m V (by omega) y)⟩
  · rw [pif_f h2] at h; exact absurd rfl h
theorem NP_c {q co ca : Int → Int} (V : VS q) {x : Int} {Pr Pr' : Int → Int → Int → Int → Int → Prop} (h : ∀ s l c g t, Nr q s l c g t → (Pr s l c g t ↔ Pr' s l c g t)) : ∀ (t : Nat) (s l c g : Int), NP q co ca x Pr t s l c g = NP q co ca x Pr' t s l c g := by
  intro t s l c g
  cases t with
  | zero => rfl
  | succ t =>
    rw [NP, NP]
    by_cases hl : 1 ≤ l ∧ l ≤ q 8
    · rw [pif_t hl, pif_t hl]
      refine sZ_c fun j _ _ => ?_
      by_cases hz : trm q co ca x t s l c g j = 0
      · rw [hz]
        by_cases a : Pr (s - q (9 + (l - 1))) j (c - dc q s) (g - dg q (l - 1)) t
        · rw [pif_t a]; by_cases b : Pr' (s - q (9 + (l - 1))) j (c - dc q s) (g - dg q (l - 1)) t
          · rw [pif_t b]
          · rw [pif_f b]
        · rw [pif_f a]; by_cases b : Pr' (s - q (9 + (l - 1))) j (c - dc q s) (g - dg q (l - 1)) t
          · rw [pif_t b]
          · rw [pif_f b]
      · exact pif_c (h _ _ _ _ _ (trm_n V hl hz).1) (fun _ => rfl) (fun _ => rfl)
    · rw [pif_f hl, pif_f hl]
theorem NP_f {q co ca : Int → Int} (V : VS q) {x : Int} {Pr : Int → Int → Int → Int → Int → Prop} {t : Nat} {s l c g : Int} (h : ∀ s' l' c' g' (t' : Nat), Nr q s' l' c' g' t' → s' < s → (t' : Int) + 1 = t → Pr s' l' c' g' t') : NP q co ca x Pr t s l c g = Nn q co ca x t s l c g := by
  cases t with
  | zero => rfl
  | succ t =>
    rw [NP, Nn]
    by_cases hl : 1 ≤ l ∧ l ≤ q 8
    · rw [pif_t hl, pif_t hl]
      refine sZ_c fun j _ _ => ?_
      show pif _ (trm q co ca x t s l c g j) 0 = trm q co ca x t s l c g j
      by_cases hz : trm q co ca x t s l c g j = 0
      · rw [hz]
        by_cases a : Pr (s - q (9 + (l - 1))) j (c - dc q s) (g - dg q (l - 1)) t
        · rw [pif_t a]
        · rw [pif_f a]
      · have vs := V.str (k := l - 1) (by omega) (by omega)
        rw [pif_t (h _ _ _ _ _ (trm_n V hl hz).1 (by omega) (by omega))]
    · rw [pif_f hl, pif_f hl]
theorem NP_0 {q co ca : Int → Int} {x : Int} {Pr : Int → Int → Int → Int → Int → Prop} (h : ∀ s l c g t, ¬ Pr s l c g t) : ∀ (t : Nat) (s l c g : Int), 0 < t → NP q co ca x Pr t s l c g = 0 := by
  intro t s l c g ht
  cases t with
  | zero => omega
  | succ t =>
    rw [NP]
    by_cases hl : 1 ≤ l ∧ l ≤ q 8
    · rw [pif_t hl]; exact sZ_z fun j _ _ => pif_f (h _ _ _ _ _)
    · rw [pif_f hl]
/-- only one of them counts -/
theorem sZ_o {f : Int → Int} {n i : Int} (hi : 0 ≤ i ∧ i < n) (h : ∀ k, 0 ≤ k → k < n → k ≠ i → f k = 0) : sZ f n = f i := by
  have := sZ_up (f := fun _ => 0) (f' := f) (n := n) (i := i) (x := f i) hi (by show f i = 0 + f i; omega) (fun k k1 k2 hk => h k k1 k2 hk)
  rw [this, sZ_z (fun _ _ _ => rfl)]; omega
theorem NP_u {q co ca : Int → Int} (V : VS q) {x : Int} {Pr : Int → Int → Int → Int → Int → Prop} {S L C G : Int} {T : Nat} (n : Nr q S L C G T) (hn : ¬ Pr S L C G T) (t : Nat) (s l c g : Int) :
    NP q co ca x (fun s l c g t => Pr s l c g t ∨ (s = S ∧ l = L ∧ c = C ∧ g = G ∧ t = T)) t s l c g = NP q co ca x Pr t s l c g + sZ (fun k => pif (s = S + q (9 + k) ∧ l = k + 1 ∧ c = nxC q S C k ∧ g = nxG q G k ∧ (t : Int) = T + 1) (shr q z0 co ca S L C G T k (Nn q co ca x T S L C G)) 0) (q 8) := by
  have n1 := n.1.1
  have n2 := n.1.2.1
  have n3 := n.1.2.2.1
  have n4 := n.1.2.2.2
  cases t with
  | zero =>
    rw [NP, NP, sZ_z (fun k _ _ => pif_f (fun y => by have := y.2.2.2.2; omega)), Int.add_zero]
  | succ t =>
    rw [NP, NP]
    by_cases hl : 1 ≤ l ∧ l ≤ q 8
    · rw [pif_t hl, pif_t hl]
      have e1 := sZ_o (f := fun k => pif (s = S + q (9 + k) ∧ l = k + 1 ∧ c = nxC q S C k ∧ g = nxG q G k ∧ ((t + 1 : Nat) : Int) = T + 1) (shr q z0 co ca S L C G T k (Nn q co ca x T S L C G)) 0) (n := q 8) (i := l - 1) (by omega) (fun k k1 k2 hk => pif_f (fun y => hk (by omega)))
      rw [e1]
      show _ = _ + pif (s = S + q (9 + (l - 1)) ∧ l = l - 1 + 1 ∧ c = nxC q S C (l - 1) ∧ g = nxG q G (l - 1) ∧ ((t + 1 : Nat) : Int) = T + 1) (shr q z0 co ca S L C G T (l - 1) (Nn q co ca x T S L C G)) 0
      rw [nxC_d, nxG_d]
      by_cases m : s = S + q (9 + (l - 1)) ∧ l = l - 1 + 1 ∧ c = C + dc q (S + q (9 + (l - 1))) ∧ g = G + dg q (l - 1) ∧ ((t + 1 : Nat) : Int) = T + 1
      · rw [pif_t m]
        obtain ⟨m1, m2, m3, m4, m5⟩ := m
        have tT : t = T := by omega
        rw [← m1] at m3
        subst tT
        have f1 : s - q (9 + (l - 1)) = S := by omega
        have f2 : c - dc q s = C := by omega
        have f3 : g - dg q (l - 1) = G := by omega
        refine sZ_up (i := L) (by omega) ?_ ?_
        · rw [f1, f2, f3, pif_t (Or.inr ⟨rfl, rfl, rfl, rfl, rfl⟩), pif_f hn, Int.zero_add]
          unfold trm
          rw [f1, f2, f3, pif_t (by omega)]
        · intro j j1 j2 hj
          exact pif_c ⟨fun y => y.elim id (fun z => absurd z.2.1 hj), Or.inl⟩ (fun _ => rfl) (fun _ => rfl)
      · rw [pif_f m, Int.add_zero]
        refine sZ_c fun j _ _ => pif_c ⟨fun y => y.elim id (fun z => absurd ?_ m), Or.inl⟩ (fun _ => rfl) (fun _ => rfl)
        obtain ⟨a1, a2, a3, a4, a5⟩ := z
        have f1 : s = S + q (9 + (l - 1)) := by omega
        rw [f1] at a3
        exact ⟨f1, by omega, by omega, by omega, by omega⟩
    · rw [pif_f hl, pif_f hl, sZ_z (fun k k1 k2 => pif_f (fun y => hl (by omega))), Int.add_zero]
theorem NP_nz {q co ca : Int → Int} (V : VS q) {x : Int} {Pr : Int → Int → Int → Int → Int → Prop} {t : Nat} {s l c g : Int} (h : NP q co ca x Pr t s l c g ≠ 0) : Nr q s l c g t := by
  cases t with
  | zero =>
    rw [NP] at h
    by_cases h1 : s = 0 ∧ l = 0 ∧ c = 0 ∧ g = 0
    · obtain ⟨rfl, rfl, rfl, rfl⟩ := h1
      exact ⟨m_zero V, fun y => by omega⟩
    · rw [pif_f h1] at h; exact absurd rfl h
  | succ t =>
    rw [NP] at h
    by_cases h1 : 1 ≤ l ∧ l ≤ q 8
    · rw [pif_t h1] at h
      obtain ⟨j, j1, j2, j3⟩ := sZ_nz h
      by_cases h2 : Pr (s - q (9 + (l - 1))) j (c - dc q s) (g - dg q (l - 1)) t
      · rw [pif_t h2] at j3
        obtain ⟨a, b⟩ := trm_n V h1 j3
        have nx := a.nx V (by omega) (by omega) b
        rw [nxC_d, nxG_d] at nx
        rw [show s - q (9 + (l - 1)) + q (9 + (l - 1)) = s by omega, show l - 1 + 1 = l by omega, show c - dc q s + dc q s = c by omega, show g - dg q (l - 1) + dg q (l - 1) = g by omega] at nx
        exact nx
      · rw [pif_f h2] at j3; exact absurd rfl j3
    · rw [pif_f h1] at h; exact absurd rfl h
/-! rows to which is added -/
noncomputable def aP (T : Nat → Int64) (ix : Int → Nat) (f : Int → Int) (n : Int) : Nat → Int64 := fun i => T i + jZ (sZ (fun k => pif (i = ix k) (f k) 0) n)
theorem j64_0 (a : Int64) : a + jZ 0 = a := by
  show a + 0 = a
  exact Int64.add_zero a
theorem j64_a (a : Int64) (x y : Int) : a + jZ x + jZ y = a + jZ (x + y) := by
  rw [Int64.add_assoc, jz_add]
theorem aP_0 (T : Nat → Int64) (ix : Int → Nat) (f : Int → Int) : aP T ix f 0 = T := by
  funext i; unfold aP; rw [sZ_0 _ (Int.le_refl 0)]; exact j64_0 _
theorem up_0 (T : Nat → Int64) (i : Nat) : up T i (T i + jZ 0) = T := by
  funext j; unfold up
  by_cases h : j = i
  · rw [if_pos h, h]; exact j64_0 _
  · rw [if_neg h]
theorem aP_s (T : Nat → Int64) (ix : Int → Nat) (f : Int → Int) {k : Int} (hk : 0 ≤ k) : aP T ix f (k + 1) = up (aP T ix f k) (ix k) (aP T ix f k (ix k) + jZ (f k)) := by
  funext i
  unfold up aP
  by_cases h : i = ix k
  · rw [if_pos h, sZ_s _ hk, pif_t h, ← h, ← j64_a]
  · rw [if_neg h, sZ_s _ hk, pif_f h, Int.add_zero]
theorem aP_sz (T : Nat → Int64) (ix : Int → Nat) (f : Int → Int) {k : Int} (hk : 0 ≤ k) (h0 : f k = 0) : aP T ix f (k + 1) = aP T ix f k := by
  rw [aP_s T ix f hk, h0, up_0]
theorem aP_z (T : Nat → Int64) (ix : Int → Nat) {f : Int → Int} {n : Int} (h : ∀ k, 0 ≤ k → k < n → f k = 0) : aP T ix f n = T := by
  funext i; unfold aP
  rw [sZ_z (fun k k1 k2 => by rw [h k k1 k2]; by_cases e : i = ix k; rw [pif_t e]; rw [pif_f e])]
  exact j64_0 _
theorem aP_l (T : Nat → Int64) (ix : Int → Nat) {f f' : Int → Int} {n m y : Int} (hm : 0 ≤ m ∧ m < n) (h : ∀ k, 0 ≤ k → k < n → f' k = f k + pif (k = m) y 0) : aP T ix f' n = up (aP T ix f n) (ix m) (aP T ix f n (ix m) + jZ y) := by
  funext i
  unfold up aP
  have e : sZ (fun k => pif (i = ix k) (f' k) 0) n = sZ (fun k => pif (i = ix k) (f k) 0) n + pif (i = ix m) y 0 := by
    refine sZ_up (i := m) hm ?_ ?_
    · rw [h m hm.1 hm.2, pif_t rfl]
      by_cases hi : i = ix m
      · rw [pif_t hi, pif_t hi, pif_t hi]
      · rw [pif_f hi, pif_f hi, pif_f hi]; rfl
    · intro k k1 k2 hk
      rw [h k k1 k2, pif_f hk, Int.add_zero]
  rw [e]
  by_cases hi : i = ix m
  · rw [if_pos hi, pif_t hi, ← hi, j64_a]
  · rw [if_neg hi, pif_f hi, Int.add_zero]
