/-! how many are where by how many strides -/
def z0 : Int → Int := fun _ => 0
theorem Wt_v {q v co ca : Int → Int} {s l c g t k : Int} : Wt q v co ca s l c g t k = Wt q z0 co ca s l c g t k := by
  unfold Wt
  exact pif_c (May_vi z0) (fun _ => rfl) (fun _ => rfl)
noncomputable def dc (q : Int → Int) (s : Int) : Int := pif (q (26 + s) = 2 ∧ 0 ≤ q 1) 1 0
noncomputable def dg (q : Int → Int) (k : Int) : Int := pif (Grt q (q (9 + k))) 1 0
theorem nxC_d {q : Int → Int} {s c k : Int} : nxC q s c k = c + dc q (s + q (9 + k)) := by
  unfold dc
  by_cases h : q (26 + (s + q (9 + k))) = 2 ∧ 0 ≤ q 1
  · rw [nxC_t h, pif_t h]
  · rw [nxC_f h, pif_f h, Int.add_zero]
theorem nxG_d {q : Int → Int} {g k : Int} : nxG q g k = g + dg q k := by
  unfold dg
  by_cases h : Grt q (q (9 + k))
  · rw [nxG_t h, pif_t h]
  · rw [nxG_f h, pif_f h, Int.add_zero]
noncomputable def Nn (q co ca : Int → Int) (x : Int) : Nat → Int → Int → Int → Int → Int
  | 0, s, l, c, g => pif (s = 0 ∧ l = 0 ∧ c = 0 ∧ g = 0) x 0
  | t + 1, s, l, c, g => pif (1 ≤ l ∧ l ≤ q 8) (sZ (fun j => pif (0 ≤ s - q (9 + (l - 1)) ∧ 0 ≤ c - dc q s ∧ 0 ≤ g - dg q (l - 1)) (shr q z0 co ca (s - q (9 + (l - 1))) j (c - dc q s) (g - dg q (l - 1)) t (l - 1) (Nn q co ca x t (s - q (9 + (l - 1))) j (c - dc q s) (g - dg q (l - 1)))) 0) (q 8 + 1)) 0
theorem sZ_nz {f : Int → Int} {n : Int} (h : sZ f n ≠ 0) : ∃ k, 0 ≤ k ∧ k < n ∧ f k ≠ 0 := by
  refine Classical.byContradiction fun y => h (sZ_z fun k k1 k2 => Classical.byContradiction fun z => y ⟨k, k1, k2, z⟩)
theorem Nn_nn {q co ca : Int → Int} {x : Int} (hx : 0 ≤ x) : ∀ (t : Nat) (s l c g : Int), 0 ≤ Nn q co ca x t s l c g := by
  intro t
  induction t with
  | zero =>
    intro s l c g
    rw [Nn]
    by_cases h : s = 0 ∧ l = 0 ∧ c = 0 ∧ g = 0
    · rw [pif_t h]; exact hx
    · rw [pif_f h]; omega
  | succ t ih =>
    intro s l c g
    rw [Nn]
    by_cases h : 1 ≤ l ∧ l ≤ q 8
    · rw [pif_t h]
      refine sZ_nn fun j _ _ => ?_
      by_cases h2 : 0 ≤ s - q (9 + (l - 1)) ∧ 0 ≤ c - dc q s ∧ 0 ≤ g - dg q (l - 1)
      · rw [pif_t h2]; exact shr_b (ih _ _ _ _)
      · rw [pif_f h2]; omega
    · rw [pif_f h]; omega
theorem Nn_o {q co ca : Int → Int} (V : VS q) {x : Int} : ∀ (t : Nat) (s l c g : Int), Nn q co ca x t s l c g ≠ 0 → Nr q s l c g t := by
  intro t
  induction t with
  | zero =>
    intro s l c g h
    rw [Nn] at h
    by_cases h1 : s = 0 ∧ l = 0 ∧ c = 0 ∧ g = 0
    · obtain ⟨rfl, rfl, rfl, rfl⟩ := h1
      exact ⟨m_zero V, fun y => by omega⟩
    · rw [pif_f h1] at h; exact absurd rfl h
  | succ t ih =>
    intro s l c g h
    rw [Nn] at h
    by_cases h1 : 1 ≤ l ∧ l ≤ q 8
    · rw [pif_t h1] at h
      obtain ⟨j, j1, j2, j3⟩ := sZ_nz h
      by_cases h2 : 0 ≤ s - q (9 + (l - 1)) ∧ 0 ≤ c - dc q s ∧ 0 ≤ g - dg q (l - 1)
      · rw [pif_t h2] at j3
        have hN : Nn q co ca x t (s - q (9 + (l - 1))) j (c - dc q s) (g - dg q (l - 1)) ≠ 0 := fun y => j3 (by rw [y]; exact shr_0)
        have hM : May q z0 False (s - q (9 + (l - 1))) j (c - dc q s) (g - dg q (l - 1)) t (l - 1) := Classical.byContradiction fun y => j3 (shr_m V (by omega) y)
        have nx := (ih _ _ _ _ hN).nx V (by omega) (by omega) hM
        rw [nxC_d, nxG_d] at nx
        rw [show s - q (9 + (l - 1)) + q (9 + (l - 1)) = s by omega, show l - 1 + 1 = l by omega, show c - dc q s + dc q s = c by omega, show g - dg q (l - 1) + dg q (l - 1) = g by omega] at nx
        exact nx
      · rw [pif_f h2] at j3; exact absurd rfl j3
    · rw [pif_f h1] at h; exact absurd rfl h
/-- sums over steps, creaks, greats -/
noncomputable def S3 (f : Int → Int → Int → Int) : Int := sZ (fun s => sZ (fun c => sZ (fun g => f s c g) 5) 5) 41
theorem S3_le {f f' : Int → Int → Int → Int} (h : ∀ s c g, 0 ≤ s → 0 ≤ c → 0 ≤ g → f s c g ≤ f' s c g) : S3 f ≤ S3 f' := sZ_le fun s s1 _ => sZ_le fun c c1 _ => sZ_le fun g g1 _ => h s c g s1 c1 g1
theorem S3_c {f f' : Int → Int → Int → Int} (h : ∀ s c g, 0 ≤ s → 0 ≤ c → 0 ≤ g → f s c g = f' s c g) : S3 f = S3 f' := sZ_c fun s s1 _ => sZ_c fun c c1 _ => sZ_c fun g g1 _ => h s c g s1 c1 g1
theorem S3_k (f : Int → Int → Int → Int → Int) (n : Int) : S3 (fun s c g => sZ (fun k => f k s c g) n) = sZ (fun k => S3 (f k)) n := by
  unfold S3
  rw [sZ_swap (fun k s => sZ (fun c => sZ (fun g => f k s c g) 5) 5) n 41]
  refine sZ_c fun s _ _ => ?_
  rw [sZ_swap (fun k c => sZ (fun g => f k s c g) 5) n 5]
  refine sZ_c fun c _ _ => ?_
  exact sZ_swap (fun g k => f k s c g) 5 n
theorem S3_sh {f : Int → Int → Int → Int} (hf : ∀ s c g, 0 ≤ s → 0 ≤ c → 0 ≤ g → 0 ≤ f s c g) {a b : Int} (ha : 0 ≤ a) (hb : 0 ≤ b) (D : Int → Int) (hD : ∀ s, 0 ≤ D s) : S3 (fun s c g => pif (0 ≤ s - a ∧ 0 ≤ c - D s ∧ 0 ≤ g - b) (f (s - a) (c - D s) (g - b)) 0) ≤ S3 f := by
  unfold S3
  have h1 : ∀ s, 0 ≤ s → s < 41 → sZ (fun c => sZ (fun g => pif (0 ≤ s - a ∧ 0 ≤ c - D s ∧ 0 ≤ g - b) (f (s - a) (c - D s) (g - b)) 0) 5) 5 ≤ pif (0 ≤ s - a) ((fun s => sZ (fun c => sZ (fun g => f s c g) 5) 5) (s - a)) 0 := by
    intro s s1 s2
    by_cases hs : 0 ≤ s - a
    · rw [pif_t hs]
      have h2 : ∀ c, 0 ≤ c → c < 5 → sZ (fun g => pif (0 ≤ s - a ∧ 0 ≤ c - D s ∧ 0 ≤ g - b) (f (s - a) (c - D s) (g - b)) 0) 5 ≤ pif (0 ≤ c - D s) ((fun c => sZ (fun g => f (s - a) c g) 5) (c - D s)) 0 := by
        intro c c1 c2
        by_cases hc : 0 ≤ c - D s
        · rw [pif_t hc]
          have e : sZ (fun g => pif (0 ≤ s - a ∧ 0 ≤ c - D s ∧ 0 ≤ g - b) (f (s - a) (c - D s) (g - b)) 0) 5 = sZ (fun g => pif (0 ≤ g - b) ((fun g => f (s - a) (c - D s) g) (g - b)) 0) 5 := sZ_c fun g _ _ => pif_c ⟨fun y => y.2.2, fun y => ⟨hs, hc, y⟩⟩ (fun _ => rfl) (fun _ => rfl)
          rw [e]
          exact sZ_sh hb (fun g g1 => hf _ _ _ hs hc g1)
        · rw [pif_f hc, sZ_z (fun g _ _ => pif_f (fun y => hc y.2.1))]; omega
      exact Int.le_trans (sZ_le h2) (sZ_sh (hD s) (fun c c1 => sZ_nn fun g g1 _ => hf _ _ _ hs c1 g1))
    · rw [pif_f hs, sZ_z (fun c _ _ => sZ_z fun g _ _ => pif_f (fun y => hs y.1))]; omega
  exact Int.le_trans (sZ_le h1) (sZ_sh ha (fun s s1 => sZ_nn fun c c1 _ => sZ_nn fun g g1 _ => hf _ _ _ s1 c1 g1))
noncomputable def TL (q co ca : Int → Int) (x : Int) (t : Nat) : Int := S3 (fun s c g => sZ (fun l => Nn q co ca x t s l c g) (q 8 + 1))
theorem TL_s {q co ca : Int → Int} (V : VS q) {x : Int} (hx : 0 ≤ x) (t : Nat) : TL q co ca x (t + 1) ≤ TL q co ca x t := by
  have vn := V.n
  have nn := Nn_nn (q := q) (co := co) (ca := ca) hx
  have e1 : TL q co ca x (t + 1) = S3 (fun s c g => sZ (fun k => pif (0 ≤ s - q (9 + k) ∧ 0 ≤ c - dc q s ∧ 0 ≤ g - dg q k) (sZ (fun j => shr q z0 co ca (s - q (9 + k)) j (c - dc q s) (g - dg q k) t k (Nn q co ca x t (s - q (9 + k)) j (c - dc q s) (g - dg q k))) (q 8 + 1)) 0) (q 8)) := by
    unfold TL
    refine S3_c fun s c g s1 c1 g1 => ?_
    rw [Int.add_comm (q 8) 1, sZ_cat _ (show (0 : Int) ≤ 1 by omega) (show 0 ≤ q 8 by omega), show (1 : Int) = 0 + 1 by omega, sZ_s _ (Int.le_refl 0), sZ_0 _ (Int.le_refl 0)]
    have z : Nn q co ca x (t + 1) s 0 c g = 0 := by rw [Nn, pif_f (by omega)]
    rw [z, Int.zero_add, Int.zero_add, Int.zero_add]
    refine sZ_c fun k k1 k2 => ?_
    rw [Nn, pif_t (by omega), show 1 + k - 1 = k by omega, Int.add_comm (q 8) 1]
    by_cases h2 : 0 ≤ s - q (9 + k) ∧ 0 ≤ c - dc q s ∧ 0 ≤ g - dg q k
    · rw [pif_t h2]; exact sZ_c fun j _ _ => pif_t h2
    · rw [pif_f h2]; exact sZ_z fun j _ _ => pif_f h2
  rw [e1, S3_k]
  have e2 : ∀ k, 0 ≤ k → k < q 8 → S3 (fun s c g => pif (0 ≤ s - q (9 + k) ∧ 0 ≤ c - dc q s ∧ 0 ≤ g - dg q k) (sZ (fun j => shr q z0 co ca (s - q (9 + k)) j (c - dc q s) (g - dg q k) t k (Nn q co ca x t (s - q (9 + k)) j (c - dc q s) (g - dg q k))) (q 8 + 1)) 0) ≤ S3 (fun s c g => sZ (fun j => shr q z0 co ca s j c g t k (Nn q co ca x t s j c g)) (q 8 + 1)) := by
    intro k k1 k2
    have vs := V.str k1 k2
    exact S3_sh (f := fun s c g => sZ (fun j => shr q z0 co ca s j c g t k (Nn q co ca x t s j c g)) (q 8 + 1)) (fun s c g _ _ _ => sZ_nn fun j _ _ => shr_b (nn _ _ _ _ _)) (by omega) (p01 _).1 (dc q) (fun s => (p01 _).1)
  refine Int.le_trans (sZ_le e2) ?_
  rw [← S3_k]
  unfold TL
  refine S3_le fun s c g _ _ _ => ?_
  rw [sZ_swap]
  exact sZ_le fun j _ _ => shr_s V (nn _ _ _ _ _)
theorem TL_0 {q co ca : Int → Int} (V : VS q) {x : Int} (hx : 0 ≤ x) : TL q co ca x 0 ≤ x := by
  have vn := V.n
  have e1 : ∀ (n : Int) (f : Int → Int), 0 < n → f 0 ≤ x → (∀ k, 0 < k → k < n → f k = 0) → sZ f n ≤ x := by
    intro n f hn h0 h1
    rw [sZ_x (show (0 : Int) ≤ 1 by omega) (show 1 ≤ n by omega) (fun k k1 k2 => h1 k (by omega) k2), show (1 : Int) = 0 + 1 by omega, sZ_s _ (Int.le_refl 0), sZ_0 _ (Int.le_refl 0)]
    omega
  unfold TL S3
  refine e1 _ _ (by decide) (e1 _ _ (by decide) (e1 _ _ (by decide) (e1 _ _ (by omega) ?_ ?_) ?_) ?_) ?_
  · rw [Nn, pif_t ⟨rfl, rfl, rfl, rfl⟩]; omega
  · intro l h1 h2; rw [Nn, pif_f (by omega)]
  · intro g h1 h2; exact sZ_z fun l _ _ => by rw [Nn, pif_f (by omega)]
  · intro c h1 h2; exact sZ_z fun g _ _ => sZ_z fun l _ _ => by rw [Nn, pif_f (by omega)]
  · intro s h1 h2; exact sZ_z fun c _ _ => sZ_z fun g _ _ => sZ_z fun l _ _ => by rw [Nn, pif_f (by omega)]
theorem Nn_b {q co ca : Int → Int} (V : VS q) {x : Int} (hx : 0 ≤ x) (t : Nat) (s l c g : Int) : 0 ≤ Nn q co ca x t s l c g ∧ Nn q co ca x t s l c g ≤ x := by
  have nn := Nn_nn (q := q) (co := co) (ca := ca) hx
  refine ⟨nn _ _ _ _ _, ?_⟩
  by_cases h : Nn q co ca x t s l c g = 0
  · omega
  · have n := (Nn_o V t s l c g h).1
    have v1 := V.top
    have v3 := mxC_b V
    have v4 := mxG_b V
    obtain ⟨n1, n2, n3, n4⟩ := n
    have tl : ∀ t, TL q co ca x t ≤ x := by
      intro t
      induction t with
      | zero => exact TL_0 V hx
      | succ t ih => exact Int.le_trans (TL_s V hx t) ih
    refine Int.le_trans ?_ (tl t)
    unfold TL S3
    refine Int.le_trans ?_ (sZ_1 (k := s) (fun _ _ _ => sZ_nn fun _ _ _ => sZ_nn fun _ _ _ => sZ_nn fun _ _ _ => nn _ _ _ _ _) (by omega))
    refine Int.le_trans ?_ (sZ_1 (k := c) (fun _ _ _ => sZ_nn fun _ _ _ => sZ_nn fun _ _ _ => nn _ _ _ _ _) (by omega))
    refine Int.le_trans ?_ (sZ_1 (k := g) (fun _ _ _ => sZ_nn fun _ _ _ => nn _ _ _ _ _) (by omega))
    exact sZ_1 (f := fun l => Nn q co ca x t s l c g) (k := l) (fun _ _ _ => nn _ _ _ _ _) (by omega)
