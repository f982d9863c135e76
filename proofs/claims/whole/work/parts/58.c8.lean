/-! the class's crowd: what is kept -/
theorem DI_u {q co ca : Int → Int} (V : VS q) {x : Int} {Pr : Int → Int → Int → Int → Int → Prop} {S L C G : Int} {T0 : Nat} (n : Nr q S L C G T0) (hn : ¬ Pr S L C G T0) {Lr D : Nat → Int64} {ix0 : Nat} (i2 : D 0 = jZ x) (i3 : ∀ s : Int, 1 ≤ s → s ≤ 40 → D s.toNat = jZ (BX q co ca x Pr s)) (i4 : Lr ix0 = jZ (sZ (fun s => BX q co ca x Pr (s + 1)) 40)) :
    aP D (ixD q S) (fun k => shr q z0 co ca S L C G T0 k (Nn q co ca x T0 S L C G)) (q 8) 0 = jZ x ∧ (∀ s : Int, 1 ≤ s → s ≤ 40 → aP D (ixD q S) (fun k => shr q z0 co ca S L C G T0 k (Nn q co ca x T0 S L C G)) (q 8) s.toNat = jZ (BX q co ca x (fun s l c g t => Pr s l c g t ∨ (s = S ∧ l = L ∧ c = C ∧ g = G ∧ t = T0)) s)) ∧ up Lr ix0 (Lr ix0 + jZ (sZ (fun k => shr q z0 co ca S L C G T0 k (Nn q co ca x T0 S L C G)) (q 8))) ix0 = jZ (sZ (fun s => BX q co ca x (fun s l c g t => Pr s l c g t ∨ (s = S ∧ l = L ∧ c = C ∧ g = G ∧ t = T0)) (s + 1)) 40) := by
  have n1 := n.1.1
  refine ⟨?_, ?_, ?_⟩
  · unfold aP
    rw [i2, sZ_z (fun k k1 k2 => ?_), jz_add, Int.add_zero]
    have vs := V.str k1 k2
    exact pif_f (fun y => by unfold ixD at y; omega)
  · intro s s1 s2
    unfold aP
    rw [i3 s s1 s2, BX_u V n hn, jz_add]
    congr 2
    refine sZ_c fun k k1 k2 => ?_
    have vs := V.str k1 k2
    exact pif_c ⟨fun y => by unfold ixD at y; omega, fun y => by unfold ixD; omega⟩ (fun _ => rfl) (fun _ => rfl)
  · rw [up_e, i4, jz_add]
    have e : sZ (fun s => BX q co ca x (fun s l c g t => Pr s l c g t ∨ (s = S ∧ l = L ∧ c = C ∧ g = G ∧ t = T0)) (s + 1)) 40 = sZ (fun s => BX q co ca x Pr (s + 1) + sZ (fun k => pif (s + 1 = S + q (9 + k)) (shr q z0 co ca S L C G T0 k (Nn q co ca x T0 S L C G)) 0) (q 8)) 40 := sZ_c fun s _ _ => BX_u V n hn (s + 1)
    have e2 : sZ (fun s => sZ (fun k => pif (s + 1 = S + q (9 + k)) (shr q z0 co ca S L C G T0 k (Nn q co ca x T0 S L C G)) 0) (q 8)) 40 = sZ (fun k => shr q z0 co ca S L C G T0 k (Nn q co ca x T0 S L C G)) (q 8) := by
      rw [sZ_swap]
      refine sZ_c fun k k1 k2 => ?_
      by_cases h0 : shr q z0 co ca S L C G T0 k (Nn q co ca x T0 S L C G) = 0
      · rw [h0]
        have z : ∀ (B : Prop), pif B (0 : Int) 0 = 0 := fun B => by by_cases b : B; rw [pif_t b]; rw [pif_f b]
        exact sZ_z fun s _ _ => z _
      · obtain ⟨a1, _⟩ := shr_n V n.1 ⟨k1, k2⟩ h0
        have := sZ_pt (n := 40) (a := S + q (9 + k) - 1) (y := shr q z0 co ca S L C G T0 k (Nn q co ca x T0 S L C G)) (B := True) (f := fun s => pif (s + 1 = S + q (9 + k)) (shr q z0 co ca S L C G T0 k (Nn q co ca x T0 S L C G)) 0) (by omega) (fun s => pif_c ⟨fun y => ⟨by omega, trivial⟩, fun y => by have := y.1; omega⟩ (fun _ => rfl) (fun _ => rfl))
        rw [this, pif_t trivial]
    rw [e, sZ_add, e2]
theorem NP_c3 {q co ca : Int → Int} (V : VS q) {x : Int} {Pr Pr' : Int → Int → Int → Int → Int → Prop} (h : ∀ s l c g (t : Nat), Nn q co ca x t s l c g ≠ 0 → s < q 0 → (Pr s l c g t ↔ Pr' s l c g t)) : ∀ (t : Nat) (s l c g : Int), NP q co ca x Pr t s l c g = NP q co ca x Pr' t s l c g := by
  intro t s l c g
  cases t with
  | zero => rfl
  | succ t =>
    rw [NP, NP]
    by_cases hl : 1 ≤ l ∧ l ≤ q 8
    · rw [pif_t hl, pif_t hl]
      refine sZ_c fun j _ _ => ?_
      by_cases hz : trm q co ca x t s l c g j = 0
      · rw [hz]
        have z : ∀ (B : Prop), pif B (0 : Int) 0 = 0 := fun B => by by_cases b : B; rw [pif_t b]; rw [pif_f b]
        rw [z, z]
      · have m := (trm_n V hl hz).2.1
        have vs := V.str (k := l - 1) (by omega) (by omega)
        refine pif_c (h _ _ _ _ _ (fun y => hz ?_) (by omega)) (fun _ => rfl) (fun _ => rfl)
        unfold trm
        rw [y, shr_0]
        by_cases b : 0 ≤ s - q (9 + (l - 1)) ∧ 0 ≤ c - dc q s ∧ 0 ≤ g - dg q (l - 1)
        · rw [pif_t b]
        · rw [pif_f b]
    · rw [pif_f hl, pif_f hl]
theorem NP_z {q co ca : Int → Int} (V : VS q) {x : Int} {Pr : Int → Int → Int → Int → Int → Prop} {t : Nat} {s l c g : Int} (h : ∀ s' l' c' g', s' < s → ¬ Pr s' l' c' g' t) : NP q co ca x Pr (t + 1) s l c g = 0 := by
  rw [NP]
  by_cases hl : 1 ≤ l ∧ l ≤ q 8
  · rw [pif_t hl]
    have vs := V.str (k := l - 1) (by omega) (by omega)
    exact sZ_z fun j _ _ => pif_f (h _ _ _ _ (by omega))
  · rw [pif_f hl]
theorem Nn_far {q co ca : Int → Int} (V : VS q) {x : Int} : ∀ (t : Nat) (s l c g : Int), Nn q co ca x t s l c g ≠ 0 → s ≤ t * q (9 + (q 8 - 1)) := by
  have vn := V.n
  intro t
  induction t with
  | zero =>
    intro s l c g h
    rw [Nn] at h
    by_cases h1 : s = 0 ∧ l = 0 ∧ c = 0 ∧ g = 0
    · rw [h1.1]; simp
    · rw [pif_f h1] at h; exact absurd rfl h
  | succ t ih =>
    intro s l c g h
    rw [Nn] at h
    by_cases h1 : 1 ≤ l ∧ l ≤ q 8
    · rw [pif_t h1] at h
      obtain ⟨j, j1, j2, j3⟩ := sZ_nz h
      by_cases h2 : 0 ≤ s - q (9 + (l - 1)) ∧ 0 ≤ c - dc q s ∧ 0 ≤ g - dg q (l - 1)
      · rw [pif_t h2] at j3
        have hN : Nn q co ca x t (s - q (9 + (l - 1))) j (c - dc q s) (g - dg q (l - 1)) ≠ 0 := fun y => j3 (by rw [y]; exact shr_0)
        have i := ih _ _ _ _ hN
        have le : q (9 + (l - 1)) ≤ q (9 + (q 8 - 1)) := by
          by_cases e : l = q 8
          · rw [e]; omega
          · have := V.inc (i := l - 1) (j := q 8 - 1) (by omega) (by omega) (by omega); omega
        have : ((t + 1 : Nat) : Int) * q (9 + (q 8 - 1)) = t * q (9 + (q 8 - 1)) + q (9 + (q 8 - 1)) := by
          rw [Int.natCast_add, Int.add_mul]; simp
        omega
      · rw [pif_f h2] at j3; exact absurd rfl j3
    · rw [pif_f h1] at h; exact absurd rfl h
def JI (q co ca : Int → Int) (x : Int) (Pr : Int → Int → Int → Int → Int → Prop) (τ : Nat) (kn tr gr : Nat → Int64) : Prop :=
  (∀ s l c g : Int, (0 ≤ s ∧ s < q 0) → (0 ≤ l ∧ l ≤ q 8) → (0 ≤ c ∧ c ≤ mxC q) → (0 ≤ g ∧ g ≤ mxG q) → gr (plT q s l c g).toNat = jZ (pif (Pr s l c g τ) 0 (Nn q co ca x τ s l c g) + NP q co ca x Pr (τ + 1) s l c g)) ∧ tr 0 = jZ x ∧ (∀ s : Int, 1 ≤ s → s ≤ 40 → tr s.toNat = jZ (BX q co ca x Pr s)) ∧ kn 1 = jZ (sZ (fun s => BX q co ca x Pr (s + 1)) 40)
theorem JI_c {q co ca : Int → Int} (V : VS q) {x : Int} {Pr Pr' : Int → Int → Int → Int → Int → Prop} {τ : Nat} (h : ∀ s l c g (t : Nat), Nn q co ca x t s l c g ≠ 0 → s < q 0 → (Pr s l c g t ↔ Pr' s l c g t)) {kn tr gr : Nat → Int64} (J : JI q co ca x Pr τ kn tr gr) : JI q co ca x Pr' τ kn tr gr := by
  have e : NP q co ca x Pr = NP q co ca x Pr' := by
    funext t s l c g; exact NP_c3 V h t s l c g
  obtain ⟨j1, j2, j3, j4⟩ := J
  unfold BX at j3 j4
  rw [e] at j3 j4
  refine ⟨fun s l c g hs hl hc hg => ?_, j2, j3, j4⟩
  rw [j1 s l c g hs hl hc hg, e]
  congr 2
  by_cases h0 : Nn q co ca x τ s l c g = 0
  · rw [h0]
    have z : ∀ (B : Prop), pif B (0 : Int) 0 = 0 := fun B => by by_cases b : B; rw [pif_t b]; rw [pif_f b]
    rw [z, z]
  · exact pif_c (h s l c g τ h0 hs.2) (fun _ => rfl) (fun _ => rfl)
theorem JI_u {q co ca : Int → Int} (V : VS q) {x : Int} {Pr : Int → Int → Int → Int → Int → Prop} {τ : Nat} {S L C G : Int} (n : Nr q S L C G τ) (hS : S < q 0) (hn : ¬ Pr S L C G τ) (hz : NP q co ca x Pr (τ + 1) S L C G = 0) {kn tr gr : Nat → Int64} (J : JI q co ca x Pr τ kn tr gr) : JI q co ca x (fun s l c g t => Pr s l c g t ∨ (s = S ∧ l = L ∧ c = C ∧ g = G ∧ t = τ)) τ (up kn 1 (kn 1 + jZ (sZ (fun k => shr q z0 co ca S L C G τ k (Nn q co ca x τ S L C G)) (q 8)))) (aP tr (ixD q S) (fun k => shr q z0 co ca S L C G τ k (Nn q co ca x τ S L C G)) (q 8)) (aP (up gr (plT q S L C G).toNat (jZ 0)) (ixG q S C G) (fun k => pif (S + q (9 + k) < q 0) (shr q z0 co ca S L C G τ k (Nn q co ca x τ S L C G)) 0) (q 8)) := by
  obtain ⟨j1, j2, j3, j4⟩ := J
  obtain ⟨d1, d2, d3⟩ := DI_u V n hn (Lr := kn) (D := tr) (ix0 := 1) j2 j3 j4
  refine ⟨fun s l c g hs hl hc hg => ?_, d1, d2, d3⟩
  have n1 := n.1.1
  have pb := plT_b hs hl hc hg
  have pb0 := plT_b (q := q) (s := S) (l := L) (c := C) (g := G) (by omega) n.1.2.1 n.1.2.2.1 n.1.2.2.2
  have eN := NP_u (co := co) (ca := ca) V (x := x) n hn (τ + 1) s l c g
  have es : sZ (fun k => pif ((plT q s l c g).toNat = ixG q S C G k) (pif (S + q (9 + k) < q 0) (shr q z0 co ca S L C G τ k (Nn q co ca x τ S L C G)) 0) 0) (q 8) = sZ (fun k => pif (s = S + q (9 + k) ∧ l = k + 1 ∧ c = nxC q S C k ∧ g = nxG q G k ∧ ((τ + 1 : Nat) : Int) = τ + 1) (shr q z0 co ca S L C G τ k (Nn q co ca x τ S L C G)) 0) (q 8) := by
    refine sZ_c fun k k1 k2 => ?_
    have z : ∀ (B : Prop), pif B (0 : Int) 0 = 0 := fun B => by by_cases b : B; rw [pif_t b]; rw [pif_f b]
    by_cases h0 : shr q z0 co ca S L C G τ k (Nn q co ca x τ S L C G) = 0
    · rw [h0, z, z, z]
    · have m : May q z0 False S L C G τ k := Classical.byContradiction fun y => h0 (shr_m V ⟨k1, k2⟩ y)
      have nx := n.1.nx V k1 k2 m
      have vs := V.str k1 k2
      by_cases ht : S + q (9 + k) < q 0
      · rw [pif_t ht]
        have pbk := plT_b (q := q) (s := S + q (9 + k)) (l := k + 1) (c := nxC q S C k) (g := nxG q G k) (by omega) nx.2.1 nx.2.2.1 nx.2.2.2
        refine pif_c ⟨fun y => ?_, fun y => ?_⟩ (fun _ => rfl) (fun _ => rfl)
        · unfold ixG at y
          obtain ⟨b1, b2, b3, b4⟩ := plT_i (s := s) (s' := S + q (9 + k)) hl hc hg nx.2.1 nx.2.2.1 nx.2.2.2 (by omega)
          exact ⟨b1, b2, b3, b4, by omega⟩
        · obtain ⟨b1, b2, b3, b4, _⟩ := y
          unfold ixG
          rw [b1, b2, b3, b4]
      · rw [pif_f ht, z, pif_f (fun y => by omega)]
  rw [eN, ← es]
  unfold aP
  by_cases e0 : s = S ∧ l = L ∧ c = C ∧ g = G
  · obtain ⟨rfl, rfl, rfl, rfl⟩ := e0
    rw [up_e, pif_t (Or.inr ⟨rfl, rfl, rfl, rfl, rfl⟩), hz, jz_add]
    simp only [Int.zero_add, Int.add_zero]
  · have ne : (plT q s l c g).toNat ≠ (plT q S L C G).toNat := fun y => e0 (plT_i hl hc hg n.1.2.1 n.1.2.2.1 n.1.2.2.2 (by omega))
    rw [up_n _ _ ne, j1 s l c g hs hl hc hg, jz_add, ← Int.add_assoc]
    congr 3
    exact pif_c ⟨Or.inl, fun y => y.elim id (fun y => absurd ⟨y.1, y.2.1, y.2.2.1, y.2.2.2.1⟩ e0)⟩ (fun _ => rfl) (fun _ => rfl)
/-- ahead of a place in the class's order -/
def px (τ s0 L C G : Int) (s l c g t : Int) : Prop := t < τ ∨ (t = τ ∧ (s0 < s ∨ (s = s0 ∧ (l < L ∨ (l = L ∧ (c < C ∨ (c = C ∧ g < G)))))))
def PB (h : Hp) (o : Nat) (mo we pi : Nat → Int32) (pa : Nat → Int64) : Hp := wL (wI (wI (wI h 16 mo) 17 we) (o + 9) pi) 18 pa
theorem PB_w {h : Hp} {o : Nat} (t : TO o) {mo we pi we' : Nat → Int32} {pa pa' : Nat → Int64} : wL (wI (PB h o mo we pi pa) 17 we') 18 pa' = PB h o mo we' pi pa' := by
  unfold TO at t
  show wL (wL (wI (wI (wI (wI h 16 mo) 17 we) (o + 9) pi) 17 we') 18 pa) 18 pa' = _
  rw [wL_wL, wI_c _ _ _ (show o + 9 ≠ 17 by omega), wI_wI]
  rfl
theorem PB_f {h : Hp} {o : Nat} (t : TO o) {mo we pi P M : Nat → Int32} {pa kn tr gr : Nat → Int64} {G : Nat} {s b la cr g : Int} {S : Nat → Int32} : wI (wI (QH (PB h o mo we pi pa) G kn tr gr s b la cr g S) (o + 9) P) 16 M = QH (PB h o M we P pa) G kn tr gr s b la cr g S := by
  unfold TO at t
  show wI (wI (wI (wI (wL (wL (wL (wL (wI (wI (wI h 16 mo) 17 we) (o + 9) pi) 18 pa) 12 kn) 13 tr) G gr) 14 _) 15 S) (o + 9) P) 16 M = wI (wI (wL (wL (wL (wL (wI (wI (wI h 16 M) 17 we) (o + 9) P) 18 pa) 12 kn) 13 tr) G gr) 14 _) 15 S
  rw [wI_c _ _ _ (show 15 ≠ o + 9 by omega), wI_c _ _ _ (show 14 ≠ o + 9 by omega), wI_c _ _ _ (show 15 ≠ 16 by decide), wI_c _ _ _ (show 14 ≠ 16 by decide)]
  show wI (wI (wL (wL (wL (wL (wI (wI (wI (wI (wI h 16 mo) 17 we) (o + 9) pi) (o + 9) P) 16 M) 18 pa) 12 kn) 13 tr) G gr) 14 _) 15 S = _
  rw [wI_wI, wI_c _ _ _ (show o + 9 ≠ 16 by omega), wI_c _ _ _ (show 17 ≠ 16 by decide), wI_wI]
