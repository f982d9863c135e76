/-! the model's crowd goes -/
noncomputable def S4 (f : Int → Int → Int → Int → Int) : Int := sZ (fun l => sZ (fun c => sZ (fun g => sZ (fun t => f l c g t) 41) 5) 5) 7
theorem S4_c {f f' : Int → Int → Int → Int → Int} (h : ∀ l c g t, (0 ≤ l ∧ l < 7) → (0 ≤ c ∧ c < 5) → (0 ≤ g ∧ g < 5) → (0 ≤ t ∧ t < 41) → f l c g t = f' l c g t) : S4 f = S4 f' := sZ_c fun l l1 l2 => sZ_c fun c c1 c2 => sZ_c fun g g1 g2 => sZ_c fun t t1 t2 => h l c g t ⟨l1, l2⟩ ⟨c1, c2⟩ ⟨g1, g2⟩ ⟨t1, t2⟩
theorem S4_add (f f' : Int → Int → Int → Int → Int) : S4 (fun l c g t => f l c g t + f' l c g t) = S4 f + S4 f' := by
  unfold S4
  rw [← sZ_add]
  refine sZ_c fun l _ _ => ?_
  rw [← sZ_add]
  refine sZ_c fun c _ _ => ?_
  rw [← sZ_add]
  refine sZ_c fun g _ _ => ?_
  rw [← sZ_add]
theorem S4_k (f : Int → Int → Int → Int → Int → Int) (n : Int) : S4 (fun l c g t => sZ (fun k => f k l c g t) n) = sZ (fun k => S4 (f k)) n := by
  unfold S4
  rw [sZ_swap (fun k l => sZ (fun c => sZ (fun g => sZ (fun t => f k l c g t) 41) 5) 5) n 7]
  refine sZ_c fun l _ _ => ?_
  rw [sZ_swap (fun k c => sZ (fun g => sZ (fun t => f k l c g t) 41) 5) n 5]
  refine sZ_c fun c _ _ => ?_
  rw [sZ_swap (fun k g => sZ (fun t => f k l c g t) 41) n 5]
  refine sZ_c fun g _ _ => ?_
  exact sZ_swap (fun t k => f k l c g t) 41 n
theorem S4_z {f : Int → Int → Int → Int → Int} (h : ∀ l c g t, f l c g t = 0) : S4 f = 0 := sZ_z fun l _ _ => sZ_z fun c _ _ => sZ_z fun g _ _ => sZ_z fun t _ _ => h l c g t
theorem sZ_pt {n a y : Int} {B : Prop} {f : Int → Int} (h : 0 ≤ a ∧ a < n) (hf : ∀ i, f i = pif (i = a ∧ B) y 0) : sZ f n = pif B y 0 := by
  rw [sZ_o h (fun k _ _ hk => by rw [hf]; exact pif_f (fun z => hk z.1)), hf]
  exact pif_c ⟨fun z => z.2, fun z => ⟨rfl, z⟩⟩ (fun _ => rfl) (fun _ => rfl)
theorem S4_pt {L C G T y : Int} {B : Prop} {f : Int → Int → Int → Int → Int} (h1 : 0 ≤ L ∧ L < 7) (h2 : 0 ≤ C ∧ C < 5) (h3 : 0 ≤ G ∧ G < 5) (h4 : 0 ≤ T ∧ T < 41) (hf : ∀ l c g t, f l c g t = pif (B ∧ l = L ∧ c = C ∧ g = G ∧ t = T) y 0) : S4 f = pif B y 0 := by
  unfold S4
  refine sZ_pt h1 fun l => ?_
  refine sZ_pt (B := l = L ∧ B) h2 fun c => ?_
  refine sZ_pt (B := c = C ∧ l = L ∧ B) h3 fun g => ?_
  refine sZ_pt (B := g = G ∧ c = C ∧ l = L ∧ B) h4 fun t => ?_
  rw [hf]
  exact pif_c ⟨fun ⟨a, b, c, d, e⟩ => ⟨e, d, c, b, a⟩, fun ⟨e, d, c, b, a⟩ => ⟨a, b, c, d, e⟩⟩ (fun _ => rfl) (fun _ => rfl)
noncomputable def Trd (q co ca : Int → Int) (x s : Int) : Int := pif (s = 0) x (S4 fun l c g t => Nn q co ca x t.toNat s l c g)
noncomputable def Prc (q co ca : Int → Int) (x : Int) : Int := sZ (fun s => S4 fun l c g t => Nn q co ca x t.toNat (s + 1) l c g) 40
noncomputable def BX (q co ca : Int → Int) (x : Int) (Pr : Int → Int → Int → Int → Int → Prop) (s : Int) : Int := S4 fun l c g t => NP q co ca x Pr t.toNat s l c g
def CI (q co ca : Int → Int) (x : Int) (Pr : Int → Int → Int → Int → Int → Prop) (L D T : Nat → Int64) : Prop :=
  (∀ s l c g t : Int, (0 ≤ s ∧ s ≤ 40) → (0 ≤ l ∧ l < 7) → (0 ≤ c ∧ c < 5) → (0 ≤ g ∧ g < 5) → (0 ≤ t ∧ t < 41) → T (plc s l c g t).toNat = jZ (NP q co ca x Pr t.toNat s l c g)) ∧ D 0 = jZ x ∧ (∀ s : Int, 1 ≤ s → s ≤ 40 → D s.toNat = jZ (BX q co ca x Pr s)) ∧ L 30 = jZ (sZ (fun s => BX q co ca x Pr (s + 1)) 40)
theorem CI_c {q co ca : Int → Int} (V : VS q) {x : Int} {Pr Pr' : Int → Int → Int → Int → Int → Prop} (h : ∀ s l c g t, Nr q s l c g t → (Pr s l c g t ↔ Pr' s l c g t)) {L D T : Nat → Int64} (C : CI q co ca x Pr L D T) : CI q co ca x Pr' L D T := by
  have e : NP q co ca x Pr = NP q co ca x Pr' := by
    funext t s l c g; exact NP_c V h t s l c g
  unfold CI BX at *
  rw [e] at C
  exact C
theorem plc_x {s l c g t s' l' c' g' t' : Int} (a1 : 0 ≤ l ∧ l < 7) (a2 : 0 ≤ c ∧ c < 5) (a3 : 0 ≤ g ∧ g < 5) (a4 : 0 ≤ t ∧ t < 41) (a5 : 0 ≤ s) (b1 : 0 ≤ l' ∧ l' < 7) (b2 : 0 ≤ c' ∧ c' < 5) (b3 : 0 ≤ g' ∧ g' < 5) (b4 : 0 ≤ t' ∧ t' < 41) (b5 : 0 ≤ s') (e : (plc s l c g t).toNat = (plc s' l' c' g' t').toNat) : s = s' ∧ l = l' ∧ c = c' ∧ g = g' ∧ t = t' := by
  have p1 : 0 ≤ plc s l c g t := by unfold plc; omega
  have p2 : 0 ≤ plc s' l' c' g' t' := by unfold plc; omega
  have e' : plc s l c g t = plc s' l' c' g' t' := by omega
  unfold plc at e'
  obtain ⟨e1, e2⟩ := dm41 (by omega) (by omega) e'
  obtain ⟨e3, e4⟩ := dm5 (by omega) (by omega) e1
  obtain ⟨e5, e6⟩ := dm5 (by omega) (by omega) e3
  obtain ⟨e7, e8⟩ := dm7 (by omega) (by omega) e5
  exact ⟨e7, e8, e6, e4, e2⟩
theorem shr_n {q co ca : Int → Int} (V : VS q) {S L C G T k X : Int} (n : Nd q S L C G T) (hk : 0 ≤ k ∧ k < q 8) (h : shr q z0 co ca S L C G T k X ≠ 0) : (1 ≤ S + q (9 + k) ∧ S + q (9 + k) ≤ 40) ∧ (0 ≤ k + 1 ∧ k + 1 < 7) ∧ (0 ≤ nxC q S C k ∧ nxC q S C k < 5) ∧ (0 ≤ nxG q G k ∧ nxG q G k < 5) ∧ (0 ≤ T + 1 ∧ T + 1 < 41) := by
  have m : May q z0 False S L C G T k := Classical.byContradiction fun y => h (shr_m V hk y)
  have vs := V.str hk.1 hk.2
  have v1 := V.top
  have vn := V.n
  have vc := mxC_b V
  have vg := mxG_b V
  obtain ⟨a, b, c, e⟩ := n.nx V hk.1 hk.2 m
  have n1 := n.1
  exact ⟨by omega, by omega, by omega, by omega, by omega⟩
theorem BX_u {q co ca : Int → Int} (V : VS q) {x : Int} {Pr : Int → Int → Int → Int → Int → Prop} {S L C G : Int} {T : Nat} (n : Nr q S L C G T) (hn : ¬ Pr S L C G T) (s : Int) : BX q co ca x (fun s l c g t => Pr s l c g t ∨ (s = S ∧ l = L ∧ c = C ∧ g = G ∧ t = T)) s = BX q co ca x Pr s + sZ (fun k => pif (s = S + q (9 + k)) (shr q z0 co ca S L C G T k (Nn q co ca x T S L C G)) 0) (q 8) := by
  unfold BX
  have e : (S4 fun l c g t => NP q co ca x (fun s l c g t => Pr s l c g t ∨ (s = S ∧ l = L ∧ c = C ∧ g = G ∧ t = T)) t.toNat s l c g) = S4 fun l c g t => NP q co ca x Pr t.toNat s l c g + sZ (fun k => pif (s = S + q (9 + k) ∧ l = k + 1 ∧ c = nxC q S C k ∧ g = nxG q G k ∧ t = T + 1) (shr q z0 co ca S L C G T k (Nn q co ca x T S L C G)) 0) (q 8) := by
    refine S4_c fun l c g t _ _ _ ht => ?_
    rw [NP_u V n hn, show ((t.toNat : Nat) : Int) = t by omega]
  rw [e, S4_add, S4_k]
  congr 1
  refine sZ_c fun k k1 k2 => ?_
  by_cases h0 : shr q z0 co ca S L C G T k (Nn q co ca x T S L C G) = 0
  · rw [h0]
    have z : ∀ (B : Prop), pif B (0 : Int) 0 = 0 := fun B => by by_cases b : B; rw [pif_t b]; rw [pif_f b]
    rw [z, S4_z (fun l c g t => z _)]
  · obtain ⟨a1, a2, a3, a4, a5⟩ := shr_n V n.1 ⟨k1, k2⟩ h0
    exact S4_pt a2 a3 a4 a5 (fun l c g t => rfl)
theorem CI_u {q co ca : Int → Int} (V : VS q) {x : Int} {Pr : Int → Int → Int → Int → Int → Prop} {S L C G : Int} {T0 : Nat} (n : Nr q S L C G T0) (hn : ¬ Pr S L C G T0) {Lr D T : Nat → Int64} (I : CI q co ca x Pr Lr D T) : CI q co ca x (fun s l c g t => Pr s l c g t ∨ (s = S ∧ l = L ∧ c = C ∧ g = G ∧ t = T0)) (up Lr 30 (Lr 30 + jZ (sZ (fun k => shr q z0 co ca S L C G T0 k (Nn q co ca x T0 S L C G)) (q 8)))) (aP D (ixD q S) (fun k => shr q z0 co ca S L C G T0 k (Nn q co ca x T0 S L C G)) (q 8)) (aP T (ixT q S C G T0) (fun k => shr q z0 co ca S L C G T0 k (Nn q co ca x T0 S L C G)) (q 8)) := by
  obtain ⟨i1, i2, i3, i4⟩ := I
  have n1 := n.1.1
  refine ⟨?_, ?_, ?_, ?_⟩
  · intro s l c g t hs hl hc hg ht
    unfold aP
    rw [i1 s l c g t hs hl hc hg ht, jz_add, NP_u V n hn]
    congr 2
    refine sZ_c fun k k1 k2 => ?_
    show pif ((plc s l c g t).toNat = ixT q S C G T0 k) (shr q z0 co ca S L C G T0 k (Nn q co ca x T0 S L C G)) 0 = _
    by_cases h0 : shr q z0 co ca S L C G T0 k (Nn q co ca x T0 S L C G) = 0
    · rw [h0]
      have z : ∀ (B : Prop), pif B (0 : Int) 0 = 0 := fun B => by by_cases b : B; rw [pif_t b]; rw [pif_f b]
      rw [z, z]
    · obtain ⟨a1, a2, a3, a4, a5⟩ := shr_n V n.1 ⟨k1, k2⟩ h0
      refine pif_c ⟨fun y => ?_, fun y => ?_⟩ (fun _ => rfl) (fun _ => rfl)
      · obtain ⟨b1, b2, b3, b4, b5⟩ := plc_x hl hc hg ht hs.1 a2 a3 a4 a5 (by omega) y
        exact ⟨b1, b2, b3, b4, by omega⟩
      · obtain ⟨b1, b2, b3, b4, b5⟩ := y
        unfold ixT
        rw [b1, b2, b3, b4, show t = (T0 : Int) + 1 by omega]
  · unfold aP
    rw [i2, sZ_z (fun k k1 k2 => ?_), jz_add, Int.add_zero]
    have vs := V.str k1 k2
    exact pif_f (fun y => by unfold ixD at y; omega)
  · intro s s1 s2
    unfold aP
    rw [i3 s s1 s2, BX_u V n hn, jz_add]
    congr 2
    refine sZ_c fun k k1 k2 => ?_
    have vs := V.str k1 k2
    exact pif_c ⟨fun y => by unfold ixD at y; omega, fun y => by unfold ixD; omega⟩ (fun _ => rfl) (fun _ => rfl)
  · rw [up_e, i4, jz_add]
    have e : sZ (fun s => BX q co ca x (fun s l c g t => Pr s l c g t ∨ (s = S ∧ l = L ∧ c = C ∧ g = G ∧ t = T0)) (s + 1)) 40 = sZ (fun s => BX q co ca x Pr (s + 1) + sZ (fun k => pif (s + 1 = S + q (9 + k)) (shr q z0 co ca S L C G T0 k (Nn q co ca x T0 S L C G)) 0) (q 8)) 40 := sZ_c fun s _ _ => BX_u V n hn (s + 1)
    have e2 : sZ (fun s => sZ (fun k => pif (s + 1 = S + q (9 + k)) (shr q z0 co ca S L C G T0 k (Nn q co ca x T0 S L C G)) 0) (q 8)) 40 = sZ (fun k => shr q z0 co ca S L C G T0 k (Nn q co ca x T0 S L C G)) (q 8) := by
      rw [sZ_swap]
      refine sZ_c fun k k1 k2 => ?_
      by_cases h0 : shr q z0 co ca S L C G T0 k (Nn q co ca x T0 S L C G) = 0
      · rw [h0]
        have z : ∀ (B : Prop), pif B (0 : Int) 0 = 0 := fun B => by by_cases b : B; rw [pif_t b]; rw [pif_f b]
        exact sZ_z fun s _ _ => z _
      · obtain ⟨a1, _⟩ := shr_n V n.1 ⟨k1, k2⟩ h0
        have := sZ_pt (n := 40) (a := S + q (9 + k) - 1) (y := shr q z0 co ca S L C G T0 k (Nn q co ca x T0 S L C G)) (B := True) (f := fun s => pif (s + 1 = S + q (9 + k)) (shr q z0 co ca S L C G T0 k (Nn q co ca x T0 S L C G)) 0) (by omega) (fun s => pif_c ⟨fun y => ⟨by omega, trivial⟩, fun y => by have := y.1; omega⟩ (fun _ => rfl) (fun _ => rfl))
        rw [this, pif_t trivial]
    rw [e, sZ_add, e2]
/-- ahead of a place in the model's order -/
def lx (S L C G T : Int) (s l c g t : Int) : Prop := s < S ∨ (s = S ∧ (l < L ∨ (l = L ∧ (c < C ∨ (c = C ∧ (g < G ∨ (g = G ∧ t < T)))))))
theorem CI_e {q co ca : Int → Int} (V : VS q) {x : Int} {Lr D T : Nat → Int64} (I : CI q co ca x (lx (q 0) 0 0 0 0) Lr D T) : (∀ s : Int, 0 ≤ s → s ≤ 40 → D s.toNat = jZ (Trd q co ca x s)) ∧ Lr 30 = jZ (Prc q co ca x) := by
  have e : ∀ (t : Nat) (s l c g : Int), NP q co ca x (lx (q 0) 0 0 0 0) t s l c g = Nn q co ca x t s l c g := by
    intro t s l c g
    by_cases hs : s ≤ q 0
    · exact NP_f V (fun s' l' c' g' t' _ h _ => Or.inl (by omega))
    · have a : NP q co ca x (lx (q 0) 0 0 0 0) t s l c g = 0 := Classical.byContradiction fun y => by have := (NP_nz V y).1.1; omega
      have b : Nn q co ca x t s l c g = 0 := Classical.byContradiction fun y => by have := (Nn_o V _ _ _ _ _ y).1.1; omega
      rw [a, b]
  have e' : NP q co ca x (lx (q 0) 0 0 0 0) = Nn q co ca x := by
    funext t s l c g; exact e t s l c g
  obtain ⟨i1, i2, i3, i4⟩ := I
  unfold BX at i3 i4
  rw [e'] at i3 i4
  refine ⟨fun s s1 s2 => ?_, i4⟩
  unfold Trd
  by_cases h0 : s = 0
  · rw [pif_t h0, h0]; exact i2
  · rw [pif_f h0]; exact i3 s (by omega) s2
theorem m_goesL (d : Nat) {h : Hp} (S : SM h) (V : VS (rz h 74)) (LW0 : LW (rz h 74) (rz h 75) (rz h 76)) (Du : hI h 68 24 = 0) {x : Int} (hx : 0 ≤ x ∧ x ≤ 1000000000000) : ∀ (s : Int), 0 ≤ s ∧ s ≤ rz h 74 0 → ∀ F P L D T, CI (rz h 74) (rz h 75) (rz h 76) x (lx s 0 0 0 0) L D T → ∃ F' P' L' D' T', L_M_goesCrowd_73 (d + 6) 68 (iZ s) (MC h F P L D T) = some (none, MC h F' P' L' D' T') ∧ CI (rz h 74) (rz h 75) (rz h 76) x (lx (rz h 74 0) 0 0 0 0) L' D' T' := by
  have e74 : ∀ {F P L D T}, rz (MC h F P L D T) 74 = rz h 74 := fun {_ _ _ _ _} => MC_z (by decide)
  have V' : ∀ {F P L D T}, VS (rz (MC h F P L D T) 74) := fun {_ _ _ _ _} => by rw [e74]; exact V
  have S' : ∀ {F P L D T}, SM (MC h F P L D T) := fun {_ _ _ _ _} => S
  obtain ⟨q, hq⟩ : ∃ q, q = rz h 74 := ⟨_, rfl⟩
  obtain ⟨co, hco⟩ : ∃ co, co = rz h 75 := ⟨_, rfl⟩
  obtain ⟨ca, hca⟩ : ∃ ca, ca = rz h 76 := ⟨_, rfl⟩
  have mp := fun (F P : Nat → Int32) (L D T : Nat → Int64) (s l c g t x' : Int) => m_parts d S V LW0 Du (F := F) (P := P) (L := L) (D := D) (T := T) (s := s) (l := l) (c := c) (g := g) (t := t) (x := x')
  rw [← hq, ← hco, ← hca] at mp
  rw [← hq] at V e74 ⊢
  rw [← hco, ← hca]
  have v1 := V.top
  have vn := V.n
  have vc := mxC_b V
  have vg := mxG_b V
  refine lpZ (q 0) (fun s hs hb F P L D T I => ?_) (fun s hs ih hb F P L D T I => ?_)
  · rw [e_M_goesCrowd_73, m_steps (d + 5) S', bI_s, e74]
    simp (disch := omega) only [lit32, litJ, iz_add, iz_sub, iz_mul, iz_neg, nI_iz, ix_iz, inb_iz, ifp_t, ifp_f, ifp_T, ifp_F, iz_eq, iz_lt, bI_s, bL_s, bV_s, bR_s]
    rw [show s = q 0 by omega] at I
    exact ⟨F, P, L, D, T, rfl, I⟩
  · have l84 : ∀ l, 0 ≤ l ∧ l ≤ q 8 + 1 → ∀ F P L D T, CI q co ca x (lx s l 0 0 0) L D T → ∃ F' P' L' D' T', L_M_goesCrowd_84 (d + 6) 68 (iZ s) (iZ l) (MC h F P L D T) = some (none, MC h F' P' L' D' T') ∧ CI q co ca x (lx (q 0) 0 0 0 0) L' D' T' := by
      refine lpZ (q 8 + 1) (fun l hl hlb F P L D T I => ?_) (fun l hl ihl hlb F P L D T I => ?_)
      · rw [e_M_goesCrowd_84, m_strides (d + 5) S', bI_s, e74]
        simp (disch := omega) only [lit32, litJ, iz_add, iz_sub, iz_mul, iz_neg, nI_iz, ix_iz, inb_iz, ifp_t, ifp_f, ifp_T, ifp_F, iz_eq, iz_lt, bI_s, bL_s, bV_s, bR_s]
        exact ih (by omega) F P L D T (CI_c V (fun s' l' c' g' t' n => by obtain ⟨⟨_, _, _, _⟩, _⟩ := n; unfold lx; omega) I)
      · have l96 : ∀ c, 0 ≤ c ∧ c ≤ mxC q + 1 → ∀ F P L D T, CI q co ca x (lx s l c 0 0) L D T → ∃ F' P' L' D' T', L_M_goesCrowd_96 (d + 6) 68 (iZ s) (iZ l) (iZ c) (MC h F P L D T) = some (none, MC h F' P' L' D' T') ∧ CI q co ca x (lx (q 0) 0 0 0 0) L' D' T' := by
          refine lpZ (mxC q + 1) (fun c hc hcb F P L D T I => ?_) (fun c hc ihc hcb F P L D T I => ?_)
          · rw [e_M_goesCrowd_96, m_mostCreaks (d + 5) S' V', bI_s, e74]
            simp (disch := omega) only [lit32, litJ, iz_add, iz_sub, iz_mul, iz_neg, nI_iz, ix_iz, inb_iz, ifp_t, ifp_f, ifp_T, ifp_F, iz_eq, iz_lt, bI_s, bL_s, bV_s, bR_s]
            exact ihl (by omega) F P L D T (CI_c V (fun s' l' c' g' t' n => by obtain ⟨⟨_, _, _, _⟩, _⟩ := n; unfold lx; omega) I)
          · have l108 : ∀ g, 0 ≤ g ∧ g ≤ mxG q + 1 → ∀ F P L D T, CI q co ca x (lx s l c g 0) L D T → ∃ F' P' L' D' T', L_M_goesCrowd_108 (d + 6) 68 (iZ s) (iZ l) (iZ c) (iZ g) (MC h F P L D T) = some (none, MC h F' P' L' D' T') ∧ CI q co ca x (lx (q 0) 0 0 0 0) L' D' T' := by
              refine lpZ (mxG q + 1) (fun g hg hgb F P L D T I => ?_) (fun g hg ihg hgb F P L D T I => ?_)
              · rw [e_M_goesCrowd_108, m_mostGreats (d + 5) S' V', bI_s, e74]
                simp (disch := omega) only [lit32, litJ, iz_add, iz_sub, iz_mul, iz_neg, nI_iz, ix_iz, inb_iz, ifp_t, ifp_f, ifp_T, ifp_F, iz_eq, iz_lt, bI_s, bL_s, bV_s, bR_s]
                exact ihc (by omega) F P L D T (CI_c V (fun s' l' c' g' t' n => by obtain ⟨⟨_, _, _, _⟩, _⟩ := n; unfold lx; omega) I)
              · have l120 : ∀ t, 0 ≤ t ∧ t ≤ s + 1 → ∀ F P L D T, CI q co ca x (lx s l c g t) L D T → ∃ F' P' L' D' T', L_M_goesCrowd_120 (d + 6) 68 (iZ s) (iZ l) (iZ c) (iZ g) (iZ t) (MC h F P L D T) = some (none, MC h F' P' L' D' T') ∧ CI q co ca x (lx (q 0) 0 0 0 0) L' D' T' := by
                  refine lpZ (s + 1) (fun t ht htb F P L D T I => ?_) (fun t ht iht htb F P L D T I => ?_)
                  · rw [e_M_goesCrowd_120]
                    simp (disch := omega) only [lit32, litJ, iz_add, iz_sub, iz_mul, iz_neg, nI_iz, ix_iz, inb_iz, ifp_t, ifp_f, ifp_T, ifp_F, iz_eq, iz_lt, bI_s, bL_s, bV_s, bR_s]
                    exact ihg (by omega) F P L D T (CI_c V (fun s' l' c' g' t' n => by obtain ⟨⟨_, _, _, _⟩, _⟩ := n; unfold lx; omega) I)
                  · have nd : Nd q s l c g t := ⟨by omega, by omega, by omega, by omega⟩
                    have pb := plc_b V nd
                    have tv := I.1 s l c g t (by omega) (by omega) (by omega) (by omega) (by omega)
                    have et : ((t.toNat : Nat) : Int) = t := by omega
                    rw [e_M_goesCrowd_120, S'.r 23 81, bR_s, m_placeOf, bI_s]
                    simp (disch := omega) only [lit32, litJ, iz_add, iz_sub, iz_mul, iz_neg, nI_iz, ix_iz, inb_iz, ifp_t, ifp_f, ifp_T, ifp_F, iz_eq, iz_lt, bI_s, bL_s, bV_s, bR_s, S'.n 81 294175, MC_T]
                    rw [tv]
                    by_cases hr : Nr q s l c g t
                    · have ef : NP q co ca x (lx s l c g t) t.toNat s l c g = Nn q co ca x t.toNat s l c g := NP_f V (fun s' l' c' g' t' _ h _ => Or.inl h)
                      rw [ef] at tv ⊢
                      have nb := Nn_b (co := co) (ca := ca) V hx.1 t.toNat s l c g
                      have hr' : Nr q s l c g (t.toNat : Nat) := by rw [et]; exact hr
                      have I2 := CI_u V hr' (by rw [et]; unfold lx; omega) I
                      rw [et] at I2
                      have I3 := CI_c V (Pr' := lx s l c g (t + 1)) (fun s' l' c' g' t' _ => by unfold lx; omega) I2
                      by_cases h0 : 0 < Nn q co ca x t.toNat s l c g
                      · rw [ifp_t ((cmp_gt (by omega)).mpr h0)]
                        obtain ⟨F1, P1, e1⟩ := mp F P L D T s l c g t (Nn q co ca x t.toNat s l c g) nd (by omega) tv
                        rw [e1, bV_s]
                        exact iht (by omega) _ _ _ _ _ I3
                      · rw [ifp_f (fun y => h0 ((cmp_gt (by omega)).mp y))]
                        have e0 : Nn q co ca x t.toNat s l c g = 0 := by omega
                        rw [e0] at I3
                        rw [aP_z D _ (fun k _ _ => shr_0), aP_z T _ (fun k _ _ => shr_0), sZ_z (fun k _ _ => shr_0), up_0] at I3
                        exact iht (by omega) _ _ _ _ _ I3
                    · have e0 : NP q co ca x (lx s l c g t) t.toNat s l c g = 0 := Classical.byContradiction fun y => hr (by have := NP_nz V y; rw [et] at this; exact this)
                      rw [e0, ifp_f (fun y => by have := (cmp_gt (by omega)).mp y; omega)]
                      refine iht (by omega) _ _ _ _ _ (CI_c V (fun s' l' c' g' t' n => ?_) I)
                      have : ¬ (s' = s ∧ l' = l ∧ c' = c ∧ g' = g ∧ t' = t) := fun ⟨a1, a2, a3, a4, a5⟩ => hr (by rw [← a1, ← a2, ← a3, ← a4, ← a5]; exact n)
                      unfold lx; omega
                rw [e_M_goesCrowd_108, m_mostGreats (d + 5) S' V', bI_s, e74]
                simp (disch := omega) only [lit32, litJ, iz_add, iz_sub, iz_mul, iz_neg, nI_iz, ix_iz, inb_iz, ifp_t, ifp_f, ifp_T, ifp_F, iz_eq, iz_lt, bI_s, bL_s, bV_s, bR_s]
                exact l120 0 (by omega) F P L D T I
            rw [e_M_goesCrowd_96, m_mostCreaks (d + 5) S' V', bI_s, e74]
            simp (disch := omega) only [lit32, litJ, iz_add, iz_sub, iz_mul, iz_neg, nI_iz, ix_iz, inb_iz, ifp_t, ifp_f, ifp_T, ifp_F, iz_eq, iz_lt, bI_s, bL_s, bV_s, bR_s]
            exact l108 0 (by omega) F P L D T I
        rw [e_M_goesCrowd_84, m_strides (d + 5) S', bI_s, e74]
        simp (disch := omega) only [lit32, litJ, iz_add, iz_sub, iz_mul, iz_neg, nI_iz, ix_iz, inb_iz, ifp_t, ifp_f, ifp_T, ifp_F, iz_eq, iz_lt, bI_s, bL_s, bV_s, bR_s]
        exact l96 0 (by omega) F P L D T I
    rw [e_M_goesCrowd_73, m_steps (d + 5) S', bI_s, e74]
    simp (disch := omega) only [lit32, litJ, iz_add, iz_sub, iz_mul, iz_neg, nI_iz, ix_iz, inb_iz, ifp_t, ifp_f, ifp_T, ifp_F, iz_eq, iz_lt, bI_s, bL_s, bV_s, bR_s]
    exact l84 0 (by omega) F P L D T I
