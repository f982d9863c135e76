/-! rows of a heap, changed as a whole -/
def wI (h : Hp) (r : Nat) (f : Nat → Int32) : Hp := (fun a b => if a = r then f b else h.1 a b, h.2)
def wL (h : Hp) (r : Nat) (f : Nat → Int64) : Hp := (h.1, fun a b => if a = r then f b else h.2.1 a b, h.2.2)
def up {α : Type} (f : Nat → α) (k : Nat) (v : α) : Nat → α := fun b => if b = k then v else f b
theorem up_e {α : Type} (f : Nat → α) (k : Nat) (v : α) : up f k v k = v := if_pos rfl
theorem up_n {α : Type} (f : Nat → α) {k j : Nat} (v : α) (h : j ≠ k) : up f k v j = f j := if_neg h
theorem wI_I (h : Hp) (r : Nat) (f : Nat → Int32) : hI (wI h r f) r = f := by funext k; exact if_pos rfl
theorem wI_n (h : Hp) {r a : Nat} (f : Nat → Int32) (q : a ≠ r) : hI (wI h r f) a = hI h a := by funext k; exact if_neg q
theorem wL_L (h : Hp) (r : Nat) (f : Nat → Int64) : hL (wL h r f) r = f := by funext k; exact if_pos rfl
theorem wL_n (h : Hp) {r a : Nat} (f : Nat → Int64) (q : a ≠ r) : hL (wL h r f) a = hL h a := by funext k; exact if_neg q
theorem wL_I (h : Hp) (r : Nat) (f : Nat → Int64) : hI (wL h r f) = hI h := rfl
theorem wI_L (h : Hp) (r : Nat) (f : Nat → Int32) : hL (wI h r f) = hL h := rfl
theorem wL_R (h : Hp) (r : Nat) (f : Nat → Int64) : hR (wL h r f) = hR h := rfl
theorem wI_R (h : Hp) (r : Nat) (f : Nat → Int32) : hR (wI h r f) = hR h := rfl
theorem wL_N (h : Hp) (r : Nat) (f : Nat → Int64) : hN (wL h r f) = hN h := rfl
theorem wI_N (h : Hp) (r : Nat) (f : Nat → Int32) : hN (wI h r f) = hN h := rfl
theorem wL_rz (h : Hp) (r : Nat) (f : Nat → Int64) : rz (wL h r f) = rz h := rfl
theorem wI_rz (h : Hp) {r a : Nat} (f : Nat → Int32) (q : a ≠ r) : rz (wI h r f) a = rz h a := by funext z; unfold rz; rw [wI_n h f q]
theorem wL_Dst (h : Hp) (r : Nat) (f : Nat → Int64) : Dst (wL h r f) = Dst h := rfl
theorem wI_self (h : Hp) (r : Nat) : wI h r (hI h r) = h := by
  refine Prod.ext ?_ rfl
  funext a b
  show (if a = r then h.1 r b else h.1 a b) = h.1 a b
  by_cases e : a = r
  · rw [if_pos e, e]
  · rw [if_neg e]
theorem wL_self (h : Hp) (r : Nat) : wL h r (hL h r) = h := by
  refine Prod.ext rfl (Prod.ext ?_ rfl)
  funext a b
  show (if a = r then h.2.1 r b else h.2.1 a b) = h.2.1 a b
  by_cases e : a = r
  · rw [if_pos e, e]
  · rw [if_neg e]
theorem sI_wI (h : Hp) (r k : Nat) (f : Nat → Int32) (v : Int32) : sI (wI h r f) r k v = wI h r (up f k v) := by
  refine Prod.ext ?_ rfl
  funext a b
  show (if a = r ∧ b = k then v else if a = r then f b else h.1 a b) = if a = r then (if b = k then v else f b) else h.1 a b
  by_cases e : a = r <;> by_cases e' : b = k <;> simp [e, e']
theorem sL_wL (h : Hp) (r k : Nat) (f : Nat → Int64) (v : Int64) : sL (wL h r f) r k v = wL h r (up f k v) := by
  refine Prod.ext rfl (Prod.ext ?_ rfl)
  funext a b
  show (if a = r ∧ b = k then v else if a = r then f b else h.2.1 a b) = if a = r then (if b = k then v else f b) else h.2.1 a b
  by_cases e : a = r <;> by_cases e' : b = k <;> simp [e, e']
theorem sI_w (h : Hp) (r k : Nat) (v : Int32) : sI h r k v = wI h r (up (hI h r) k v) := by
  rw [← sI_wI, wI_self]
theorem sL_w (h : Hp) (r k : Nat) (v : Int64) : sL h r k v = wL h r (up (hL h r) k v) := by
  rw [← sL_wL, wL_self]
theorem wI_wI (h : Hp) (r : Nat) (f g : Nat → Int32) : wI (wI h r f) r g = wI h r g := by
  refine Prod.ext ?_ rfl
  funext a b
  show (if a = r then g b else if a = r then f b else h.1 a b) = if a = r then g b else h.1 a b
  by_cases e : a = r <;> simp [e]
theorem wL_wL (h : Hp) (r : Nat) (f g : Nat → Int64) : wL (wL h r f) r g = wL h r g := by
  refine Prod.ext rfl (Prod.ext ?_ rfl)
  funext a b
  show (if a = r then g b else if a = r then f b else h.2.1 a b) = if a = r then g b else h.2.1 a b
  by_cases e : a = r <;> simp [e]
theorem wI_c (h : Hp) {r s : Nat} (f g : Nat → Int32) (q : r ≠ s) : wI (wI h r f) s g = wI (wI h s g) r f := by
  refine Prod.ext ?_ rfl
  funext a b
  show (if a = s then g b else if a = r then f b else h.1 a b) = if a = r then f b else if a = s then g b else h.1 a b
  by_cases e : a = s
  · subst e; simp [Ne.symm q]
  · simp [e]
theorem wL_c (h : Hp) {r s : Nat} (f g : Nat → Int64) (q : r ≠ s) : wL (wL h r f) s g = wL (wL h s g) r f := by
  refine Prod.ext rfl (Prod.ext ?_ rfl)
  funext a b
  show (if a = s then g b else if a = r then f b else h.2.1 a b) = if a = r then f b else if a = s then g b else h.2.1 a b
  by_cases e : a = s
  · subst e; simp [Ne.symm q]
  · simp [e]
theorem wI_wL (h : Hp) (r s : Nat) (f : Nat → Int32) (g : Nat → Int64) : wI (wL h s g) r f = wL (wI h r f) s g := rfl
/-! sums -/
def smN' (f : Int → Int) : Nat → Int
  | 0 => 0
  | n + 1 => smN' f n + f n
def sZ (f : Int → Int) (k : Int) : Int := smN' f k.toNat
theorem sZ_0 (f : Int → Int) {k : Int} (h : k ≤ 0) : sZ f k = 0 := by
  unfold sZ; rw [show k.toNat = 0 by omega]; rfl
theorem sZ_s (f : Int → Int) {k : Int} (h : 0 ≤ k) : sZ f (k + 1) = sZ f k + f k := by
  unfold sZ; rw [show (k + 1).toNat = k.toNat + 1 by omega, smN', show ((k.toNat : Nat) : Int) = k by omega]
theorem upZ {P : Int → Prop} (h0 : P 0) (hs : ∀ k, 0 ≤ k → P k → P (k + 1)) : ∀ k, 0 ≤ k → P k := by
  have key : ∀ n : Nat, P n := by
    intro n
    induction n with
    | zero => exact h0
    | succ n ih => exact hs n (by omega) ih
  intro k hk
  have := key k.toNat
  rwa [show ((k.toNat : Nat) : Int) = k by omega] at this
theorem sZ_c {f g : Int → Int} {n : Int} (h : ∀ k, 0 ≤ k → k < n → f k = g k) : sZ f n = sZ g n := by
  by_cases hn : 0 ≤ n
  · have : ∀ m, 0 ≤ m → m ≤ n → sZ f m = sZ g m := by
      refine upZ (fun _ => ?_) (fun k hk ih hle => ?_)
      · rw [sZ_0 f (by omega), sZ_0 g (by omega)]
      · rw [sZ_s f hk, sZ_s g hk, ih (by omega), h k hk (by omega)]
    exact this n hn (by omega)
  · rw [sZ_0 f (by omega), sZ_0 g (by omega)]
theorem sZ_le {f g : Int → Int} {n : Int} (h : ∀ k, 0 ≤ k → k < n → f k ≤ g k) : sZ f n ≤ sZ g n := by
  by_cases hn : 0 ≤ n
  · have : ∀ m, 0 ≤ m → m ≤ n → sZ f m ≤ sZ g m := by
      refine upZ (fun _ => ?_) (fun k hk ih hle => ?_)
      · rw [sZ_0 f (by omega), sZ_0 g (by omega)]; omega
      · have := ih (by omega)
        have := h k hk (by omega)
        rw [sZ_s f hk, sZ_s g hk]; omega
    exact this n hn (by omega)
  · rw [sZ_0 f (by omega), sZ_0 g (by omega)]; omega
theorem sZ_nn {f : Int → Int} {n : Int} (h : ∀ k, 0 ≤ k → k < n → 0 ≤ f k) : 0 ≤ sZ f n := by
  have z : ∀ m, sZ (fun _ => 0) m = 0 := by
    intro m
    by_cases hm : 0 ≤ m
    · exact upZ (P := fun m => sZ (fun _ => 0) m = 0) (sZ_0 _ (by omega)) (fun k hk ih => by show sZ _ (k + 1) = 0; rw [sZ_s _ hk, ih]; rfl) m hm
    · exact sZ_0 _ (by omega)
  have := sZ_le (f := fun _ => 0) (g := f) (n := n) h
  rw [z] at this
  exact this
/-- a choice of numbers -/
noncomputable def pif (c : Prop) (a b : Int) : Int := @ite _ c (Classical.propDecidable c) a b
theorem pif_t {c : Prop} {a b : Int} (h : c) : pif c a b = a := if_pos h
theorem pif_f {c : Prop} {a b : Int} (h : ¬ c) : pif c a b = b := if_neg h
theorem pif_c {c c' : Prop} {a b a' b' : Int} (h : c ↔ c') (h1 : c → a = a') (h2 : ¬ c → b = b') : pif c a b = pif c' a' b' := by
  by_cases q : c
  · rw [pif_t q, pif_t (h.mp q), h1 q]
  · rw [pif_f q, pif_f (fun z => q (h.mpr z)), h2 q]
/-! ways: how many go on from a node (step, last + 1 by its place, creaks, greats, strides) -/
noncomputable def Wf (q v : Int → Int) (u : Prop) (e : Int → Prop) : Nat → Int → Int → Int → Int → Int → Int
  | 0, _, _, _, _, _ => 0
  | n + 1, s, l, c, g, t => pif (s = q 0) (pif (e t) 1 0) (sZ (fun k => pif (May q v u s l c g t k) (Wf q v u e n (s + q (9 + k)) (k + 1) (nxC q s c k) (nxG q g k) (t + 1)) 0) (q 8))
noncomputable def Wy (q v : Int → Int) (u : Prop) (e : Int → Prop) : Int → Int → Int → Int → Int → Int := Wf q v u e 41
theorem Wf_s {q v : Int → Int} (V : VS q) {u : Prop} {e : Int → Prop} : ∀ (n : Nat) (s l c g t : Int), s ≤ q 0 → q 0 - s < n → Wf q v u e n s l c g t = Wf q v u e (n + 1) s l c g t := by
  intro n
  induction n with
  | zero => intro s l c g t h1 h2; omega
  | succ n ih =>
    intro s l c g t h1 h2
    rw [Wf, Wf]
    refine pif_c Iff.rfl (fun _ => rfl) (fun hs => sZ_c fun k k1 k2 => pif_c Iff.rfl (fun hm => ?_) (fun _ => rfl))
    have := V.str k1 k2
    exact ih _ _ _ _ _ hm.1 (by omega)
theorem Wy_e {q v : Int → Int} (V : VS q) {u : Prop} {e : Int → Prop} {s l c g t : Int} (h0 : 0 ≤ s) (h1 : s ≤ q 0) : Wy q v u e s l c g t = pif (s = q 0) (pif (e t) 1 0) (sZ (fun k => pif (May q v u s l c g t k) (Wy q v u e (s + q (9 + k)) (k + 1) (nxC q s c k) (nxG q g k) (t + 1)) 0) (q 8)) := by
  have v1 := V.top
  show Wf q v u e 41 s l c g t = _
  rw [Wf]
  refine pif_c Iff.rfl (fun _ => rfl) (fun hs => sZ_c fun k k1 k2 => pif_c Iff.rfl (fun hm => ?_) (fun _ => rfl))
  have := V.str k1 k2
  exact Wf_s V _ _ _ _ _ _ hm.1 (by omega)
/-- whether who is next wins -/
noncomputable def Gmf (q v : Int → Int) (u : Prop) : Nat → Int → Int → Int → Int → Int → Prop
  | 0, _, _, _, _, _ => False
  | n + 1, s, l, c, g, t => ∃ k, 0 ≤ k ∧ k < q 8 ∧ May q v u s l c g t k ∧ (s + q (9 + k) = q 0 ∨ ¬ Gmf q v u n (s + q (9 + k)) (k + 1) (nxC q s c k) (nxG q g k) (t + 1))
noncomputable def Gm (q v : Int → Int) (u : Prop) : Int → Int → Int → Int → Int → Prop := Gmf q v u 41
theorem Gmf_s {q v : Int → Int} (V : VS q) {u : Prop} : ∀ (n : Nat) (s l c g t : Int), s ≤ q 0 → q 0 - s < n → (Gmf q v u n s l c g t ↔ Gmf q v u (n + 1) s l c g t) := by
  intro n
  induction n with
  | zero => intro s l c g t h1 h2; omega
  | succ n ih =>
    intro s l c g t h1 h2
    rw [Gmf, Gmf]
    constructor
    · rintro ⟨k, k1, k2, k3, k4⟩
      have := V.str k1 k2
      refine ⟨k, k1, k2, k3, ?_⟩
      rcases k4 with k4 | k4
      · exact Or.inl k4
      · exact Or.inr fun z => k4 ((ih _ _ _ _ _ k3.1 (by omega)).mpr z)
    · rintro ⟨k, k1, k2, k3, k4⟩
      have := V.str k1 k2
      refine ⟨k, k1, k2, k3, ?_⟩
      rcases k4 with k4 | k4
      · exact Or.inl k4
      · exact Or.inr fun z => k4 ((ih _ _ _ _ _ k3.1 (by omega)).mp z)
theorem Gm_e {q v : Int → Int} (V : VS q) {u : Prop} {s l c g t : Int} (h0 : 0 ≤ s) (h1 : s ≤ q 0) : Gm q v u s l c g t ↔ ∃ k, 0 ≤ k ∧ k < q 8 ∧ May q v u s l c g t k ∧ (s + q (9 + k) = q 0 ∨ ¬ Gm q v u (s + q (9 + k)) (k + 1) (nxC q s c k) (nxG q g k) (t + 1)) := by
  have v1 := V.top
  show Gmf q v u 41 s l c g t ↔ _
  rw [Gmf]
  constructor
  · rintro ⟨k, k1, k2, k3, k4⟩
    have := V.str k1 k2
    refine ⟨k, k1, k2, k3, ?_⟩
    rcases k4 with k4 | k4
    · exact Or.inl k4
    · exact Or.inr fun z => k4 ((Gmf_s V _ _ _ _ _ _ k3.1 (by omega)).mpr z)
  · rintro ⟨k, k1, k2, k3, k4⟩
    have := V.str k1 k2
    refine ⟨k, k1, k2, k3, ?_⟩
    rcases k4 with k4 | k4
    · exact Or.inl k4
    · exact Or.inr fun z => k4 ((Gmf_s V _ _ _ _ _ _ k3.1 (by omega)).mp z)
/-- a node -/
def Nd (q : Int → Int) (s l c g t : Int) : Prop := (0 ≤ t ∧ t ≤ s ∧ s ≤ q 0) ∧ (0 ≤ l ∧ l ≤ q 8) ∧ (0 ≤ c ∧ c ≤ mxC q) ∧ (0 ≤ g ∧ g ≤ mxG q)
theorem mxC_b {q : Int → Int} (V : VS q) : 0 ≤ mxC q ∧ mxC q ≤ 4 := by
  have := V.cre
  unfold mxC; split <;> omega
theorem mxG_b {q : Int → Int} (V : VS q) : 0 ≤ mxG q ∧ mxG q ≤ 4 := by
  have := V.tim
  unfold mxG; split <;> omega
theorem Nd.nx {q v : Int → Int} (V : VS q) {u : Prop} {s l c g t k : Int} (n : Nd q s l c g t) (h1 : 0 ≤ k) (h2 : k < q 8) (m : May q v u s l c g t k) : Nd q (s + q (9 + k)) (k + 1) (nxC q s c k) (nxG q g k) (t + 1) := by
  have v1 := V.str h1 h2
  have v2 := V.cre
  have v3 := V.gre
  obtain ⟨m1, m2, m3, m4, m5, m6, m7⟩ := m
  obtain ⟨n1, n2, n3, n4⟩ := n
  refine ⟨by omega, by omega, ?_, ?_⟩
  · unfold mxC at *
    by_cases e : q (26 + (s + q (9 + k))) = 2 ∧ 0 ≤ q 1
    · rw [nxC_t e]
      split at n3
      · omega
      · rw [if_neg (by omega)]; have : ¬ (q 1 < c + 1) := fun z => m6 ⟨e.1, e.2, z⟩; omega
    · rw [nxC_f e]; exact n3
  · unfold mxG at *
    by_cases e : Grt q (q (9 + k))
    · rw [nxG_t e]
      have e1 := e.1
      rw [if_neg (by omega)] at n4 ⊢
      have : ¬ (q 6 < g + 1) := fun z => m7 ⟨e, z⟩
      omega
    · rw [nxG_f e]; exact n4
theorem plc_b {q : Int → Int} (V : VS q) {s l c g t : Int} (n : Nd q s l c g t) : 0 ≤ plc s l c g t ∧ plc s l c g t < 294175 := by
  have v1 := V.top
  have v2 := V.n
  have v3 := mxC_b V
  have v4 := mxG_b V
  obtain ⟨n1, n2, n3, n4⟩ := n
  unfold plc
  omega
theorem dm41 {a b x y : Int} (h1 : 0 ≤ x ∧ x < 41) (h2 : 0 ≤ y ∧ y < 41) (e : a * 41 + x = b * 41 + y) : a = b ∧ x = y := by omega
theorem dm5 {a b x y : Int} (h1 : 0 ≤ x ∧ x < 5) (h2 : 0 ≤ y ∧ y < 5) (e : a * 5 + x = b * 5 + y) : a = b ∧ x = y := by omega
theorem dm7 {a b x y : Int} (h1 : 0 ≤ x ∧ x < 7) (h2 : 0 ≤ y ∧ y < 7) (e : a * 7 + x = b * 7 + y) : a = b ∧ x = y := by omega
theorem plc_i {q : Int → Int} (V : VS q) {s l c g t s' l' c' g' t' : Int} (n : Nd q s l c g t) (n' : Nd q s' l' c' g' t') (e : (plc s l c g t).toNat = (plc s' l' c' g' t').toNat) : s = s' ∧ l = l' ∧ c = c' ∧ g = g' ∧ t = t' := by
  have b1 := plc_b V n
  have b2 := plc_b V n'
  have v1 := V.top
  have v2 := V.n
  have v3 := mxC_b V
  have v4 := mxG_b V
  obtain ⟨n1, n2, n3, n4⟩ := n
  obtain ⟨n5, n6, n7, n8⟩ := n'
  have e' : plc s l c g t = plc s' l' c' g' t' := by omega
  unfold plc at e'
  obtain ⟨e1, e2⟩ := dm41 (by omega) (by omega) e'
  obtain ⟨e3, e4⟩ := dm5 (by omega) (by omega) e1
  obtain ⟨e5, e6⟩ := dm5 (by omega) (by omega) e3
  obtain ⟨e7, e8⟩ := dm7 (by omega) (by omega) e5
  exact ⟨e7, e8, e6, e4, e2⟩
/-- the table tells F at all nodes of which P holds -/
def Tab (q : Int → Int) (F : Int → Int → Int → Int → Int → Int) (P : Int → Int → Int → Int → Int → Prop) (T : Nat → Int64) : Prop := ∀ s l c g t, Nd q s l c g t → P s l c g t → T (plc s l c g t).toNat = jZ (F s l c g t)
