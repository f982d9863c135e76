/-! two on one stair -/
noncomputable def um (q : Int → Int) (u j : Int) : Int := if u = q 0 then u else pif (u + q (9 + j) ≤ q 0 ∧ q (26 + (u + q (9 + j))) ≠ 1) (u + q (9 + j)) (-1)
noncomputable def dwn (q : Int → Int) (u j : Int) : Int := if u = 0 then 0 else pif (0 ≤ u - q (9 + j) ∧ q (26 + (u - q (9 + j))) ≠ 1) (u - q (9 + j)) (-1)
def nu (q : Int → Int) (u : Int) : Int := if u = q 0 then 1 else q 8
def nd' (q : Int → Int) (u : Int) : Int := if u = 0 then 1 else q 8
noncomputable def Bf (q : Int → Int) : Nat → Int → Int → Int
  | 0, _, _ => 0
  | n + 1, u, w => pif (u = q 0 ∧ w = 0) 1 (sZ (fun j => sZ (fun m => pif (0 ≤ um q u j ∧ 0 ≤ dwn q w m ∧ um q u j ≠ dwn q w m) (Bf q n (um q u j) (dwn q w m)) 0) (nd' q w)) (nu q u))
noncomputable def Bt (q : Int → Int) (u w : Int) : Int := Bf q 100 u w
theorem um_b {q : Int → Int} (V : VS q) {u j : Int} (hu : 0 ≤ u ∧ u ≤ q 0) (hj : 0 ≤ j ∧ j < nu q u) : um q u j = -1 ∨ (u ≤ um q u j ∧ um q u j ≤ q 0 ∧ (u < q 0 → u < um q u j)) := by
  unfold um
  unfold nu at hj
  by_cases h : u = q 0
  · rw [if_pos h]; right; omega
  · rw [if_neg h]; rw [if_neg h] at hj
    have vs := V.str hj.1 hj.2
    by_cases c : u + q (9 + j) ≤ q 0 ∧ q (26 + (u + q (9 + j))) ≠ 1
    · rw [pif_t c]; right; omega
    · rw [pif_f c]; left; rfl
theorem dwn_b {q : Int → Int} (V : VS q) {u j : Int} (hu : 0 ≤ u ∧ u ≤ q 0) (hj : 0 ≤ j ∧ j < nd' q u) : dwn q u j = -1 ∨ (0 ≤ dwn q u j ∧ dwn q u j ≤ u ∧ (0 < u → dwn q u j < u)) := by
  unfold dwn
  unfold nd' at hj
  by_cases h : u = 0
  · rw [if_pos h]; right; omega
  · rw [if_neg h]; rw [if_neg h] at hj
    have vs := V.str hj.1 hj.2
    by_cases c : 0 ≤ u - q (9 + j) ∧ q (26 + (u - q (9 + j))) ≠ 1
    · rw [pif_t c]; right; omega
    · rw [pif_f c]; left; rfl
theorem Bf_s {q : Int → Int} (V : VS q) : ∀ (n : Nat) (u w : Int), (0 ≤ u ∧ u ≤ q 0) → (0 ≤ w ∧ w ≤ q 0) → q 0 - u + w < n → Bf q n u w = Bf q (n + 1) u w := by
  intro n
  induction n with
  | zero => intro u w h1 h2 h3; omega
  | succ n ih =>
    intro u w h1 h2 h3
    rw [Bf, Bf]
    refine pif_c Iff.rfl (fun _ => rfl) (fun h0 => sZ_c fun j j1 j2 => sZ_c fun m m1 m2 => pif_c Iff.rfl (fun c => ?_) (fun _ => rfl))
    have a := um_b V h1 ⟨j1, j2⟩
    have b := dwn_b V h2 ⟨m1, m2⟩
    exact ih _ _ (by omega) (by omega) (by omega)
noncomputable def Bx (q : Int → Int) (u w j m : Int) : Int := pif (0 ≤ um q u j ∧ 0 ≤ dwn q w m ∧ um q u j ≠ dwn q w m) (Bt q (um q u j) (dwn q w m)) 0
theorem Bt_e {q : Int → Int} (V : VS q) {u w : Int} (h1 : 0 ≤ u ∧ u ≤ q 0) (h2 : 0 ≤ w ∧ w ≤ q 0) : Bt q u w = pif (u = q 0 ∧ w = 0) 1 (sZ (fun j => sZ (fun m => Bx q u w j m) (nd' q w)) (nu q u)) := by
  have v1 := V.top
  show Bf q 100 u w = _
  rw [Bf]
  refine pif_c Iff.rfl (fun _ => rfl) (fun h0 => sZ_c fun j j1 j2 => sZ_c fun m m1 m2 => pif_c Iff.rfl (fun c => ?_) (fun _ => rfl))
  have a := um_b V h1 ⟨j1, j2⟩
  have b := dwn_b V h2 ⟨m1, m2⟩
  exact Bf_s V 99 _ _ (by omega) (by omega) (by omega)
/-! the model's two -/
theorem m_comesU (d : Nat) {h : Hp} (S : SM h) (V : VS (rz h 74)) {u j : Int} (hu : 0 ≤ u ∧ u ≤ rz h 74 0) (hj : 0 ≤ j ∧ j < nu (rz h 74) u) : evm (d + 2) 222 [vR 12 68, vI (iZ u), vI (iZ ((if u = rz h 74 0 then -1 else 0) + j)), vI (iZ 1)] h = some (some (vI (iZ (um (rz h 74) u j))), h) := by
  have v1 := V.top
  have vn := V.n
  have ktop : rz h 74 (26 + rz h 74 0) = 0 := V.2.2.2.2.2.2.2.2.2.2.2.2.2.2 _ (Int.le_refl _) v1.2
  have tail : ∀ x : Int, (-100 ≤ x ∧ x ≤ 100) → L_M_comes_17 (d + 1) 68 (iZ x) h = some (some (vI (iZ (pif (0 ≤ x ∧ x ≤ rz h 74 0 ∧ rz h 74 (26 + x) ≠ 1) x (-1)))), h) := by
    intro x hx
    rw [e_M_comes_17]
    simp (disch := omega) only [lit32, litJ, iz_add, iz_sub, iz_mul, iz_neg, nI_iz, ix_iz, inb_iz, ifp_t, ifp_f, ifp_T, ifp_F, iz_eq, iz_lt, bI_s, bL_s, bV_s, bR_s]
    refine ifp_r (fun y => ri_e (by rw [pif_f (by omega)])) (fun y => ?_)
    rw [m_steps d S, bI_s, ifp_n (iz_lt (by omega))]
    refine ifp_r (fun z => ri_e (by rw [pif_f (by omega)])) (fun z => ?_)
    have kb := V.kin (s := x) (by omega) (by omega)
    rw [m_kindOf d S (by omega), bI_s, ifp_n (iz_eq (by omega))]
    exact ifp_r (fun w => ri_e (by rw [pif_f (fun c => c.2.2 w)])) (fun w => ri_e (by rw [pif_t ⟨by omega, by omega, w⟩]))
  rw [e_M_comes]
  simp only [lit32]
  unfold um nu at *
  by_cases h0 : u = rz h 74 0
  · rw [if_pos h0] at hj
    rw [if_pos h0, if_pos h0, show -1 + j = -1 by omega, ifp_t (by decide), tail u (by omega), pif_t ⟨hu.1, hu.2, by rw [h0, ktop]; decide⟩]
  · rw [if_neg h0] at hj
    rw [if_neg h0, if_neg h0, Int.zero_add]
    have vs := V.str hj.1 hj.2
    rw [ifp_f (fun y => by have := (iz_lt (by omega)).mp y; omega), m_strideOf d S (by omega), bI_s, iz_mul, iz_add, Int.one_mul, tail _ (by omega)]
    refine ri_e ?_
    exact pif_c ⟨fun c => ⟨c.2.1, c.2.2⟩, fun c => ⟨by omega, c.1, c.2⟩⟩ (fun _ => rfl) (fun _ => rfl)
theorem m_comesD (d : Nat) {h : Hp} (S : SM h) (V : VS (rz h 74)) {u j : Int} (hu : 0 ≤ u ∧ u ≤ rz h 74 0) (hj : 0 ≤ j ∧ j < nd' (rz h 74) u) : evm (d + 2) 222 [vR 12 68, vI (iZ u), vI (iZ ((if u = 0 then -1 else 0) + j)), vI (iZ (-1))] h = some (some (vI (iZ (dwn (rz h 74) u j))), h) := by
  have v1 := V.top
  have vn := V.n
  have k0 : rz h 74 26 = 0 := V.2.2.2.2.2.2.2.2.2.2.2.2.2.1
  have tail : ∀ x : Int, (-100 ≤ x ∧ x ≤ 100) → L_M_comes_17 (d + 1) 68 (iZ x) h = some (some (vI (iZ (pif (0 ≤ x ∧ x ≤ rz h 74 0 ∧ rz h 74 (26 + x) ≠ 1) x (-1)))), h) := by
    intro x hx
    rw [e_M_comes_17]
    simp (disch := omega) only [lit32, litJ, iz_add, iz_sub, iz_mul, iz_neg, nI_iz, ix_iz, inb_iz, ifp_t, ifp_f, ifp_T, ifp_F, iz_eq, iz_lt, bI_s, bL_s, bV_s, bR_s]
    refine ifp_r (fun y => ri_e (by rw [pif_f (by omega)])) (fun y => ?_)
    rw [m_steps d S, bI_s, ifp_n (iz_lt (by omega))]
    refine ifp_r (fun z => ri_e (by rw [pif_f (by omega)])) (fun z => ?_)
    have kb := V.kin (s := x) (by omega) (by omega)
    rw [m_kindOf d S (by omega), bI_s, ifp_n (iz_eq (by omega))]
    exact ifp_r (fun w => ri_e (by rw [pif_f (fun c => c.2.2 w)])) (fun w => ri_e (by rw [pif_t ⟨by omega, by omega, w⟩]))
  rw [e_M_comes]
  simp only [lit32]
  unfold dwn nd' at *
  by_cases h0 : u = 0
  · rw [if_pos h0] at hj
    rw [if_pos h0, if_pos h0, show -1 + j = -1 by omega, ifp_t (by decide), tail u (by omega), pif_t ⟨hu.1, hu.2, by rw [h0]; show rz h 74 26 ≠ 1; rw [k0]; decide⟩, h0]
  · rw [if_neg h0] at hj
    rw [if_neg h0, if_neg h0, Int.zero_add]
    have vs := V.str hj.1 hj.2
    rw [ifp_f (fun y => by have := (iz_lt (by omega)).mp y; omega), m_strideOf d S (by omega), bI_s, iz_mul, iz_add, tail _ (by omega)]
    refine ri_e ?_
    rw [show u + -1 * rz h 74 (9 + j) = u - rz h 74 (9 + j) by omega]
    exact pif_c ⟨fun c => ⟨c.1, c.2.2⟩, fun c => ⟨c.1, by omega, c.2⟩⟩ (fun _ => rfl) (fun _ => rfl)
theorem M_two (d : Nat) {h : Hp} (M : MV h) : ∃ h', evm (d + 3) 223 [vR 12 68] h = some (some (vL (jZ (if 24 < rz h 74 0 then -1 else Bt (rz h 74) 0 (rz h 74 0)))), h') ∧ Ms h h' (rz h 79) (rz h 80) := by
  have a0 : Sc h (sI h 68 0 (iZ 0)) := Sc.s h _ (by decide)
  have M0 := M.sc a0
  have e74 := a0.z (r := 74) (by decide)
  have V := M.2.1
  have Vk := M0.2.1
  rw [e_M_two]
  simp only [lit32, litJ]
  rw [m_steps (d + 1) M0.1, bI_s, e74, ifp_n (iz_lt (by have := V.top; omega))]
  by_cases h0 : 24 < rz h 74 0
  · rw [ifp_t h0, if_pos h0]
    exact ⟨_, rfl, a0.ms⟩
  · rw [ifp_f h0, if_neg h0, m_steps (d + 1) M0.1, bI_s, e74]
    obtain ⟨K, hK⟩ : ∃ K, K = sI h 68 0 (iZ 0) := ⟨_, rfl⟩
    rw [← hK] at a0 M0 e74 Vk ⊢
    obtain ⟨q, hq⟩ : ∃ q, q = rz h 74 := ⟨_, rfl⟩
    rw [← hq] at e74 V h0 ⊢
    have v1 := V.top
    have vn := V.n
    have S' : ∀ {T}, SM (wL K 87 T) := fun {_} => M0.1
    have c74 : ∀ {T}, rz (wL K 87 T) 74 = q := fun {_} => e74
    have fin : ∀ T, ∃ h', (some (some (vL (jZ (Bt q 0 (q 0)))), wL K 87 T) : Option Rs) = some (some (vL (jZ (Bt q 0 (q 0)))), h') ∧ Ms h h' (rz h 79) (rz h 80) := fun T => ⟨_, rfl, (a0.tr (Sc.l _ T (by decide))).ms⟩
    have l25 : ∀ u : Int, -1 ≤ u ∧ u ≤ q 0 → ∀ T : Nat → Int64, (∀ u' w, u < u' → u' ≤ q 0 → 0 ≤ w → w ≤ q 0 → T (25 * u' + w).toNat = jZ (Bt q u' w)) → ∃ h', L_M_two_25 (d + 2) 68 (iZ (q 0)) (iZ u) (wL K 87 T) = some (some (vL (jZ (Bt q 0 (q 0)))), h') ∧ Ms h h' (rz h 79) (rz h 80) := by
      refine lpD (fun u hu hb T hT => ?_) (fun u hu ih hb T hT => ?_)
      · rw [e_M_two_25]
        simp (disch := omega) only [lit32, litJ, iz_add, iz_sub, iz_mul, iz_neg, nI_iz, ix_iz, inb_iz, ifp_t, ifp_f, ifp_T, ifp_F, iz_eq, iz_lt, bI_s, bL_s, bV_s, bR_s, S'.r 31 87, S'.n 87 625, wL_L]
        have := hT 0 (q 0) (by omega) (by omega) (by omega) (by omega)
        rw [show 25 * (0 : Int) + q 0 = q 0 by omega] at this
        rw [this]
        exact fin T
      · have l31 : ∀ w : Int, 0 ≤ w ∧ w ≤ q 0 + 1 → ∀ T : Nat → Int64, (∀ u' w', (u < u' ∨ u' = u ∧ w' < w) → u' ≤ q 0 → 0 ≤ w' → w' ≤ q 0 → T (25 * u' + w').toNat = jZ (Bt q u' w')) → ∃ h', L_M_two_31 (d + 2) 68 (iZ (q 0)) (iZ u) (iZ w) (wL K 87 T) = some (some (vL (jZ (Bt q 0 (q 0)))), h') ∧ Ms h h' (rz h 79) (rz h 80) := by
          refine lpZ (q 0 + 1) (fun w hw hwb T hT => ?_) (fun w hw ihw hwb T hT => ?_)
          · rw [e_M_two_31]
            simp (disch := omega) only [lit32, litJ, iz_add, iz_sub, iz_mul, iz_neg, nI_iz, ix_iz, inb_iz, ifp_t, ifp_f, ifp_T, ifp_F, iz_eq, iz_lt, bI_s, bL_s, bV_s, bR_s]
            exact ih (by omega) T (fun u' w' h1 h2 h3 h4 => hT u' w' (by omega) h2 h3 h4)
          · have be := Bt_e V (u := u) (w := w) (by omega) (by omega)
            have put : ∀ y : Int, y = Bt q u w → ∃ h', L_M_two_31 (d + 2) 68 (iZ (q 0)) (iZ u) (iZ (w + 1)) (wL K 87 (up T (25 * u + w).toNat (jZ y))) = some (some (vL (jZ (Bt q 0 (q 0)))), h') ∧ Ms h h' (rz h 79) (rz h 80) := by
              intro y hy
              refine ihw (by omega) _ (fun u' w' h1 h2 h3 h4 => ?_)
              by_cases e : u' = u ∧ w' = w
              · rw [e.1, e.2, up_e, hy]
              · rw [up_n _ _ (by omega)]; exact hT u' w' (by omega) h2 h3 h4
            have ku : (if u = q 0 then (0 : Int) else q 8) = (if u = q 0 then -1 else 0) + nu q u := by unfold nu; split <;> omega
            have kw : (if w = 0 then (0 : Int) else q 8) = (if w = 0 then -1 else 0) + nd' q w := by unfold nd'; split <;> omega
            have nub : 1 ≤ nu q u ∧ nu q u ≤ 6 := by unfold nu; split <;> omega
            have ndb : 1 ≤ nd' q w ∧ nd' q w ≤ 6 := by unfold nd'; split <;> omega
            have b1 : -1 ≤ (if u = q 0 then (-1 : Int) else 0) ∧ (if u = q 0 then (-1 : Int) else 0) ≤ 0 := by split <;> omega
            have b2 : -1 ≤ (if w = 0 then (-1 : Int) else 0) ∧ (if w = 0 then (-1 : Int) else 0) ≤ 0 := by split <;> omega
            have l79 : ∀ (j : Int) (y : Int), (0 ≤ j ∧ j ≤ nu q u) → (j = nu q u → y = Bt q u w) → (j < nu q u → ∀ xe : Int, xe = (if w = 0 then -1 else 0) → ∃ h', L_M_two_93 (d + 2) 68 (iZ (q 0)) (iZ u) (iZ w) (jZ y) (iZ ((if u = q 0 then -1 else 0) + j)) (iZ xe) (wL K 87 T) = some (some (vL (jZ (Bt q 0 (q 0)))), h') ∧ Ms h h' (rz h 79) (rz h 80)) → ∃ h', L_M_two_64 (d + 2) 68 (iZ (q 0)) (iZ u) (iZ w) (jZ y) (iZ ((if u = q 0 then -1 else 0) + j)) (wL K 87 T) = some (some (vL (jZ (Bt q 0 (q 0)))), h') ∧ Ms h h' (rz h 79) (rz h 80) := by
              intro j y hj hy hgo
              have body : ∃ h', L_M_two_79 (d + 2) 68 (iZ (q 0)) (iZ u) (iZ w) (jZ y) (iZ ((if u = q 0 then -1 else 0) + j)) (iZ (if u = q 0 then 0 else q 8)) (iZ ((if u = q 0 then -1 else 0) + j)) (wL K 87 T) = some (some (vL (jZ (Bt q 0 (q 0)))), h') ∧ Ms h h' (rz h 79) (rz h 80) := by
                rw [e_M_two_79, ku, ifp_n (iz_lt (by omega))]
                by_cases c : j < nu q u
                · rw [ifp_t (by omega), show (0 : Int32) = iZ 0 from rfl, ifp_n (iz_eq (by omega))]
                  by_cases c2 : w = 0
                  · rw [ifp_t c2]
                    exact hgo c (-1) (by rw [if_pos c2])
                  · rw [ifp_f c2]
                    exact hgo c 0 (by rw [if_neg c2])
                · rw [ifp_f (by omega)]
                  simp (disch := omega) only [lit32, litJ, iz_add, iz_sub, iz_mul, iz_neg, nI_iz, ix_iz, inb_iz, ifp_t, ifp_f, ifp_T, ifp_F, iz_eq, iz_lt, bI_s, bL_s, bV_s, bR_s, S'.r 31 87, S'.n 87 625, sL_wL]
                  exact put y (hy (by omega))
              rw [e_M_two_64, ifp_n (iz_eq (by omega))]
              by_cases c : u = q 0
              · rw [if_pos c, if_pos c] at body
                rw [ifp_t c, if_pos c]
                exact body
              · rw [if_neg c, if_neg c] at body
                rw [ifp_f c, if_neg c, m_strides (d + 1) S', bI_s, c74]
                exact body
            have main : ¬ (u = q 0 ∧ w = 0) → ∃ h', L_M_two_64 (d + 2) 68 (iZ (q 0)) (iZ u) (iZ w) (jZ 0) (iZ (if u = q 0 then -1 else 0)) (wL K 87 T) = some (some (vL (jZ (Bt q 0 (q 0)))), h') ∧ Ms h h' (rz h 79) (rz h 80) := by
              intro hne
              rw [pif_f hne] at be
              have lj : ∀ j : Int, 0 ≤ j ∧ j ≤ nu q u → ∃ h', L_M_two_64 (d + 2) 68 (iZ (q 0)) (iZ u) (iZ w) (jZ (sZ (fun j => sZ (fun m => Bx q u w j m) (nd' q w)) j)) (iZ ((if u = q 0 then -1 else 0) + j)) (wL K 87 T) = some (some (vL (jZ (Bt q 0 (q 0)))), h') ∧ Ms h h' (rz h 79) (rz h 80) := by
                refine lpZ (nu q u) (fun j hj hjb => ?_) (fun j hj ihj hjb => ?_)
                · refine l79 j _ hjb (fun e => ?_) (fun c => by omega)
                  rw [be, e]
                · refine l79 j _ hjb (fun e => by omega) (fun _ xe hxe => ?_)
                  have lm : ∀ m : Int, 0 ≤ m ∧ m ≤ nd' q w → ∃ h', L_M_two_93 (d + 2) 68 (iZ (q 0)) (iZ u) (iZ w) (jZ (sZ (fun j => sZ (fun m => Bx q u w j m) (nd' q w)) j + sZ (fun m => Bx q u w j m) m)) (iZ ((if u = q 0 then -1 else 0) + j)) (iZ ((if w = 0 then -1 else 0) + m)) (wL K 87 T) = some (some (vL (jZ (Bt q 0 (q 0)))), h') ∧ Ms h h' (rz h 79) (rz h 80) := by
                    refine lpZ (nd' q w) (fun m hm hmb => ?_) (fun m hm ihm hmb => ?_)
                    · have ihj' := ihj (by omega)
                      rw [sZ_s _ hjb.1, ← Int.add_assoc] at ihj'
                      have body : ∃ h', L_M_two_107 (d + 2) 68 (iZ (q 0)) (iZ u) (iZ w) (jZ (sZ (fun j => sZ (fun m => Bx q u w j m) (nd' q w)) j + sZ (fun m => Bx q u w j m) m)) (iZ ((if u = q 0 then -1 else 0) + j)) (iZ ((if w = 0 then -1 else 0) + m)) (iZ (if w = 0 then 0 else q 8)) (iZ ((if w = 0 then -1 else 0) + m)) (wL K 87 T) = some (some (vL (jZ (Bt q 0 (q 0)))), h') ∧ Ms h h' (rz h 79) (rz h 80) := by
                        rw [e_M_two_107, kw, ifp_n (iz_lt (by omega)), ifp_f (by omega), show (1 : Int32) = iZ 1 from rfl, iz_add, show m = nd' q w by omega]
                        exact ihj'
                      rw [e_M_two_93, show (0 : Int32) = iZ 0 from rfl, ifp_n (iz_eq (by omega))]
                      by_cases c : w = 0
                      · rw [if_pos c, if_pos c] at body
                        rw [ifp_t c, if_pos c]
                        exact body
                      · rw [if_neg c, if_neg c] at body
                        rw [ifp_f c, if_neg c, m_strides (d + 1) S', bI_s, c74]
                        exact body
                    · have ihm' := ihm (by omega)
                      rw [sZ_s _ hmb.1, ← Int.add_assoc, ← Int.add_assoc] at ihm'
                      have ub := um_b V (u := u) (j := j) (by omega) ⟨hjb.1, hj⟩
                      have db := dwn_b V (u := w) (j := m) (by omega) ⟨hmb.1, hm⟩
                      have cu := m_comesU d (S' (T := T)) (by rw [c74]; exact V) (u := u) (j := j) (by rw [c74]; omega) (by rw [c74]; omega)
                      have cd := m_comesD d (S' (T := T)) (by rw [c74]; exact V) (u := w) (j := m) (by rw [c74]; omega) (by rw [c74]; omega)
                      rw [c74] at cu cd
                      have l119 : ∃ h', L_M_two_119 (d + 2) 68 (iZ (q 0)) (iZ u) (iZ w) (jZ (sZ (fun j => sZ (fun m => Bx q u w j m) (nd' q w)) j + sZ (fun m => Bx q u w j m) m)) (iZ ((if u = q 0 then -1 else 0) + j)) (iZ ((if w = 0 then -1 else 0) + m)) (wL K 87 T) = some (some (vL (jZ (Bt q 0 (q 0)))), h') ∧ Ms h h' (rz h 79) (rz h 80) := by
                        rw [e_M_two_119, show (-1 : Int32) = iZ (-1) from rfl, show (1 : Int32) = iZ 1 from rfl, show (0 : Int32) = iZ 0 from rfl, show (0 : Int64) = jZ 0 from rfl, cu, bI_s, cd, bI_s]
                        simp (disch := omega) only [lit32, litJ, iz_add, iz_sub, iz_mul, iz_neg, nI_iz, ix_iz, inb_iz, ifp_t, ifp_f, ifp_T, ifp_F, iz_eq, iz_lt, bI_s, bL_s, bV_s, bR_s, jz_add]
                        unfold Bx at ihm'
                        by_cases c1 : um q u j < 0
                        · rw [ifp_t c1]
                          rw [pif_f (fun z => by omega)] at ihm'
                          exact ihm'
                        · rw [ifp_f c1]
                          by_cases c2 : dwn q w m < 0
                          · rw [ifp_t c2]
                            rw [pif_f (fun z => by omega)] at ihm'
                            exact ihm'
                          · rw [ifp_f c2]
                            by_cases c3 : um q u j = dwn q w m
                            · rw [ifp_t c3]
                              rw [pif_f (fun z => z.2.2 c3)] at ihm'
                              exact ihm'
                            · rw [ifp_f c3]
                              rw [pif_t ⟨by omega, by omega, c3⟩] at ihm'
                              simp (disch := omega) only [lit32, litJ, iz_add, iz_sub, iz_mul, iz_neg, nI_iz, ix_iz, inb_iz, ifp_t, ifp_f, ifp_T, ifp_F, iz_eq, iz_lt, bI_s, bL_s, bV_s, bR_s, S'.r 31 87, S'.n 87 625, wL_L]
                              rw [hT (um q u j) (dwn q w m) (by omega) (by omega) (by omega) (by omega), jz_add]
                              exact ihm'
                      have body : ∃ h', L_M_two_107 (d + 2) 68 (iZ (q 0)) (iZ u) (iZ w) (jZ (sZ (fun j => sZ (fun m => Bx q u w j m) (nd' q w)) j + sZ (fun m => Bx q u w j m) m)) (iZ ((if u = q 0 then -1 else 0) + j)) (iZ ((if w = 0 then -1 else 0) + m)) (iZ (if w = 0 then 0 else q 8)) (iZ ((if w = 0 then -1 else 0) + m)) (wL K 87 T) = some (some (vL (jZ (Bt q 0 (q 0)))), h') ∧ Ms h h' (rz h 79) (rz h 80) := by
                        rw [e_M_two_107, kw, ifp_n (iz_lt (by omega)), ifp_t (by omega), ifp_n (iz_lt (by omega)), show (0 : Int32) = iZ 0 from rfl, ifp_n (iz_lt (by omega))]
                        by_cases c : u < q 0
                        · rw [ifp_t c]; exact l119
                        · rw [ifp_f c, ifp_t (by omega)]; exact l119
                      rw [e_M_two_93, show (0 : Int32) = iZ 0 from rfl, ifp_n (iz_eq (by omega))]
                      by_cases c : w = 0
                      · rw [if_pos c, if_pos c] at body
                        rw [ifp_t c, if_pos c]
                        exact body
                      · rw [if_neg c, if_neg c] at body
                        rw [ifp_f c, if_neg c, m_strides (d + 1) S', bI_s, c74]
                        exact body
                  have := lm 0 (by omega)
                  rw [sZ_0 _ (Int.le_refl 0), Int.add_zero, Int.add_zero] at this
                  rw [hxe]
                  exact this
              have := lj 0 (by omega)
              rw [sZ_0 _ (Int.le_refl 0), Int.add_zero] at this
              exact this
            have start : ∀ y : Int, (y = 1 ∧ u = q 0 ∧ w = 0 ∨ y = 0 ∧ ¬ (u = q 0 ∧ w = 0)) → ∃ h', L_M_two_50 (d + 2) 68 (iZ (q 0)) (iZ u) (iZ w) (jZ y) (wL K 87 T) = some (some (vL (jZ (Bt q 0 (q 0)))), h') ∧ Ms h h' (rz h 79) (rz h 80) := by
              intro y hy
              have go : ∃ h', L_M_two_64 (d + 2) 68 (iZ (q 0)) (iZ u) (iZ w) (jZ y) (iZ (if u = q 0 then -1 else 0)) (wL K 87 T) = some (some (vL (jZ (Bt q 0 (q 0)))), h') ∧ Ms h h' (rz h 79) (rz h 80) := by
                rcases hy with ⟨rfl, e1, e2⟩ | ⟨rfl, e1⟩
                · rw [pif_t ⟨e1, e2⟩] at be
                  have n1 : nu q u = 1 := by unfold nu; rw [if_pos e1]
                  have n2 : nd' q w = 1 := by unfold nd'; rw [if_pos e2]
                  have e64 : ∃ h', L_M_two_64 (d + 2) 68 (iZ (q 0)) (iZ u) (iZ w) (jZ 1) (iZ ((if u = q 0 then -1 else 0) + 1)) (wL K 87 T) = some (some (vL (jZ (Bt q 0 (q 0)))), h') ∧ Ms h h' (rz h 79) (rz h 80) := l79 1 1 (by omega) (fun _ => be.symm) (fun c => by omega)
                  have := l79 0 1 (by omega) (fun c => by omega) (fun _ xe hxe => by
                    rw [e_M_two_93, show (0 : Int32) = iZ 0 from rfl, ifp_n (iz_eq (by omega)), ifp_t e2, e_M_two_107, hxe, if_pos e2, ifp_t (by decide), ifp_n (iz_lt (by omega)), ifp_f (by omega), show (0 : Int32) = iZ 0 from rfl, ifp_n (iz_lt (by omega)), ifp_f (by omega), show (1 : Int32) = iZ 1 from rfl, iz_add, Int.add_zero]
                    exact e64)
                  rw [Int.add_zero] at this
                  exact this
                · exact main e1
              rw [e_M_two_50, ifp_n (iz_eq (by omega))]
              by_cases c : u = q 0
              · rw [if_pos c] at go
                rw [ifp_t c]; exact go
              · rw [if_neg c] at go
                rw [ifp_f c]; exact go
            rw [e_M_two_31]
            simp (disch := omega) only [lit32, litJ, iz_add, iz_sub, iz_mul, iz_neg, nI_iz, ix_iz, inb_iz, ifp_t, ifp_f, ifp_T, ifp_F, iz_eq, iz_lt, bI_s, bL_s, bV_s, bR_s]
            by_cases c1 : u = q 0
            · rw [ifp_t c1]
              by_cases c2 : w = 0
              · rw [ifp_t c2]; exact start 1 (Or.inl ⟨rfl, c1, c2⟩)
              · rw [ifp_f c2]; exact start 0 (Or.inr ⟨rfl, fun z => c2 z.2⟩)
            · rw [ifp_f c1]; exact start 0 (Or.inr ⟨rfl, fun z => c1 z.1⟩)
        rw [e_M_two_25]
        simp (disch := omega) only [lit32, litJ, iz_add, iz_sub, iz_mul, iz_neg, nI_iz, ix_iz, inb_iz, ifp_t, ifp_f, ifp_T, ifp_F, iz_eq, iz_lt, bI_s, bL_s, bV_s, bR_s]
        exact l31 0 (by omega) T (fun u' w' h1 h2 h3 h4 => hT u' w' (by omega) h2 h3 h4)
    have := l25 (q 0) (by omega) (hL K 87) (fun u' w h1 h2 => by omega)
    rw [wL_self] at this
    exact this
