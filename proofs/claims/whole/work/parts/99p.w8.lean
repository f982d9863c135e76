/-! the law begins -/
theorem zrow {h : Hp} {r : Nat} (e : ∀ k, hI h r k = 0) : hI h r = cFw 0 0 0 0 0 := by
  funext k
  rw [e k]
  unfold cFw
  repeat' split
  all_goals rfl
theorem rfO_0 (b f g : Nat) (t : List (Nat × Nat × Nat × Nat)) (c : Nat) (R R' : Nat → Nat → Option Nat) (k : Nat) : rfO ((0, b, f, g) :: t) c R c k = rfO ((0, b, f, g) :: t) c R' c k := by
  rw [rfO, rfO]
  refine rfO_c _ _ _ _ _ (fun k => ?_) _
  rw [if_pos rfl, if_pos rfl]
theorem opsM_0 (R R' : Nat → Nat → Option Nat) (k : Nat) : rfO opsM 68 R 68 k = rfO opsM 68 R' 68 k := by
  unfold opsM
  exact rfO_0 _ _ _ _ 68 R R' k
theorem opsM_1 : ∀ o ∈ opsM, o.1 = 1 → o.2.1 = 68 := by decide +kernel
theorem opsM_2 : ∀ o ∈ opsM, o.1 ≠ 2 := by decide +kernel
theorem opsM_3 : ∀ q ∈ smR, rfO opsM 68 (fun _ _ => none) 68 q.1 = some q.2 := by decide +kernel
theorem opsM_4 : ∀ q ∈ smN, lnO opsM 68 (fun _ => 1) q.1 = q.2 := by decide +kernel
theorem opsM_5 : ctO opsM = 24 := by decide +kernel
theorem opsM_6 : slO opsX + slO opsM ≤ 400000 := by decide +kernel
theorem opsM_7 : lgO opsM 68 (fun _ _ => 0) 12 7 = jZ 0 := by decide +kernel
theorem lnO_9 : ∀ (l : List (Nat × Nat × Nat × Nat)) (c : Nat) (T : Nat → Nat), c + ctO l ≤ 9999999 → lnO l c T 9999999 = T 9999999 := by
  intro l
  induction l with
  | nil => intro c T _; rfl
  | cons o t ih =>
    intro c T hb
    obtain ⟨a, b, f, g⟩ := o
    match a with
    | 0 =>
      have e : ctO ((0, b, f, g) :: t) = ctO t + 1 := rfl
      show lnO t (c + 1) _ 9999999 = T 9999999
      rw [ih _ _ (by omega), if_neg (by omega)]
    | n + 1 => exact ih _ _ hb
theorem start_law (L : Nat) (xs : Nat → Int32) (hL' : L ≤ 3584) : LOk 1000000 (evs (evm 1000) tx_Law_law (0, [some (vR 42 9999999), none, none, none, none, none, none], [], hZ L xs)) := by
  obtain ⟨h2, a1, ⟨aC, aS⟩, aX, ⟨a11, a12⟩, aR, a55, aL, aI, a83, r82, r126, r230, ⟨n11, n19, n24⟩, aN, aXs⟩ := start_X L xs
  rw [e_Law_law, alc_t 0 rfl (by decide), show evm 1000 101 [vR 11 0] (sN (hZ L xs) 11 0 14) = _ from a1, bV_s, alc_t 68 aC (by decide)]
  have eh : h2 = (h2.1, h2.2.1, h2.2.2.1, h2.2.2.2.1, h2.2.2.2.2.1, 68, h2.2.2.2.2.2.2) := by
    have : h2.2.2.2.2.2.1 = 68 := aC
    rw [← this]
  have mN := m_newC h2.1 h2.2.1 h2.2.2.1 h2.2.2.2.1 h2.2.2.2.2.1 h2.2.2.2.2.2.2
  rw [← eh] at mN
  have l0 := opsM_0
  have l1 := opsM_1
  have l2 := opsM_2
  have l3 := opsM_3
  have l4 := opsM_4
  have ct := opsM_5
  have sb := opsM_6
  have l7 := opsM_7
  have l8 := whvL
  obtain ⟨lm, hlm⟩ : ∃ l, l = opsM := ⟨_, rfl⟩
  obtain ⟨sx, hsx⟩ : ∃ s, s = slO opsX := ⟨_, rfl⟩
  rw [← hsx] at aS sb
  rw [← hlm] at mN l0 l1 l2 l3 l4 ct sb l7 l8
  obtain ⟨b, eb⟩ : ∃ b, b = bldO lm h2 := ⟨_, rfl⟩
  rw [← eb] at mN
  have C := bld_C lm h2
  rw [← eb, aC, aS, ct] at C
  have bR' : ∀ r k, r < 68 → hR b r k = hR h2 r k := fun r k hr => by
    rw [eb, bld_R, aC]
    exact rfO_k lm 68 _ r (fun o ho h1 => by rw [l1 o ho h1]; omega) hr k
  have bN' : ∀ r, r < 68 → hN b r = hN h2 r := fun r hr => by rw [eb, bld_N, aC]; exact lnO_k lm 68 _ r hr
  have bI' : ∀ r k, ¬ (r = 8 ∧ k = 3) → hI b r k = if 68 ≤ r ∧ r < 92 then 0 else hI h2 r k := fun r k hr => by
    rw [eb, bld_I _ _ _ _ hr, aC, ct]
  have b83 : hI b 8 3 = iZ (-4) := by
    rw [eb, bld_8, aC, i83_k lm 68 _ l2 (by omega)]; exact a83
  have bL' : hL b = lgO lm 68 (fun _ _ => 0) := by rw [eb, bld_L, aC, aL]
  have Mb : SM b := by
    have d3 : ∀ q ∈ smN, 68 ≤ q.1 ∧ q.1 < 92 := by decide
    refine ⟨fun q hq => ?_, fun q hq => ?_⟩
    · rw [eb, bld_R, aC]
      exact (l0 _ _ q.1).trans (l3 q hq)
    · rw [eb, bld_N, aC]
      exact (lnO_b lm 68 _ (fun _ => 1) q.1 (d3 q hq).1 (by rw [ct]; exact (d3 q hq).2)).trans (l4 q hq)
  obtain ⟨f, s1, s2, s3⟩ := u_stands0 (d := 999) (by omega) Mb
  obtain ⟨g, eg⟩ : ∃ g, g = sI (sI (sI (sI (wI b 74 f) 74 0 (1 : Int32)) 74 8 (2 : Int32)) 74 9 (1 : Int32)) 74 10 (2 : Int32) := ⟨_, rfl⟩
  have g2 : g.2 = b.2 := by rw [eg]; rfl
  have gI : ∀ r k, r ≠ 74 → hI g r k = hI b r k := fun r k hr => by rw [eg, sI_o _ _ (by omega), sI_o _ _ (by omega), sI_o _ _ (by omega), sI_o _ _ (by omega), wI_n _ _ hr]
  have gM : evm 1000 141 [vR 12 68] (sN h2 12 0 37) = some (none, g) := by
    have M1 : SM (wI b 74 f) := Mb
    have M2 : ∀ x, SM (sI (wI b 74 f) 74 0 x) := fun _ => Mb
    have M3 : ∀ x y, SM (sI (sI (wI b 74 f) 74 0 x) 74 8 y) := fun _ _ => Mb
    have M4 : ∀ x y z, SM (sI (sI (sI (wI b 74 f) 74 0 x) 74 8 y) 74 9 z) := fun _ _ _ => Mb
    rw [mN, s1, bV_s, (sN74 M1).1, bR_s, (sN74 M1).2, ifp_t (show inb (0 : Int32) 140 = true by decide), show ix (0 : Int32) = 0 from rfl, e_M_new_361, (sN74 (M2 _)).1, bR_s, (sN74 (M2 _)).2, ifp_t (show inb (8 : Int32) 140 = true by decide), show ix (8 : Int32) = 8 from rfl, (sN74 (M3 _ _)).1, bR_s, (sN74 (M3 _ _)).2, ifp_t (show inb (9 : Int32) 140 = true by decide), show ix (9 : Int32) = 9 from rfl, (sN74 (M4 _ _ _)).1, bR_s, (sN74 (M4 _ _ _)).2, ifp_t (show inb (10 : Int32) 140 = true by decide), show ix (10 : Int32) = 10 from rfl, eg]
  have gC : hC g = 92 := (congrArg (fun x => x.2.2.2.2.1) g2).trans C.1
  have gS : hS g = sx + slO lm := (congrArg (fun x => x.2.2.2.2.2) g2).trans C.2
  have gR : hR g = hR b := congrArg (fun x => x.2.1) g2
  have gN : hN g = hN b := congrArg (fun x => x.2.2.2.1) g2
  have gL : hL g = hL b := congrArg (fun x => x.1) g2
  rw [show evm 1000 141 [vR 12 68] (sN h2 12 0 37) = _ from gM, bV_s, ifp_t (show inb (1 : Int32) 1000000 = true by decide), alc_t 92 gC (by decide), show ix (1 : Int32) = 1 from rfl]
  obtain ⟨k, ek⟩ : ∃ k, k = sN g 21 1 1 := ⟨_, rfl⟩
  rw [← ek]
  have kI : ∀ r, r ≠ 92 → hI k r = hI g r := fun r hr => by rw [ek]; exact xnwI g 21 1 1 (by rw [gC]; exact hr)
  have kL : ∀ r, r ≠ 92 → hL k r = hL g r := fun r hr => by rw [ek]; exact xnwL g 21 1 1 (by rw [gC]; exact hr)
  have kR : ∀ r j, r ≠ 92 → hR k r j = hR g r j := fun r j hr => by rw [ek]; exact xnwR g 21 1 1 (by rw [gC]; exact hr) j
  have kN : ∀ r, r ≠ 92 → hN k r = hN g r := fun r hr => by rw [ek]; exact xnwN g 21 1 1 (by rw [gC]; exact hr)
  have kN92 : hN k 92 = 1 := by
    rw [ek]
    show (if 92 = hC g then 1 else hN g 92) = 1
    rw [if_pos gC.symm]
  have kC : hC k = 93 := by rw [ek]; show hC g + 1 = 93; rw [gC]
  have kS : hS k = sx + slO lm + 1 := by rw [ek]; show hS g + 1 = _; rw [gS]
  -- rows of the class, of the model
  have lowI : ∀ r j, r < 68 → hI k r j = hI h2 r j := fun r j hr => by
    rw [kI r (by omega), gI r j (by omega)]
    by_cases c : r = 8 ∧ j = 3
    · rw [c.1, c.2, b83, a83]
    · rw [bI' r j c, if_neg (by omega)]
  have lowZ : ∀ r j, r < 48 → ¬ (r = 8 ∧ j = 3) → hI k r j = 0 := fun r j hr hc => by rw [lowI r j (by omega)]; exact aI r j hr hc
  have modZ : ∀ r j, 68 ≤ r → r < 92 → r ≠ 74 → hI k r j = 0 := fun r j h1 h2 h3 => by rw [kI r (by omega), gI r j h3, bI' r j (by omega), if_pos ⟨h1, h2⟩]
  have lowR : ∀ r j, r < 68 → hR k r j = hR h2 r j := fun r j hr => by rw [kR r j (by omega), gR, bR' r j hr]
  have lowN : ∀ r, r < 68 → hN k r = hN h2 r := fun r hr => by rw [kN r (by omega), gN, bN' r hr]
  have k74 : ∀ j : Int, 0 ≤ j → j < 70 → hI k 74 j.toNat = iZ (qs0 j) := by
    intro j j1 j2
    rw [kI 74 (by decide), eg]
    by_cases c10 : j = 10
    · subst c10; rw [show (10 : Int).toNat = 10 from rfl, sI_e]; rfl
    · rw [sI_o _ _ (by omega)]
      by_cases c9 : j = 9
      · subst c9; rw [show (9 : Int).toNat = 9 from rfl, sI_e]; rfl
      · rw [sI_o _ _ (by omega)]
        by_cases c8 : j = 8
        · subst c8; rw [show (8 : Int).toNat = 8 from rfl, sI_e]; rfl
        · rw [sI_o _ _ (by omega)]
          by_cases c0 : j = 0
          · subst c0; rw [show (0 : Int).toNat = 0 from rfl, sI_e]; rfl
          · rw [sI_o _ _ (by omega), wI_I, s3 j j1 j2]
            refine congrArg iZ ?_
            unfold qin qs0
            rw [if_neg c0, if_neg c0, if_neg c8, if_neg c9, if_neg c10]
  have qb : ∀ j : Int, 0 ≤ j → j < 70 → -1 ≤ qs0 j ∧ qs0 j ≤ 40 := by
    intro j _ _
    unfold qs0
    repeat' split
    all_goals omega
  have r74 : Agr qs0 (rz k 74) := fun j j1 j2 => by
    unfold rz
    have := qb j j1 j2
    rw [k74 j j1 j2, iz_i (by omega) (by omega)]
  have v0 : ∀ j, rz k 79 j = 0 := fun j => by unfold rz; rw [modZ 79 _ (by omega) (by omega) (by omega)]; rfl
  have z0 : ∀ j, rz k 80 j = 0 := fun j => by unfold rz; rw [modZ 80 _ (by omega) (by omega) (by omega)]; rfl
  have Xk : SX k := by
    have d1 : ∀ x ∈ sxR, x.1 < 68 := by decide
    have d2 : ∀ x ∈ sxN, x.1 < 68 ∨ x = (92, 1) := by decide
    refine ⟨fun x hx => ?_, fun x hx => ?_⟩
    · rw [lowR _ _ (d1 x hx)]; exact aX.1 x hx
    · rcases d2 x hx with y | y
      · rw [lowN _ y]; exact aX.2 x hx
      · rw [y]; exact kN92
  have Sk : XS k 48 58 qs0 (rz k 79) (rz k 80) (rz k 75) (rz k 76) := by
    refine ⟨Xk, ⟨Or.inl rfl, Or.inr rfl, by decide⟩, ⟨by rw [lowR _ _ (by omega)]; exact a11, by rw [lowR _ _ (by omega)]; exact a12⟩, ⟨aR.tr (fun r r1 r2 => funext fun j => lowI r j (by omega)), VS_qs0, Or.inl ⟨rfl, by rw [lowI _ _ (by omega)]; exact a55⟩⟩, ⟨⟨by rw [v0]; omega, ?_, fun s s1 s2 => by rw [v0]; omega⟩, v0 41, ⟨?_, fun j j1 j2 => by rw [v0] at j2; omega⟩, fun s s1 s2 => ⟨by rw [lowZ 46 _ (by omega) (by omega), v0]; rfl, by rw [v0]; omega, by rw [v0]; omega⟩⟩, fun m hm => ⟨?_, ?_, fun y => absurd (z0 m) y⟩⟩
    · rw [v0]; intro i i1 i2; omega
    · rw [zrow (fun j => lowZ 4 j (by omega) (by omega)), v0]
      have q1 : pS (rz k 79) 0 = 0 := by unfold pS; exact sZ_0 _ (by omega)
      have q2 : pL qs0 (rz k 79) 0 = 0 := by unfold pL; rw [if_pos (by omega)]
      have q3 : pR qs0 (rz k 79) 0 = 0 := by unfold pR; exact sZ_0 _ (by omega)
      have q4 : pG qs0 (rz k 79) 0 = 0 := by unfold pG; exact sZ_0 _ (by omega)
      have q5 : stv qs0 0 = 0 := by unfold stv; rw [if_pos (by omega)]
      rw [q1, q2, q3, q4, q5]
    · rw [lowZ (30 + 4 * m) 2 (by omega) (by omega), bZ_f (fun y => y (z0 m))]; rfl
    · exact ⟨0, 0, 0, 0, 0, zrow (fun j => lowZ _ j (by omega) (by omega))⟩
  have Wk : XW k 11 19 24 0 (sx + slO lm + 1) qs0 (rz k 75) (rz k 76) := by
    refine ⟨⟨⟨0, 0, 0, 0, 0, zrow (fun j => lowZ 6 j (by omega) (by omega))⟩, ⟨0, 0, 0, 0, 0, zrow (fun j => lowZ 14 j (by omega) (by omega))⟩⟩, ⟨by rw [lowR _ _ (by omega)]; exact r82, by rw [lowN _ (by omega), n11]; omega, by rw [lowN _ (by omega), n11]; omega⟩, ⟨by rw [lowR _ _ (by omega)]; exact r126, by rw [lowN _ (by omega), n19]; omega, by rw [lowN _ (by omega), n19]; omega⟩, ⟨by rw [lowR _ _ (by omega)]; exact r230, Or.inl (by rw [lowN _ (by omega)]; exact n24)⟩, ⟨by omega, by omega, Or.inr rfl, Or.inr rfl, Or.inr rfl, by decide, by decide, by decide⟩, ⟨-4, by rw [lowI _ _ (by omega)]; exact a83, Or.inl rfl⟩, ⟨0, by omega, ?_, Or.inl rfl⟩, ?_, by omega⟩
    · rw [kL 12 (by decide), gL, bL']
      exact l7
    · unfold Room
      rw [lowN 11 (by omega), lowN 19 (by omega), lowN 24 (by omega), n11, n19, n24, kC, kS]
      omega
  have Ik : INV k 0 (sx + slO lm + 1) := by
    refine ⟨48, 58, 11, 19, 24, qs0, rz k 75, rz k 76, 0, Sk, Wk, ⟨?_, fun w hw => ?_, ⟨by omega, ?_, ?_⟩, fun i hi => by omega⟩, r74, fun _ _ => rfl, fun _ _ => rfl⟩
    · have d3 : ∀ q ∈ smN, q.1 ≠ 92 := by decide
      refine ⟨fun x hx => by rw [kR _ _ (by decide), gR]; exact Mb.1 x hx, fun x hx => by rw [kN _ (d3 x hx), gN]; exact Mb.2 x hx⟩
    · rw [kL 73 (by decide), gL, bL']; exact l8 w hw
    · rw [lowZ 2 1 (by omega) (by omega)]; rfl
    · rw [modZ 68 2 (by omega) (by omega) (by omega)]; rfl
  have kL9 : hN k 9999999 = L := by
    rw [kN _ (by omega), gN, eb, bld_N, aC]
    rw [lnO_9 lm _ _ (by rw [ct]; omega)]
    exact aN
  have := law_l hL' (B := 1000000) 512 0 k 0 (sx + slO lm + 1) (by omega) (by omega) (by omega) (by omega) (by omega) Ik kL9
  exact this
