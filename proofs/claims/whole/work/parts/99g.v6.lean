/-! the class begins anew -/
theorem x_anew {d : Nat} (hd : 3 ≤ d) {h : Hp} (X : SX h) (C : Crow h 4) : ∃ h', evm d 129 [vR 11 0] h = some (none, h') ∧ h'.2.2 = h.2.2 ∧ (∀ r, r ≠ 12 → hL h' r = hL h r) ∧ hL h' 12 7 = jZ 0 ∧ hI h' 4 = cFw 0 0 0 0 0 ∧ hI h' 8 3 = iZ (-4) ∧ (∀ s : Nat, s ≤ 40 → hI h' 46 s = iZ 0) ∧ (∀ m : Nat, m < 4 → hI h' (30 + 4 * m) 2 = iZ 0) ∧ ∀ r, r ≠ 4 → r ≠ 8 → r ≠ 46 → r ≠ 30 → r ≠ 34 → r ≠ 38 → r ≠ 42 → hI h' r = hI h r := by
  obtain ⟨d, rfl⟩ : ∃ e, d = e + 3 := ⟨d - 3, by omega⟩
  obtain ⟨s, b, la, cr, g, e4⟩ := C
  have e0 : CH h 4 s b la cr g (hI h 5) = h := CH_self e4 rfl
  have st : evm (d + 2) 1 [vR 0 4] h = some (none, CH h 4 0 0 0 0 0 (hI h 5)) := by
    have := x_start d (h := h) (c := 4) (s := s) (t := b) (la := la) (cr := cr) (g := g) (S := hI h 5)
    rw [e0] at this
    exact this
  obtain ⟨k, ek⟩ : ∃ k, k = sL (sI (CH h 4 0 0 0 0 0 (hI h 5)) 8 3 (-4 : Int32)) 12 7 (0 : Int64) := ⟨_, rfl⟩
  have k2 : k.2.2 = h.2.2 := by rw [ek]; rfl
  have Xk : SX k := by
    have e1 : hR k = hR h := congrArg (fun x => x.1) k2
    have e2 : hN k = hN h := congrArg (fun x => x.2.2.1) k2
    unfold SX; rw [e1, e2]; exact X
  have kI : ∀ r, r ≠ 4 → r ≠ 8 → hI k r = hI h r := fun r r1 r2 => by
    have : hI k r = hI (sI (CH h 4 0 0 0 0 0 (hI h 5)) 8 3 (-4 : Int32)) r := by rw [ek]; rfl
    rw [this, sI_w, wI_n _ _ r2]
    by_cases e5 : r = 5
    · subst e5; exact CH_S
    · exact CH_n (by omega)
  have k4 : hI k 4 = cFw 0 0 0 0 0 := by
    have : hI k 4 = hI (sI (CH h 4 0 0 0 0 0 (hI h 5)) 8 3 (-4 : Int32)) 4 := by rw [ek]; rfl
    rw [this, sI_w, wI_n _ _ (by decide), CH_I]
  have k8 : hI k 8 3 = iZ (-4) := by
    have : hI k 8 3 = hI (sI (CH h 4 0 0 0 0 0 (hI h 5)) 8 3 (-4 : Int32)) 8 3 := by rw [ek]; rfl
    rw [this, sI_e]; rfl
  have kL : ∀ r, r ≠ 12 → hL k r = hL h r := fun r hr => by
    rw [ek]
    funext j
    show (if r = 12 ∧ j = 7 then (0 : Int64) else _) = _
    rw [if_neg (fun y => hr y.1)]
    rfl
  have k12 : hL k 12 7 = jZ 0 := by
    rw [ek]
    rw [sL_w, wL_L, up_e]
    rfl
  have L2 : ∀ (f : Nat → Int32) (_ : ∀ s : Nat, s ≤ 40 → f s = iZ 0), ∃ h', L_X_beginAnew_47 (d + 2) 0 (0 : Int32) (wI k 46 f) = some (none, h') ∧ h'.2 = k.2 ∧ (∀ s : Nat, s ≤ 40 → hI h' 46 s = iZ 0) ∧ (∀ m : Nat, m < 4 → hI h' (30 + 4 * m) 2 = iZ 0) ∧ ∀ r, r ≠ 46 → r ≠ 30 → r ≠ 34 → r ≠ 38 → r ≠ 42 → hI h' r = hI k r := by
    intro f hf
    have st1 : ∀ (x : Int32) (y : Int32) (a r : Nat) (hh : Hp), SX hh → x < nI 4 → inb x 4 = true → ix x = a → hR hh 29 a = some r → x + (1 : Int32) = y → L_X_beginAnew_47 (d + 2) 0 x hh = L_X_beginAnew_47 (d + 2) 0 y (sI hh r 2 (0 : Int32)) := by
      intro x y a r hh XX c1 c2 c3 c4 c5
      rw [e_X_beginAnew_47]
      simp only [XX.r 0 8 29, XX.n 29 4, bR_s]
      rw [ifp_t c1, ifp_t c2, c3, c4, c5]
      rfl
    have X0 : SX (wI k 46 f) := Xk
    have X1 : SX (sI (wI k 46 f) 30 2 (0 : Int32)) := Xk
    have X2 : SX (sI (sI (wI k 46 f) 30 2 (0 : Int32)) 34 2 (0 : Int32)) := Xk
    have X3 : SX (sI (sI (sI (wI k 46 f) 30 2 (0 : Int32)) 34 2 (0 : Int32)) 38 2 (0 : Int32)) := Xk
    have X4 : SX (sI (sI (sI (sI (wI k 46 f) 30 2 (0 : Int32)) 34 2 (0 : Int32)) 38 2 (0 : Int32)) 42 2 (0 : Int32)) := Xk
    rw [st1 0 1 0 30 _ X0 (by decide) (by decide) rfl (X0.r 29 0 30) (by decide), st1 1 2 1 34 _ X1 (by decide) (by decide) rfl (X1.r 29 1 34) (by decide), st1 2 3 2 38 _ X2 (by decide) (by decide) rfl (X2.r 29 2 38) (by decide), st1 3 4 3 42 _ X3 (by decide) (by decide) rfl (X3.r 29 3 42) (by decide), e_X_beginAnew_47]
    simp only [X4.r 0 8 29, X4.n 29 4, bR_s]
    rw [ifp_f (by decide)]
    refine ⟨_, rfl, rfl, fun s hs => ?_, fun m hm => ?_, fun r r1 r2 r3 r4 r5 => ?_⟩
    · rw [sI_o _ _ (by omega), sI_o _ _ (by omega), sI_o _ _ (by omega), sI_o _ _ (by omega), wI_I]; exact hf s hs
    · rcases (show m = 0 ∨ m = 1 ∨ m = 2 ∨ m = 3 by omega) with rfl | rfl | rfl | rfl
      · rw [sI_o _ _ (by omega), sI_o _ _ (by omega), sI_o _ _ (by omega)]; exact sI_e _ _ _ _
      · rw [sI_o _ _ (by omega), sI_o _ _ (by omega)]; exact sI_e _ _ _ _
      · rw [sI_o _ _ (by omega)]; exact sI_e _ _ _ _
      · exact sI_e _ _ _ _
    · rw [sI_w, wI_n _ _ r5, sI_w, wI_n _ _ r4, sI_w, wI_n _ _ r3, sI_w, wI_n _ _ r2, wI_n _ _ r1]
  have L1 : ∀ a : Int, 0 ≤ a → a ≤ 41 → ∀ f : Nat → Int32, (∀ s : Nat, (s : Int) < a → f s = iZ 0) → ∃ h', L_X_beginAnew_23 (d + 2) 0 (iZ a) (wI k 46 f) = some (none, h') ∧ h'.2 = k.2 ∧ (∀ s : Nat, s ≤ 40 → hI h' 46 s = iZ 0) ∧ (∀ m : Nat, m < 4 → hI h' (30 + 4 * m) 2 = iZ 0) ∧ ∀ r, r ≠ 46 → r ≠ 30 → r ≠ 34 → r ≠ 38 → r ≠ 42 → hI h' r = hI k r := by
    refine lpZ 41 (fun a ha h0 h1 f hf => ?_) (fun a ha ih h0 h1 f hf => ?_)
    · rw [e_X_beginAnew_23]
      simp only [wI_R, wI_N, Xk.r 0 9 46, Xk.n 46 41, bR_s, nI_iz]
      rw [ifp_f (fun y => by have := (iz_lt (by omega)).mp y; omega)]
      exact L2 f (fun s hs => hf s (by omega))
    · rw [e_X_beginAnew_23]
      simp only [wI_R, wI_N, Xk.r 0 9 46, Xk.n 46 41, bR_s, nI_iz]
      rw [ifp_t ((iz_lt (by omega)).mpr (by omega)), ifp_t ((inb_iz (by omega)).mpr (by omega)), ix_iz (by omega), sI_wI, show (1 : Int32) = iZ 1 from rfl, iz_add]
      refine ih (by omega) (by omega) _ (fun s hs => ?_)
      by_cases e : s = a.toNat
      · subst e; rw [up_e]; rfl
      · rw [up_n _ _ e]; exact hf s (by omega)
  obtain ⟨h', a1, a2, a3, a4, a5⟩ := L1 0 (by omega) (by omega) (hI k 46) (fun s hs => by omega)
  rw [wI_self] at a1
  have l' : hL h' = hL k := congrArg (fun x => x.1) a2
  refine ⟨h', ?_, (congrArg (fun x => x.2) a2).trans k2, fun r hr => by rw [l']; exact kL r hr, by rw [l']; exact k12, by rw [a5 4 (by decide) (by decide) (by decide) (by decide) (by decide)]; exact k4, by rw [a5 8 (by decide) (by decide) (by decide) (by decide) (by decide)]; exact k8, a3, a4, fun r r1 r2 r3 r4 r5 r6 r7 => by rw [a5 r r3 r4 r5 r6 r7]; exact kI r r1 r2⟩
  rw [e_X_beginAnew, X.r 0 1 4, bR_s, st, bV_s]
  have Xa : SX (CH h 4 0 0 0 0 0 (hI h 5)) := X
  have Xb : SX (sI (CH h 4 0 0 0 0 0 (hI h 5)) 8 3 (-4 : Int32)) := X
  rw [Xa.r 0 3 8, bR_s, e_Ways_forget, bV_s, Xb.r 0 4 12, bR_s, e_Throng_forget, bV_s, ← ek]
  exact a1
/-! the whole telling, both sides -/
def FaultFr (p : Nat) (hx hm hx' hm' : Hp) : Prop := XQf p hx hx' ∧ hm'.2.2 = hm.2.2 ∧ (∀ r, r ≠ 72 → hL hm' r = hL hm r) ∧ ∀ r k, r ≠ 68 → r ≠ 70 → r ≠ 71 → ¬ (r = 74 ∧ 70 ≤ k) → ¬ ((r = 75 ∨ r = 76) ∧ 1100 ≤ k) → hI hm' r k = hI hm r k
def TakeFr (p : Nat) (hx hm hx' hm' : Hp) : Prop := XQf p hx hx' ∧ (hm'.2.2 = hm.2.2 ∧ (∀ r, r ≠ 72 → hL hm' r = hL hm r) ∧ ∀ r k, r ≠ 68 → r ≠ 70 → r ≠ 71 → r ≠ 74 → r ≠ 75 → r ≠ 76 → r ≠ 79 → r ≠ 80 → hI hm' r k = hI hm r k) ∧ SR hx' p (rz hm' 74) ∧ VS (rz hm' 74) ∧ LX hx' p (rz hm' 74) (rz hm' 75) (rz hm' 76) ∧ (∀ k : Nat, k < 84 → hI hm' 79 k = iZ 0) ∧ ∀ k : Nat, k < 4 → hI hm' 80 k = iZ 0
theorem j_read {d e : Nat} (hd : 48 ≤ d) (he : 48 ≤ e) {p : Nat} (tt : TO p) {hx hm : Hp} (X : SX hx) (M : SM hm) (W : MWd hm) {n : Nat} (T : Tpp hx hm n) : ∃ hx' hm' r, evm d 39 [vR 6 1, vR 5 p] hx = some (some (vI (iZ r)), hx') ∧ evm e 158 [vR 12 68] hm = some (some (vI (iZ r)), hm') ∧ (0 ≤ r ∧ r ≤ 20000) ∧ hI hx' 2 1 = iZ 0 ∧ hI hm' 68 2 = iZ 0 ∧ ((r ≠ 0 ∧ FaultFr p hx hm hx' hm') ∨ (r = 0 ∧ TakeFr p hx hm hx' hm')) := by
  obtain ⟨d, rfl⟩ : ∃ e, d = e + 1 := ⟨d - 1, by omega⟩
  obtain ⟨e, rfl⟩ : ∃ e', e = e' + 2 := ⟨e - 2, by omega⟩
  have tp : 48 ≤ p ∧ p ≤ 58 := by unfold TO at tt; omega
  obtain ⟨⟨n1, n2, n3⟩, n4⟩ := T
  obtain ⟨c, hc⟩ : ∃ c, c = rz hm 69 := ⟨_, rfl⟩
  -- the class: cleared, the first token
  obtain ⟨x1, a1, a2, a3, a4, a5⟩ := x_clear (d := d) (by omega) (show SX (sI (sI hx 1 1 (0 : Int32)) 1 2 (0 : Int32)) from X) tt
  have X1 : SX x1 := sx_e a2 X
  have xo : ∀ r, r ≠ 1 → (r < p ∨ p + 8 < r) → hI x1 r = hI hx r := fun r r1 r2 => by rw [a3 r r2, sI_w, wI_n _ _ r1, sI_w, wI_n _ _ r1]
  have x11 : hI x1 1 1 = iZ 0 := by rw [a3 1 (by omega), sI_o _ _ (by omega), sI_e]; rfl
  have x12 : hI x1 1 2 = iZ 0 := by rw [a3 1 (by omega), sI_e]; rfl
  have ts : ∀ h', hI h' 3 = hI hx 3 → TSg h' c n := by
    intro h' e3
    refine ⟨by omega, fun j j1 j2 => ?_, fun j j1 j2 => ?_⟩
    · rw [e3, (n4 j.toNat (by omega)).1, hc]
      exact rz_iz' hm 69 j.toNat |>.trans (by rw [show ((j.toNat : Nat) : Int) = j by omega])
    · have := (n4 j.toNat (by omega)).2
      rw [show ((j.toNat : Nat) : Int) = j by omega] at this
      rw [hc]; exact this
  have x14 : ∀ h', hI h' 3 = hI hx 3 → True := fun _ _ => trivial
  obtain ⟨f', b1, b2⟩ := x_advance (d - 7) (show SX (sI x1 2 4 (0 : Int32)) from X1) (c := c) (n := n) (e := 0) (ts _ (by rw [sI_w, wI_n _ _ (by decide)]; exact xo 3 (by decide) (by omega))) (by omega) (by rw [sI_o _ _ (by omega), xo 2 (by decide) (by omega)]; exact n2) (by rw [sI_e]; rfl)
  rw [show d - 7 + 6 = d - 1 by omega] at b1
  have rew : evm d 68 [vR 8 2] x1 = some (none, wI (sI x1 2 4 (0 : Int32)) 2 f') := by
    obtain ⟨d, rfl⟩ : ∃ e, d = e + 1 := ⟨d - 1, by omega⟩
    rw [show d + 1 - 1 = d from rfl] at b1
    rw [e_Tape_rewind, b1, bV_s]
  obtain ⟨x2, ex2⟩ : ∃ x2, x2 = wI (sI x1 2 4 (0 : Int32)) 2 f' := ⟨_, rfl⟩
  have x2o : ∀ r, r ≠ 2 → hI x2 r = hI x1 r := fun r hr => by rw [ex2, wI_n _ _ hr, sI_w, wI_n _ _ hr]
  have X2 : SX x2 := by rw [ex2]; exact X1
  have J : JX x2 c n 0 := ⟨X2, ts x2 (by rw [x2o 3 (by decide)]; exact xo 3 (by decide) (by omega)), by rw [ex2, wI_I]; exact b2, by rw [x2o 1 (by decide)]; exact x12⟩
  have C2 : CLX x2 p := by
    obtain ⟨c1, c2, c3, c4⟩ := a4
    unfold CLX
    rw [x2o p (by omega), x2o (p + 3) (by omega), x2o (p + 4) (by omega), x2o (p + 7) (by omega)]
    exact ⟨c1, c2, c3, c4⟩
  -- the model: cut, cleared
  obtain ⟨m0, em0⟩ : ∃ m0, m0 = sI (sI (sI hm 68 0 (0 : Int32)) 68 3 (hI (sI hm 68 0 (0 : Int32)) 68 2)) 68 2 (0 : Int32) := ⟨_, rfl⟩
  have m0o : ∀ r k, ¬ (r = 68 ∧ (k = 0 ∨ k = 2 ∨ k = 3)) → hI m0 r k = hI hm r k := fun r k hr => by rw [em0, sI_o _ _ (by omega), sI_o _ _ (by omega), sI_o _ _ (by omega)]
  have M0 : SM m0 := by rw [em0]; exact M
  have m03 : hI m0 68 3 = iZ n := by rw [em0, sI_o _ _ (by omega), sI_e, sI_o _ _ (by omega)]; exact n3
  have m02 : hI m0 68 2 = iZ 0 := by rw [em0, sI_e]; rfl
  obtain ⟨f, g, y, N, c1, c2⟩ := u_cutL (d := e - 2) M0 (c := c) (n := n) (by omega) m03 (fun j j1 j2 => by rw [m0o 69 _ (by omega), hc]; exact rz_iz hm 69 j) (fun j j1 j2 => (ts hx rfl).2.2 j j1 j2) ((n : Int) - 0).toNat 0 0 (hI m0 70) (hI m0 71) (hL m0 72) (Nat.le_refl _) (by omega) (by omega) (by omega) rfl (fun j hj => by omega)
  have ecH : cHp m0 (hI m0 70) (hI m0 71) (hL m0 72) = m0 := by
    unfold cHp
    rw [wI_self]
    have h1 : wI m0 71 (hI m0 71) = m0 := wI_self m0 71
    rw [h1]
    exact wL_self m0 72
  rw [ecH, show e - 2 + 2 = e by omega] at c1
  have cut : evm (e + 1 + 0) 146 [vR 12 68] (sI hm 68 0 (0 : Int32)) = evm (e + 1) 146 [vR 12 68] (sI hm 68 0 (0 : Int32)) := rfl
  obtain ⟨m1, em1⟩ : ∃ m1, m1 = sI (sI (cHp m0 f g y) 68 7 (iZ 0)) 68 8 (iZ 0) := ⟨_, rfl⟩
  have m1o : ∀ r k, r ≠ 70 → r ≠ 71 → ¬ (r = 68 ∧ (k = 7 ∨ k = 8)) → hI m1 r k = hI m0 r k := fun r k h1 h2 h3 => by rw [em1, sI_o _ _ (by omega), sI_o _ _ (by omega), cHp_n _ _ _ _ h1 h2]
  obtain ⟨m2, em2⟩ : ∃ m2, m2 = sI (sI m1 68 13 (0 : Int32)) 68 14 (0 : Int32) := ⟨_, rfl⟩
  have M2 : SM m2 := by rw [em2, em1]; exact M0
  obtain ⟨F, d1, d2, d3⟩ := u_stands (d := e + 1) (by omega) M2
  obtain ⟨m3, em3⟩ : ∃ m3, m3 = wI m2 74 F := ⟨_, rfl⟩
  have m3o : ∀ r k, r ≠ 70 → r ≠ 71 → r ≠ 74 → ¬ (r = 68 ∧ (k = 0 ∨ k = 2 ∨ k = 3 ∨ k = 7 ∨ k = 8 ∨ k = 13 ∨ k = 14)) → hI m3 r k = hI hm r k := fun r k h1 h2 h3 h4 => by
    rw [em3, wI_n _ _ h3, em2, sI_o _ _ (by omega), sI_o _ _ (by omega), m1o r k h1 h2 (by omega), m0o r k (by omega)]
  have m3L : ∀ r, r ≠ 72 → hL m3 r = hL hm r := fun r hr => by
    have : hL m3 = hL (cHp m0 f g y) := by rw [em3, em2, em1]; rfl
    rw [this]
    unfold cHp
    rw [wL_n _ _ hr]
    rw [em0]
    rfl
  have m3R : m3.2.2 = hm.2.2 := by rw [em3, em2, em1, em0]; rfl
  have m374 : ∀ k : Nat, k < 70 → hI m3 74 k = hI hm 74 k := fun k hk => by
    rw [em3, wI_I, d2 k hk, em2, sI_o _ _ (by omega), sI_o _ _ (by omega), m1o 74 k (by decide) (by decide) (by omega), m0o 74 k (by omega)]
  have m32 : hI m3 68 2 = iZ 0 := by
    rw [em3, wI_n _ _ (by decide), em2, sI_o _ _ (by omega), sI_o _ _ (by omega), m1o 68 2 (by decide) (by decide) (by omega)]; exact m02
  have Jm : JM m3 c n N 0 := by
    refine ⟨⟨by rw [em3]; exact M2, fun w hw => ?_, ?_, by omega, by omega, (ts hx rfl).2.2⟩, ⟨?_, by omega⟩, ?_⟩
    · rw [m3L 73 (by decide)]; exact W w hw
    · have : m3.2 = (cHp m0 f g y).2 := by rw [em3, em2, em1]; rfl
      refine c2.tr this (fun k => ?_) (fun k => ?_)
      · rw [em3, wI_n _ _ (by decide), em2, sI_o _ _ (by omega), sI_o _ _ (by omega), em1, sI_o _ _ (by omega), sI_o _ _ (by omega)]
      · rw [em3, wI_n _ _ (by decide), em2, sI_o _ _ (by omega), sI_o _ _ (by omega), em1, sI_o _ _ (by omega), sI_o _ _ (by omega)]
    · rw [em3, wI_n _ _ (by decide), em2, sI_o _ _ (by omega), sI_o _ _ (by omega), em1, sI_o _ _ (by omega), sI_e]; rfl
    · rw [em3, wI_n _ _ (by decide), em2, sI_o _ _ (by omega), sI_o _ _ (by omega), em1, sI_e]
  -- the first line
  obtain ⟨x4, m4, r, g1, g2, g3, g4, g5⟩ := j_first (d := d) (e := e + 1) (by omega) (by omega) tt J Jm (by rw [x2o 1 (by decide)]; exact x11) (by rw [em3, wI_n _ _ (by decide), em2, sI_e]; rfl) (by rw [em3, wI_n _ _ (by decide), em2, sI_o _ _ (by omega), sI_e]; rfl) C2 (fun j j1 j2 => by rw [em3, wI_I]; exact d3 j (by omega) j2)
  have eX : evm (d + 1) 39 [vR 6 1, vR 5 p] hx = L_StairReader_read_29 d 1 p (iZ r) (0 : Int32) x4 := by
    rw [e_StairReader_read, a1, bV_s, X1.r 1 0 2, bR_s, rew, bV_s, ← ex2, g1, bI_s]
  have eM : evm (e + 2) 158 [vR 12 68] hm = L_M_stair_50 (e + 1) 68 m4 := by
    rw [e_M_stair, e_M_cutAll, ← em0, show (0 : Int32) = iZ ((0 : Nat) : Int) from rfl, show iZ ((0 : Nat) : Int) = iZ 0 from rfl]
    rw [show iZ 0 = (0 : Int32) from rfl]
    have c1' : L_M_cutAll_17 e 68 (0 : Int32) (0 : Int32) m0 = some (none, m1) := by rw [em1]; exact c1
    rw [c1', bV_s, ← em2, d1, bV_s, ← em3]
    exact g2
  rw [eX, eM]
  have fx0 : XQf p hx x2 := by
    refine ⟨?_, fun r r1 r2 r3 => ?_⟩
    · have h1 : x2.2 = x1.2 := by rw [ex2]; rfl
      rw [h1, a2]; rfl
    · rw [x2o r r2, xo r r1 r3]
  have mk : ∀ {hx' hm' : Hp} {F : Int}, XQf p x4 hx' → MQf m4 hm' → hI hx' 1 2 = iZ F → JF hm' F → ∃ hx'' hm'' r, L_StairReader_read_62 d 1 p hx' = some (some (vI (iZ r)), hx'') ∧ L_M_stair_82 (e + 1) 68 hm' = some (some (vI (iZ r)), hm'') ∧ (0 ≤ r ∧ r ≤ 20000) ∧ hI hx'' 2 1 = iZ 0 ∧ hI hm'' 68 2 = iZ 0 ∧ ((r ≠ 0 ∧ FaultFr p hx hm hx'' hm'') ∨ (r = 0 ∧ TakeFr p hx hm hx'' hm'')) := by
    intro hx' hm' F' q1 q2 q3 q4
    have fb := q4.2.2
    have X' : SX hx' := sx_e q1.1 (sx_e g3.1 X2)
    have i12 : hI (sI hx' 2 1 (0 : Int32)) 1 2 = iZ F' := by rw [sI_o _ _ (by omega)]; exact q3
    have mt := g4.tr q2
    refine ⟨sI hx' 2 1 (0 : Int32), hm', F', ?_, ?_, by omega, by rw [sI_e]; rfl, ?_, Or.inl ⟨by omega, ?_, ?_, fun r hr => ?_, fun r k h1 h2 h3 h4 h5 => ?_⟩⟩
    · rw [e_StairReader_read_62]
      simp only [X'.r 1 0 2, bR_s, i12]
      rw [ifp_f (fun y => by rw [show (0 : Int32) = iZ 0 from rfl] at y; have := (iz_eq (by omega)).mp y; omega)]
    · rw [e_M_stair_82, q4.2.1, ifp_t (by rw [show (0 : Int32) = iZ 0 from rfl]; exact (iz_lt (by omega)).mpr (by omega))]
    · rw [mt.2 68 2 (by omega) (by omega) (by omega)]; exact m32
    · exact ((fx0.tr g3).tr q1).tr (XQf.s p _ _ (by omega))
    · rw [show hm'.2.2 = m3.2.2 from congrArg (fun x => x.2) mt.1]; exact m3R
    · rw [show hL hm' = hL m3 from congrArg (fun x => x.1) mt.1]; exact m3L r hr
    · rw [mt.2 r k (by omega) h4 h5]
      by_cases e74 : r = 74
      · subst e74; exact m374 k (by omega)
      · exact m3o r k h2 h3 e74 (by omega)
  rcases g5 with ⟨r1, i', L', q', S⟩ | ⟨r0, F', f1, f2⟩
  · subst r1
    obtain ⟨x5, m5, h1, h2, h3, h4, h5⟩ := j_lines (d := d) (e := e + 1) (by omega) (by omega) (N - i') i' (Nat.le_refl _) 0 x4 m4 L' q' (by omega) (by omega) S
    rw [show (0 : Int32) = iZ 0 from rfl, h1, h2]
    rcases h5 with ⟨i2, L2, q2, S2⟩ | ⟨F', f1, f2⟩
    · obtain ⟨x6, m6, k1, k2, ⟨k3, k4⟩, ⟨k5, k6⟩, k7, k8, k9, k10, k11⟩ := j_end (d := d) (e := e + 1) (by omega) (by omega) S2
      have mt := g4.tr h4
      refine ⟨x6, m6, 0, k1, k2, by omega, k4, ?_, Or.inr ⟨rfl, ((fx0.tr g3).tr h3).tr k3, ⟨?_, fun r hr => ?_, fun r k h1 h2 h3 h4 h5 h6 h7 h8 => ?_⟩, k7, k8, k9, k10, k11⟩⟩
      · rw [k6 68 2 (by decide) (by decide) (by decide) (by decide) (by decide), mt.2 68 2 (by omega) (by omega) (by omega)]; exact m32
      · rw [show m6.2.2 = m3.2.2 from congrArg (fun x => x.2) (k5.trans mt.1)]; exact m3R
      · rw [show hL m6 = hL m3 from congrArg (fun x => x.1) (k5.trans mt.1)]; exact m3L r hr
      · rw [k6 r k h4 h5 h6 h7 h8, mt.2 r k (by omega) (by omega) (by omega)]
        exact m3o r k h2 h3 h4 (by omega)
    · exact mk h3 h4 f1 f2
  · subst r0
    have l29 : L_StairReader_read_29 d 1 p (iZ 0) (0 : Int32) x4 = L_StairReader_read_62 d 1 p x4 := by
      rw [e_StairReader_read_29]
      exact ifp_r (fun _ => ifp_t (show iZ 0 = (0 : Int32) from rfl)) (fun _ => rfl)
    have fb := f2.2.2
    have l50 : L_M_stair_50 (e + 1) 68 m4 = L_M_stair_82 (e + 1) 68 m4 := by
      rw [e_M_stair_50, f2.2.1, ifp_f (fun y => by rw [show (0 : Int32) = iZ 0 from rfl] at y; have := (iz_eq (by omega)).mp y; omega)]
    rw [l29, l50]
    exact mk ⟨rfl, fun _ _ _ _ => rfl⟩ ⟨rfl, fun _ _ _ _ _ => rfl⟩ f1 f2
