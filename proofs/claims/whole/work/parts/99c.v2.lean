/-! a stair is cleared; the model's too -/
theorem x_clear {d : Nat} (hd : 1 ≤ d) {h : Hp} (X : SX h) {p : Nat} (tt : TO p) : ∃ h', evm d 25 [vR 5 p] h = some (none, h') ∧ h'.2 = h.2 ∧ (∀ r, r < p ∨ p + 8 < r → hI h' r = hI h r) ∧ CLX h' p ∧ hI h' p 7 = iZ 1 := by
  obtain ⟨d, rfl⟩ : ∃ e, d = e + 1 := ⟨d - 1, by omega⟩
  have tp : 48 ≤ p := by unfold TO at tt; omega
  have L2 : ∀ a : Int, 0 ≤ a → a ≤ 13 → ∀ f : Nat → Int32, ∀ g : Nat → Int32, (∀ s : Nat, s ≤ 40 → f s = iZ 0) → (∀ s : Nat, (s : Int) < a → g s = iZ 0) → ∃ h', L_Stair_clear_23 d p (iZ a) (wI (wI h (p + 3) f) (p + 4) g) = some (none, h') ∧ h'.2 = h.2 ∧ (∀ r, r < p ∨ p + 8 < r → hI h' r = hI h r) ∧ CLX h' p ∧ hI h' p 7 = iZ 1 := by
    refine lpZ 13 (fun a ha h0 h1 f g hf hg => ?_) (fun a ha ih h0 h1 f g hf hg => ?_)
    · rw [e_Stair_clear_23, ifp_t (by rw [show (12 : Int32) = iZ 12 from rfl]; exact (iz_lt (by omega)).mpr (by omega))]
      simp only [wI_R, X.o6 tt, bR_s]
      refine ⟨_, rfl, rfl, fun r hr => ?_, ⟨⟨?_, ?_, ?_, ?_, ?_, ?_, ?_, ?_, ?_⟩, fun s hs => ?_, fun s hs => ?_, ?_⟩, ?_⟩
      · funext k
        rw [sI_o _ _ (by omega), sI_o _ _ (by omega), sI_o _ _ (by omega), sI_o _ _ (by omega), sI_o _ _ (by omega), sI_o _ _ (by omega), sI_o _ _ (by omega), sI_o _ _ (by omega), sI_o _ _ (by omega), sI_o _ _ (by omega), sI_o _ _ (by omega), wI_n _ _ (by omega), wI_n _ _ (by omega)]
      · rw [sI_o _ _ (by omega), sI_o _ _ (by omega), sI_o _ _ (by omega), sI_o _ _ (by omega), sI_o _ _ (by omega), sI_o _ _ (by omega), sI_o _ _ (by omega), sI_o _ _ (by omega), sI_e]; rfl
      · rw [sI_o _ _ (by omega), sI_o _ _ (by omega), sI_o _ _ (by omega), sI_o _ _ (by omega), sI_o _ _ (by omega), sI_o _ _ (by omega), sI_o _ _ (by omega), sI_e]; rfl
      · rw [sI_o _ _ (by omega), sI_o _ _ (by omega), sI_o _ _ (by omega), sI_o _ _ (by omega), sI_o _ _ (by omega), sI_o _ _ (by omega), sI_e]; rfl
      · rw [sI_o _ _ (by omega), sI_o _ _ (by omega), sI_o _ _ (by omega), sI_o _ _ (by omega), sI_o _ _ (by omega), sI_e]; rfl
      · rw [sI_o _ _ (by omega), sI_o _ _ (by omega), sI_o _ _ (by omega), sI_o _ _ (by omega), sI_e]; rfl
      · rw [sI_o _ _ (by omega), sI_o _ _ (by omega), sI_o _ _ (by omega), sI_e]; rfl
      · rw [sI_o _ _ (by omega), sI_o _ _ (by omega), sI_e]; rfl
      · rw [sI_o _ _ (by omega), sI_e]; rfl
      · rw [sI_e]; rfl
      · rw [sI_o _ _ (by omega), sI_o _ _ (by omega), sI_o _ _ (by omega), sI_o _ _ (by omega), sI_o _ _ (by omega), sI_o _ _ (by omega), sI_o _ _ (by omega), sI_o _ _ (by omega), sI_o _ _ (by omega), sI_o _ _ (by omega), sI_o _ _ (by omega), wI_n _ _ (by omega), wI_I]; exact hf s hs
      · rw [sI_o _ _ (by omega), sI_o _ _ (by omega), sI_o _ _ (by omega), sI_o _ _ (by omega), sI_o _ _ (by omega), sI_o _ _ (by omega), sI_o _ _ (by omega), sI_o _ _ (by omega), sI_o _ _ (by omega), sI_o _ _ (by omega), sI_o _ _ (by omega), wI_I]; exact hg s (by omega)
      · rw [sI_o _ _ (by omega), sI_o _ _ (by omega), sI_o _ _ (by omega), sI_o _ _ (by omega), sI_o _ _ (by omega), sI_o _ _ (by omega), sI_o _ _ (by omega), sI_o _ _ (by omega), sI_o _ _ (by omega), sI_o _ _ (by omega), sI_e]; rfl
      · rw [sI_o _ _ (by omega), sI_o _ _ (by omega), sI_o _ _ (by omega), sI_o _ _ (by omega), sI_o _ _ (by omega), sI_o _ _ (by omega), sI_o _ _ (by omega), sI_o _ _ (by omega), sI_o _ _ (by omega), sI_e]; rfl
    · rw [e_Stair_clear_23, ifp_f (fun y => by rw [show (12 : Int32) = iZ 12 from rfl] at y; have := (iz_lt (by omega)).mp y; omega)]
      simp only [wI_R, wI_N, X.o3 tt, X.n4 tt, bR_s]
      rw [ifp_t ((inb_iz (by omega)).mpr (by omega)), ix_iz (by omega), sI_wI, show (1 : Int32) = iZ 1 from rfl, iz_add]
      refine ih (by omega) (by omega) f _ hf (fun s hs => ?_)
      by_cases e : s = a.toNat
      · subst e; rw [up_e]; rfl
      · rw [up_n _ _ e]; exact hg s (by omega)
  have L1 : ∀ a : Int, 0 ≤ a → a ≤ 41 → ∀ f : Nat → Int32, (∀ s : Nat, (s : Int) < a → f s = iZ 0) → ∃ h', L_Stair_clear_2 d p (iZ a) (wI h (p + 3) f) = some (none, h') ∧ h'.2 = h.2 ∧ (∀ r, r < p ∨ p + 8 < r → hI h' r = hI h r) ∧ CLX h' p ∧ hI h' p 7 = iZ 1 := by
    refine lpZ 41 (fun a ha h0 h1 f hf => ?_) (fun a ha ih h0 h1 f hf => ?_)
    · rw [e_Stair_clear_2, ifp_t (by rw [show (40 : Int32) = iZ 40 from rfl]; exact (iz_lt (by omega)).mpr (by omega))]
      have := L2 0 (by omega) (by omega) f (hI (wI h (p + 3) f) (p + 4)) (fun s hs => hf s (by omega)) (fun s hs => by omega)
      rw [wI_self] at this
      exact this
    · rw [e_Stair_clear_2, ifp_f (fun y => by rw [show (40 : Int32) = iZ 40 from rfl] at y; have := (iz_lt (by omega)).mp y; omega)]
      simp only [wI_R, wI_N, X.o2 tt, X.n3 tt, bR_s]
      rw [ifp_t ((inb_iz (by omega)).mpr (by omega)), ix_iz (by omega), sI_wI, show (1 : Int32) = iZ 1 from rfl, iz_add]
      refine ih (by omega) (by omega) _ (fun s hs => ?_)
      by_cases e : s = a.toNat
      · subst e; rw [up_e]; rfl
      · rw [up_n _ _ e]; exact hf s (by omega)
  rw [e_Stair_clear]
  have := L1 0 (by omega) (by omega) (hI h (p + 3)) (fun s hs => by omega)
  rw [wI_self] at this
  exact this
theorem u_stands {d : Nat} (hd : 1 ≤ d) {h : Hp} (M : SM h) : ∃ f, evm d 155 [vR 12 68, vI (70 : Int32)] h = some (none, wI h 74 f) ∧ (∀ k : Nat, k < 70 → f k = hI h 74 k) ∧ ∀ j : Int, 0 ≤ j → j < 70 → f (70 + j).toNat = iZ (qin 0 j) := by
  obtain ⟨d, rfl⟩ : ∃ e, d = e + 1 := ⟨d - 1, by omega⟩
  have L : ∀ a : Int, 0 ≤ a → a ≤ 70 → ∀ f : Nat → Int32, (∀ k : Nat, k < 70 → f k = hI h 74 k) → (∀ j : Int, 0 ≤ j → j < a → f (70 + j).toNat = iZ 0) → ∃ f', L_M_standsAsAlways_2 d 68 (70 : Int32) (iZ a) (wI h 74 f) = some (none, wI h 74 f') ∧ (∀ k : Nat, k < 70 → f' k = hI h 74 k) ∧ ∀ j : Int, 0 ≤ j → j < 70 → f' (70 + j).toNat = iZ (qin 0 j) := by
    refine lpZ 70 (fun a ha h0 h1 f hf hg => ?_) (fun a ha ih h0 h1 f hf hg => ?_)
    · rw [e_M_standsAsAlways_2, ifp_f (fun y => by rw [show (70 : Int32) = iZ 70 from rfl] at y; have := (iz_lt (by omega)).mp y; omega), e_M_standsAsAlways_23]
      have e1 : (70 : Int32) + (1 : Int32) = 71 := by decide
      have e2 : (70 : Int32) + (2 : Int32) = 72 := by decide
      have e4 : (70 : Int32) + (4 : Int32) = 74 := by decide
      have e5 : (70 : Int32) + (5 : Int32) = 75 := by decide
      have e7 : (70 : Int32) + (7 : Int32) = 77 := by decide
      have i1 : ix (71 : Int32) = 71 := rfl
      have i2 : ix (72 : Int32) = 72 := rfl
      have i4 : ix (74 : Int32) = 74 := rfl
      have i5 : ix (75 : Int32) = 75 := rfl
      have i7 : ix (77 : Int32) = 77 := rfl
      simp only [e1, e2, e4, e5, e7, i1, i2, i4, i5, i7, sI_wI, wI_R, wI_N, M.r 10 74, M.n 74 140, bR_s]
      rw [ifp_t (show inb (71 : Int32) 140 = true by decide), ifp_t (show inb (72 : Int32) 140 = true by decide), ifp_t (show inb (74 : Int32) 140 = true by decide), ifp_t (show inb (75 : Int32) 140 = true by decide), ifp_t (show inb (77 : Int32) 140 = true by decide)]
      refine ⟨_, rfl, fun k hk => ?_, fun j j1 j2 => ?_⟩
      · rw [up_n _ _ (by omega), up_n _ _ (by omega), up_n _ _ (by omega), up_n _ _ (by omega), up_n _ _ (by omega)]; exact hf k hk
      · by_cases c7 : j = 7
        · subst c7; rw [show (70 + (7 : Int)).toNat = 77 from rfl, up_e]; rfl
        · rw [up_n _ _ (by omega)]
          by_cases c5 : j = 5
          · subst c5; rw [show (70 + (5 : Int)).toNat = 75 from rfl, up_e]; rfl
          · rw [up_n _ _ (by omega)]
            by_cases c4 : j = 4
            · subst c4; rw [show (70 + (4 : Int)).toNat = 74 from rfl, up_e]; rfl
            · rw [up_n _ _ (by omega)]
              by_cases c2 : j = 2
              · subst c2; rw [show (70 + (2 : Int)).toNat = 72 from rfl, up_e]; rfl
              · rw [up_n _ _ (by omega)]
                by_cases c1 : j = 1
                · subst c1; rw [show (70 + (1 : Int)).toNat = 71 from rfl, up_e]; rfl
                · rw [up_n _ _ (by omega), hg j j1 (by omega)]
                  refine congrArg iZ ?_
                  unfold qin
                  by_cases c0 : j = 0
                  · rw [if_pos c0]
                  · rw [if_neg c0, if_neg (by omega), if_neg (by omega)]
    · rw [e_M_standsAsAlways_2, ifp_t (by rw [show (70 : Int32) = iZ 70 from rfl]; exact (iz_lt (by omega)).mpr (by omega))]
      simp only [wI_R, wI_N, M.r 10 74, M.n 74 140, bR_s]
      rw [show (70 : Int32) + iZ a = iZ (70 + a) by rw [show (70 : Int32) = iZ 70 from rfl, iz_add], ifp_t ((inb_iz (by omega)).mpr (by omega)), ix_iz (by omega), sI_wI, show (1 : Int32) = iZ 1 from rfl, iz_add]
      refine ih (by omega) (by omega) _ (fun k hk => ?_) (fun j j1 j2 => ?_)
      · rw [up_n _ _ (by omega)]; exact hf k hk
      · by_cases e : j = a
        · subst e; rw [up_e]; rfl
        · rw [up_n _ _ (by omega)]; exact hg j j1 (by omega)
  rw [e_M_standsAsAlways]
  have := L 0 (by omega) (by omega) (hI h 74) (fun k hk => rfl) (fun j j1 j2 => by omega)
  rw [wI_self] at this
  exact this
