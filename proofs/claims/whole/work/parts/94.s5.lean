/-! the class: count -/
theorem X_count (d : Nat) {h : Hp} {o p : Nat} {q v z co ca : Int → Int} (S : XS h o p q v z co ca) {n : Int} (hn : hI h 2 1 = iZ n) {x : Int} (hx : -2147483648 ≤ x ∧ x < 2147483648) : evm (d + 1) 128 [vR 11 0, vI (iZ x)] h = some (some (vI (iZ (cnV q v n x))), h) := by
  obtain ⟨T0, b2, b3, b4⟩ := S.2.2.2.2.1
  have R := S.2.2.2.1.1
  have i1 : hI h 4 1 = iZ (pS v (v 0)) := by rw [b3.1]; rfl
  have i2 : hI h 4 2 = iZ (v 0) := by rw [b3.1]; rfl
  have i4 : hI h 4 4 = iZ (pR q v (v 0)) := by rw [b3.1]; rfl
  have i5 : hI h 4 5 = iZ (pG q v (v 0)) := by rw [b3.1]; rfl
  rw [e_X_count, show (-1 : Int32) = iZ (-1) from rfl]
  simp only [S.1.r 0 1 4, S.2.2.1.1, S.1.r 0 0 1, S.1.r 1 0 2, bR_s, i1, i2, i4, i5, R.top, R.n, R.bar, hn, lit32, iz_add, show (0 : Int) + 1 = 1 from rfl, show (1 : Int) + 1 = 2 from rfl, show (2 : Int) + 1 = 3 from rfl, show (3 : Int) + 1 = 4 from rfl, show (4 : Int) + 1 = 5 from rfl, show (5 : Int) + 1 = 6 from rfl, show (6 : Int) + 1 = 7 from rfl]
  unfold cnV
  by_cases c0 : x = 0
  · rw [if_pos c0, ifp_t (by rw [c0])]
  · rw [if_neg c0, ifp_f (fun y => c0 ((iz_eq (by omega)).mp y))]
    by_cases c1 : x = 1
    · rw [if_pos c1, ifp_t (by rw [c1])]
    · rw [if_neg c1, ifp_f (fun y => c1 ((iz_eq (by omega)).mp y))]
      by_cases c2 : x = 2
      · rw [if_pos c2, ifp_t (by rw [c2])]
      · rw [if_neg c2, ifp_f (fun y => c2 ((iz_eq (by omega)).mp y))]
        by_cases c3 : x = 3
        · rw [if_pos c3, ifp_t (by rw [c3])]
        · rw [if_neg c3, ifp_f (fun y => c3 ((iz_eq (by omega)).mp y))]
          by_cases c4 : x = 4
          · rw [if_pos c4, ifp_t (by rw [c4])]
          · rw [if_neg c4, ifp_f (fun y => c4 ((iz_eq (by omega)).mp y))]
            by_cases c5 : x = 5
            · rw [if_pos c5, ifp_t (by rw [c5])]
            · rw [if_neg c5, ifp_f (fun y => c5 ((iz_eq (by omega)).mp y))]
              by_cases c6 : x = 6
              · rw [if_pos c6, ifp_t (by rw [c6])]
              · rw [if_neg c6, ifp_f (fun y => c6 ((iz_eq (by omega)).mp y))]
                by_cases c7 : x = 7
                · rw [if_pos c7, ifp_t (by rw [c7])]
                · rw [if_neg c7, ifp_f (fun y => c7 ((iz_eq (by omega)).mp y))]
