/-! the law's own text says what its code says -/
theorem tkw_0 : ((tx_Law_law.1.drop 0).take 25).all (fun z => enOk 254 z.1 z.2 || z.1 == 627) = true := by decide +kernel
theorem tkw_25 : ((tx_Law_law.1.drop 25).take 25).all (fun z => enOk 254 z.1 z.2 || z.1 == 627) = true := by decide +kernel
theorem tkw_50 : ((tx_Law_law.1.drop 50).take 25).all (fun z => enOk 254 z.1 z.2 || z.1 == 627) = true := by decide +kernel
theorem tkw_75 : ((tx_Law_law.1.drop 75).take 25).all (fun z => enOk 254 z.1 z.2 || z.1 == 627) = true := by decide +kernel
theorem tkw_100 : ((tx_Law_law.1.drop 100).take 25).all (fun z => enOk 254 z.1 z.2 || z.1 == 627) = true := by decide +kernel
theorem tkw_125 : ((tx_Law_law.1.drop 125).take 25).all (fun z => enOk 254 z.1 z.2 || z.1 == 627) = true := by decide +kernel
theorem tkw_150 : ((tx_Law_law.1.drop 150).take 25).all (fun z => enOk 254 z.1 z.2 || z.1 == 627) = true := by decide +kernel
theorem tkw_175 : ((tx_Law_law.1.drop 175).take 25).all (fun z => enOk 254 z.1 z.2 || z.1 == 627) = true := by decide +kernel
theorem tkw_200 : ((tx_Law_law.1.drop 200).take 25).all (fun z => enOk 254 z.1 z.2 || z.1 == 627) = true := by decide +kernel
theorem tkw_225 : ((tx_Law_law.1.drop 225).take 25).all (fun z => enOk 254 z.1 z.2 || z.1 == 627) = true := by decide +kernel
theorem tkw_250 : ((tx_Law_law.1.drop 250).take 25).all (fun z => enOk 254 z.1 z.2 || z.1 == 627) = true := by decide +kernel
theorem tkw_275 : ((tx_Law_law.1.drop 275).take 25).all (fun z => enOk 254 z.1 z.2 || z.1 == 627) = true := by decide +kernel
theorem tkw_300 : ((tx_Law_law.1.drop 300).take 25).all (fun z => enOk 254 z.1 z.2 || z.1 == 627) = true := by decide +kernel
theorem tkw_325 : ((tx_Law_law.1.drop 325).take 25).all (fun z => enOk 254 z.1 z.2 || z.1 == 627) = true := by decide +kernel
theorem tkw_350 : ((tx_Law_law.1.drop 350).take 25).all (fun z => enOk 254 z.1 z.2 || z.1 == 627) = true := by decide +kernel
theorem tkw_375 : ((tx_Law_law.1.drop 375).take 25).all (fun z => enOk 254 z.1 z.2 || z.1 == 627) = true := by decide +kernel
theorem tkw_400 : ((tx_Law_law.1.drop 400).take 25).all (fun z => enOk 254 z.1 z.2 || z.1 == 627) = true := by decide +kernel
theorem tkw_425 : ((tx_Law_law.1.drop 425).take 25).all (fun z => enOk 254 z.1 z.2 || z.1 == 627) = true := by decide +kernel
theorem tkw_450 : ((tx_Law_law.1.drop 450).take 25).all (fun z => enOk 254 z.1 z.2 || z.1 == 627) = true := by decide +kernel
theorem tkw_475 : ((tx_Law_law.1.drop 475).take 25).all (fun z => enOk 254 z.1 z.2 || z.1 == 627) = true := by decide +kernel
theorem tkw_500 : ((tx_Law_law.1.drop 500).take 25).all (fun z => enOk 254 z.1 z.2 || z.1 == 627) = true := by decide +kernel
theorem tkw_525 : ((tx_Law_law.1.drop 525).take 25).all (fun z => enOk 254 z.1 z.2 || z.1 == 627) = true := by decide +kernel
theorem tkw_550 : ((tx_Law_law.1.drop 550).take 25).all (fun z => enOk 254 z.1 z.2 || z.1 == 627) = true := by decide +kernel
theorem tkw_575 : ((tx_Law_law.1.drop 575).take 25).all (fun z => enOk 254 z.1 z.2 || z.1 == 627) = true := by decide +kernel
theorem tkw_600 : ((tx_Law_law.1.drop 600).take 25).all (fun z => enOk 254 z.1 z.2 || z.1 == 627) = true := by decide +kernel
theorem tkw_625 : ((tx_Law_law.1.drop 625).take 25).all (fun z => enOk 254 z.1 z.2 || z.1 == 627) = true := by decide +kernel
theorem tkw_650 : ((tx_Law_law.1.drop 650).take 25).all (fun z => enOk 254 z.1 z.2 || z.1 == 627) = true := by decide +kernel
theorem tkw_675 : ((tx_Law_law.1.drop 675).take 25).all (fun z => enOk 254 z.1 z.2 || z.1 == 627) = true := by decide +kernel
theorem tkw_700 : ((tx_Law_law.1.drop 700).take 25).all (fun z => enOk 254 z.1 z.2 || z.1 == 627) = true := by decide +kernel
theorem tkw_725 : ((tx_Law_law.1.drop 725).take 25).all (fun z => enOk 254 z.1 z.2 || z.1 == 627) = true := by decide +kernel
theorem tkw_len : tx_Law_law.1.length ≤ 750 := by decide +kernel
theorem tk_law : ∀ z ∈ tx_Law_law.1, (enOk 254 z.1 z.2 || z.1 == 627) = true := by
  intro z hz
  obtain ⟨i, hi⟩ := List.getElem?_of_mem hz
  have hl : i < 750 := Nat.lt_of_lt_of_le (List.getElem?_eq_some_iff.mp hi).1 tkw_len
  have inn : ∀ k : Nat, k ≤ i → i < k + 25 → z ∈ (tx_Law_law.1.drop k).take 25 := by
    intro k h2 h3
    refine List.mem_of_getElem? (i := i - k) ?_
    rw [List.getElem?_take, if_pos (by omega), List.getElem?_drop, show k + (i - k) = i by omega]
    exact hi
  rcases (show (0 ≤ i ∧ i < 25) ∨ (25 ≤ i ∧ i < 50) ∨ (50 ≤ i ∧ i < 75) ∨ (75 ≤ i ∧ i < 100) ∨ (100 ≤ i ∧ i < 125) ∨ (125 ≤ i ∧ i < 150) ∨ (150 ≤ i ∧ i < 175) ∨ (175 ≤ i ∧ i < 200) ∨ (200 ≤ i ∧ i < 225) ∨ (225 ≤ i ∧ i < 250) ∨ (250 ≤ i ∧ i < 275) ∨ (275 ≤ i ∧ i < 300) ∨ (300 ≤ i ∧ i < 325) ∨ (325 ≤ i ∧ i < 350) ∨ (350 ≤ i ∧ i < 375) ∨ (375 ≤ i ∧ i < 400) ∨ (400 ≤ i ∧ i < 425) ∨ (425 ≤ i ∧ i < 450) ∨ (450 ≤ i ∧ i < 475) ∨ (475 ≤ i ∧ i < 500) ∨ (500 ≤ i ∧ i < 525) ∨ (525 ≤ i ∧ i < 550) ∨ (550 ≤ i ∧ i < 575) ∨ (575 ≤ i ∧ i < 600) ∨ (600 ≤ i ∧ i < 625) ∨ (625 ≤ i ∧ i < 650) ∨ (650 ≤ i ∧ i < 675) ∨ (675 ≤ i ∧ i < 700) ∨ (700 ≤ i ∧ i < 725) ∨ (725 ≤ i ∧ i < 750) by omega) with h | h | h | h | h | h | h | h | h | h | h | h | h | h | h | h | h | h | h | h | h | h | h | h | h | h | h | h | h | h
  · exact List.all_eq_true.mp tkw_0 z (inn 0 h.1 (by omega))
  · exact List.all_eq_true.mp tkw_25 z (inn 25 h.1 (by omega))
  · exact List.all_eq_true.mp tkw_50 z (inn 50 h.1 (by omega))
  · exact List.all_eq_true.mp tkw_75 z (inn 75 h.1 (by omega))
  · exact List.all_eq_true.mp tkw_100 z (inn 100 h.1 (by omega))
  · exact List.all_eq_true.mp tkw_125 z (inn 125 h.1 (by omega))
  · exact List.all_eq_true.mp tkw_150 z (inn 150 h.1 (by omega))
  · exact List.all_eq_true.mp tkw_175 z (inn 175 h.1 (by omega))
  · exact List.all_eq_true.mp tkw_200 z (inn 200 h.1 (by omega))
  · exact List.all_eq_true.mp tkw_225 z (inn 225 h.1 (by omega))
  · exact List.all_eq_true.mp tkw_250 z (inn 250 h.1 (by omega))
  · exact List.all_eq_true.mp tkw_275 z (inn 275 h.1 (by omega))
  · exact List.all_eq_true.mp tkw_300 z (inn 300 h.1 (by omega))
  · exact List.all_eq_true.mp tkw_325 z (inn 325 h.1 (by omega))
  · exact List.all_eq_true.mp tkw_350 z (inn 350 h.1 (by omega))
  · exact List.all_eq_true.mp tkw_375 z (inn 375 h.1 (by omega))
  · exact List.all_eq_true.mp tkw_400 z (inn 400 h.1 (by omega))
  · exact List.all_eq_true.mp tkw_425 z (inn 425 h.1 (by omega))
  · exact List.all_eq_true.mp tkw_450 z (inn 450 h.1 (by omega))
  · exact List.all_eq_true.mp tkw_475 z (inn 475 h.1 (by omega))
  · exact List.all_eq_true.mp tkw_500 z (inn 500 h.1 (by omega))
  · exact List.all_eq_true.mp tkw_525 z (inn 525 h.1 (by omega))
  · exact List.all_eq_true.mp tkw_550 z (inn 550 h.1 (by omega))
  · exact List.all_eq_true.mp tkw_575 z (inn 575 h.1 (by omega))
  · exact List.all_eq_true.mp tkw_600 z (inn 600 h.1 (by omega))
  · exact List.all_eq_true.mp tkw_625 z (inn 625 h.1 (by omega))
  · exact List.all_eq_true.mp tkw_650 z (inn 650 h.1 (by omega))
  · exact List.all_eq_true.mp tkw_675 z (inn 675 h.1 (by omega))
  · exact List.all_eq_true.mp tkw_700 z (inn 700 h.1 (by omega))
  · exact List.all_eq_true.mp tkw_725 z (inn 725 h.1 (by omega))
