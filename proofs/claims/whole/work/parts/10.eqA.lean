set_option maxRecDepth 100000 in
theorem e_Climber_new (d : Nat) (r_0 : Nat) (h : Hp) : evm (d + 1) 0 [vR 0 r_0] h =
    ifp (inb (40 : Int32) 1000000 = true) (
    alc h fun q1 =>
    some (none, sR (sN h 20 (ix (40 : Int32)) (ix (40 : Int32))) r_0 0 q1)) none := (evs_xpd _ tx_Climber_new [] 12 _).trans rfl
set_option maxRecDepth 100000 in
theorem e_Climber_start (d : Nat) (r_0 : Nat) (h : Hp) : evm (d + 1) 1 [vR 0 r_0] h =
    bV (evm d 2 [vR 0 r_0, vI (0 : Int32), vI (0 : Int32), vI (0 : Int32), vI (0 : Int32), vI (0 : Int32)] h) fun h1 =>
    some (none, h1) := (evs_xpd _ tx_Climber_start [] 13 _).trans rfl
set_option maxRecDepth 100000 in
theorem e_Climber_put (d : Nat) (r_0 : Nat) (x_1 : Int32) (x_2 : Int32) (x_3 : Int32) (x_4 : Int32) (x_5 : Int32) (h : Hp) : evm (d + 1) 2 [vR 0 r_0, vI x_1, vI x_2, vI x_3, vI x_4, vI x_5] h =
    some (none, sI (sI (sI (sI (sI h r_0 1 x_1) r_0 2 x_2) r_0 3 x_3) r_0 4 x_4) r_0 5 x_5) := (evs_xpd _ tx_Climber_put [] 21 _).trans rfl
set_option maxRecDepth 100000 in
theorem e_Climber_follow (d : Nat) (r_0 : Nat) (r_1 : Nat) (h : Hp) : evm (d + 1) 3 [vR 0 r_0, vR 0 r_1] h =
    bV (evm d 2 [vR 0 r_0, vI (hI h r_1 1), vI (hI h r_1 2), vI (hI h r_1 3), vI (hI h r_1 4), vI (hI h r_1 5)] h) fun h1 =>
    bR (hR h1 r_1 0) fun r2 =>
    bR (hR h1 r_0 0) fun r3 =>
    bR (hR h1 r_0 0) fun r4 =>
    ifp (0 ≤ (nI (hN h1 r4)).toInt ∧ 0 ≤ (0 : Int32).toInt ∧ 0 ≤ (0 : Int32).toInt ∧ ix (0 : Int32) + ix (nI (hN h1 r4)) ≤ hN h1 r2 ∧ ix (0 : Int32) + ix (nI (hN h1 r4)) ≤ hN h1 r3) (
    some (none, sCp h1 r2 (ix (0 : Int32)) r3 (ix (0 : Int32)) (ix (nI (hN h1 r4))))) none := (evs_xpd _ tx_Climber_follow [] 28 _).trans rfl
noncomputable def L_Climber_can_37 (d : Nat) (r_0 : Nat) (r_1 : Nat) (x_2 : Int32) (h : Hp) : Option Rs := evs (evm d) tx_Climber_can (37, [some (vR 0 r_0), some (vR 5 r_1), some (vI x_2), none], [], h)
noncomputable def L_Climber_can_120 (d : Nat) (r_0 : Nat) (r_1 : Nat) (x_2 : Int32) (h : Hp) : Option Rs := evs (evm d) tx_Climber_can (120, [some (vR 0 r_0), some (vR 5 r_1), some (vI x_2), none], [], h)
set_option maxRecDepth 100000 in
theorem e_Climber_can_37 (d : Nat) (r_0 : Nat) (r_1 : Nat) (x_2 : Int32) (h : Hp) : L_Climber_can_37 d r_0 r_1 x_2 h =
    bR (hR h r_1 5) fun r1 =>
    ifp (inb (hI h r_0 1) (hN h r1) = true) (
    ifp ((hI h r1 (ix (hI h r_0 1))) < ((hI h r_0 1) + x_2))
      (some (some (vI (0 : Int32)), h))
      (ifp ((40 : Int32) < ((hI h r_0 1) + x_2))
        (some (some (vI (0 : Int32)), h))
        (bR (hR h r_1 2) fun r2 =>
        ifp (inb ((hI h r_0 1) + x_2) (hN h r2) = true) (
        ifp ((hI h r2 (ix ((hI h r_0 1) + x_2))) = (1 : Int32))
          (some (some (vI (0 : Int32)), h))
          (bI (evm d 29 [vR 5 r_1, vI (hI h r_0 3), vI x_2] h) fun x4 h3 =>
          ifp (x4 = 0)
            (bR (hR h3 r_1 2) fun r5 =>
            ifp (inb ((hI h r_0 1) + x_2) (hN h3 r5) = true) (
            ifp ((hI h3 r5 (ix ((hI h r_0 1) + x_2))) = (2 : Int32))
              (ifp ((hI h3 r_1 10) = (-1 : Int32))
                (L_Climber_can_120 d r_0 r_1 x_2 h3)
                (ifp ((hI h3 r_0 4) < (hI h3 r_1 10))
                  (L_Climber_can_120 d r_0 r_1 x_2 h3)
                  (some (some (vI (0 : Int32)), h3))))
              (L_Climber_can_120 d r_0 r_1 x_2 h3)) none)
            (some (some (vI (0 : Int32)), h3)))) none))) none := (evs_xpd _ tx_Climber_can [37, 120] 84 _).trans rfl
set_option maxRecDepth 100000 in
theorem e_Climber_can_120 (d : Nat) (r_0 : Nat) (r_1 : Nat) (x_2 : Int32) (h : Hp) : L_Climber_can_120 d r_0 r_1 x_2 h =
    bI (evm d 30 [vR 5 r_1, vI x_2] h) fun x2 h1 =>
    ifp (x2 = 0)
      (some (some (vI (1 : Int32)), h1))
      (ifp ((hI h1 r_0 5) < (hI h1 r_1 16))
        (some (some (vI (1 : Int32)), h1))
        (some (some (vI (0 : Int32)), h1))) := (evs_xpd _ tx_Climber_can [37, 120] 84 _).trans rfl
set_option maxRecDepth 100000 in
theorem e_Climber_can (d : Nat) (r_0 : Nat) (r_1 : Nat) (x_2 : Int32) (h : Hp) : evm (d + 1) 4 [vR 0 r_0, vR 5 r_1, vI x_2] h =
    bI (evm d 28 [vR 5 r_1, vI x_2] h) fun x2 h1 =>
    ifp (x2 = 0)
      (some (some (vI (0 : Int32)), h1))
      (ifp ((hI h1 r_0 1) < 0)
        (some (some (vI (0 : Int32)), h1))
        (ifp ((40 : Int32) < (hI h1 r_0 1))
          (some (some (vI (0 : Int32)), h1))
          (ifp ((hI h1 r_0 2) < (hI h1 r_1 14))
            (L_Climber_can_37 d r_0 r_1 x_2 h1)
            (some (some (vI (0 : Int32)), h1))))) := (evs_xpd _ tx_Climber_can [37, 120] 84 _).trans rfl
noncomputable def L_Climber_go_12 (d : Nat) (r_0 : Nat) (r_1 : Nat) (x_2 : Int32) (h : Hp) : Option Rs := evs (evm d) tx_Climber_go (12, [some (vR 0 r_0), some (vR 5 r_1), some (vI x_2)], [], h)
noncomputable def L_Climber_go_89 (d : Nat) (r_0 : Nat) (r_1 : Nat) (x_2 : Int32) (xs0 : Int32) (xs1 : Int32) (rs2 : Nat) (h : Hp) : Option Rs := evs (evm d) tx_Climber_go (89, [some (vR 0 r_0), some (vR 5 r_1), some (vI x_2)], [vI xs0, vI xs1, vR 0 rs2], h)
set_option maxRecDepth 100000 in
theorem e_Climber_go_12 (d : Nat) (r_0 : Nat) (r_1 : Nat) (x_2 : Int32) (h : Hp) : L_Climber_go_12 d r_0 r_1 x_2 h =
    ifp (x_2 < (1 : Int32))
      (some (none, h))
      (ifp ((hI h r_1 7) < ((hI h r_0 1) + x_2))
        (some (none, h))
        (bR (hR h r_0 0) fun r1 =>
        ifp (inb (hI h r_0 2) (hN h r1) = true) (
        bR (hR (sI (sI (sI (sI h r1 (ix (hI h r_0 2)) x_2) r_0 2 ((hI (sI h r1 (ix (hI h r_0 2)) x_2) r_0 2) + (1 : Int32))) r_0 1 ((hI (sI (sI h r1 (ix (hI h r_0 2)) x_2) r_0 2 ((hI (sI h r1 (ix (hI h r_0 2)) x_2) r_0 2) + (1 : Int32))) r_0 1) + x_2)) r_0 3 x_2) r_1 2) fun r2 =>
        ifp (inb (hI (sI (sI (sI (sI h r1 (ix (hI h r_0 2)) x_2) r_0 2 ((hI (sI h r1 (ix (hI h r_0 2)) x_2) r_0 2) + (1 : Int32))) r_0 1 ((hI (sI (sI h r1 (ix (hI h r_0 2)) x_2) r_0 2 ((hI (sI h r1 (ix (hI h r_0 2)) x_2) r_0 2) + (1 : Int32))) r_0 1) + x_2)) r_0 3 x_2) r_0 1) (hN (sI (sI (sI (sI h r1 (ix (hI h r_0 2)) x_2) r_0 2 ((hI (sI h r1 (ix (hI h r_0 2)) x_2) r_0 2) + (1 : Int32))) r_0 1 ((hI (sI (sI h r1 (ix (hI h r_0 2)) x_2) r_0 2 ((hI (sI h r1 (ix (hI h r_0 2)) x_2) r_0 2) + (1 : Int32))) r_0 1) + x_2)) r_0 3 x_2) r2) = true) (
        ifp ((hI (sI (sI (sI (sI h r1 (ix (hI h r_0 2)) x_2) r_0 2 ((hI (sI h r1 (ix (hI h r_0 2)) x_2) r_0 2) + (1 : Int32))) r_0 1 ((hI (sI (sI h r1 (ix (hI h r_0 2)) x_2) r_0 2 ((hI (sI h r1 (ix (hI h r_0 2)) x_2) r_0 2) + (1 : Int32))) r_0 1) + x_2)) r_0 3 x_2) r2 (ix (hI (sI (sI (sI (sI h r1 (ix (hI h r_0 2)) x_2) r_0 2 ((hI (sI h r1 (ix (hI h r_0 2)) x_2) r_0 2) + (1 : Int32))) r_0 1 ((hI (sI (sI h r1 (ix (hI h r_0 2)) x_2) r_0 2 ((hI (sI h r1 (ix (hI h r_0 2)) x_2) r_0 2) + (1 : Int32))) r_0 1) + x_2)) r_0 3 x_2) r_0 1))) = (2 : Int32))
          (L_Climber_go_89 d r_0 r_1 x_2 (1 : Int32) (hI (sI (sI (sI (sI h r1 (ix (hI h r_0 2)) x_2) r_0 2 ((hI (sI h r1 (ix (hI h r_0 2)) x_2) r_0 2) + (1 : Int32))) r_0 1 ((hI (sI (sI h r1 (ix (hI h r_0 2)) x_2) r_0 2 ((hI (sI h r1 (ix (hI h r_0 2)) x_2) r_0 2) + (1 : Int32))) r_0 1) + x_2)) r_0 3 x_2) r_0 4) r_0 (sI (sI (sI (sI h r1 (ix (hI h r_0 2)) x_2) r_0 2 ((hI (sI h r1 (ix (hI h r_0 2)) x_2) r_0 2) + (1 : Int32))) r_0 1 ((hI (sI (sI h r1 (ix (hI h r_0 2)) x_2) r_0 2 ((hI (sI h r1 (ix (hI h r_0 2)) x_2) r_0 2) + (1 : Int32))) r_0 1) + x_2)) r_0 3 x_2))
          (L_Climber_go_89 d r_0 r_1 x_2 (0 : Int32) (hI (sI (sI (sI (sI h r1 (ix (hI h r_0 2)) x_2) r_0 2 ((hI (sI h r1 (ix (hI h r_0 2)) x_2) r_0 2) + (1 : Int32))) r_0 1 ((hI (sI (sI h r1 (ix (hI h r_0 2)) x_2) r_0 2 ((hI (sI h r1 (ix (hI h r_0 2)) x_2) r_0 2) + (1 : Int32))) r_0 1) + x_2)) r_0 3 x_2) r_0 4) r_0 (sI (sI (sI (sI h r1 (ix (hI h r_0 2)) x_2) r_0 2 ((hI (sI h r1 (ix (hI h r_0 2)) x_2) r_0 2) + (1 : Int32))) r_0 1 ((hI (sI (sI h r1 (ix (hI h r_0 2)) x_2) r_0 2 ((hI (sI h r1 (ix (hI h r_0 2)) x_2) r_0 2) + (1 : Int32))) r_0 1) + x_2)) r_0 3 x_2))) none) none)) := (evs_xpd _ tx_Climber_go [12, 89] 71 _).trans rfl
set_option maxRecDepth 100000 in
theorem e_Climber_go_89 (d : Nat) (r_0 : Nat) (r_1 : Nat) (x_2 : Int32) (xs0 : Int32) (xs1 : Int32) (rs2 : Nat) (h : Hp) : L_Climber_go_89 d r_0 r_1 x_2 xs0 xs1 rs2 h =
    bI (evm d 30 [vR 5 r_1, vI x_2] (sI h rs2 4 (xs1 + xs0))) fun x2 h1 =>
    ifp (x2 = 0)
      (some (none, sI h1 r_0 5 ((hI (sI h rs2 4 (xs1 + xs0)) r_0 5) + (0 : Int32))))
      (some (none, sI h1 r_0 5 ((hI (sI h rs2 4 (xs1 + xs0)) r_0 5) + (1 : Int32)))) := (evs_xpd _ tx_Climber_go [12, 89] 71 _).trans rfl
set_option maxRecDepth 100000 in
theorem e_Climber_go (d : Nat) (r_0 : Nat) (r_1 : Nat) (x_2 : Int32) (h : Hp) : evm (d + 1) 5 [vR 0 r_0, vR 5 r_1, vI x_2] h =
    bR (hR h r_0 0) fun r1 =>
    ifp ((hI h r_0 2) < (nI (hN h r1)))
      (L_Climber_go_12 d r_0 r_1 x_2 h)
      (some (none, h)) := (evs_xpd _ tx_Climber_go [12, 89] 71 _).trans rfl
noncomputable def L_Climber_undo_60 (d : Nat) (r_0 : Nat) (r_1 : Nat) (xs0 : Int32) (xs1 : Int32) (rs2 : Nat) (h : Hp) : Option Rs := evs (evm d) tx_Climber_undo (60, [some (vR 0 r_0), some (vR 5 r_1)], [vI xs0, vI xs1, vR 0 rs2], h)
noncomputable def L_Climber_undo_85 (d : Nat) (r_0 : Nat) (xs0 : Int32) (xs1 : Int32) (rs2 : Nat) (h : Hp) : Option Rs := evs (evm d) tx_Climber_undo (85, [some (vR 0 r_0), none], [vI xs0, vI xs1, vR 0 rs2], h)
set_option maxRecDepth 100000 in
theorem e_Climber_undo_60 (d : Nat) (r_0 : Nat) (r_1 : Nat) (xs0 : Int32) (xs1 : Int32) (rs2 : Nat) (h : Hp) : L_Climber_undo_60 d r_0 r_1 xs0 xs1 rs2 h =
    bI (evm d 30 [vR 5 r_1, vI (hI (sI h rs2 4 (xs1 - xs0)) r_0 3)] (sI h rs2 4 (xs1 - xs0))) fun x2 h1 =>
    ifp (x2 = 0)
      (L_Climber_undo_85 d r_0 (0 : Int32) (hI (sI h rs2 4 (xs1 - xs0)) r_0 5) r_0 h1)
      (L_Climber_undo_85 d r_0 (1 : Int32) (hI (sI h rs2 4 (xs1 - xs0)) r_0 5) r_0 h1) := (evs_xpd _ tx_Climber_undo [60, 85] 79 _).trans rfl
set_option maxRecDepth 100000 in
theorem e_Climber_undo_85 (d : Nat) (r_0 : Nat) (xs0 : Int32) (xs1 : Int32) (rs2 : Nat) (h : Hp) : L_Climber_undo_85 d r_0 xs0 xs1 rs2 h =
    ifp (0 < (hI (sI (sI (sI h rs2 5 (xs1 - xs0)) r_0 1 ((hI (sI h rs2 5 (xs1 - xs0)) r_0 1) - (hI (sI h rs2 5 (xs1 - xs0)) r_0 3))) r_0 2 ((hI (sI (sI h rs2 5 (xs1 - xs0)) r_0 1 ((hI (sI h rs2 5 (xs1 - xs0)) r_0 1) - (hI (sI h rs2 5 (xs1 - xs0)) r_0 3))) r_0 2) - (1 : Int32))) r_0 2))
      (bR (hR (sI (sI (sI h rs2 5 (xs1 - xs0)) r_0 1 ((hI (sI h rs2 5 (xs1 - xs0)) r_0 1) - (hI (sI h rs2 5 (xs1 - xs0)) r_0 3))) r_0 2 ((hI (sI (sI h rs2 5 (xs1 - xs0)) r_0 1 ((hI (sI h rs2 5 (xs1 - xs0)) r_0 1) - (hI (sI h rs2 5 (xs1 - xs0)) r_0 3))) r_0 2) - (1 : Int32))) r_0 0) fun r1 =>
      ifp (inb ((hI (sI (sI (sI h rs2 5 (xs1 - xs0)) r_0 1 ((hI (sI h rs2 5 (xs1 - xs0)) r_0 1) - (hI (sI h rs2 5 (xs1 - xs0)) r_0 3))) r_0 2 ((hI (sI (sI h rs2 5 (xs1 - xs0)) r_0 1 ((hI (sI h rs2 5 (xs1 - xs0)) r_0 1) - (hI (sI h rs2 5 (xs1 - xs0)) r_0 3))) r_0 2) - (1 : Int32))) r_0 2) - (1 : Int32)) (hN (sI (sI (sI h rs2 5 (xs1 - xs0)) r_0 1 ((hI (sI h rs2 5 (xs1 - xs0)) r_0 1) - (hI (sI h rs2 5 (xs1 - xs0)) r_0 3))) r_0 2 ((hI (sI (sI h rs2 5 (xs1 - xs0)) r_0 1 ((hI (sI h rs2 5 (xs1 - xs0)) r_0 1) - (hI (sI h rs2 5 (xs1 - xs0)) r_0 3))) r_0 2) - (1 : Int32))) r1) = true) (
      some (none, sI (sI (sI (sI h rs2 5 (xs1 - xs0)) r_0 1 ((hI (sI h rs2 5 (xs1 - xs0)) r_0 1) - (hI (sI h rs2 5 (xs1 - xs0)) r_0 3))) r_0 2 ((hI (sI (sI h rs2 5 (xs1 - xs0)) r_0 1 ((hI (sI h rs2 5 (xs1 - xs0)) r_0 1) - (hI (sI h rs2 5 (xs1 - xs0)) r_0 3))) r_0 2) - (1 : Int32))) r_0 3 (hI (sI (sI (sI h rs2 5 (xs1 - xs0)) r_0 1 ((hI (sI h rs2 5 (xs1 - xs0)) r_0 1) - (hI (sI h rs2 5 (xs1 - xs0)) r_0 3))) r_0 2 ((hI (sI (sI h rs2 5 (xs1 - xs0)) r_0 1 ((hI (sI h rs2 5 (xs1 - xs0)) r_0 1) - (hI (sI h rs2 5 (xs1 - xs0)) r_0 3))) r_0 2) - (1 : Int32))) r1 (ix ((hI (sI (sI (sI h rs2 5 (xs1 - xs0)) r_0 1 ((hI (sI h rs2 5 (xs1 - xs0)) r_0 1) - (hI (sI h rs2 5 (xs1 - xs0)) r_0 3))) r_0 2 ((hI (sI (sI h rs2 5 (xs1 - xs0)) r_0 1 ((hI (sI h rs2 5 (xs1 - xs0)) r_0 1) - (hI (sI h rs2 5 (xs1 - xs0)) r_0 3))) r_0 2) - (1 : Int32))) r_0 2) - (1 : Int32)))))) none)
      (some (none, sI (sI (sI (sI h rs2 5 (xs1 - xs0)) r_0 1 ((hI (sI h rs2 5 (xs1 - xs0)) r_0 1) - (hI (sI h rs2 5 (xs1 - xs0)) r_0 3))) r_0 2 ((hI (sI (sI h rs2 5 (xs1 - xs0)) r_0 1 ((hI (sI h rs2 5 (xs1 - xs0)) r_0 1) - (hI (sI h rs2 5 (xs1 - xs0)) r_0 3))) r_0 2) - (1 : Int32))) r_0 3 (0 : Int32))) := (evs_xpd _ tx_Climber_undo [60, 85] 79 _).trans rfl
set_option maxRecDepth 100000 in
theorem e_Climber_undo (d : Nat) (r_0 : Nat) (r_1 : Nat) (h : Hp) : evm (d + 1) 6 [vR 0 r_0, vR 5 r_1] h =
    ifp ((hI h r_0 2) < (1 : Int32))
      (some (none, h))
      (bR (hR h r_0 0) fun r1 =>
      ifp ((nI (hN h r1)) < (hI h r_0 2))
        (some (none, h))
        (ifp ((hI h r_0 1) < 0)
          (some (none, h))
          (ifp ((40 : Int32) < (hI h r_0 1))
            (some (none, h))
            (bR (hR h r_1 2) fun r2 =>
            ifp (inb (hI h r_0 1) (hN h r2) = true) (
            ifp ((hI h r2 (ix (hI h r_0 1))) = (2 : Int32))
              (L_Climber_undo_60 d r_0 r_1 (1 : Int32) (hI h r_0 4) r_0 h)
              (L_Climber_undo_60 d r_0 r_1 (0 : Int32) (hI h r_0 4) r_0 h)) none)))) := (evs_xpd _ tx_Climber_undo [60, 85] 79 _).trans rfl
set_option maxRecDepth 100000 in
theorem e_Climber_moodOf (d : Nat) (r_0 : Nat) (r_1 : Nat) (x_2 : Int32) (h : Hp) : evm (d + 1) 7 [vR 0 r_0, vR 5 r_1, vI x_2] h =
    bR (hR h r_1 6) fun r1 =>
    bI (evm d 13 [vR 2 r1, vI x_2, vI (hI h r_0 3), vI (hI h r_0 1), vI (hI h r_0 2)] h) fun x3 h2 =>
    bI (evm d 241 [vI (9 : Int32), vI x3] h2) fun x5 h4 =>
    bI (evm d 240 [vI (0 : Int32), vI x5] h4) fun x7 h6 =>
    some (some (vI x7), h6) := (evs_xpd _ tx_Climber_moodOf [] 22 _).trans rfl
noncomputable def L_Climber_feelMoods_2 (d : Nat) (r_0 : Nat) (r_1 : Nat) (r_2 : Nat) (x_3 : Int32) (h : Hp) : Option Rs := evs (evm d) tx_Climber_feelMoods (2, [some (vR 0 r_0), some (vR 5 r_1), some (vR 20 r_2), some (vI x_3)], [], h)
set_option maxRecDepth 100000 in
theorem e_Climber_feelMoods_2 (d : Nat) (r_0 : Nat) (r_1 : Nat) (r_2 : Nat) (x_3 : Int32) (h : Hp) : L_Climber_feelMoods_2 d r_0 r_1 r_2 x_3 h =
    ifp (x_3 < (hI h r_1 8))
      (ifp (x_3 < (nI (hN h r_2)))
        (bR (hR h r_1 0) fun r1 =>
        ifp (inb x_3 (hN h r1) = true) (
        bI (evm d 7 [vR 0 r_0, vR 5 r_1, vI (hI h r1 (ix x_3))] h) fun x3 h2 =>
        ifp (inb x_3 (hN h2 r_2) = true) (
        L_Climber_feelMoods_2 d r_0 r_1 r_2 (x_3 + (1 : Int32)) (sI h2 r_2 (ix x_3) x3)) none) none)
        (some (none, h)))
      (some (none, h)) := (evs_xpd _ tx_Climber_feelMoods [2] 28 _).trans rfl
set_option maxRecDepth 100000 in
theorem e_Climber_feelMoods (d : Nat) (r_0 : Nat) (r_1 : Nat) (r_2 : Nat) (h : Hp) : evm (d + 1) 8 [vR 0 r_0, vR 5 r_1, vR 20 r_2] h =
    L_Climber_feelMoods_2 d r_0 r_1 r_2 (0 : Int32) h := (evs_xpd _ tx_Climber_feelMoods [2] 28 _).trans rfl
noncomputable def L_Climber_keepPossible_6 (d : Nat) (r_0 : Nat) (r_1 : Nat) (r_2 : Nat) (r_3 : Nat) (x_4 : Int32) (x_5 : Int32) (h : Hp) : Option Rs := evs (evm d) tx_Climber_keepPossible (6, [some (vR 0 r_0), some (vR 5 r_1), some (vR 20 r_2), some (vR 20 r_3), some (vI x_4), some (vI x_5)], [], h)
noncomputable def L_Climber_keepPossible_55 (d : Nat) (r_0 : Nat) (r_1 : Nat) (r_2 : Nat) (r_3 : Nat) (x_4 : Int32) (x_5 : Int32) (xs0 : Int32) (xs1 : Int32) (rs2 : Nat) (h : Hp) : Option Rs := evs (evm d) tx_Climber_keepPossible (55, [some (vR 0 r_0), some (vR 5 r_1), some (vR 20 r_2), some (vR 20 r_3), some (vI x_4), some (vI x_5)], [vI xs0, vI xs1, vR 20 rs2], h)
set_option maxRecDepth 100000 in
theorem e_Climber_keepPossible_6 (d : Nat) (r_0 : Nat) (r_1 : Nat) (r_2 : Nat) (r_3 : Nat) (x_4 : Int32) (x_5 : Int32) (h : Hp) : L_Climber_keepPossible_6 d r_0 r_1 r_2 r_3 x_4 x_5 h =
    ifp (x_5 < (hI h r_1 8))
      (ifp (x_5 < (nI (hN h r_2)))
        (ifp (x_5 < (nI (hN h r_3)))
          (bR (hR h r_1 0) fun r1 =>
          ifp (inb x_5 (hN h r1) = true) (
          bI (evm d 4 [vR 0 r_0, vR 5 r_1, vI (hI h r1 (ix x_5))] h) fun x3 h2 =>
          ifp (x3 = 0)
            (L_Climber_keepPossible_55 d r_0 r_1 r_2 r_3 x_4 x_5 (0 : Int32) x_5 r_3 h2)
            (ifp (inb x_5 (hN h2 r_2) = true) (
            L_Climber_keepPossible_55 d r_0 r_1 r_2 r_3 x_4 x_5 (hI h2 r_2 (ix x_5)) x_5 r_3 h2) none)) none)
          (some (some (vI x_4), h)))
        (some (some (vI x_4), h)))
      (some (some (vI x_4), h)) := (evs_xpd _ tx_Climber_keepPossible [6, 55] 47 _).trans rfl
set_option maxRecDepth 100000 in
theorem e_Climber_keepPossible_55 (d : Nat) (r_0 : Nat) (r_1 : Nat) (r_2 : Nat) (r_3 : Nat) (x_4 : Int32) (x_5 : Int32) (xs0 : Int32) (xs1 : Int32) (rs2 : Nat) (h : Hp) : L_Climber_keepPossible_55 d r_0 r_1 r_2 r_3 x_4 x_5 xs0 xs1 rs2 h =
    ifp (inb xs1 (hN h rs2) = true) (
    ifp (inb x_5 (hN (sI h rs2 (ix xs1) xs0) r_3) = true) (
    L_Climber_keepPossible_6 d r_0 r_1 r_2 r_3 (x_4 + (hI (sI h rs2 (ix xs1) xs0) r_3 (ix x_5))) (x_5 + (1 : Int32)) (sI h rs2 (ix xs1) xs0)) none) none := (evs_xpd _ tx_Climber_keepPossible [6, 55] 47 _).trans rfl
set_option maxRecDepth 100000 in
theorem e_Climber_keepPossible (d : Nat) (r_0 : Nat) (r_1 : Nat) (r_2 : Nat) (r_3 : Nat) (h : Hp) : evm (d + 1) 9 [vR 0 r_0, vR 5 r_1, vR 20 r_2, vR 20 r_3] h =
    L_Climber_keepPossible_6 d r_0 r_1 r_2 r_3 (0 : Int32) (0 : Int32) h := (evs_xpd _ tx_Climber_keepPossible [6, 55] 47 _).trans rfl
set_option maxRecDepth 100000 in
theorem e_Mark_new (d : Nat) (r_0 : Nat) (h : Hp) : evm (d + 1) 10 [vR 1 r_0] h =
    alc h fun q1 =>
    bV (evm d 0 [vR 0 q1] (sN h 0 0 6)) fun h2 =>
    ifp (inb (41 : Int32) 1000000 = true) (
    alc (sR h2 r_0 0 q1) fun q3 =>
    some (none, sR (sN (sR h2 r_0 0 q1) 20 (ix (41 : Int32)) (ix (41 : Int32))) r_0 1 q3)) none := (evs_xpd _ tx_Mark_new [] 17 _).trans rfl
set_option maxRecDepth 100000 in
theorem e_Mood_new (d : Nat) (r_0 : Nat) (h : Hp) : evm (d + 1) 11 [vR 2 r_0] h =
    ifp (inb (1000 : Int32) 1000000 = true) (
    alc h fun q1 =>
    ifp (inb (32 : Int32) 1000000 = true) (
    alc (sR (sN h 20 (ix (1000 : Int32)) (ix (1000 : Int32))) r_0 0 q1) fun q2 =>
    some (none, sR (sN (sR (sN h 20 (ix (1000 : Int32)) (ix (1000 : Int32))) r_0 0 q1) 20 (ix (32 : Int32)) (ix (32 : Int32))) r_0 1 q2)) none) none := (evs_xpd _ tx_Mood_new [] 16 _).trans rfl
set_option maxRecDepth 100000 in
theorem e_Mood_add (d : Nat) (r_0 : Nat) (x_1 : Int32) (h : Hp) : evm (d + 1) 12 [vR 2 r_0, vI x_1] h =
    bR (hR h r_0 0) fun r1 =>
    ifp ((hI h r_0 2) < (nI (hN h r1)))
      (bR (hR h r_0 0) fun r2 =>
      ifp (inb (hI h r_0 2) (hN h r2) = true) (
      some (none, sI (sI h r2 (ix (hI h r_0 2)) x_1) r_0 2 ((hI (sI h r2 (ix (hI h r_0 2)) x_1) r_0 2) + (1 : Int32)))) none)
      (some (none, h)) := (evs_xpd _ tx_Mood_add [] 24 _).trans rfl
noncomputable def L_Mood_of_15 (d : Nat) (r_0 : Nat) (x_1 : Int32) (x_2 : Int32) (x_3 : Int32) (x_4 : Int32) (x_5 : Int32) (x_6 : Int32) (h : Hp) : Option Rs := evs (evm d) tx_Mood_of (15, [some (vR 2 r_0), some (vI x_1), some (vI x_2), some (vI x_3), some (vI x_4), some (vI x_5), some (vI x_6), none], [], h)
noncomputable def L_Mood_of_85 (d : Nat) (r_0 : Nat) (x_1 : Int32) (x_2 : Int32) (x_3 : Int32) (x_4 : Int32) (x_5 : Int32) (x_6 : Int32) (x_7 : Int32) (h : Hp) : Option Rs := evs (evm d) tx_Mood_of (85, [some (vR 2 r_0), some (vI x_1), some (vI x_2), some (vI x_3), some (vI x_4), some (vI x_5), some (vI x_6), some (vI x_7)], [], h)
noncomputable def L_Mood_of_92 (d : Nat) (r_0 : Nat) (x_1 : Int32) (x_2 : Int32) (x_3 : Int32) (x_4 : Int32) (x_5 : Int32) (x_6 : Int32) (h : Hp) : Option Rs := evs (evm d) tx_Mood_of (92, [some (vR 2 r_0), some (vI x_1), some (vI x_2), some (vI x_3), some (vI x_4), some (vI x_5), some (vI x_6), none], [], h)
set_option maxRecDepth 100000 in
theorem e_Mood_of_15 (d : Nat) (r_0 : Nat) (x_1 : Int32) (x_2 : Int32) (x_3 : Int32) (x_4 : Int32) (x_5 : Int32) (x_6 : Int32) (h : Hp) : L_Mood_of_15 d r_0 x_1 x_2 x_3 x_4 x_5 x_6 h =
    ifp (x_6 < (hI h r_0 2))
      (bR (hR h r_0 0) fun r2 =>
      ifp (x_6 < (nI (hN h r2)))
        (bR (hR h r_0 0) fun r4 =>
        ifp (inb x_6 (hN h r4) = true) (
        ifp ((-5 : Int32) < (hI h r4 (ix x_6)))
          (bR (hR h r_0 1) fun r5 =>
          ifp (x_5 < (nI (hN h r5)))
            (bR (hR h r_0 1) fun r6 =>
            bI (evm d 14 [vI (hI h r4 (ix x_6)), vI x_1, vI x_2, vI x_3, vI x_4] h) fun x8 h7 =>
            ifp (inb x_5 (hN h7 r6) = true) (
            L_Mood_of_15 d r_0 x_1 x_2 x_3 x_4 (x_5 + (1 : Int32)) (x_6 + (1 : Int32)) (sI h7 r6 (ix x_5) x8)) none)
            (some (some (vI (0 : Int32)), h)))
          (L_Mood_of_85 d r_0 x_1 x_2 x_3 x_4 x_5 x_6 (hI h r4 (ix x_6)) h)) none)
        (bR (hR h r_0 1) fun r3 =>
        ifp (inb (0 : Int32) (hN h r3) = true) (
        some (some (vI (hI h r3 (ix (0 : Int32)))), h)) none))
      (bR (hR h r_0 1) fun r1 =>
      ifp (inb (0 : Int32) (hN h r1) = true) (
      some (some (vI (hI h r1 (ix (0 : Int32)))), h)) none) := (evs_xpd _ tx_Mood_of [15, 85, 92] 106 _).trans rfl
set_option maxRecDepth 100000 in
theorem e_Mood_of_85 (d : Nat) (r_0 : Nat) (x_1 : Int32) (x_2 : Int32) (x_3 : Int32) (x_4 : Int32) (x_5 : Int32) (x_6 : Int32) (x_7 : Int32) (h : Hp) : L_Mood_of_85 d r_0 x_1 x_2 x_3 x_4 x_5 x_6 x_7 h =
    ifp (x_7 = (-5 : Int32))
      (L_Mood_of_92 d r_0 x_1 x_2 x_3 x_4 x_5 x_6 h)
      (ifp (x_5 < (2 : Int32))
        (some (some (vI (0 : Int32)), h))
        (bR (hR h r_0 1) fun r1 =>
        bR (hR h r_0 1) fun r2 =>
        ifp (inb ((x_5 + (-1 : Int32)) - (1 : Int32)) (hN h r2) = true) (
        bR (hR h r_0 1) fun r3 =>
        ifp (inb (x_5 + (-1 : Int32)) (hN h r3) = true) (
        bI (evm d 15 [vI x_7, vI (hI h r2 (ix ((x_5 + (-1 : Int32)) - (1 : Int32)))), vI (hI h r3 (ix (x_5 + (-1 : Int32))))] h) fun x5 h4 =>
        ifp (inb ((x_5 + (-1 : Int32)) - (1 : Int32)) (hN h4 r1) = true) (
        L_Mood_of_15 d r_0 x_1 x_2 x_3 x_4 (x_5 + (-1 : Int32)) (x_6 + (1 : Int32)) (sI h4 r1 (ix ((x_5 + (-1 : Int32)) - (1 : Int32))) x5)) none) none) none)) := (evs_xpd _ tx_Mood_of [15, 85, 92] 106 _).trans rfl
set_option maxRecDepth 100000 in
theorem e_Mood_of_92 (d : Nat) (r_0 : Nat) (x_1 : Int32) (x_2 : Int32) (x_3 : Int32) (x_4 : Int32) (x_5 : Int32) (x_6 : Int32) (h : Hp) : L_Mood_of_92 d r_0 x_1 x_2 x_3 x_4 x_5 x_6 h =
    ifp (x_5 < (1 : Int32))
      (some (some (vI (0 : Int32)), h))
      (bR (hR h r_0 1) fun r1 =>
      bR (hR h r_0 1) fun r2 =>
      ifp (inb (x_5 - (1 : Int32)) (hN h r2) = true) (
      ifp ((hI h r2 (ix (x_5 - (1 : Int32)))) = 0)
        (ifp (inb (x_5 - (1 : Int32)) (hN h r1) = true) (
        L_Mood_of_15 d r_0 x_1 x_2 x_3 x_4 x_5 (x_6 + (1 : Int32)) (sI h r1 (ix (x_5 - (1 : Int32))) (1 : Int32))) none)
        (ifp (inb (x_5 - (1 : Int32)) (hN h r1) = true) (
        L_Mood_of_15 d r_0 x_1 x_2 x_3 x_4 x_5 (x_6 + (1 : Int32)) (sI h r1 (ix (x_5 - (1 : Int32))) (0 : Int32))) none)) none) := (evs_xpd _ tx_Mood_of [15, 85, 92] 106 _).trans rfl
set_option maxRecDepth 100000 in
theorem e_Mood_of (d : Nat) (r_0 : Nat) (x_1 : Int32) (x_2 : Int32) (x_3 : Int32) (x_4 : Int32) (h : Hp) : evm (d + 1) 13 [vR 2 r_0, vI x_1, vI x_2, vI x_3, vI x_4] h =
    ifp ((hI h r_0 2) = 0)
      (some (some (vI (1 : Int32)), h))
      (L_Mood_of_15 d r_0 x_1 x_2 x_3 x_4 (0 : Int32) (0 : Int32) h) := (evs_xpd _ tx_Mood_of [15, 85, 92] 106 _).trans rfl
set_option maxRecDepth 100000 in
theorem e_Mood_fact (d : Nat) (x_0 : Int32) (x_1 : Int32) (x_2 : Int32) (x_3 : Int32) (x_4 : Int32) (h : Hp) : evm (d + 1) 14 [vI x_0, vI x_1, vI x_2, vI x_3, vI x_4] h =
    ifp (x_0 = (-4 : Int32))
      (some (some (vI x_4), h))
      (ifp (x_0 = ((-4 : Int32) + 1))
      (some (some (vI x_3), h))
      (ifp (x_0 = (((-4 : Int32) + 1) + 1))
      (some (some (vI x_2), h))
      (ifp (x_0 = ((((-4 : Int32) + 1) + 1) + 1))
      (some (some (vI x_1), h))
      (
      some (some (vI x_0), h))))) := (evs_xpd _ tx_Mood_fact [] 17 _).trans rfl
noncomputable def L_Mood_joined_74 (d : Nat) (x_1 : Int32) (x_2 : Int32) (h : Hp) : Option Rs := evs (evm d) tx_Mood_joined (74, [none, some (vI x_1), some (vI x_2)], [], h)
noncomputable def L_Mood_joined_88 (d : Nat) (x_1 : Int32) (x_2 : Int32) (h : Hp) : Option Rs := evs (evm d) tx_Mood_joined (88, [none, some (vI x_1), some (vI x_2)], [], h)
set_option maxRecDepth 100000 in
theorem e_Mood_joined_74 (d : Nat) (x_1 : Int32) (x_2 : Int32) (h : Hp) : L_Mood_joined_74 d x_1 x_2 h =
    ifp (x_1 = 0)
      (some (some (vI (0 : Int32)), h))
      (ifp (x_2 = 0)
        (some (some (vI (0 : Int32)), h))
        (some (some (vI (1 : Int32)), h))) := (evs_xpd _ tx_Mood_joined [74, 88] 49 _).trans rfl
set_option maxRecDepth 100000 in
theorem e_Mood_joined_88 (d : Nat) (x_1 : Int32) (x_2 : Int32) (h : Hp) : L_Mood_joined_88 d x_1 x_2 h =
    ifp (x_1 = 0)
      (ifp (x_2 = 0)
        (some (some (vI (0 : Int32)), h))
        (some (some (vI (1 : Int32)), h)))
      (some (some (vI (1 : Int32)), h)) := (evs_xpd _ tx_Mood_joined [74, 88] 49 _).trans rfl
set_option maxRecDepth 100000 in
theorem e_Mood_joined (d : Nat) (x_0 : Int32) (x_1 : Int32) (x_2 : Int32) (h : Hp) : evm (d + 1) 15 [vI x_0, vI x_1, vI x_2] h =
    ifp (x_0 = (-11 : Int32))
      (L_Mood_joined_74 d x_1 x_2 h)
      (ifp (x_0 = ((-11 : Int32) + 1))
      (ifp (x_1 = x_2)
        (some (some (vI (1 : Int32)), h))
        (some (some (vI (0 : Int32)), h)))
      (ifp (x_0 = (((-11 : Int32) + 1) + 1))
      (ifp (x_1 < x_2)
        (some (some (vI (1 : Int32)), h))
        (some (some (vI (0 : Int32)), h)))
      (ifp (x_0 = ((((-11 : Int32) + 1) + 1) + 1))
      (some (some (vI (x_1 * x_2)), h))
      (ifp (x_0 = (((((-11 : Int32) + 1) + 1) + 1) + 1))
      (some (some (vI (x_1 - x_2)), h))
      (ifp (x_0 = ((((((-11 : Int32) + 1) + 1) + 1) + 1) + 1))
      (some (some (vI (x_1 + x_2)), h))
      (
      L_Mood_joined_88 d x_1 x_2 h)))))) := (evs_xpd _ tx_Mood_joined [74, 88] 49 _).trans rfl
set_option maxRecDepth 100000 in
theorem e_Pair_new (d : Nat) (r_0 : Nat) (h : Hp) : evm (d + 1) 16 [vR 3 r_0] h =
    ifp (inb (0 : Int32) 1000000 = true) (
    alc h fun q1 =>
    some (none, sR (sN h 21 (ix (0 : Int32)) (ix (0 : Int32))) r_0 0 q1)) none := (evs_xpd _ tx_Pair_new [] 12 _).trans rfl
noncomputable def L_Pair_pairs_32 (d : Nat) (r_0 : Nat) (r_1 : Nat) (x_2 : Int32) (h : Hp) : Option Rs := evs (evm d) tx_Pair_pairs (32, [some (vR 3 r_0), some (vR 5 r_1), some (vI x_2), none], [], h)
noncomputable def L_Pair_pairs_66 (d : Nat) (r_0 : Nat) (r_1 : Nat) (x_2 : Int32) (h : Hp) : Option Rs := evs (evm d) tx_Pair_pairs (66, [some (vR 3 r_0), some (vR 5 r_1), some (vI x_2), none], [], h)
noncomputable def L_Pair_pairs_79 (d : Nat) (r_0 : Nat) (r_1 : Nat) (x_2 : Int32) (x_3 : Int32) (h : Hp) : Option Rs := evs (evm d) tx_Pair_pairs (79, [some (vR 3 r_0), some (vR 5 r_1), some (vI x_2), some (vI x_3)], [], h)
set_option maxRecDepth 100000 in
theorem e_Pair_pairs_32 (d : Nat) (r_0 : Nat) (r_1 : Nat) (x_2 : Int32) (h : Hp) : L_Pair_pairs_32 d r_0 r_1 x_2 h =
    bR (hR h r_0 0) fun r1 =>
    ifp (x_2 < (nI (hN h r1)))
      (bR (hR h r_0 0) fun r3 =>
      ifp (inb x_2 (hN h r3) = true) (
      L_Pair_pairs_32 d r_0 r_1 (x_2 + (1 : Int32)) (sL h r3 (ix x_2) (0 : Int64))) none)
      (bR (hR h r_0 0) fun r2 =>
      ifp (inb (hI h r_1 7) (hN h r2) = true) (
      L_Pair_pairs_66 d r_0 r_1 (0 : Int32) (sL h r2 (ix (hI h r_1 7)) (1 : Int64))) none) := (evs_xpd _ tx_Pair_pairs [32, 66, 79] 67 _).trans rfl
set_option maxRecDepth 100000 in
theorem e_Pair_pairs_66 (d : Nat) (r_0 : Nat) (r_1 : Nat) (x_2 : Int32) (h : Hp) : L_Pair_pairs_66 d r_0 r_1 x_2 h =
    ifp ((hI h r_1 7) < x_2)
      (bR (hR h r_0 0) fun r1 =>
      ifp (inb ((hI h r_1 7) * (25 : Int32)) (hN h r1) = true) (
      some (some (vL (hL h r1 (ix ((hI h r_1 7) * (25 : Int32))))), h)) none)
      (L_Pair_pairs_79 d r_0 r_1 x_2 (hI h r_1 7) h) := (evs_xpd _ tx_Pair_pairs [32, 66, 79] 67 _).trans rfl
set_option maxRecDepth 100000 in
theorem e_Pair_pairs_79 (d : Nat) (r_0 : Nat) (r_1 : Nat) (x_2 : Int32) (x_3 : Int32) (h : Hp) : L_Pair_pairs_79 d r_0 r_1 x_2 x_3 h =
    ifp (x_3 < 0)
      (L_Pair_pairs_66 d r_0 r_1 (x_2 + (1 : Int32)) h)
      (bV (evm d 18 [vR 3 r_0, vR 5 r_1, vI x_2, vI x_3] h) fun h1 =>
      L_Pair_pairs_79 d r_0 r_1 x_2 (x_3 + (-1 : Int32)) h1) := (evs_xpd _ tx_Pair_pairs [32, 66, 79] 67 _).trans rfl
set_option maxRecDepth 100000 in
theorem e_Pair_pairs (d : Nat) (r_0 : Nat) (r_1 : Nat) (h : Hp) : evm (d + 1) 17 [vR 3 r_0, vR 5 r_1] h =
    ifp ((24 : Int32) < (hI h r_1 7))
      (some (some (vL (-1 : Int64)), h))
      (bR (hR h r_0 0) fun r1 =>
      ifp ((nI (hN h r1)) = 0)
        (ifp (inb (625 : Int32) 1000000 = true) (
        alc h fun q2 =>
        L_Pair_pairs_32 d r_0 r_1 (0 : Int32) (sR (sN h 21 (ix (625 : Int32)) (ix (625 : Int32))) r_0 0 q2)) none)
        (L_Pair_pairs_32 d r_0 r_1 (0 : Int32) h)) := (evs_xpd _ tx_Pair_pairs [32, 66, 79] 67 _).trans rfl
noncomputable def L_Pair_beat_36 (d : Nat) (r_0 : Nat) (r_1 : Nat) (x_2 : Int32) (x_3 : Int32) (y_4 : Int64) (x_6 : Int32) (h : Hp) : Option Rs := evs (evm d) tx_Pair_beat (36, [some (vR 3 r_0), some (vR 5 r_1), some (vI x_2), some (vI x_3), some (vL y_4), none, some (vI x_6), none, none, none], [], h)
noncomputable def L_Pair_beat_61 (d : Nat) (r_0 : Nat) (r_1 : Nat) (x_2 : Int32) (x_3 : Int32) (y_4 : Int64) (x_6 : Int32) (x_7 : Int32) (x_8 : Int32) (h : Hp) : Option Rs := evs (evm d) tx_Pair_beat (61, [some (vR 3 r_0), some (vR 5 r_1), some (vI x_2), some (vI x_3), some (vL y_4), none, some (vI x_6), some (vI x_7), some (vI x_8), none], [], h)
set_option maxRecDepth 100000 in
theorem e_Pair_beat_36 (d : Nat) (r_0 : Nat) (r_1 : Nat) (x_2 : Int32) (x_3 : Int32) (y_4 : Int64) (x_6 : Int32) (h : Hp) : L_Pair_beat_36 d r_0 r_1 x_2 x_3 y_4 x_6 h =
    ifp (x_6 < (hI h r_1 8))
      (bI (evm d 19 [vR 5 r_1, vI x_2, vI x_6, vI (hI h r_1 7)] h) fun x2 h1 =>
      L_Pair_beat_61 d r_0 r_1 x_2 x_3 y_4 x_6 x2 (0 : Int32) h1)
      (some (none, h)) := (evs_xpd _ tx_Pair_beat [36, 61] 76 _).trans rfl
set_option maxRecDepth 100000 in
theorem e_Pair_beat_61 (d : Nat) (r_0 : Nat) (r_1 : Nat) (x_2 : Int32) (x_3 : Int32) (y_4 : Int64) (x_6 : Int32) (x_7 : Int32) (x_8 : Int32) (h : Hp) : L_Pair_beat_61 d r_0 r_1 x_2 x_3 y_4 x_6 x_7 x_8 h =
    ifp (x_8 < (hI h r_1 8))
      (ifp (x_7 = (-1 : Int32))
        (L_Pair_beat_36 d r_0 r_1 x_2 x_3 y_4 (x_6 + (1 : Int32)) h)
        (bI (evm d 19 [vR 5 r_1, vI x_3, vI x_8, vI (0 : Int32)] h) fun x2 h1 =>
        ifp (x2 = (-1 : Int32))
          (L_Pair_beat_61 d r_0 r_1 x_2 x_3 y_4 x_6 x_7 (x_8 + (1 : Int32)) h1)
          (ifp (x2 = x_7)
            (L_Pair_beat_61 d r_0 r_1 x_2 x_3 y_4 x_6 x_7 (x_8 + (1 : Int32)) h1)
            (bR (hR h1 r_0 0) fun r3 =>
            ifp (inb ((x_7 * (25 : Int32)) + x2) (hN h1 r3) = true) (
            ifp (inb ((x_7 * (25 : Int32)) + x2) (hN h1 r3) = true) (
            L_Pair_beat_61 d r_0 r_1 x_2 x_3 y_4 x_6 x_7 (x_8 + (1 : Int32)) (sL h1 r3 (ix ((x_7 * (25 : Int32)) + x2)) ((hL h1 r3 (ix ((x_7 * (25 : Int32)) + x2))) + y_4))) none) none))))
      (L_Pair_beat_36 d r_0 r_1 x_2 x_3 y_4 (x_6 + (1 : Int32)) h) := (evs_xpd _ tx_Pair_beat [36, 61] 76 _).trans rfl
set_option maxRecDepth 100000 in
theorem e_Pair_beat (d : Nat) (r_0 : Nat) (r_1 : Nat) (x_2 : Int32) (x_3 : Int32) (h : Hp) : evm (d + 1) 18 [vR 3 r_0, vR 5 r_1, vI x_2, vI x_3] h =
    bR (hR h r_0 0) fun r1 =>
    ifp (inb ((x_2 * (25 : Int32)) + x_3) (hN h r1) = true) (
    ifp ((lg_cmp (hL h r1 (ix ((x_2 * (25 : Int32)) + x_3))) (0 : Int64)) = 0)
      (some (none, h))
      (ifp (x_2 = (hI h r_1 7))
        (ifp (x_3 = 0)
          (some (none, h))
          (L_Pair_beat_36 d r_0 r_1 x_2 x_3 (hL h r1 (ix ((x_2 * (25 : Int32)) + x_3))) (0 : Int32) h))
        (L_Pair_beat_36 d r_0 r_1 x_2 x_3 (hL h r1 (ix ((x_2 * (25 : Int32)) + x_3))) (0 : Int32) h))) none := (evs_xpd _ tx_Pair_beat [36, 61] 76 _).trans rfl
noncomputable def L_Pair_moved_38 (d : Nat) (r_0 : Nat) (xs0 : Int32) (h : Hp) : Option Rs := evs (evm d) tx_Pair_moved (38, [some (vR 5 r_0), none, none, none, none], [vI xs0], h)
set_option maxRecDepth 100000 in
theorem e_Pair_moved_38 (d : Nat) (r_0 : Nat) (xs0 : Int32) (h : Hp) : L_Pair_moved_38 d r_0 xs0 h =
    ifp (xs0 < 0)
      (some (some (vI (-1 : Int32)), h))
      (ifp ((hI h r_0 7) < xs0)
        (some (some (vI (-1 : Int32)), h))
        (bR (hR h r_0 2) fun r1 =>
        ifp (inb xs0 (hN h r1) = true) (
        ifp ((hI h r1 (ix xs0)) = (1 : Int32))
          (some (some (vI (-1 : Int32)), h))
          (some (some (vI xs0), h))) none)) := (evs_xpd _ tx_Pair_moved [38] 46 _).trans rfl
set_option maxRecDepth 100000 in
theorem e_Pair_moved (d : Nat) (r_0 : Nat) (x_1 : Int32) (x_2 : Int32) (x_3 : Int32) (h : Hp) : evm (d + 1) 19 [vR 5 r_0, vI x_1, vI x_2, vI x_3] h =
    ifp (x_1 = x_3)
      (ifp (x_2 = 0)
        (some (some (vI x_1), h))
        (some (some (vI (-1 : Int32)), h)))
      (ifp (x_3 = 0)
        (bR (hR h r_0 0) fun r2 =>
        ifp (inb x_2 (hN h r2) = true) (
        L_Pair_moved_38 d r_0 (x_1 - (hI h r2 (ix x_2))) h) none)
        (bR (hR h r_0 0) fun r1 =>
        ifp (inb x_2 (hN h r1) = true) (
        L_Pair_moved_38 d r_0 (x_1 + (hI h r1 (ix x_2))) h) none)) := (evs_xpd _ tx_Pair_moved [38] 46 _).trans rfl
set_option maxRecDepth 100000 in
theorem e_Rests_new (d : Nat) (r_0 : Nat) (h : Hp) : evm (d + 1) 20 [vR 4 r_0] h =
    ifp (inb (12 : Int32) 1000000 = true) (
    alc h fun q1 =>
    ifp (inb (12 : Int32) 1000000 = true) (
    alc (sR (sN h 21 (ix (12 : Int32)) (ix (12 : Int32))) r_0 0 q1) fun q2 =>
    ifp (inb (24 : Int32) 1000000 = true) (
    alc (sR (sN (sR (sN h 21 (ix (12 : Int32)) (ix (12 : Int32))) r_0 0 q1) 21 (ix (12 : Int32)) (ix (12 : Int32))) r_0 1 q2) fun q3 =>
    some (none, sR (sN (sR (sN (sR (sN h 21 (ix (12 : Int32)) (ix (12 : Int32))) r_0 0 q1) 21 (ix (12 : Int32)) (ix (12 : Int32))) r_0 1 q2) 21 (ix (24 : Int32)) (ix (24 : Int32))) r_0 2 q3)) none) none) none := (evs_xpd _ tx_Rests_new [] 20 _).trans rfl
noncomputable def L_Rests_rest_16 (d : Nat) (r_0 : Nat) (r_1 : Nat) (x_2 : Int32) (x_3 : Int32) (x_4 : Int32) (h : Hp) : Option Rs := evs (evm d) tx_Rests_rest (16, [some (vR 4 r_0), some (vR 5 r_1), some (vI x_2), some (vI x_3), some (vI x_4), none, none], [], h)
noncomputable def L_Rests_rest_56 (d : Nat) (r_0 : Nat) (r_1 : Nat) (x_2 : Int32) (x_3 : Int32) (x_4 : Int32) (h : Hp) : Option Rs := evs (evm d) tx_Rests_rest (56, [some (vR 4 r_0), some (vR 5 r_1), some (vI x_2), some (vI x_3), some (vI x_4), none, none], [], h)
noncomputable def L_Rests_rest_85 (d : Nat) (r_0 : Nat) (r_1 : Nat) (x_3 : Int32) (y_4 : Int64) (x_6 : Int32) (h : Hp) : Option Rs := evs (evm d) tx_Rests_rest (85, [some (vR 4 r_0), some (vR 5 r_1), none, some (vI x_3), some (vL y_4), none, some (vI x_6)], [], h)
set_option maxRecDepth 100000 in
theorem e_Rests_rest_16 (d : Nat) (r_0 : Nat) (r_1 : Nat) (x_2 : Int32) (x_3 : Int32) (x_4 : Int32) (h : Hp) : L_Rests_rest_16 d r_0 r_1 x_2 x_3 x_4 h =
    bR (hR h r_0 1) fun r1 =>
    ifp (x_4 < (nI (hN h r1)))
      (bR (hR h r_0 1) fun r2 =>
      ifp (x_4 = 0)
        (ifp (x_3 = 0) none (
        ifp (inb x_4 (hN h r2) = true) (
        L_Rests_rest_16 d r_0 r_1 x_2 x_3 (x_4 + (1 : Int32)) (sL h r2 (ix x_4) ((irem (1 : Int32) x_3).toInt64))) none))
        (ifp (inb x_4 (hN h r2) = true) (
        L_Rests_rest_16 d r_0 r_1 x_2 x_3 (x_4 + (1 : Int32)) (sL h r2 (ix x_4) (0 : Int64))) none))
      (L_Rests_rest_56 d r_0 r_1 x_2 x_3 (29 : Int32) h) := (evs_xpd _ tx_Rests_rest [16, 56, 85] 83 _).trans rfl
set_option maxRecDepth 100000 in
theorem e_Rests_rest_56 (d : Nat) (r_0 : Nat) (r_1 : Nat) (x_2 : Int32) (x_3 : Int32) (x_4 : Int32) (h : Hp) : L_Rests_rest_56 d r_0 r_1 x_2 x_3 x_4 h =
    ifp (x_4 < 0)
      (L_Rests_rest_85 d r_0 r_1 x_3 (0 : Int64) (0 : Int32) h)
      (bV (evm d 23 [vR 4 r_0, vR 5 r_1, vI x_3, vI ((x_2 >>> (x_4 &&& 31)) &&& (1 : Int32))] h) fun h1 =>
      L_Rests_rest_56 d r_0 r_1 x_2 x_3 (x_4 + (-1 : Int32)) h1) := (evs_xpd _ tx_Rests_rest [16, 56, 85] 83 _).trans rfl
set_option maxRecDepth 100000 in
theorem e_Rests_rest_85 (d : Nat) (r_0 : Nat) (r_1 : Nat) (x_3 : Int32) (y_4 : Int64) (x_6 : Int32) (h : Hp) : L_Rests_rest_85 d r_0 r_1 x_3 y_4 x_6 h =
    bI (evm d 32 [vR 5 r_1] h) fun x2 h1 =>
    ifp (x_6 < x2)
      (bR (hR h1 r_0 1) fun r3 =>
      ifp (x_6 < (nI (hN h1 r3)))
        (bR (hR h1 r_0 1) fun r4 =>
        ifp (inb x_6 (hN h1 r4) = true) (
        bR (hR h1 r_0 0) fun r5 =>
        ifp (inb x_6 (hN h1 r5) = true) (
        L_Rests_rest_85 d r_0 r_1 x_3 (y_4 + ((hL h1 r4 (ix x_6)) * (hL h1 r5 (ix x_6)))) (x_6 + (1 : Int32)) h1) none) none)
        (ifp (x_3.toInt64 = 0) none (
        some (some (vI ((lrem y_4 x_3.toInt64).toInt32)), h1))))
      (ifp (x_3.toInt64 = 0) none (
      some (some (vI ((lrem y_4 x_3.toInt64).toInt32)), h1))) := (evs_xpd _ tx_Rests_rest [16, 56, 85] 83 _).trans rfl
set_option maxRecDepth 100000 in
theorem e_Rests_rest (d : Nat) (r_0 : Nat) (r_1 : Nat) (x_2 : Int32) (x_3 : Int32) (h : Hp) : evm (d + 1) 21 [vR 4 r_0, vR 5 r_1, vI x_2, vI x_3] h =
    ifp (x_3 < (1 : Int32))
      (some (some (vI (0 : Int32)), h))
      (bV (evm d 22 [vR 4 r_0, vR 5 r_1, vI x_3] h) fun h1 =>
      L_Rests_rest_16 d r_0 r_1 x_2 x_3 (0 : Int32) h1) := (evs_xpd _ tx_Rests_rest [16, 56, 85] 83 _).trans rfl
noncomputable def L_Rests_findFirst_2 (d : Nat) (r_0 : Nat) (r_1 : Nat) (x_2 : Int32) (x_3 : Int32) (h : Hp) : Option Rs := evs (evm d) tx_Rests_findFirst (2, [some (vR 4 r_0), some (vR 5 r_1), some (vI x_2), some (vI x_3), none, none], [], h)
noncomputable def L_Rests_findFirst_29 (d : Nat) (r_0 : Nat) (r_1 : Nat) (x_2 : Int32) (x_3 : Int32) (x_4 : Int32) (h : Hp) : Option Rs := evs (evm d) tx_Rests_findFirst (29, [some (vR 4 r_0), some (vR 5 r_1), some (vI x_2), some (vI x_3), some (vI x_4), none], [], h)
set_option maxRecDepth 100000 in
theorem e_Rests_findFirst_2 (d : Nat) (r_0 : Nat) (r_1 : Nat) (x_2 : Int32) (x_3 : Int32) (h : Hp) : L_Rests_findFirst_2 d r_0 r_1 x_2 x_3 h =
    bR (hR h r_0 0) fun r1 =>
    ifp (x_3 < (nI (hN h r1)))
      (bR (hR h r_0 0) fun r2 =>
      ifp (x_3 = 0)
        (ifp (inb x_3 (hN h r2) = true) (
        L_Rests_findFirst_29 d r_0 r_1 x_2 x_3 (0 : Int32) (sL h r2 (ix x_3) (1 : Int64))) none)
        (ifp (inb x_3 (hN h r2) = true) (
        L_Rests_findFirst_29 d r_0 r_1 x_2 x_3 (0 : Int32) (sL h r2 (ix x_3) (0 : Int64))) none))
      (some (none, h)) := (evs_xpd _ tx_Rests_findFirst [2, 29] 63 _).trans rfl
set_option maxRecDepth 100000 in
theorem e_Rests_findFirst_29 (d : Nat) (r_0 : Nat) (r_1 : Nat) (x_2 : Int32) (x_3 : Int32) (x_4 : Int32) (h : Hp) : L_Rests_findFirst_29 d r_0 r_1 x_2 x_3 x_4 h =
    ifp (x_4 < (hI h r_1 8))
      (bR (hR h r_1 0) fun r2 =>
      ifp (inb x_4 (hN h r2) = true) (
      bR (hR h r_0 0) fun r3 =>
      ifp (inb x_3 (hN h r3) = true) (
      ifp ((x_3 - (hI h r2 (ix x_4))) < 0)
        (ifp (inb x_3 (hN h r3) = true) (
        L_Rests_findFirst_29 d r_0 r_1 x_2 x_3 (x_4 + (1 : Int32)) (sL h r3 (ix x_3) ((hL h r3 (ix x_3)) + (0 : Int64)))) none)
        (bR (hR h r_0 0) fun r4 =>
        ifp (inb (x_3 - (hI h r2 (ix x_4))) (hN h r4) = true) (
        ifp (inb x_3 (hN h r3) = true) (
        L_Rests_findFirst_29 d r_0 r_1 x_2 x_3 (x_4 + (1 : Int32)) (sL h r3 (ix x_3) ((hL h r3 (ix x_3)) + (hL h r4 (ix (x_3 - (hI h r2 (ix x_4)))))))) none) none)) none) none)
      (bR (hR h r_0 0) fun r1 =>
      ifp (inb x_3 (hN h r1) = true) (
      ifp (x_2.toInt64 = 0) none (
      ifp (inb x_3 (hN h r1) = true) (
      L_Rests_findFirst_2 d r_0 r_1 x_2 (x_3 + (1 : Int32)) (sL h r1 (ix x_3) (lrem (hL h r1 (ix x_3)) x_2.toInt64))) none)) none) := (evs_xpd _ tx_Rests_findFirst [2, 29] 63 _).trans rfl
set_option maxRecDepth 100000 in
theorem e_Rests_findFirst (d : Nat) (r_0 : Nat) (r_1 : Nat) (x_2 : Int32) (h : Hp) : evm (d + 1) 22 [vR 4 r_0, vR 5 r_1, vI x_2] h =
    L_Rests_findFirst_2 d r_0 r_1 x_2 (0 : Int32) h := (evs_xpd _ tx_Rests_findFirst [2, 29] 63 _).trans rfl
noncomputable def L_Rests_square_31 (d : Nat) (r_0 : Nat) (r_1 : Nat) (x_2 : Int32) (x_3 : Int32) (x_4 : Int32) (x_5 : Int32) (h : Hp) : Option Rs := evs (evm d) tx_Rests_square (31, [some (vR 4 r_0), some (vR 5 r_1), some (vI x_2), some (vI x_3), some (vI x_4), some (vI x_5), none, none, none], [], h)
noncomputable def L_Rests_square_58 (d : Nat) (r_0 : Nat) (r_1 : Nat) (x_2 : Int32) (x_3 : Int32) (x_4 : Int32) (x_5 : Int32) (h : Hp) : Option Rs := evs (evm d) tx_Rests_square (58, [some (vR 4 r_0), some (vR 5 r_1), some (vI x_2), some (vI x_3), some (vI x_4), some (vI x_5), none, none, none], [], h)
noncomputable def L_Rests_square_68 (d : Nat) (r_0 : Nat) (r_1 : Nat) (x_2 : Int32) (x_3 : Int32) (x_4 : Int32) (x_5 : Int32) (x_6 : Int32) (h : Hp) : Option Rs := evs (evm d) tx_Rests_square (68, [some (vR 4 r_0), some (vR 5 r_1), some (vI x_2), some (vI x_3), some (vI x_4), some (vI x_5), some (vI x_6), none, none], [], h)
noncomputable def L_Rests_square_125 (d : Nat) (r_0 : Nat) (r_1 : Nat) (x_2 : Int32) (x_4 : Int32) (x_5 : Int32) (h : Hp) : Option Rs := evs (evm d) tx_Rests_square (125, [some (vR 4 r_0), some (vR 5 r_1), some (vI x_2), none, some (vI x_4), some (vI x_5), none, none, none], [], h)
noncomputable def L_Rests_square_147 (d : Nat) (r_0 : Nat) (r_1 : Nat) (x_2 : Int32) (x_4 : Int32) (x_5 : Int32) (y_6 : Int64) (x_8 : Int32) (h : Hp) : Option Rs := evs (evm d) tx_Rests_square (147, [some (vR 4 r_0), some (vR 5 r_1), some (vI x_2), none, some (vI x_4), some (vI x_5), some (vL y_6), none, some (vI x_8)], [], h)
noncomputable def L_Rests_square_191 (d : Nat) (r_0 : Nat) (x_2 : Int32) (x_4 : Int32) (x_5 : Int32) (h : Hp) : Option Rs := evs (evm d) tx_Rests_square (191, [some (vR 4 r_0), none, some (vI x_2), none, some (vI x_4), some (vI x_5), none, none, none], [], h)
set_option maxRecDepth 100000 in
theorem e_Rests_square_31 (d : Nat) (r_0 : Nat) (r_1 : Nat) (x_2 : Int32) (x_3 : Int32) (x_4 : Int32) (x_5 : Int32) (h : Hp) : L_Rests_square_31 d r_0 r_1 x_2 x_3 x_4 x_5 h =
    bR (hR h r_0 2) fun r1 =>
    ifp (x_5 < (nI (hN h r1)))
      (bR (hR h r_0 2) fun r2 =>
      ifp (inb x_5 (hN h r2) = true) (
      L_Rests_square_31 d r_0 r_1 x_2 x_3 x_4 (x_5 + (1 : Int32)) (sL h r2 (ix x_5) (0 : Int64))) none)
      (L_Rests_square_58 d r_0 r_1 x_2 x_3 x_4 (0 : Int32) h) := (evs_xpd _ tx_Rests_square [31, 58, 68, 125, 147, 191] 127 _).trans rfl
set_option maxRecDepth 100000 in
theorem e_Rests_square_58 (d : Nat) (r_0 : Nat) (r_1 : Nat) (x_2 : Int32) (x_3 : Int32) (x_4 : Int32) (x_5 : Int32) (h : Hp) : L_Rests_square_58 d r_0 r_1 x_2 x_3 x_4 x_5 h =
    ifp (x_5 < x_4)
      (L_Rests_square_68 d r_0 r_1 x_2 x_3 x_4 x_5 (0 : Int32) h)
      (L_Rests_square_125 d r_0 r_1 x_2 x_4 (((2 : Int32) * x_4) - (1 : Int32)) h) := (evs_xpd _ tx_Rests_square [31, 58, 68, 125, 147, 191] 127 _).trans rfl
set_option maxRecDepth 100000 in
theorem e_Rests_square_68 (d : Nat) (r_0 : Nat) (r_1 : Nat) (x_2 : Int32) (x_3 : Int32) (x_4 : Int32) (x_5 : Int32) (x_6 : Int32) (h : Hp) : L_Rests_square_68 d r_0 r_1 x_2 x_3 x_4 x_5 x_6 h =
    ifp (x_6 < x_4)
      (bR (hR h r_0 2) fun r1 =>
      ifp (inb ((x_5 + x_6) + x_3) (hN h r1) = true) (
      bR (hR h r_0 1) fun r2 =>
      ifp (inb x_5 (hN h r2) = true) (
      bR (hR h r_0 1) fun r3 =>
      ifp (inb x_6 (hN h r3) = true) (
      ifp (inb ((x_5 + x_6) + x_3) (hN h r1) = true) (
      L_Rests_square_68 d r_0 r_1 x_2 x_3 x_4 x_5 (x_6 + (1 : Int32)) (sL h r1 (ix ((x_5 + x_6) + x_3)) ((hL h r1 (ix ((x_5 + x_6) + x_3))) + ((hL h r2 (ix x_5)) * (hL h r3 (ix x_6)))))) none) none) none) none)
      (L_Rests_square_58 d r_0 r_1 x_2 x_3 x_4 (x_5 + (1 : Int32)) h) := (evs_xpd _ tx_Rests_square [31, 58, 68, 125, 147, 191] 127 _).trans rfl
set_option maxRecDepth 100000 in
theorem e_Rests_square_125 (d : Nat) (r_0 : Nat) (r_1 : Nat) (x_2 : Int32) (x_4 : Int32) (x_5 : Int32) (h : Hp) : L_Rests_square_125 d r_0 r_1 x_2 x_4 x_5 h =
    ifp (x_5 < x_4)
      (L_Rests_square_191 d r_0 x_2 x_4 (0 : Int32) h)
      (bR (hR h r_0 2) fun r1 =>
      ifp (inb x_5 (hN h r1) = true) (
      ifp (x_2.toInt64 = 0) none (
      L_Rests_square_147 d r_0 r_1 x_2 x_4 x_5 (lrem (hL h r1 (ix x_5)) x_2.toInt64) (0 : Int32) h)) none) := (evs_xpd _ tx_Rests_square [31, 58, 68, 125, 147, 191] 127 _).trans rfl
set_option maxRecDepth 100000 in
theorem e_Rests_square_147 (d : Nat) (r_0 : Nat) (r_1 : Nat) (x_2 : Int32) (x_4 : Int32) (x_5 : Int32) (y_6 : Int64) (x_8 : Int32) (h : Hp) : L_Rests_square_147 d r_0 r_1 x_2 x_4 x_5 y_6 x_8 h =
    ifp (x_8 < (hI h r_1 8))
      (bR (hR h r_0 2) fun r1 =>
      bR (hR h r_1 0) fun r2 =>
      ifp (inb x_8 (hN h r2) = true) (
      ifp (inb (x_5 - (hI h r2 (ix x_8))) (hN h r1) = true) (
      ifp (inb (x_5 - (hI h r2 (ix x_8))) (hN h r1) = true) (
      L_Rests_square_147 d r_0 r_1 x_2 x_4 x_5 y_6 (x_8 + (1 : Int32)) (sL h r1 (ix (x_5 - (hI h r2 (ix x_8)))) ((hL h r1 (ix (x_5 - (hI h r2 (ix x_8))))) + y_6))) none) none) none)
      (L_Rests_square_125 d r_0 r_1 x_2 x_4 (x_5 + (-1 : Int32)) h) := (evs_xpd _ tx_Rests_square [31, 58, 68, 125, 147, 191] 127 _).trans rfl
set_option maxRecDepth 100000 in
theorem e_Rests_square_191 (d : Nat) (r_0 : Nat) (x_2 : Int32) (x_4 : Int32) (x_5 : Int32) (h : Hp) : L_Rests_square_191 d r_0 x_2 x_4 x_5 h =
    ifp (x_5 < x_4)
      (bR (hR h r_0 1) fun r1 =>
      bR (hR h r_0 2) fun r2 =>
      ifp (inb x_5 (hN h r2) = true) (
      ifp (x_2.toInt64 = 0) none (
      ifp (inb x_5 (hN h r1) = true) (
      L_Rests_square_191 d r_0 x_2 x_4 (x_5 + (1 : Int32)) (sL h r1 (ix x_5) (lrem (hL h r2 (ix x_5)) x_2.toInt64))) none)) none)
      (some (none, h)) := (evs_xpd _ tx_Rests_square [31, 58, 68, 125, 147, 191] 127 _).trans rfl
set_option maxRecDepth 100000 in
theorem e_Rests_square (d : Nat) (r_0 : Nat) (r_1 : Nat) (x_2 : Int32) (x_3 : Int32) (h : Hp) : evm (d + 1) 23 [vR 4 r_0, vR 5 r_1, vI x_2, vI x_3] h =
    bI (evm d 32 [vR 5 r_1] h) fun x2 h1 =>
    ifp ((12 : Int32) < x2)
      (some (none, h1))
      (ifp (x_3 < 0)
        (some (none, h1))
        (ifp ((1 : Int32) < x_3)
          (some (none, h1))
          (ifp (x_2 < (1 : Int32))
            (some (none, h1))
            (L_Rests_square_31 d r_0 r_1 x_2 x_3 x2 (0 : Int32) h1)))) := (evs_xpd _ tx_Rests_square [31, 58, 68, 125, 147, 191] 127 _).trans rfl
set_option maxRecDepth 100000 in
theorem e_Stair_new (d : Nat) (r_0 : Nat) (h : Hp) : evm (d + 1) 24 [vR 5 r_0] h =
    ifp (inb (6 : Int32) 1000000 = true) (
    alc h fun q1 =>
    ifp (inb (13 : Int32) 1000000 = true) (
    alc (sR (sN h 20 (ix (6 : Int32)) (ix (6 : Int32))) r_0 0 q1) fun q2 =>
    ifp (inb (41 : Int32) 1000000 = true) (
    alc (sR (sN (sR (sN h 20 (ix (6 : Int32)) (ix (6 : Int32))) r_0 0 q1) 20 (ix (13 : Int32)) (ix (13 : Int32))) r_0 1 q2) fun q3 =>
    ifp (inb (13 : Int32) 1000000 = true) (
    alc (sR (sN (sR (sN (sR (sN h 20 (ix (6 : Int32)) (ix (6 : Int32))) r_0 0 q1) 20 (ix (13 : Int32)) (ix (13 : Int32))) r_0 1 q2) 20 (ix (41 : Int32)) (ix (41 : Int32))) r_0 2 q3) fun q4 =>
    ifp (inb (41 : Int32) 1000000 = true) (
    alc (sR (sN (sR (sN (sR (sN (sR (sN h 20 (ix (6 : Int32)) (ix (6 : Int32))) r_0 0 q1) 20 (ix (13 : Int32)) (ix (13 : Int32))) r_0 1 q2) 20 (ix (41 : Int32)) (ix (41 : Int32))) r_0 2 q3) 20 (ix (13 : Int32)) (ix (13 : Int32))) r_0 3 q4) fun q5 =>
    ifp (inb (41 : Int32) 1000000 = true) (
    alc (sR (sN (sR (sN (sR (sN (sR (sN (sR (sN h 20 (ix (6 : Int32)) (ix (6 : Int32))) r_0 0 q1) 20 (ix (13 : Int32)) (ix (13 : Int32))) r_0 1 q2) 20 (ix (41 : Int32)) (ix (41 : Int32))) r_0 2 q3) 20 (ix (13 : Int32)) (ix (13 : Int32))) r_0 3 q4) 20 (ix (41 : Int32)) (ix (41 : Int32))) r_0 4 q5) fun q6 =>
    alc (sR (sN (sR (sN (sR (sN (sR (sN (sR (sN (sR (sN h 20 (ix (6 : Int32)) (ix (6 : Int32))) r_0 0 q1) 20 (ix (13 : Int32)) (ix (13 : Int32))) r_0 1 q2) 20 (ix (41 : Int32)) (ix (41 : Int32))) r_0 2 q3) 20 (ix (13 : Int32)) (ix (13 : Int32))) r_0 3 q4) 20 (ix (41 : Int32)) (ix (41 : Int32))) r_0 4 q5) 20 (ix (41 : Int32)) (ix (41 : Int32))) r_0 5 q6) fun q7 =>
    bV (evm d 11 [vR 2 q7] (sN (sR (sN (sR (sN (sR (sN (sR (sN (sR (sN (sR (sN h 20 (ix (6 : Int32)) (ix (6 : Int32))) r_0 0 q1) 20 (ix (13 : Int32)) (ix (13 : Int32))) r_0 1 q2) 20 (ix (41 : Int32)) (ix (41 : Int32))) r_0 2 q3) 20 (ix (13 : Int32)) (ix (13 : Int32))) r_0 3 q4) 20 (ix (41 : Int32)) (ix (41 : Int32))) r_0 4 q5) 20 (ix (41 : Int32)) (ix (41 : Int32))) r_0 5 q6) 2 0 3)) fun h8 =>
    some (none, sR h8 r_0 6 q7)) none) none) none) none) none) none := (evs_xpd _ tx_Stair_new [] 37 _).trans rfl
noncomputable def L_Stair_clear_2 (d : Nat) (r_0 : Nat) (x_1 : Int32) (h : Hp) : Option Rs := evs (evm d) tx_Stair_clear (2, [some (vR 5 r_0), some (vI x_1)], [], h)
noncomputable def L_Stair_clear_23 (d : Nat) (r_0 : Nat) (x_1 : Int32) (h : Hp) : Option Rs := evs (evm d) tx_Stair_clear (23, [some (vR 5 r_0), some (vI x_1)], [], h)
set_option maxRecDepth 100000 in
theorem e_Stair_clear_2 (d : Nat) (r_0 : Nat) (x_1 : Int32) (h : Hp) : L_Stair_clear_2 d r_0 x_1 h =
    ifp ((40 : Int32) < x_1)
      (L_Stair_clear_23 d r_0 (0 : Int32) h)
      (bR (hR h r_0 2) fun r1 =>
      ifp (inb x_1 (hN h r1) = true) (
      L_Stair_clear_2 d r_0 (x_1 + (1 : Int32)) (sI h r1 (ix x_1) (0 : Int32))) none) := (evs_xpd _ tx_Stair_clear [2, 23] 64 _).trans rfl
set_option maxRecDepth 100000 in
theorem e_Stair_clear_23 (d : Nat) (r_0 : Nat) (x_1 : Int32) (h : Hp) : L_Stair_clear_23 d r_0 x_1 h =
    ifp ((12 : Int32) < x_1)
      (bR (hR h r_0 6) fun r1 =>
      some (none, sI (sI (sI (sI (sI (sI (sI (sI (sI (sI (sI h r1 2 (0 : Int32)) r_0 7 (1 : Int32)) r_0 8 (0 : Int32)) r_0 9 (0 : Int32)) r_0 10 (-1 : Int32)) r_0 11 (0 : Int32)) r_0 12 (-1 : Int32)) r_0 13 (0 : Int32)) r_0 14 (40 : Int32)) r_0 15 (-1 : Int32)) r_0 16 (0 : Int32)))
      (bR (hR h r_0 3) fun r2 =>
      ifp (inb x_1 (hN h r2) = true) (
      L_Stair_clear_23 d r_0 (x_1 + (1 : Int32)) (sI h r2 (ix x_1) (0 : Int32))) none) := (evs_xpd _ tx_Stair_clear [2, 23] 64 _).trans rfl
set_option maxRecDepth 100000 in
theorem e_Stair_clear (d : Nat) (r_0 : Nat) (h : Hp) : evm (d + 1) 25 [vR 5 r_0] h =
    L_Stair_clear_2 d r_0 (0 : Int32) h := (evs_xpd _ tx_Stair_clear [2, 23] 64 _).trans rfl
noncomputable def L_Stair_finish_19 (d : Nat) (r_0 : Nat) (x_1 : Int32) (h : Hp) : Option Rs := evs (evm d) tx_Stair_finish (19, [some (vR 5 r_0), some (vI x_1)], [], h)
noncomputable def L_Stair_finish_43 (d : Nat) (r_0 : Nat) (x_1 : Int32) (h : Hp) : Option Rs := evs (evm d) tx_Stair_finish (43, [some (vR 5 r_0), some (vI x_1)], [], h)
set_option maxRecDepth 100000 in
theorem e_Stair_finish_19 (d : Nat) (r_0 : Nat) (x_1 : Int32) (h : Hp) : L_Stair_finish_19 d r_0 x_1 h =
    bR (hR h r_0 1) fun r1 =>
    ifp (x_1 < (nI (hN h r1)))
      (bR (hR h r_0 1) fun r2 =>
      ifp (inb x_1 (hN h r2) = true) (
      L_Stair_finish_19 d r_0 (x_1 + (1 : Int32)) (sI h r2 (ix x_1) (0 : Int32))) none)
      (L_Stair_finish_43 d r_0 (0 : Int32) h) := (evs_xpd _ tx_Stair_finish [19, 43] 51 _).trans rfl
set_option maxRecDepth 100000 in
theorem e_Stair_finish_43 (d : Nat) (r_0 : Nat) (x_1 : Int32) (h : Hp) : L_Stair_finish_43 d r_0 x_1 h =
    ifp (x_1 < (hI h r_0 8))
      (bR (hR h r_0 1) fun r3 =>
      bR (hR h r_0 0) fun r4 =>
      ifp (inb x_1 (hN h r4) = true) (
      ifp (inb (hI h r4 (ix x_1)) (hN h r3) = true) (
      L_Stair_finish_43 d r_0 (x_1 + (1 : Int32)) (sI h r3 (ix (hI h r4 (ix x_1))) (x_1 + (1 : Int32)))) none) none)
      (bV (evm d 35 [vR 5 r_0] h) fun h1 =>
      bV (evm d 36 [vR 5 r_0] h1) fun h2 =>
      some (none, h2)) := (evs_xpd _ tx_Stair_finish [19, 43] 51 _).trans rfl
set_option maxRecDepth 100000 in
theorem e_Stair_finish (d : Nat) (r_0 : Nat) (h : Hp) : evm (d + 1) 26 [vR 5 r_0] h =
    ifp ((hI h r_0 8) = 0)
      (bV (evm d 27 [vR 5 r_0, vI (1 : Int32)] h) fun h1 =>
      bV (evm d 27 [vR 5 r_0, vI (2 : Int32)] h1) fun h2 =>
      L_Stair_finish_19 d r_0 (0 : Int32) h2)
      (L_Stair_finish_19 d r_0 (0 : Int32) h) := (evs_xpd _ tx_Stair_finish [19, 43] 51 _).trans rfl
noncomputable def L_Stair_addStride_26 (d : Nat) (r_0 : Nat) (x_1 : Int32) (x_2 : Int32) (h : Hp) : Option Rs := evs (evm d) tx_Stair_addStride (26, [some (vR 5 r_0), some (vI x_1), some (vI x_2)], [], h)
noncomputable def L_Stair_addStride_62 (d : Nat) (r_0 : Nat) (x_1 : Int32) (x_2 : Int32) (h : Hp) : Option Rs := evs (evm d) tx_Stair_addStride (62, [some (vR 5 r_0), some (vI x_1), some (vI x_2)], [], h)
set_option maxRecDepth 100000 in
theorem e_Stair_addStride_26 (d : Nat) (r_0 : Nat) (x_1 : Int32) (x_2 : Int32) (h : Hp) : L_Stair_addStride_26 d r_0 x_1 x_2 h =
    ifp (0 < x_2)
      (bR (hR h r_0 0) fun r1 =>
      ifp (inb (x_2 - (1 : Int32)) (hN h r1) = true) (
      ifp (x_1 < (hI h r1 (ix (x_2 - (1 : Int32)))))
        (bR (hR h r_0 0) fun r2 =>
        bR (hR h r_0 0) fun r3 =>
        ifp (inb (x_2 - (1 : Int32)) (hN h r3) = true) (
        ifp (inb x_2 (hN h r2) = true) (
        L_Stair_addStride_26 d r_0 x_1 (x_2 + (-1 : Int32)) (sI h r2 (ix x_2) (hI h r3 (ix (x_2 - (1 : Int32)))))) none) none)
        (L_Stair_addStride_62 d r_0 x_1 x_2 h)) none)
      (L_Stair_addStride_62 d r_0 x_1 x_2 h) := (evs_xpd _ tx_Stair_addStride [26, 62] 61 _).trans rfl
set_option maxRecDepth 100000 in
theorem e_Stair_addStride_62 (d : Nat) (r_0 : Nat) (x_1 : Int32) (x_2 : Int32) (h : Hp) : L_Stair_addStride_62 d r_0 x_1 x_2 h =
    bR (hR h r_0 0) fun r1 =>
    ifp (inb x_2 (hN h r1) = true) (
    some (none, sI (sI (sI h r1 (ix x_2) x_1) r_0 8 ((hI (sI h r1 (ix x_2) x_1) r_0 8) + (1 : Int32))) r_0 9 ((hI (sI (sI h r1 (ix x_2) x_1) r_0 8 ((hI (sI h r1 (ix x_2) x_1) r_0 8) + (1 : Int32))) r_0 9) ||| ((1 : Int32) <<< (x_1 &&& 31))))) none := (evs_xpd _ tx_Stair_addStride [26, 62] 61 _).trans rfl
set_option maxRecDepth 100000 in
theorem e_Stair_addStride (d : Nat) (r_0 : Nat) (x_1 : Int32) (h : Hp) : evm (d + 1) 27 [vR 5 r_0, vI x_1] h =
    ifp ((hI h r_0 8) < (6 : Int32))
      (ifp (x_1 < (1 : Int32))
        (some (none, h))
        (ifp ((12 : Int32) < x_1)
          (some (none, h))
          (L_Stair_addStride_26 d r_0 x_1 (hI h r_0 8) h)))
      (some (none, h)) := (evs_xpd _ tx_Stair_addStride [26, 62] 61 _).trans rfl
set_option maxRecDepth 100000 in
theorem e_Stair_tells (d : Nat) (r_0 : Nat) (x_1 : Int32) (h : Hp) : evm (d + 1) 28 [vR 5 r_0, vI x_1] h =
    ifp (x_1 < (1 : Int32))
      (some (some (vI (0 : Int32)), h))
      (ifp ((12 : Int32) < x_1)
        (some (some (vI (0 : Int32)), h))
        (ifp ((((hI h r_0 9) >>> (x_1 &&& 31)) &&& (1 : Int32)) = 0)
          (some (some (vI (0 : Int32)), h))
          (some (some (vI (1 : Int32)), h)))) := (evs_xpd _ tx_Stair_tells [] 22 _).trans rfl
set_option maxRecDepth 100000 in
theorem e_Stair_isBarred (d : Nat) (r_0 : Nat) (x_1 : Int32) (x_2 : Int32) (h : Hp) : evm (d + 1) 29 [vR 5 r_0, vI x_1, vI x_2] h =
    ifp (x_1 < 0)
      (some (some (vI (0 : Int32)), h))
      (ifp ((12 : Int32) < x_1)
        (some (some (vI (0 : Int32)), h))
        (bR (hR h r_0 3) fun r1 =>
        ifp (inb x_1 (hN h r1) = true) (
        ifp ((((hI h r1 (ix x_1)) >>> (x_2 &&& 31)) &&& (1 : Int32)) = 0)
          (some (some (vI (0 : Int32)), h))
          (some (some (vI (1 : Int32)), h))) none)) := (evs_xpd _ tx_Stair_isBarred [] 23 _).trans rfl
set_option maxRecDepth 100000 in
theorem e_Stair_isGreat (d : Nat) (r_0 : Nat) (x_1 : Int32) (h : Hp) : evm (d + 1) 30 [vR 5 r_0, vI x_1] h =
    ifp ((hI h r_0 15) = (-1 : Int32))
      (some (some (vI (0 : Int32)), h))
      (ifp (x_1 < (hI h r_0 15))
        (some (some (vI (0 : Int32)), h))
        (some (some (vI (1 : Int32)), h))) := (evs_xpd _ tx_Stair_isGreat [] 17 _).trans rfl
set_option maxRecDepth 100000 in
theorem e_Stair_footFits (d : Nat) (r_0 : Nat) (x_1 : Int32) (h : Hp) : evm (d + 1) 31 [vR 5 r_0, vI x_1] h =
    ifp ((hI h r_0 12) = (-1 : Int32))
      (some (some (vI (1 : Int32)), h))
      (ifp ((hI h r_0 12) = (x_1 &&& (1 : Int32)))
        (some (some (vI (1 : Int32)), h))
        (some (some (vI (0 : Int32)), h))) := (evs_xpd _ tx_Stair_footFits [] 19 _).trans rfl
set_option maxRecDepth 100000 in
theorem e_Stair_longest (d : Nat) (r_0 : Nat) (h : Hp) : evm (d + 1) 32 [vR 5 r_0] h =
    ifp (0 < (hI h r_0 8))
      (bR (hR h r_0 0) fun r1 =>
      ifp (inb ((hI h r_0 8) - (1 : Int32)) (hN h r1) = true) (
      some (some (vI (hI h r1 (ix ((hI h r_0 8) - (1 : Int32))))), h)) none)
      (some (some (vI (1 : Int32)), h)) := (evs_xpd _ tx_Stair_longest [] 18 _).trans rfl
set_option maxRecDepth 100000 in
theorem e_Stair_creakKinds (d : Nat) (r_0 : Nat) (h : Hp) : evm (d + 1) 33 [vR 5 r_0] h =
    ifp ((hI h r_0 10) = (-1 : Int32))
      (some (some (vI (1 : Int32)), h))
      (some (some (vI ((hI h r_0 10) + (1 : Int32))), h)) := (evs_xpd _ tx_Stair_creakKinds [] 16 _).trans rfl
set_option maxRecDepth 100000 in
theorem e_Stair_greatKinds (d : Nat) (r_0 : Nat) (h : Hp) : evm (d + 1) 34 [vR 5 r_0] h =
    ifp ((hI h r_0 15) = (-1 : Int32))
      (some (some (vI (1 : Int32)), h))
      (some (some (vI ((hI h r_0 16) + (1 : Int32))), h)) := (evs_xpd _ tx_Stair_greatKinds [] 16 _).trans rfl
noncomputable def L_Stair_findFarthest_10 (d : Nat) (r_0 : Nat) (x_1 : Int32) (x_2 : Int32) (h : Hp) : Option Rs := evs (evm d) tx_Stair_findFarthest (10, [some (vR 5 r_0), some (vI x_1), some (vI x_2)], [], h)
set_option maxRecDepth 100000 in
theorem e_Stair_findFarthest_10 (d : Nat) (r_0 : Nat) (x_1 : Int32) (x_2 : Int32) (h : Hp) : L_Stair_findFarthest_10 d r_0 x_1 x_2 h =
    ifp (x_2 < 0)
      (some (none, h))
      (bR (hR h r_0 5) fun r1 =>
      ifp (inb x_2 (hN h r1) = true) (
      bR (hR (sI h r1 (ix x_2) x_1) r_0 2) fun r2 =>
      ifp (inb x_2 (hN (sI h r1 (ix x_2) x_1) r2) = true) (
      ifp ((hI (sI h r1 (ix x_2) x_1) r2 (ix x_2)) = (3 : Int32))
        (L_Stair_findFarthest_10 d r_0 x_2 (x_2 + (-1 : Int32)) (sI h r1 (ix x_2) x_1))
        (L_Stair_findFarthest_10 d r_0 x_1 (x_2 + (-1 : Int32)) (sI h r1 (ix x_2) x_1))) none) none) := (evs_xpd _ tx_Stair_findFarthest [10] 29 _).trans rfl
set_option maxRecDepth 100000 in
theorem e_Stair_findFarthest (d : Nat) (r_0 : Nat) (h : Hp) : evm (d + 1) 35 [vR 5 r_0] h =
    L_Stair_findFarthest_10 d r_0 (hI h r_0 7) (hI h r_0 7) h := (evs_xpd _ tx_Stair_findFarthest [10] 29 _).trans rfl
noncomputable def L_Stair_findHeaps_5 (d : Nat) (r_0 : Nat) (x_1 : Int32) (h : Hp) : Option Rs := evs (evm d) tx_Stair_findHeaps (5, [some (vR 5 r_0), some (vI x_1)], [], h)
set_option maxRecDepth 100000 in
theorem e_Stair_findHeaps_5 (d : Nat) (r_0 : Nat) (x_1 : Int32) (h : Hp) : L_Stair_findHeaps_5 d r_0 x_1 h =
    ifp (x_1 < 0)
      (some (none, h))
      (bR (hR h r_0 4) fun r1 =>
      bR (hR h r_0 2) fun r2 =>
      ifp (inb x_1 (hN h r2) = true) (
      ifp ((hI h r2 (ix x_1)) = (1 : Int32))
        (ifp (inb x_1 (hN h r1) = true) (
        L_Stair_findHeaps_5 d r_0 (x_1 + (-1 : Int32)) (sI h r1 (ix x_1) (-1 : Int32))) none)
        (bI (evm d 37 [vR 5 r_0, vI x_1] h) fun x4 h3 =>
        ifp (inb x_1 (hN h3 r1) = true) (
        L_Stair_findHeaps_5 d r_0 (x_1 + (-1 : Int32)) (sI h3 r1 (ix x_1) x4)) none)) none) := (evs_xpd _ tx_Stair_findHeaps [5] 28 _).trans rfl
set_option maxRecDepth 100000 in
theorem e_Stair_findHeaps (d : Nat) (r_0 : Nat) (h : Hp) : evm (d + 1) 36 [vR 5 r_0] h =
    L_Stair_findHeaps_5 d r_0 (hI h r_0 7) h := (evs_xpd _ tx_Stair_findHeaps [5] 28 _).trans rfl
noncomputable def L_Stair_leastHeap_4 (d : Nat) (r_0 : Nat) (x_1 : Int32) (x_2 : Int32) (x_3 : Int32) (h : Hp) : Option Rs := evs (evm d) tx_Stair_leastHeap (4, [some (vR 5 r_0), some (vI x_1), some (vI x_2), some (vI x_3), none], [], h)
noncomputable def L_Stair_leastHeap_62 (d : Nat) (x_2 : Int32) (x_3 : Int32) (h : Hp) : Option Rs := evs (evm d) tx_Stair_leastHeap (62, [none, none, some (vI x_2), some (vI x_3), none], [], h)
set_option maxRecDepth 100000 in
theorem e_Stair_leastHeap_4 (d : Nat) (r_0 : Nat) (x_1 : Int32) (x_2 : Int32) (x_3 : Int32) (h : Hp) : L_Stair_leastHeap_4 d r_0 x_1 x_2 x_3 h =
    ifp (x_3 < (hI h r_0 8))
      (bR (hR h r_0 0) fun r1 =>
      ifp (inb x_3 (hN h r1) = true) (
      ifp ((hI h r_0 7) < (x_1 + (hI h r1 (ix x_3))))
        (L_Stair_leastHeap_4 d r_0 x_1 x_2 (x_3 + (1 : Int32)) h)
        (bR (hR h r_0 2) fun r2 =>
        ifp (inb (x_1 + (hI h r1 (ix x_3))) (hN h r2) = true) (
        ifp ((hI h r2 (ix (x_1 + (hI h r1 (ix x_3))))) = (1 : Int32))
          (L_Stair_leastHeap_4 d r_0 x_1 x_2 (x_3 + (1 : Int32)) h)
          (bR (hR h r_0 4) fun r3 =>
          ifp (inb (x_1 + (hI h r1 (ix x_3))) (hN h r3) = true) (
          L_Stair_leastHeap_4 d r_0 x_1 (x_2 ||| ((1 : Int32) <<< ((hI h r3 (ix (x_1 + (hI h r1 (ix x_3))))) &&& 31))) (x_3 + (1 : Int32)) h) none)) none)) none)
      (L_Stair_leastHeap_62 d x_2 (0 : Int32) h) := (evs_xpd _ tx_Stair_leastHeap [4, 62] 56 _).trans rfl
set_option maxRecDepth 100000 in
theorem e_Stair_leastHeap_62 (d : Nat) (x_2 : Int32) (x_3 : Int32) (h : Hp) : L_Stair_leastHeap_62 d x_2 x_3 h =
    ifp ((6 : Int32) < x_3)
      (some (some (vI x_3), h))
      (ifp (((x_2 >>> (x_3 &&& 31)) &&& (1 : Int32)) = 0)
        (some (some (vI x_3), h))
        (L_Stair_leastHeap_62 d x_2 (x_3 + (1 : Int32)) h)) := (evs_xpd _ tx_Stair_leastHeap [4, 62] 56 _).trans rfl
set_option maxRecDepth 100000 in
theorem e_Stair_leastHeap (d : Nat) (r_0 : Nat) (x_1 : Int32) (h : Hp) : evm (d + 1) 37 [vR 5 r_0, vI x_1] h =
    L_Stair_leastHeap_4 d r_0 x_1 (0 : Int32) (0 : Int32) h := (evs_xpd _ tx_Stair_leastHeap [4, 62] 56 _).trans rfl
