/-! the law's own text, read -/
noncomputable def L_Law_law_23 (d : Nat) (r_0 : Nat) (r_1 : Nat) (r_2 : Nat) (r_3 : Nat) (x_4 : Int32) (h : Hp) : Option Rs := evs (evm d) tx_Law_law (23, [some (vR 42 r_0), some (vR 11 r_1), some (vR 12 r_2), some (vR 21 r_3), some (vI x_4), none, none], [], h)
noncomputable def L_Law_law_33 (d : Nat) (r_0 : Nat) (r_1 : Nat) (r_2 : Nat) (r_3 : Nat) (x_4 : Int32) (h : Hp) : Option Rs := evs (evm d) tx_Law_law (33, [some (vR 42 r_0), some (vR 11 r_1), some (vR 12 r_2), some (vR 21 r_3), some (vI x_4), none, none], [], h)
noncomputable def L_Law_law_164 (d : Nat) (r_0 : Nat) (r_1 : Nat) (r_2 : Nat) (r_3 : Nat) (x_4 : Int32) (h : Hp) : Option Rs := evs (evm d) tx_Law_law (164, [some (vR 42 r_0), some (vR 11 r_1), some (vR 12 r_2), some (vR 21 r_3), some (vI x_4), none, none], [], h)
noncomputable def L_Law_law_324 (d : Nat) (r_0 : Nat) (r_1 : Nat) (r_2 : Nat) (r_3 : Nat) (x_4 : Int32) (h : Hp) : Option Rs := evs (evm d) tx_Law_law (324, [some (vR 42 r_0), some (vR 11 r_1), some (vR 12 r_2), some (vR 21 r_3), some (vI x_4), none, none], [], h)
noncomputable def L_Law_law_361 (d : Nat) (r_0 : Nat) (r_1 : Nat) (r_2 : Nat) (r_3 : Nat) (x_4 : Int32) (h : Hp) : Option Rs := evs (evm d) tx_Law_law (361, [some (vR 42 r_0), some (vR 11 r_1), some (vR 12 r_2), some (vR 21 r_3), some (vI x_4), none, none], [], h)
noncomputable def L_Law_law_386 (d : Nat) (r_0 : Nat) (r_1 : Nat) (r_2 : Nat) (r_3 : Nat) (x_4 : Int32) (h : Hp) : Option Rs := evs (evm d) tx_Law_law (386, [some (vR 42 r_0), some (vR 11 r_1), some (vR 12 r_2), some (vR 21 r_3), some (vI x_4), none, none], [], h)
noncomputable def L_Law_law_426 (d : Nat) (r_0 : Nat) (r_1 : Nat) (r_2 : Nat) (r_3 : Nat) (x_4 : Int32) (xs0 : Int32) (rs1 : Nat) (h : Hp) : Option Rs := evs (evm d) tx_Law_law (426, [some (vR 42 r_0), some (vR 11 r_1), some (vR 12 r_2), some (vR 21 r_3), some (vI x_4), none, none], [vI xs0, vR 11 rs1], h)
noncomputable def L_Law_law_452 (d : Nat) (r_0 : Nat) (r_1 : Nat) (r_2 : Nat) (r_3 : Nat) (x_4 : Int32) (h : Hp) : Option Rs := evs (evm d) tx_Law_law (452, [some (vR 42 r_0), some (vR 11 r_1), some (vR 12 r_2), some (vR 21 r_3), some (vI x_4), none, none], [], h)
noncomputable def L_Law_law_504 (d : Nat) (r_0 : Nat) (r_1 : Nat) (r_2 : Nat) (r_3 : Nat) (x_4 : Int32) (h : Hp) : Option Rs := evs (evm d) tx_Law_law (504, [some (vR 42 r_0), some (vR 11 r_1), some (vR 12 r_2), some (vR 21 r_3), some (vI x_4), none, none], [], h)
noncomputable def L_Law_law_544 (d : Nat) (r_0 : Nat) (r_1 : Nat) (r_2 : Nat) (r_3 : Nat) (x_4 : Int32) (h : Hp) : Option Rs := evs (evm d) tx_Law_law (544, [some (vR 42 r_0), some (vR 11 r_1), some (vR 12 r_2), some (vR 21 r_3), some (vI x_4), none, none], [], h)
noncomputable def L_Law_law_613 (d : Nat) (r_0 : Nat) (r_1 : Nat) (r_2 : Nat) (r_3 : Nat) (x_4 : Int32) (h : Hp) : Option Rs := evs (evm d) tx_Law_law (613, [some (vR 42 r_0), some (vR 11 r_1), some (vR 12 r_2), some (vR 21 r_3), some (vI x_4), none, none], [], h)
noncomputable def L_Law_law_681 (d : Nat) (r_0 : Nat) (r_1 : Nat) (r_2 : Nat) (r_3 : Nat) (x_4 : Int32) (h : Hp) : Option Rs := evs (evm d) tx_Law_law (681, [some (vR 42 r_0), some (vR 11 r_1), some (vR 12 r_2), some (vR 21 r_3), some (vI x_4), none, none], [], h)
noncomputable def L_Law_law_751 (d : Nat) (r_0 : Nat) (r_1 : Nat) (r_2 : Nat) (r_3 : Nat) (x_4 : Int32) (h : Hp) : Option Rs := evs (evm d) tx_Law_law (751, [some (vR 42 r_0), some (vR 11 r_1), some (vR 12 r_2), some (vR 21 r_3), some (vI x_4), none, none], [], h)
noncomputable def L_Law_law_809 (d : Nat) (r_0 : Nat) (r_1 : Nat) (r_2 : Nat) (r_3 : Nat) (x_4 : Int32) (h : Hp) : Option Rs := evs (evm d) tx_Law_law (809, [some (vR 42 r_0), some (vR 11 r_1), some (vR 12 r_2), some (vR 21 r_3), some (vI x_4), none, none], [], h)
noncomputable def L_Law_law_861 (d : Nat) (r_0 : Nat) (r_1 : Nat) (r_2 : Nat) (r_3 : Nat) (x_4 : Int32) (h : Hp) : Option Rs := evs (evm d) tx_Law_law (861, [some (vR 42 r_0), some (vR 11 r_1), some (vR 12 r_2), some (vR 21 r_3), some (vI x_4), none, none], [], h)
noncomputable def L_Law_law_886 (d : Nat) (r_0 : Nat) (r_1 : Nat) (r_2 : Nat) (r_3 : Nat) (x_4 : Int32) (h : Hp) : Option Rs := evs (evm d) tx_Law_law (886, [some (vR 42 r_0), some (vR 11 r_1), some (vR 12 r_2), some (vR 21 r_3), some (vI x_4), none, none], [], h)
noncomputable def L_Law_law_950 (d : Nat) (r_0 : Nat) (r_1 : Nat) (r_2 : Nat) (r_3 : Nat) (x_4 : Int32) (h : Hp) : Option Rs := evs (evm d) tx_Law_law (950, [some (vR 42 r_0), some (vR 11 r_1), some (vR 12 r_2), some (vR 21 r_3), some (vI x_4), none, none], [], h)
noncomputable def L_Law_law_1023 (d : Nat) (r_0 : Nat) (r_1 : Nat) (r_2 : Nat) (r_3 : Nat) (x_4 : Int32) (h : Hp) : Option Rs := evs (evm d) tx_Law_law (1023, [some (vR 42 r_0), some (vR 11 r_1), some (vR 12 r_2), some (vR 21 r_3), some (vI x_4), none, none], [], h)
noncomputable def L_Law_law_1060 (d : Nat) (r_0 : Nat) (r_1 : Nat) (r_2 : Nat) (r_3 : Nat) (x_4 : Int32) (h : Hp) : Option Rs := evs (evm d) tx_Law_law (1060, [some (vR 42 r_0), some (vR 11 r_1), some (vR 12 r_2), some (vR 21 r_3), some (vI x_4), none, none], [], h)
noncomputable def L_Law_law_1097 (d : Nat) (r_0 : Nat) (r_1 : Nat) (r_2 : Nat) (r_3 : Nat) (x_4 : Int32) (h : Hp) : Option Rs := evs (evm d) tx_Law_law (1097, [some (vR 42 r_0), some (vR 11 r_1), some (vR 12 r_2), some (vR 21 r_3), some (vI x_4), none, none], [], h)
noncomputable def L_Law_law_1118 (d : Nat) (r_0 : Nat) (r_1 : Nat) (r_2 : Nat) (r_3 : Nat) (x_4 : Int32) (xs0 : Int32) (xs1 : Int32) (rs2 : Nat) (h : Hp) : Option Rs := evs (evm d) tx_Law_law (1118, [some (vR 42 r_0), some (vR 11 r_1), some (vR 12 r_2), some (vR 21 r_3), some (vI x_4), none, none], [vI xs0, vI xs1, vR 11 rs2], h)
noncomputable def L_Law_law_1150 (d : Nat) (r_0 : Nat) (r_1 : Nat) (r_2 : Nat) (r_3 : Nat) (x_4 : Int32) (h : Hp) : Option Rs := evs (evm d) tx_Law_law (1150, [some (vR 42 r_0), some (vR 11 r_1), some (vR 12 r_2), some (vR 21 r_3), some (vI x_4), none, none], [], h)
set_option maxRecDepth 100000 in
theorem e_Law_law_23 (d : Nat) (r_0 : Nat) (r_1 : Nat) (r_2 : Nat) (r_3 : Nat) (x_4 : Int32) (h : Hp) : L_Law_law_23 d r_0 r_1 r_2 r_3 x_4 h =
    ifp (((nI (hN h r_0)) - (7 : Int32)) < x_4)
      (some (some (vI (1 : Int32)), h))
      (L_Law_law_33 d r_0 r_1 r_2 r_3 x_4 h) := (evs_xpd _ tx_Law_law [23, 33, 164, 324, 361, 386, 426, 452, 504, 544, 613, 681, 751, 809, 861, 886, 950, 1023, 1060, 1097, 1118, 1150] 738 _).trans rfl
set_option maxRecDepth 100000 in
theorem e_Law_law_33 (d : Nat) (r_0 : Nat) (r_1 : Nat) (r_2 : Nat) (r_3 : Nat) (x_4 : Int32) (h : Hp) : L_Law_law_33 d r_0 r_1 r_2 r_3 x_4 h =
    ifp (inb x_4 (hN h r_0) = true) (
    ifp (((hI h r_0 (ix x_4)) &&& (31 : Int32)) = (0 : Int32))
      (L_Law_law_164 d r_0 r_1 r_2 r_3 x_4 h)
      (ifp (((hI h r_0 (ix x_4)) &&& (31 : Int32)) = ((0 : Int32) + 1))
      (bI (evm d 103 [vR 11 r_1] h) fun x2 h1 =>
      bI (evm d 158 [vR 12 r_2] h1) fun x4 h3 =>
      ifp (x2 = x4)
        (L_Law_law_23 d r_0 r_1 r_2 r_3 (x_4 + (7 : Int32)) h3)
        (some (some (vI (0 : Int32)), h3)))
      (ifp (((hI h r_0 (ix x_4)) &&& (31 : Int32)) = (((0 : Int32) + 1) + 1))
      (L_Law_law_324 d r_0 r_1 r_2 r_3 x_4 h)
      (ifp (((hI h r_0 (ix x_4)) &&& (31 : Int32)) = ((((0 : Int32) + 1) + 1) + 1))
      (L_Law_law_361 d r_0 r_1 r_2 r_3 x_4 h)
      (ifp (((hI h r_0 (ix x_4)) &&& (31 : Int32)) = (((((0 : Int32) + 1) + 1) + 1) + 1))
      (L_Law_law_386 d r_0 r_1 r_2 r_3 x_4 h)
      (ifp (((hI h r_0 (ix x_4)) &&& (31 : Int32)) = ((((((0 : Int32) + 1) + 1) + 1) + 1) + 1))
      (ifp (inb (x_4 + (1 : Int32)) (hN h r_0) = true) (
      ifp ((hI h r_0 (ix (x_4 + (1 : Int32)))) = 0)
        (L_Law_law_426 d r_0 r_1 r_2 r_3 x_4 (0 : Int32) r_1 h)
        (L_Law_law_426 d r_0 r_1 r_2 r_3 x_4 (1 : Int32) r_1 h)) none)
      (ifp (((hI h r_0 (ix x_4)) &&& (31 : Int32)) = (((((((0 : Int32) + 1) + 1) + 1) + 1) + 1) + 1))
      (L_Law_law_452 d r_0 r_1 r_2 r_3 x_4 h)
      (ifp (((hI h r_0 (ix x_4)) &&& (31 : Int32)) = ((((((((0 : Int32) + 1) + 1) + 1) + 1) + 1) + 1) + 1))
      (bI (evm d 109 [vR 11 r_1] h) fun x6 h5 =>
      bI (evm d 205 [vR 12 r_2] h5) fun x8 h7 =>
      ifp (x6 = x8)
        (L_Law_law_23 d r_0 r_1 r_2 r_3 (x_4 + (7 : Int32)) h7)
        (some (some (vI (0 : Int32)), h7)))
      (ifp (((hI h r_0 (ix x_4)) &&& (31 : Int32)) = (((((((((0 : Int32) + 1) + 1) + 1) + 1) + 1) + 1) + 1) + 1))
      (bL (evm d 110 [vR 11 r_1] h) fun y10 h9 =>
      bL (evm d 206 [vR 12 r_2] h9) fun y12 h11 =>
      ifp ((lg_cmp y10 y12) = 0)
        (L_Law_law_23 d r_0 r_1 r_2 r_3 (x_4 + (7 : Int32)) h11)
        (some (some (vI (0 : Int32)), h11)))
      (ifp (((hI h r_0 (ix x_4)) &&& (31 : Int32)) = ((((((((((0 : Int32) + 1) + 1) + 1) + 1) + 1) + 1) + 1) + 1) + 1))
      (L_Law_law_504 d r_0 r_1 r_2 r_3 x_4 h)
      (ifp (((hI h r_0 (ix x_4)) &&& (31 : Int32)) = (((((((((((0 : Int32) + 1) + 1) + 1) + 1) + 1) + 1) + 1) + 1) + 1) + 1))
      (bL (evm d 112 [vR 11 r_1] h) fun y14 h13 =>
      bL (evm d 208 [vR 12 r_2] h13) fun y16 h15 =>
      ifp ((lg_cmp y14 y16) = 0)
        (L_Law_law_23 d r_0 r_1 r_2 r_3 (x_4 + (7 : Int32)) h15)
        (some (some (vI (0 : Int32)), h15)))
      (ifp (((hI h r_0 (ix x_4)) &&& (31 : Int32)) = ((((((((((((0 : Int32) + 1) + 1) + 1) + 1) + 1) + 1) + 1) + 1) + 1) + 1) + 1))
      (L_Law_law_544 d r_0 r_1 r_2 r_3 x_4 h)
      (ifp (((hI h r_0 (ix x_4)) &&& (31 : Int32)) = (((((((((((((0 : Int32) + 1) + 1) + 1) + 1) + 1) + 1) + 1) + 1) + 1) + 1) + 1) + 1))
      (L_Law_law_613 d r_0 r_1 r_2 r_3 x_4 h)
      (ifp (((hI h r_0 (ix x_4)) &&& (31 : Int32)) = ((((((((((((((0 : Int32) + 1) + 1) + 1) + 1) + 1) + 1) + 1) + 1) + 1) + 1) + 1) + 1) + 1))
      (L_Law_law_681 d r_0 r_1 r_2 r_3 x_4 h)
      (ifp (((hI h r_0 (ix x_4)) &&& (31 : Int32)) = (((((((((((((((0 : Int32) + 1) + 1) + 1) + 1) + 1) + 1) + 1) + 1) + 1) + 1) + 1) + 1) + 1) + 1))
      (L_Law_law_751 d r_0 r_1 r_2 r_3 x_4 h)
      (ifp (((hI h r_0 (ix x_4)) &&& (31 : Int32)) = ((((((((((((((((0 : Int32) + 1) + 1) + 1) + 1) + 1) + 1) + 1) + 1) + 1) + 1) + 1) + 1) + 1) + 1) + 1))
      (L_Law_law_809 d r_0 r_1 r_2 r_3 x_4 h)
      (ifp (((hI h r_0 (ix x_4)) &&& (31 : Int32)) = (((((((((((((((((0 : Int32) + 1) + 1) + 1) + 1) + 1) + 1) + 1) + 1) + 1) + 1) + 1) + 1) + 1) + 1) + 1) + 1))
      (bL (evm d 118 [vR 11 r_1] h) fun y18 h17 =>
      bL (evm d 223 [vR 12 r_2] h17) fun y20 h19 =>
      ifp ((lg_cmp y18 y20) = 0)
        (L_Law_law_23 d r_0 r_1 r_2 r_3 (x_4 + (7 : Int32)) h19)
        (some (some (vI (0 : Int32)), h19)))
      (ifp (((hI h r_0 (ix x_4)) &&& (31 : Int32)) = ((((((((((((((((((0 : Int32) + 1) + 1) + 1) + 1) + 1) + 1) + 1) + 1) + 1) + 1) + 1) + 1) + 1) + 1) + 1) + 1) + 1))
      (bI (evm d 119 [vR 11 r_1] h) fun x22 h21 =>
      bI (evm d 224 [vR 12 r_2] h21) fun x24 h23 =>
      ifp (x22 = x24)
        (L_Law_law_23 d r_0 r_1 r_2 r_3 (x_4 + (7 : Int32)) h23)
        (some (some (vI (0 : Int32)), h23)))
      (ifp (((hI h r_0 (ix x_4)) &&& (31 : Int32)) = (((((((((((((((((((0 : Int32) + 1) + 1) + 1) + 1) + 1) + 1) + 1) + 1) + 1) + 1) + 1) + 1) + 1) + 1) + 1) + 1) + 1) + 1))
      (L_Law_law_861 d r_0 r_1 r_2 r_3 x_4 h)
      (ifp (((hI h r_0 (ix x_4)) &&& (31 : Int32)) = ((((((((((((((((((((0 : Int32) + 1) + 1) + 1) + 1) + 1) + 1) + 1) + 1) + 1) + 1) + 1) + 1) + 1) + 1) + 1) + 1) + 1) + 1) + 1))
      (L_Law_law_886 d r_0 r_1 r_2 r_3 x_4 h)
      (ifp (((hI h r_0 (ix x_4)) &&& (31 : Int32)) = (((((((((((((((((((((0 : Int32) + 1) + 1) + 1) + 1) + 1) + 1) + 1) + 1) + 1) + 1) + 1) + 1) + 1) + 1) + 1) + 1) + 1) + 1) + 1) + 1))
      (bL (evm d 122 [vR 11 r_1] h) fun y26 h25 =>
      bL (evm d 228 [vR 12 r_2] h25) fun y28 h27 =>
      ifp ((lg_cmp y26 y28) = 0)
        (L_Law_law_23 d r_0 r_1 r_2 r_3 (x_4 + (7 : Int32)) h27)
        (some (some (vI (0 : Int32)), h27)))
      (ifp (((hI h r_0 (ix x_4)) &&& (31 : Int32)) = ((((((((((((((((((((((0 : Int32) + 1) + 1) + 1) + 1) + 1) + 1) + 1) + 1) + 1) + 1) + 1) + 1) + 1) + 1) + 1) + 1) + 1) + 1) + 1) + 1) + 1))
      (bI (evm d 123 [vR 11 r_1] h) fun x30 h29 =>
      bI (evm d 233 [vR 12 r_2] h29) fun x32 h31 =>
      ifp (x30 = x32)
        (L_Law_law_23 d r_0 r_1 r_2 r_3 (x_4 + (7 : Int32)) h31)
        (some (some (vI (0 : Int32)), h31)))
      (ifp (((hI h r_0 (ix x_4)) &&& (31 : Int32)) = (((((((((((((((((((((((0 : Int32) + 1) + 1) + 1) + 1) + 1) + 1) + 1) + 1) + 1) + 1) + 1) + 1) + 1) + 1) + 1) + 1) + 1) + 1) + 1) + 1) + 1) + 1))
      (L_Law_law_950 d r_0 r_1 r_2 r_3 x_4 h)
      (ifp (((hI h r_0 (ix x_4)) &&& (31 : Int32)) = ((((((((((((((((((((((((0 : Int32) + 1) + 1) + 1) + 1) + 1) + 1) + 1) + 1) + 1) + 1) + 1) + 1) + 1) + 1) + 1) + 1) + 1) + 1) + 1) + 1) + 1) + 1) + 1))
      (L_Law_law_1023 d r_0 r_1 r_2 r_3 x_4 h)
      (ifp (((hI h r_0 (ix x_4)) &&& (31 : Int32)) = (((((((((((((((((((((((((0 : Int32) + 1) + 1) + 1) + 1) + 1) + 1) + 1) + 1) + 1) + 1) + 1) + 1) + 1) + 1) + 1) + 1) + 1) + 1) + 1) + 1) + 1) + 1) + 1) + 1))
      (L_Law_law_1060 d r_0 r_1 r_2 r_3 x_4 h)
      (ifp (((hI h r_0 (ix x_4)) &&& (31 : Int32)) = ((((((((((((((((((((((((((0 : Int32) + 1) + 1) + 1) + 1) + 1) + 1) + 1) + 1) + 1) + 1) + 1) + 1) + 1) + 1) + 1) + 1) + 1) + 1) + 1) + 1) + 1) + 1) + 1) + 1) + 1))
      (L_Law_law_1097 d r_0 r_1 r_2 r_3 x_4 h)
      (ifp (((hI h r_0 (ix x_4)) &&& (31 : Int32)) = (((((((((((((((((((((((((((0 : Int32) + 1) + 1) + 1) + 1) + 1) + 1) + 1) + 1) + 1) + 1) + 1) + 1) + 1) + 1) + 1) + 1) + 1) + 1) + 1) + 1) + 1) + 1) + 1) + 1) + 1) + 1))
      (L_Law_law_1150 d r_0 r_1 r_2 r_3 x_4 h)
      (
      L_Law_law_23 d r_0 r_1 r_2 r_3 (x_4 + (7 : Int32)) h)))))))))))))))))))))))))))) none := (evs_xpd _ tx_Law_law [23, 33, 164, 324, 361, 386, 426, 452, 504, 544, 613, 681, 751, 809, 861, 886, 950, 1023, 1060, 1097, 1118, 1150] 738 _).trans rfl
set_option maxRecDepth 100000 in
theorem e_Law_law_164 (d : Nat) (r_0 : Nat) (r_1 : Nat) (r_2 : Nat) (r_3 : Nat) (x_4 : Int32) (h : Hp) : L_Law_law_164 d r_0 r_1 r_2 r_3 x_4 h =
    ifp (inb (x_4 + (1 : Int32)) (hN h r_0) = true) (
    ifp (inb (x_4 + (2 : Int32)) (hN h r_0) = true) (
    ifp (inb (x_4 + (3 : Int32)) (hN h r_0) = true) (
    ifp (inb (x_4 + (4 : Int32)) (hN h r_0) = true) (
    ifp (inb (x_4 + (5 : Int32)) (hN h r_0) = true) (
    ifp (inb (x_4 + (6 : Int32)) (hN h r_0) = true) (
    bI (evm d 102 [vR 11 r_1, vL (((hI h r_0 (ix (x_4 + (1 : Int32)))).toInt64 <<< ((32 : Int32).toInt64 &&& 63)) ||| ((hI h r_0 (ix (x_4 + (2 : Int32)))).toInt64 &&& (4294967295 : Int64))), vL (((hI h r_0 (ix (x_4 + (3 : Int32)))).toInt64 <<< ((32 : Int32).toInt64 &&& 63)) ||| ((hI h r_0 (ix (x_4 + (4 : Int32)))).toInt64 &&& (4294967295 : Int64))), vL (((hI h r_0 (ix (x_4 + (5 : Int32)))).toInt64 <<< ((32 : Int32).toInt64 &&& 63)) ||| ((hI h r_0 (ix (x_4 + (6 : Int32)))).toInt64 &&& (4294967295 : Int64)))] h) fun x2 h1 =>
    ifp (inb (x_4 + (1 : Int32)) (hN h1 r_0) = true) (
    ifp (inb (x_4 + (2 : Int32)) (hN h1 r_0) = true) (
    ifp (inb (x_4 + (3 : Int32)) (hN h1 r_0) = true) (
    ifp (inb (x_4 + (4 : Int32)) (hN h1 r_0) = true) (
    ifp (inb (x_4 + (5 : Int32)) (hN h1 r_0) = true) (
    ifp (inb (x_4 + (6 : Int32)) (hN h1 r_0) = true) (
    bI (evm d 139 [vR 12 r_2, vL (((hI h1 r_0 (ix (x_4 + (1 : Int32)))).toInt64 <<< ((32 : Int32).toInt64 &&& 63)) ||| ((hI h1 r_0 (ix (x_4 + (2 : Int32)))).toInt64 &&& (4294967295 : Int64))), vL (((hI h1 r_0 (ix (x_4 + (3 : Int32)))).toInt64 <<< ((32 : Int32).toInt64 &&& 63)) ||| ((hI h1 r_0 (ix (x_4 + (4 : Int32)))).toInt64 &&& (4294967295 : Int64))), vL (((hI h1 r_0 (ix (x_4 + (5 : Int32)))).toInt64 <<< ((32 : Int32).toInt64 &&& 63)) ||| ((hI h1 r_0 (ix (x_4 + (6 : Int32)))).toInt64 &&& (4294967295 : Int64)))] h1) fun x4 h3 =>
    ifp (x2 = x4)
      (L_Law_law_23 d r_0 r_1 r_2 r_3 (x_4 + (7 : Int32)) h3)
      (some (some (vI (0 : Int32)), h3))) none) none) none) none) none) none) none) none) none) none) none) none := (evs_xpd _ tx_Law_law [23, 33, 164, 324, 361, 386, 426, 452, 504, 544, 613, 681, 751, 809, 861, 886, 950, 1023, 1060, 1097, 1118, 1150] 738 _).trans rfl
set_option maxRecDepth 100000 in
theorem e_Law_law_324 (d : Nat) (r_0 : Nat) (r_1 : Nat) (r_2 : Nat) (r_3 : Nat) (x_4 : Int32) (h : Hp) : L_Law_law_324 d r_0 r_1 r_2 r_3 x_4 h =
    ifp (inb (x_4 + (1 : Int32)) (hN h r_0) = true) (
    ifp (inb (x_4 + (2 : Int32)) (hN h r_0) = true) (
    bI (evm d 104 [vR 11 r_1, vI (hI h r_0 (ix (x_4 + (1 : Int32)))), vI (hI h r_0 (ix (x_4 + (2 : Int32))))] h) fun x2 h1 =>
    ifp (inb (x_4 + (1 : Int32)) (hN h1 r_0) = true) (
    ifp (inb (x_4 + (2 : Int32)) (hN h1 r_0) = true) (
    bI (evm d 199 [vR 12 r_2, vI (hI h1 r_0 (ix (x_4 + (1 : Int32)))), vI (hI h1 r_0 (ix (x_4 + (2 : Int32))))] h1) fun x4 h3 =>
    ifp (x2 = x4)
      (L_Law_law_23 d r_0 r_1 r_2 r_3 (x_4 + (7 : Int32)) h3)
      (some (some (vI (0 : Int32)), h3))) none) none) none) none := (evs_xpd _ tx_Law_law [23, 33, 164, 324, 361, 386, 426, 452, 504, 544, 613, 681, 751, 809, 861, 886, 950, 1023, 1060, 1097, 1118, 1150] 738 _).trans rfl
set_option maxRecDepth 100000 in
theorem e_Law_law_361 (d : Nat) (r_0 : Nat) (r_1 : Nat) (r_2 : Nat) (r_3 : Nat) (x_4 : Int32) (h : Hp) : L_Law_law_361 d r_0 r_1 r_2 r_3 x_4 h =
    ifp (inb (x_4 + (1 : Int32)) (hN h r_0) = true) (
    bI (evm d 105 [vR 11 r_1, vI (hI h r_0 (ix (x_4 + (1 : Int32))))] h) fun x2 h1 =>
    ifp (inb (x_4 + (1 : Int32)) (hN h1 r_0) = true) (
    bI (evm d 200 [vR 12 r_2, vI (hI h1 r_0 (ix (x_4 + (1 : Int32))))] h1) fun x4 h3 =>
    ifp (x2 = x4)
      (L_Law_law_23 d r_0 r_1 r_2 r_3 (x_4 + (7 : Int32)) h3)
      (some (some (vI (0 : Int32)), h3))) none) none := (evs_xpd _ tx_Law_law [23, 33, 164, 324, 361, 386, 426, 452, 504, 544, 613, 681, 751, 809, 861, 886, 950, 1023, 1060, 1097, 1118, 1150] 738 _).trans rfl
set_option maxRecDepth 100000 in
theorem e_Law_law_386 (d : Nat) (r_0 : Nat) (r_1 : Nat) (r_2 : Nat) (r_3 : Nat) (x_4 : Int32) (h : Hp) : L_Law_law_386 d r_0 r_1 r_2 r_3 x_4 h =
    ifp (inb (x_4 + (1 : Int32)) (hN h r_0) = true) (
    bI (evm d 106 [vR 11 r_1, vI (hI h r_0 (ix (x_4 + (1 : Int32))))] h) fun x2 h1 =>
    ifp (inb (x_4 + (1 : Int32)) (hN h1 r_0) = true) (
    bI (evm d 201 [vR 12 r_2, vI (hI h1 r_0 (ix (x_4 + (1 : Int32))))] h1) fun x4 h3 =>
    ifp (x2 = x4)
      (L_Law_law_23 d r_0 r_1 r_2 r_3 (x_4 + (7 : Int32)) h3)
      (some (some (vI (0 : Int32)), h3))) none) none := (evs_xpd _ tx_Law_law [23, 33, 164, 324, 361, 386, 426, 452, 504, 544, 613, 681, 751, 809, 861, 886, 950, 1023, 1060, 1097, 1118, 1150] 738 _).trans rfl
set_option maxRecDepth 100000 in
theorem e_Law_law_426 (d : Nat) (r_0 : Nat) (r_1 : Nat) (r_2 : Nat) (r_3 : Nat) (x_4 : Int32) (xs0 : Int32) (rs1 : Nat) (h : Hp) : L_Law_law_426 d r_0 r_1 r_2 r_3 x_4 xs0 rs1 h =
    bI (evm d 107 [vR 11 rs1, vI xs0] h) fun x2 h1 =>
    ifp (inb (x_4 + (1 : Int32)) (hN h1 r_0) = true) (
    ifp ((hI h1 r_0 (ix (x_4 + (1 : Int32)))) = 0)
      (bI (evm d 202 [vR 12 r_2, vI (0 : Int32)] h1) fun x4 h3 =>
      ifp (x2 = x4)
        (L_Law_law_23 d r_0 r_1 r_2 r_3 (x_4 + (7 : Int32)) h3)
        (some (some (vI (0 : Int32)), h3)))
      (bI (evm d 202 [vR 12 r_2, vI (1 : Int32)] h1) fun x6 h5 =>
      ifp (x2 = x6)
        (L_Law_law_23 d r_0 r_1 r_2 r_3 (x_4 + (7 : Int32)) h5)
        (some (some (vI (0 : Int32)), h5)))) none := (evs_xpd _ tx_Law_law [23, 33, 164, 324, 361, 386, 426, 452, 504, 544, 613, 681, 751, 809, 861, 886, 950, 1023, 1060, 1097, 1118, 1150] 738 _).trans rfl
set_option maxRecDepth 100000 in
theorem e_Law_law_452 (d : Nat) (r_0 : Nat) (r_1 : Nat) (r_2 : Nat) (r_3 : Nat) (x_4 : Int32) (h : Hp) : L_Law_law_452 d r_0 r_1 r_2 r_3 x_4 h =
    ifp (inb (x_4 + (1 : Int32)) (hN h r_0) = true) (
    bI (evm d 108 [vR 11 r_1, vI (hI h r_0 (ix (x_4 + (1 : Int32))))] h) fun x2 h1 =>
    ifp (inb (x_4 + (1 : Int32)) (hN h1 r_0) = true) (
    bI (evm d 203 [vR 12 r_2, vI (hI h1 r_0 (ix (x_4 + (1 : Int32))))] h1) fun x4 h3 =>
    ifp (x2 = x4)
      (L_Law_law_23 d r_0 r_1 r_2 r_3 (x_4 + (7 : Int32)) h3)
      (some (some (vI (0 : Int32)), h3))) none) none := (evs_xpd _ tx_Law_law [23, 33, 164, 324, 361, 386, 426, 452, 504, 544, 613, 681, 751, 809, 861, 886, 950, 1023, 1060, 1097, 1118, 1150] 738 _).trans rfl
set_option maxRecDepth 100000 in
theorem e_Law_law_504 (d : Nat) (r_0 : Nat) (r_1 : Nat) (r_2 : Nat) (r_3 : Nat) (x_4 : Int32) (h : Hp) : L_Law_law_504 d r_0 r_1 r_2 r_3 x_4 h =
    ifp (inb (x_4 + (1 : Int32)) (hN h r_0) = true) (
    bL (evm d 111 [vR 11 r_1, vI (hI h r_0 (ix (x_4 + (1 : Int32))))] h) fun y2 h1 =>
    ifp (inb (x_4 + (1 : Int32)) (hN h1 r_0) = true) (
    bL (evm d 207 [vR 12 r_2, vI (hI h1 r_0 (ix (x_4 + (1 : Int32))))] h1) fun y4 h3 =>
    ifp ((lg_cmp y2 y4) = 0)
      (L_Law_law_23 d r_0 r_1 r_2 r_3 (x_4 + (7 : Int32)) h3)
      (some (some (vI (0 : Int32)), h3))) none) none := (evs_xpd _ tx_Law_law [23, 33, 164, 324, 361, 386, 426, 452, 504, 544, 613, 681, 751, 809, 861, 886, 950, 1023, 1060, 1097, 1118, 1150] 738 _).trans rfl
set_option maxRecDepth 100000 in
theorem e_Law_law_544 (d : Nat) (r_0 : Nat) (r_1 : Nat) (r_2 : Nat) (r_3 : Nat) (x_4 : Int32) (h : Hp) : L_Law_law_544 d r_0 r_1 r_2 r_3 x_4 h =
    ifp (inb (x_4 + (1 : Int32)) (hN h r_0) = true) (
    ifp (inb (x_4 + (2 : Int32)) (hN h r_0) = true) (
    ifp (inb (x_4 + (3 : Int32)) (hN h r_0) = true) (
    bI (evm d 113 [vR 11 r_1, vL (((hI h r_0 (ix (x_4 + (1 : Int32)))).toInt64 <<< ((32 : Int32).toInt64 &&& 63)) ||| ((hI h r_0 (ix (x_4 + (2 : Int32)))).toInt64 &&& (4294967295 : Int64))), vI (hI h r_0 (ix (x_4 + (3 : Int32))))] h) fun x2 h1 =>
    ifp (inb (x_4 + (1 : Int32)) (hN h1 r_0) = true) (
    ifp (inb (x_4 + (2 : Int32)) (hN h1 r_0) = true) (
    ifp (inb (x_4 + (3 : Int32)) (hN h1 r_0) = true) (
    bI (evm d 210 [vR 12 r_2, vL (((hI h1 r_0 (ix (x_4 + (1 : Int32)))).toInt64 <<< ((32 : Int32).toInt64 &&& 63)) ||| ((hI h1 r_0 (ix (x_4 + (2 : Int32)))).toInt64 &&& (4294967295 : Int64))), vI (hI h1 r_0 (ix (x_4 + (3 : Int32))))] h1) fun x4 h3 =>
    ifp (x2 = x4)
      (L_Law_law_23 d r_0 r_1 r_2 r_3 (x_4 + (7 : Int32)) h3)
      (some (some (vI (0 : Int32)), h3))) none) none) none) none) none) none := (evs_xpd _ tx_Law_law [23, 33, 164, 324, 361, 386, 426, 452, 504, 544, 613, 681, 751, 809, 861, 886, 950, 1023, 1060, 1097, 1118, 1150] 738 _).trans rfl
set_option maxRecDepth 100000 in
theorem e_Law_law_613 (d : Nat) (r_0 : Nat) (r_1 : Nat) (r_2 : Nat) (r_3 : Nat) (x_4 : Int32) (h : Hp) : L_Law_law_613 d r_0 r_1 r_2 r_3 x_4 h =
    ifp (inb (x_4 + (1 : Int32)) (hN h r_0) = true) (
    ifp (inb (x_4 + (2 : Int32)) (hN h r_0) = true) (
    bI (evm d 255 [vR 11 r_1, vI (hI h r_0 (ix (x_4 + (1 : Int32)))), vI (hI h r_0 (ix (x_4 + (2 : Int32)))), vR 21 r_3] h) fun x2 h1 =>
    ifp (inb (x_4 + (1 : Int32)) (hN h1 r_0) = true) (
    ifp (inb (x_4 + (2 : Int32)) (hN h1 r_0) = true) (
    bI (evm d 212 [vR 12 r_2, vI (hI h1 r_0 (ix (x_4 + (1 : Int32)))), vI (hI h1 r_0 (ix (x_4 + (2 : Int32))))] h1) fun x4 h3 =>
    bI (evm d 138 [vR 12 r_2] h3) fun x6 h5 =>
    ifp (x6 = x2)
      (ifp (x2 = 0)
        (ifp (inb (0 : Int32) (hN h5 r_3) = true) (
        ifp ((lg_cmp (hL h5 r_3 (ix (0 : Int32))) x4.toInt64) = 0)
          (L_Law_law_23 d r_0 r_1 r_2 r_3 (x_4 + (7 : Int32)) h5)
          (some (some (vI (0 : Int32)), h5))) none)
        (L_Law_law_23 d r_0 r_1 r_2 r_3 (x_4 + (7 : Int32)) h5))
      (some (some (vI (0 : Int32)), h5))) none) none) none) none := (evs_xpd _ tx_Law_law [23, 33, 164, 324, 361, 386, 426, 452, 504, 544, 613, 681, 751, 809, 861, 886, 950, 1023, 1060, 1097, 1118, 1150] 738 _).trans rfl
set_option maxRecDepth 100000 in
theorem e_Law_law_681 (d : Nat) (r_0 : Nat) (r_1 : Nat) (r_2 : Nat) (r_3 : Nat) (x_4 : Int32) (h : Hp) : L_Law_law_681 d r_0 r_1 r_2 r_3 x_4 h =
    ifp (inb (x_4 + (1 : Int32)) (hN h r_0) = true) (
    ifp (inb (x_4 + (2 : Int32)) (hN h r_0) = true) (
    ifp (inb (x_4 + (3 : Int32)) (hN h r_0) = true) (
    bL (evm d 115 [vR 11 r_1, vL (((hI h r_0 (ix (x_4 + (1 : Int32)))).toInt64 <<< ((32 : Int32).toInt64 &&& 63)) ||| ((hI h r_0 (ix (x_4 + (2 : Int32)))).toInt64 &&& (4294967295 : Int64))), vI (hI h r_0 (ix (x_4 + (3 : Int32))))] h) fun y2 h1 =>
    ifp (inb (x_4 + (1 : Int32)) (hN h1 r_0) = true) (
    ifp (inb (x_4 + (2 : Int32)) (hN h1 r_0) = true) (
    ifp (inb (x_4 + (3 : Int32)) (hN h1 r_0) = true) (
    bL (evm d 219 [vR 12 r_2, vL (((hI h1 r_0 (ix (x_4 + (1 : Int32)))).toInt64 <<< ((32 : Int32).toInt64 &&& 63)) ||| ((hI h1 r_0 (ix (x_4 + (2 : Int32)))).toInt64 &&& (4294967295 : Int64))), vI (hI h1 r_0 (ix (x_4 + (3 : Int32))))] h1) fun y4 h3 =>
    ifp ((lg_cmp y2 y4) = 0)
      (L_Law_law_23 d r_0 r_1 r_2 r_3 (x_4 + (7 : Int32)) h3)
      (some (some (vI (0 : Int32)), h3))) none) none) none) none) none) none := (evs_xpd _ tx_Law_law [23, 33, 164, 324, 361, 386, 426, 452, 504, 544, 613, 681, 751, 809, 861, 886, 950, 1023, 1060, 1097, 1118, 1150] 738 _).trans rfl
set_option maxRecDepth 100000 in
theorem e_Law_law_751 (d : Nat) (r_0 : Nat) (r_1 : Nat) (r_2 : Nat) (r_3 : Nat) (x_4 : Int32) (h : Hp) : L_Law_law_751 d r_0 r_1 r_2 r_3 x_4 h =
    ifp (inb (x_4 + (1 : Int32)) (hN h r_0) = true) (
    ifp (inb (x_4 + (2 : Int32)) (hN h r_0) = true) (
    bL (evm d 116 [vR 11 r_1, vL (((hI h r_0 (ix (x_4 + (1 : Int32)))).toInt64 <<< ((32 : Int32).toInt64 &&& 63)) ||| ((hI h r_0 (ix (x_4 + (2 : Int32)))).toInt64 &&& (4294967295 : Int64)))] h) fun y2 h1 =>
    ifp (inb (x_4 + (1 : Int32)) (hN h1 r_0) = true) (
    ifp (inb (x_4 + (2 : Int32)) (hN h1 r_0) = true) (
    bL (evm d 220 [vR 12 r_2, vL (((hI h1 r_0 (ix (x_4 + (1 : Int32)))).toInt64 <<< ((32 : Int32).toInt64 &&& 63)) ||| ((hI h1 r_0 (ix (x_4 + (2 : Int32)))).toInt64 &&& (4294967295 : Int64)))] h1) fun y4 h3 =>
    ifp ((lg_cmp y2 y4) = 0)
      (L_Law_law_23 d r_0 r_1 r_2 r_3 (x_4 + (7 : Int32)) h3)
      (some (some (vI (0 : Int32)), h3))) none) none) none) none := (evs_xpd _ tx_Law_law [23, 33, 164, 324, 361, 386, 426, 452, 504, 544, 613, 681, 751, 809, 861, 886, 950, 1023, 1060, 1097, 1118, 1150] 738 _).trans rfl
set_option maxRecDepth 100000 in
theorem e_Law_law_809 (d : Nat) (r_0 : Nat) (r_1 : Nat) (r_2 : Nat) (r_3 : Nat) (x_4 : Int32) (h : Hp) : L_Law_law_809 d r_0 r_1 r_2 r_3 x_4 h =
    ifp (inb (x_4 + (1 : Int32)) (hN h r_0) = true) (
    bI (evm d 117 [vR 11 r_1, vI (hI h r_0 (ix (x_4 + (1 : Int32))))] h) fun x2 h1 =>
    ifp (inb (x_4 + (1 : Int32)) (hN h1 r_0) = true) (
    bI (evm d 221 [vR 12 r_2, vI (hI h1 r_0 (ix (x_4 + (1 : Int32))))] h1) fun x4 h3 =>
    ifp (x2 = x4)
      (L_Law_law_23 d r_0 r_1 r_2 r_3 (x_4 + (7 : Int32)) h3)
      (some (some (vI (0 : Int32)), h3))) none) none := (evs_xpd _ tx_Law_law [23, 33, 164, 324, 361, 386, 426, 452, 504, 544, 613, 681, 751, 809, 861, 886, 950, 1023, 1060, 1097, 1118, 1150] 738 _).trans rfl
set_option maxRecDepth 100000 in
theorem e_Law_law_861 (d : Nat) (r_0 : Nat) (r_1 : Nat) (r_2 : Nat) (r_3 : Nat) (x_4 : Int32) (h : Hp) : L_Law_law_861 d r_0 r_1 r_2 r_3 x_4 h =
    ifp (inb (x_4 + (1 : Int32)) (hN h r_0) = true) (
    bI (evm d 120 [vR 11 r_1, vI (hI h r_0 (ix (x_4 + (1 : Int32))))] h) fun x2 h1 =>
    ifp (inb (x_4 + (1 : Int32)) (hN h1 r_0) = true) (
    bI (evm d 226 [vR 12 r_2, vI (hI h1 r_0 (ix (x_4 + (1 : Int32))))] h1) fun x4 h3 =>
    ifp (x2 = x4)
      (L_Law_law_23 d r_0 r_1 r_2 r_3 (x_4 + (7 : Int32)) h3)
      (some (some (vI (0 : Int32)), h3))) none) none := (evs_xpd _ tx_Law_law [23, 33, 164, 324, 361, 386, 426, 452, 504, 544, 613, 681, 751, 809, 861, 886, 950, 1023, 1060, 1097, 1118, 1150] 738 _).trans rfl
set_option maxRecDepth 100000 in
theorem e_Law_law_886 (d : Nat) (r_0 : Nat) (r_1 : Nat) (r_2 : Nat) (r_3 : Nat) (x_4 : Int32) (h : Hp) : L_Law_law_886 d r_0 r_1 r_2 r_3 x_4 h =
    ifp (inb (x_4 + (1 : Int32)) (hN h r_0) = true) (
    ifp (inb (x_4 + (2 : Int32)) (hN h r_0) = true) (
    bI (evm d 121 [vR 11 r_1, vI (hI h r_0 (ix (x_4 + (1 : Int32)))), vI (hI h r_0 (ix (x_4 + (2 : Int32))))] h) fun x2 h1 =>
    ifp (inb (x_4 + (1 : Int32)) (hN h1 r_0) = true) (
    ifp (inb (x_4 + (2 : Int32)) (hN h1 r_0) = true) (
    bI (evm d 227 [vR 12 r_2, vI (hI h1 r_0 (ix (x_4 + (1 : Int32)))), vI (hI h1 r_0 (ix (x_4 + (2 : Int32))))] h1) fun x4 h3 =>
    ifp (x2 = x4)
      (L_Law_law_23 d r_0 r_1 r_2 r_3 (x_4 + (7 : Int32)) h3)
      (some (some (vI (0 : Int32)), h3))) none) none) none) none := (evs_xpd _ tx_Law_law [23, 33, 164, 324, 361, 386, 426, 452, 504, 544, 613, 681, 751, 809, 861, 886, 950, 1023, 1060, 1097, 1118, 1150] 738 _).trans rfl
set_option maxRecDepth 100000 in
theorem e_Law_law_950 (d : Nat) (r_0 : Nat) (r_1 : Nat) (r_2 : Nat) (r_3 : Nat) (x_4 : Int32) (h : Hp) : L_Law_law_950 d r_0 r_1 r_2 r_3 x_4 h =
    ifp (inb (x_4 + (1 : Int32)) (hN h r_0) = true) (
    ifp (inb (x_4 + (2 : Int32)) (hN h r_0) = true) (
    ifp (inb (x_4 + (3 : Int32)) (hN h r_0) = true) (
    ifp (inb (x_4 + (4 : Int32)) (hN h r_0) = true) (
    ifp (inb (x_4 + (5 : Int32)) (hN h r_0) = true) (
    bI (evm d 124 [vR 11 r_1, vI (hI h r_0 (ix (x_4 + (1 : Int32)))), vI (hI h r_0 (ix (x_4 + (2 : Int32)))), vI (hI h r_0 (ix (x_4 + (3 : Int32)))), vI (hI h r_0 (ix (x_4 + (4 : Int32)))), vI (hI h r_0 (ix (x_4 + (5 : Int32))))] h) fun x2 h1 =>
    ifp (inb (x_4 + (1 : Int32)) (hN h1 r_0) = true) (
    ifp (inb (x_4 + (2 : Int32)) (hN h1 r_0) = true) (
    ifp (inb (x_4 + (3 : Int32)) (hN h1 r_0) = true) (
    ifp (inb (x_4 + (4 : Int32)) (hN h1 r_0) = true) (
    ifp (inb (x_4 + (5 : Int32)) (hN h1 r_0) = true) (
    bI (evm d 234 [vR 12 r_2, vI (hI h1 r_0 (ix (x_4 + (1 : Int32)))), vI (hI h1 r_0 (ix (x_4 + (2 : Int32)))), vI (hI h1 r_0 (ix (x_4 + (3 : Int32)))), vI (hI h1 r_0 (ix (x_4 + (4 : Int32)))), vI (hI h1 r_0 (ix (x_4 + (5 : Int32))))] h1) fun x4 h3 =>
    ifp (x2 = x4)
      (L_Law_law_23 d r_0 r_1 r_2 r_3 (x_4 + (7 : Int32)) h3)
      (some (some (vI (0 : Int32)), h3))) none) none) none) none) none) none) none) none) none) none := (evs_xpd _ tx_Law_law [23, 33, 164, 324, 361, 386, 426, 452, 504, 544, 613, 681, 751, 809, 861, 886, 950, 1023, 1060, 1097, 1118, 1150] 738 _).trans rfl
set_option maxRecDepth 100000 in
theorem e_Law_law_1023 (d : Nat) (r_0 : Nat) (r_1 : Nat) (r_2 : Nat) (r_3 : Nat) (x_4 : Int32) (h : Hp) : L_Law_law_1023 d r_0 r_1 r_2 r_3 x_4 h =
    ifp (inb (x_4 + (1 : Int32)) (hN h r_0) = true) (
    ifp (inb (x_4 + (2 : Int32)) (hN h r_0) = true) (
    bI (evm d 125 [vR 11 r_1, vI (hI h r_0 (ix (x_4 + (1 : Int32)))), vI (hI h r_0 (ix (x_4 + (2 : Int32))))] h) fun x2 h1 =>
    ifp (inb (x_4 + (1 : Int32)) (hN h1 r_0) = true) (
    ifp (inb (x_4 + (2 : Int32)) (hN h1 r_0) = true) (
    bI (evm d 236 [vR 12 r_2, vI (hI h1 r_0 (ix (x_4 + (1 : Int32)))), vI (hI h1 r_0 (ix (x_4 + (2 : Int32))))] h1) fun x4 h3 =>
    ifp (x2 = x4)
      (L_Law_law_23 d r_0 r_1 r_2 r_3 (x_4 + (7 : Int32)) h3)
      (some (some (vI (0 : Int32)), h3))) none) none) none) none := (evs_xpd _ tx_Law_law [23, 33, 164, 324, 361, 386, 426, 452, 504, 544, 613, 681, 751, 809, 861, 886, 950, 1023, 1060, 1097, 1118, 1150] 738 _).trans rfl
set_option maxRecDepth 100000 in
theorem e_Law_law_1060 (d : Nat) (r_0 : Nat) (r_1 : Nat) (r_2 : Nat) (r_3 : Nat) (x_4 : Int32) (h : Hp) : L_Law_law_1060 d r_0 r_1 r_2 r_3 x_4 h =
    ifp (inb (x_4 + (1 : Int32)) (hN h r_0) = true) (
    ifp (inb (x_4 + (2 : Int32)) (hN h r_0) = true) (
    bI (evm d 126 [vR 11 r_1, vI (hI h r_0 (ix (x_4 + (1 : Int32)))), vI (hI h r_0 (ix (x_4 + (2 : Int32))))] h) fun x2 h1 =>
    ifp (inb (x_4 + (1 : Int32)) (hN h1 r_0) = true) (
    ifp (inb (x_4 + (2 : Int32)) (hN h1 r_0) = true) (
    bI (evm d 237 [vR 12 r_2, vI (hI h1 r_0 (ix (x_4 + (1 : Int32)))), vI (hI h1 r_0 (ix (x_4 + (2 : Int32))))] h1) fun x4 h3 =>
    ifp (x2 = x4)
      (L_Law_law_23 d r_0 r_1 r_2 r_3 (x_4 + (7 : Int32)) h3)
      (some (some (vI (0 : Int32)), h3))) none) none) none) none := (evs_xpd _ tx_Law_law [23, 33, 164, 324, 361, 386, 426, 452, 504, 544, 613, 681, 751, 809, 861, 886, 950, 1023, 1060, 1097, 1118, 1150] 738 _).trans rfl
set_option maxRecDepth 100000 in
theorem e_Law_law_1097 (d : Nat) (r_0 : Nat) (r_1 : Nat) (r_2 : Nat) (r_3 : Nat) (x_4 : Int32) (h : Hp) : L_Law_law_1097 d r_0 r_1 r_2 r_3 x_4 h =
    ifp (inb (x_4 + (1 : Int32)) (hN h r_0) = true) (
    ifp (inb (x_4 + (2 : Int32)) (hN h r_0) = true) (
    ifp ((hI h r_0 (ix (x_4 + (2 : Int32)))) = 0)
      (L_Law_law_1118 d r_0 r_1 r_2 r_3 x_4 (0 : Int32) (hI h r_0 (ix (x_4 + (1 : Int32)))) r_1 h)
      (L_Law_law_1118 d r_0 r_1 r_2 r_3 x_4 (1 : Int32) (hI h r_0 (ix (x_4 + (1 : Int32)))) r_1 h)) none) none := (evs_xpd _ tx_Law_law [23, 33, 164, 324, 361, 386, 426, 452, 504, 544, 613, 681, 751, 809, 861, 886, 950, 1023, 1060, 1097, 1118, 1150] 738 _).trans rfl
set_option maxRecDepth 100000 in
theorem e_Law_law_1118 (d : Nat) (r_0 : Nat) (r_1 : Nat) (r_2 : Nat) (r_3 : Nat) (x_4 : Int32) (xs0 : Int32) (xs1 : Int32) (rs2 : Nat) (h : Hp) : L_Law_law_1118 d r_0 r_1 r_2 r_3 x_4 xs0 xs1 rs2 h =
    bI (evm d 127 [vR 11 rs2, vI xs1, vI xs0] h) fun x2 h1 =>
    ifp (inb (x_4 + (1 : Int32)) (hN h1 r_0) = true) (
    ifp (inb (x_4 + (2 : Int32)) (hN h1 r_0) = true) (
    ifp ((hI h1 r_0 (ix (x_4 + (2 : Int32)))) = 0)
      (bI (evm d 238 [vR 12 r_2, vI (hI h1 r_0 (ix (x_4 + (1 : Int32)))), vI (0 : Int32)] h1) fun x4 h3 =>
      ifp (x2 = x4)
        (L_Law_law_23 d r_0 r_1 r_2 r_3 (x_4 + (7 : Int32)) h3)
        (some (some (vI (0 : Int32)), h3)))
      (bI (evm d 238 [vR 12 r_2, vI (hI h1 r_0 (ix (x_4 + (1 : Int32)))), vI (1 : Int32)] h1) fun x6 h5 =>
      ifp (x2 = x6)
        (L_Law_law_23 d r_0 r_1 r_2 r_3 (x_4 + (7 : Int32)) h5)
        (some (some (vI (0 : Int32)), h5)))) none) none := (evs_xpd _ tx_Law_law [23, 33, 164, 324, 361, 386, 426, 452, 504, 544, 613, 681, 751, 809, 861, 886, 950, 1023, 1060, 1097, 1118, 1150] 738 _).trans rfl
set_option maxRecDepth 100000 in
theorem e_Law_law_1150 (d : Nat) (r_0 : Nat) (r_1 : Nat) (r_2 : Nat) (r_3 : Nat) (x_4 : Int32) (h : Hp) : L_Law_law_1150 d r_0 r_1 r_2 r_3 x_4 h =
    ifp (inb (x_4 + (1 : Int32)) (hN h r_0) = true) (
    bI (evm d 128 [vR 11 r_1, vI (hI h r_0 (ix (x_4 + (1 : Int32))))] h) fun x2 h1 =>
    ifp (inb (x_4 + (1 : Int32)) (hN h1 r_0) = true) (
    bI (evm d 239 [vR 12 r_2, vI (hI h1 r_0 (ix (x_4 + (1 : Int32))))] h1) fun x4 h3 =>
    ifp (x2 = x4)
      (L_Law_law_23 d r_0 r_1 r_2 r_3 (x_4 + (7 : Int32)) h3)
      (some (some (vI (0 : Int32)), h3))) none) none := (evs_xpd _ tx_Law_law [23, 33, 164, 324, 361, 386, 426, 452, 504, 544, 613, 681, 751, 809, 861, 886, 950, 1023, 1060, 1097, 1118, 1150] 738 _).trans rfl
set_option maxRecDepth 100000 in
theorem e_Law_law (d : Nat) (r_0 : Nat) (h : Hp) : evs (evm d) tx_Law_law (0, [some (vR 42 r_0), none, none, none, none, none, none], [], h) =
    alc h fun q1 =>
    bV (evm d 101 [vR 11 q1] (sN h 11 0 14)) fun h2 =>
    alc h2 fun q3 =>
    bV (evm d 141 [vR 12 q3] (sN h2 12 0 37)) fun h4 =>
    ifp (inb (1 : Int32) 1000000 = true) (
    alc h4 fun q5 =>
    L_Law_law_23 d r_0 q1 q3 q5 (0 : Int32) (sN h4 21 (ix (1 : Int32)) (ix (1 : Int32)))) none := (evs_xpd _ tx_Law_law [23, 33, 164, 324, 361, 386, 426, 452, 504, 544, 613, 681, 751, 809, 861, 886, 950, 1023, 1060, 1097, 1118, 1150] 738 _).trans rfl
