set_option maxRecDepth 100000 in
theorem e_M_isShut (d : Nat) (r_0 : Nat) (x_1 : Int32) (h : Hp) : evm (d + 1) 186 [vR 12 r_0, vI x_1] h =
    bI (evm d 179 [vR 12 r_0, vI x_1] h) fun x2 h1 =>
    ifp (x2 = (1 : Int32))
      (some (some (vI (1 : Int32)), h1))
      (ifp ((hI h1 r_0 24) = 0)
        (some (some (vI (0 : Int32)), h1))
        (bR (hR h1 r_0 17) fun r3 =>
        ifp (inb ((41 : Int32) + x_1) (hN h1 r3) = true) (
        ifp ((hI h1 r3 (ix ((41 : Int32) + x_1))) = (2 : Int32))
          (some (some (vI (1 : Int32)), h1))
          (some (some (vI (0 : Int32)), h1))) none)) := (evs_xpd _ tx_M_isShut [] 25 _).trans rfl
set_option maxRecDepth 100000 in
theorem e_M_isMust (d : Nat) (r_0 : Nat) (x_1 : Int32) (h : Hp) : evm (d + 1) 187 [vR 12 r_0, vI x_1] h =
    bI (evm d 179 [vR 12 r_0, vI x_1] h) fun x2 h1 =>
    ifp (x2 = (3 : Int32))
      (some (some (vI (1 : Int32)), h1))
      (ifp ((hI h1 r_0 24) = 0)
        (some (some (vI (0 : Int32)), h1))
        (bR (hR h1 r_0 17) fun r3 =>
        ifp (inb ((41 : Int32) + x_1) (hN h1 r3) = true) (
        ifp ((hI h1 r3 (ix ((41 : Int32) + x_1))) = (1 : Int32))
          (some (some (vI (1 : Int32)), h1))
          (some (some (vI (0 : Int32)), h1))) none)) := (evs_xpd _ tx_M_isMust [] 25 _).trans rfl
noncomputable def L_M_passesMust_7 (d : Nat) (r_0 : Nat) (x_2 : Int32) (x_3 : Int32) (x_4 : Int32) (h : Hp) : Option Rs := evs (evm d) tx_M_passesMust (7, [some (vR 12 r_0), none, some (vI x_2), some (vI x_3), some (vI x_4)], [], h)
set_option maxRecDepth 100000 in
theorem e_M_passesMust_7 (d : Nat) (r_0 : Nat) (x_2 : Int32) (x_3 : Int32) (x_4 : Int32) (h : Hp) : L_M_passesMust_7 d r_0 x_2 x_3 x_4 h =
    ifp (x_4 < x_2)
      (ifp (x_3 = 0)
        (bI (evm d 187 [vR 12 r_0, vI x_4] h) fun x2 h1 =>
        ifp (x2 = 0)
          (L_M_passesMust_7 d r_0 x_2 (0 : Int32) (x_4 + (1 : Int32)) h1)
          (L_M_passesMust_7 d r_0 x_2 (1 : Int32) (x_4 + (1 : Int32)) h1))
        (L_M_passesMust_7 d r_0 x_2 (1 : Int32) (x_4 + (1 : Int32)) h))
      (bif isB x_3 then some (some (vI x_3), h) else none) := (evs_xpd _ tx_M_passesMust [7] 28 _).trans rfl
set_option maxRecDepth 100000 in
theorem e_M_passesMust (d : Nat) (r_0 : Nat) (x_1 : Int32) (x_2 : Int32) (h : Hp) : evm (d + 1) 188 [vR 12 r_0, vI x_1, vI x_2] h =
    L_M_passesMust_7 d r_0 x_2 (0 : Int32) (x_1 + (1 : Int32)) h := (evs_xpd _ tx_M_passesMust [7] 28 _).trans rfl
noncomputable def L_M_mayNext_63 (d : Nat) (r_0 : Nat) (x_1 : Int32) (x_3 : Int32) (x_4 : Int32) (x_5 : Int32) (x_7 : Int32) (h : Hp) : Option Rs := evs (evm d) tx_M_mayNext (63, [some (vR 12 r_0), some (vI x_1), none, some (vI x_3), some (vI x_4), some (vI x_5), none, some (vI x_7), none], [], h)
noncomputable def L_M_mayNext_116 (d : Nat) (r_0 : Nat) (x_4 : Int32) (x_7 : Int32) (xs0 : Int32) (h : Hp) : Option Rs := evs (evm d) tx_M_mayNext (116, [some (vR 12 r_0), none, none, none, some (vI x_4), none, none, some (vI x_7), none], [vI xs0], h)
set_option maxRecDepth 100000 in
theorem e_M_mayNext_63 (d : Nat) (r_0 : Nat) (x_1 : Int32) (x_3 : Int32) (x_4 : Int32) (x_5 : Int32) (x_7 : Int32) (h : Hp) : L_M_mayNext_63 d r_0 x_1 x_3 x_4 x_5 x_7 h =
    bR (hR h r_0 10) fun r1 =>
    ifp (inb (4 : Int32) (hN h r1) = true) (
    ifp ((hI h r1 (ix (4 : Int32))) < (x_5 + (1 : Int32)))
      (some (some (vI (0 : Int32)), h))
      (bI (evm d 179 [vR 12 r_0, vI (x_1 + x_7)] h) fun x3 h2 =>
      ifp (x3 = (2 : Int32))
        (bR (hR h2 r_0 10) fun r4 =>
        ifp (inb (1 : Int32) (hN h2 r4) = true) (
        ifp ((hI h2 r4 (ix (1 : Int32))) < 0)
          (L_M_mayNext_116 d r_0 x_4 x_7 (0 : Int32) h2)
          (bR (hR h2 r_0 10) fun r5 =>
          ifp (inb (1 : Int32) (hN h2 r5) = true) (
          ifp ((hI h2 r5 (ix (1 : Int32))) < (x_3 + (1 : Int32)))
            (L_M_mayNext_116 d r_0 x_4 x_7 (1 : Int32) h2)
            (L_M_mayNext_116 d r_0 x_4 x_7 (0 : Int32) h2)) none)) none)
        (L_M_mayNext_116 d r_0 x_4 x_7 (0 : Int32) h2))) none := (evs_xpd _ tx_M_mayNext [63, 116] 92 _).trans rfl
set_option maxRecDepth 100000 in
theorem e_M_mayNext_116 (d : Nat) (r_0 : Nat) (x_4 : Int32) (x_7 : Int32) (xs0 : Int32) (h : Hp) : L_M_mayNext_116 d r_0 x_4 x_7 xs0 h =
    ifp (xs0 = 0)
      (bI (evm d 182 [vR 12 r_0, vI x_7] h) fun x2 h1 =>
      ifp (x2 = 0)
        (some (some (vI (1 : Int32)), h1))
        (bR (hR h1 r_0 10) fun r3 =>
        ifp (inb (6 : Int32) (hN h1 r3) = true) (
        ifp ((hI h1 r3 (ix (6 : Int32))) < (x_4 + (1 : Int32)))
          (some (some (vI (0 : Int32)), h1))
          (some (some (vI (1 : Int32)), h1))) none))
      (some (some (vI (0 : Int32)), h)) := (evs_xpd _ tx_M_mayNext [63, 116] 92 _).trans rfl
set_option maxRecDepth 100000 in
theorem e_M_mayNext (d : Nat) (r_0 : Nat) (x_1 : Int32) (x_2 : Int32) (x_3 : Int32) (x_4 : Int32) (x_5 : Int32) (x_6 : Int32) (h : Hp) : evm (d + 1) 189 [vR 12 r_0, vI x_1, vI x_2, vI x_3, vI x_4, vI x_5, vI x_6] h =
    bI (evm d 178 [vR 12 r_0, vI x_6] h) fun x2 h1 =>
    bI (evm d 176 [vR 12 r_0] h1) fun x4 h3 =>
    ifp (x4 < (x_1 + x2))
      (some (some (vI (0 : Int32)), h3))
      (bI (evm d 186 [vR 12 r_0, vI (x_1 + x2)] h3) fun x6 h5 =>
      ifp (x6 = 0)
        (bI (evm d 188 [vR 12 r_0, vI x_1, vI (x_1 + x2)] h5) fun x8 h7 =>
        ifp (x8 = 0)
          (ifp (0 < x_2)
            (bI (evm d 178 [vR 12 r_0, vI (x_2 - (1 : Int32))] h7) fun x10 h9 =>
            bI (evm d 164 [vR 12 r_0, vI (0 : Int32), vI x10, vI x2] h9) fun x12 h11 =>
            ifp (x12 = 0)
              (L_M_mayNext_63 d r_0 x_1 x_3 x_4 x_5 x2 h11)
              (some (some (vI (0 : Int32)), h11)))
            (L_M_mayNext_63 d r_0 x_1 x_3 x_4 x_5 x2 h7))
          (some (some (vI (0 : Int32)), h7)))
        (some (some (vI (0 : Int32)), h5))) := (evs_xpd _ tx_M_mayNext [63, 116] 92 _).trans rfl
noncomputable def L_M_nextAt_43 (d : Nat) (r_0 : Nat) (x_4 : Int32) (x_5 : Int32) (x_7 : Int32) (xs0 : Int32) (xs1 : Int32) (xs2 : Int32) (xs3 : Int32) (h : Hp) : Option Rs := evs (evm d) tx_M_nextAt (43, [some (vR 12 r_0), none, none, none, some (vI x_4), some (vI x_5), none, some (vI x_7)], [vI xs0, vI xs1, vI xs2, vI xs3], h)
set_option maxRecDepth 100000 in
theorem e_M_nextAt_43 (d : Nat) (r_0 : Nat) (x_4 : Int32) (x_5 : Int32) (x_7 : Int32) (xs0 : Int32) (xs1 : Int32) (xs2 : Int32) (xs3 : Int32) (h : Hp) : L_M_nextAt_43 d r_0 x_4 x_5 x_7 xs0 xs1 xs2 xs3 h =
    bI (evm d 182 [vR 12 r_0, vI x_7] h) fun x2 h1 =>
    ifp (x2 = 0)
      (bI (evm d 184 [vI xs3, vI xs2, vI (xs1 + xs0), vI (x_4 + (0 : Int32)), vI (x_5 + (1 : Int32))] h1) fun x4 h3 =>
      some (some (vI x4), h3))
      (bI (evm d 184 [vI xs3, vI xs2, vI (xs1 + xs0), vI (x_4 + (1 : Int32)), vI (x_5 + (1 : Int32))] h1) fun x6 h5 =>
      some (some (vI x6), h5)) := (evs_xpd _ tx_M_nextAt [43] 46 _).trans rfl
set_option maxRecDepth 100000 in
theorem e_M_nextAt (d : Nat) (r_0 : Nat) (x_1 : Int32) (x_2 : Int32) (x_3 : Int32) (x_4 : Int32) (x_5 : Int32) (x_6 : Int32) (h : Hp) : evm (d + 1) 190 [vR 12 r_0, vI x_1, vI x_2, vI x_3, vI x_4, vI x_5, vI x_6] h =
    bI (evm d 178 [vR 12 r_0, vI x_6] h) fun x2 h1 =>
    bI (evm d 179 [vR 12 r_0, vI (x_1 + x2)] h1) fun x4 h3 =>
    ifp (x4 = (2 : Int32))
      (bR (hR h3 r_0 10) fun r5 =>
      ifp (inb (1 : Int32) (hN h3 r5) = true) (
      ifp ((hI h3 r5 (ix (1 : Int32))) < 0)
        (L_M_nextAt_43 d r_0 x_4 x_5 x2 (0 : Int32) x_3 (x_6 + (1 : Int32)) (x_1 + x2) h3)
        (L_M_nextAt_43 d r_0 x_4 x_5 x2 (1 : Int32) x_3 (x_6 + (1 : Int32)) (x_1 + x2) h3)) none)
      (L_M_nextAt_43 d r_0 x_4 x_5 x2 (0 : Int32) x_3 (x_6 + (1 : Int32)) (x_1 + x2) h3) := (evs_xpd _ tx_M_nextAt [43] 46 _).trans rfl
set_option maxRecDepth 100000 in
theorem e_M_mostCreaks (d : Nat) (r_0 : Nat) (h : Hp) : evm (d + 1) 191 [vR 12 r_0] h =
    bR (hR h r_0 10) fun r1 =>
    ifp (inb (1 : Int32) (hN h r1) = true) (
    ifp ((hI h r1 (ix (1 : Int32))) < 0)
      (some (some (vI (0 : Int32)), h))
      (bR (hR h r_0 10) fun r2 =>
      ifp (inb (1 : Int32) (hN h r2) = true) (
      some (some (vI (hI h r2 (ix (1 : Int32)))), h)) none)) none := (evs_xpd _ tx_M_mostCreaks [] 17 _).trans rfl
set_option maxRecDepth 100000 in
theorem e_M_mostGreats (d : Nat) (r_0 : Nat) (h : Hp) : evm (d + 1) 192 [vR 12 r_0] h =
    bR (hR h r_0 10) fun r1 =>
    ifp (inb (5 : Int32) (hN h r1) = true) (
    ifp ((hI h r1 (ix (5 : Int32))) < 0)
      (some (some (vI (0 : Int32)), h))
      (bR (hR h r_0 10) fun r2 =>
      ifp (inb (6 : Int32) (hN h r2) = true) (
      some (some (vI (hI h r2 (ix (6 : Int32)))), h)) none)) none := (evs_xpd _ tx_M_mostGreats [] 17 _).trans rfl
noncomputable def L_M_isLawfulAt_28 (d : Nat) (r_0 : Nat) (x_1 : Int32) (xs0 : Int32) (h : Hp) : Option Rs := evs (evm d) tx_M_isLawfulAt (28, [some (vR 12 r_0), some (vI x_1), none], [vI xs0], h)
set_option maxRecDepth 100000 in
theorem e_M_isLawfulAt_28 (d : Nat) (r_0 : Nat) (x_1 : Int32) (xs0 : Int32) (h : Hp) : L_M_isLawfulAt_28 d r_0 x_1 xs0 h =
    ifp (xs0 = 0)
      (some (some (vI (0 : Int32)), h))
      (bR (hR h r_0 10) fun r1 =>
      ifp (inb (3 : Int32) (hN h r1) = true) (
      ifp (x_1 < (hI h r1 (ix (3 : Int32))))
        (some (some (vI (0 : Int32)), h))
        (bR (hR h r_0 10) fun r2 =>
        ifp (inb (4 : Int32) (hN h r2) = true) (
        ifp ((hI h r2 (ix (4 : Int32))) < x_1)
          (some (some (vI (0 : Int32)), h))
          (some (some (vI (1 : Int32)), h))) none)) none) := (evs_xpd _ tx_M_isLawfulAt [28] 42 _).trans rfl
set_option maxRecDepth 100000 in
theorem e_M_isLawfulAt (d : Nat) (r_0 : Nat) (x_1 : Int32) (h : Hp) : evm (d + 1) 193 [vR 12 r_0, vI x_1] h =
    bR (hR h r_0 10) fun r1 =>
    ifp (inb (2 : Int32) (hN h r1) = true) (
    ifp ((hI h r1 (ix (2 : Int32))) < 0)
      (L_M_isLawfulAt_28 d r_0 x_1 (1 : Int32) h)
      (bR (hR h r_0 10) fun r2 =>
      ifp (inb (2 : Int32) (hN h r2) = true) (
      ifp ((2 : Int32) = 0) none (
      ifp ((hI h r2 (ix (2 : Int32))) = (irem (x_1 + (1 : Int32)) (2 : Int32)))
        (L_M_isLawfulAt_28 d r_0 x_1 (1 : Int32) h)
        (L_M_isLawfulAt_28 d r_0 x_1 (0 : Int32) h))) none)) none := (evs_xpd _ tx_M_isLawfulAt [28] 42 _).trans rfl
noncomputable def L_M_lays_5 (d : Nat) (r_0 : Nat) (x_1 : Int32) (x_2 : Int32) (x_3 : Int32) (h : Hp) : Option Rs := evs (evm d) tx_M_lays (5, [some (vR 12 r_0), some (vI x_1), some (vI x_2), some (vI x_3), none, none, none, none], [], h)
noncomputable def L_M_lays_12 (d : Nat) (r_0 : Nat) (x_1 : Int32) (x_2 : Int32) (x_3 : Int32) (x_4 : Int32) (h : Hp) : Option Rs := evs (evm d) tx_M_lays (12, [some (vR 12 r_0), some (vI x_1), some (vI x_2), some (vI x_3), some (vI x_4), none, none, none], [], h)
noncomputable def L_M_lays_24 (d : Nat) (r_0 : Nat) (x_1 : Int32) (x_2 : Int32) (x_3 : Int32) (x_4 : Int32) (x_5 : Int32) (h : Hp) : Option Rs := evs (evm d) tx_M_lays (24, [some (vR 12 r_0), some (vI x_1), some (vI x_2), some (vI x_3), some (vI x_4), some (vI x_5), none, none], [], h)
noncomputable def L_M_lays_36 (d : Nat) (r_0 : Nat) (x_1 : Int32) (x_2 : Int32) (x_3 : Int32) (x_4 : Int32) (x_5 : Int32) (x_6 : Int32) (h : Hp) : Option Rs := evs (evm d) tx_M_lays (36, [some (vR 12 r_0), some (vI x_1), some (vI x_2), some (vI x_3), some (vI x_4), some (vI x_5), some (vI x_6), none], [], h)
noncomputable def L_M_lays_48 (d : Nat) (r_0 : Nat) (x_1 : Int32) (x_2 : Int32) (x_3 : Int32) (x_4 : Int32) (x_5 : Int32) (x_6 : Int32) (x_7 : Int32) (h : Hp) : Option Rs := evs (evm d) tx_M_lays (48, [some (vR 12 r_0), some (vI x_1), some (vI x_2), some (vI x_3), some (vI x_4), some (vI x_5), some (vI x_6), some (vI x_7)], [], h)
set_option maxRecDepth 100000 in
theorem e_M_lays_5 (d : Nat) (r_0 : Nat) (x_1 : Int32) (x_2 : Int32) (x_3 : Int32) (h : Hp) : L_M_lays_5 d r_0 x_1 x_2 x_3 h =
    ifp (x_3 < 0)
      (some (none, h))
      (L_M_lays_12 d r_0 x_1 x_2 x_3 (0 : Int32) h) := (evs_xpd _ tx_M_lays [5, 12, 24, 36, 48] 71 _).trans rfl
set_option maxRecDepth 100000 in
theorem e_M_lays_12 (d : Nat) (r_0 : Nat) (x_1 : Int32) (x_2 : Int32) (x_3 : Int32) (x_4 : Int32) (h : Hp) : L_M_lays_12 d r_0 x_1 x_2 x_3 x_4 h =
    bI (evm d 177 [vR 12 r_0] h) fun x2 h1 =>
    ifp (x2 < x_4)
      (L_M_lays_5 d r_0 x_1 x_2 (x_3 + (-1 : Int32)) h1)
      (L_M_lays_24 d r_0 x_1 x_2 x_3 x_4 (0 : Int32) h1) := (evs_xpd _ tx_M_lays [5, 12, 24, 36, 48] 71 _).trans rfl
set_option maxRecDepth 100000 in
theorem e_M_lays_24 (d : Nat) (r_0 : Nat) (x_1 : Int32) (x_2 : Int32) (x_3 : Int32) (x_4 : Int32) (x_5 : Int32) (h : Hp) : L_M_lays_24 d r_0 x_1 x_2 x_3 x_4 x_5 h =
    bI (evm d 191 [vR 12 r_0] h) fun x2 h1 =>
    ifp (x2 < x_5)
      (L_M_lays_12 d r_0 x_1 x_2 x_3 (x_4 + (1 : Int32)) h1)
      (L_M_lays_36 d r_0 x_1 x_2 x_3 x_4 x_5 (0 : Int32) h1) := (evs_xpd _ tx_M_lays [5, 12, 24, 36, 48] 71 _).trans rfl
set_option maxRecDepth 100000 in
theorem e_M_lays_36 (d : Nat) (r_0 : Nat) (x_1 : Int32) (x_2 : Int32) (x_3 : Int32) (x_4 : Int32) (x_5 : Int32) (x_6 : Int32) (h : Hp) : L_M_lays_36 d r_0 x_1 x_2 x_3 x_4 x_5 x_6 h =
    bI (evm d 192 [vR 12 r_0] h) fun x2 h1 =>
    ifp (x2 < x_6)
      (L_M_lays_24 d r_0 x_1 x_2 x_3 x_4 (x_5 + (1 : Int32)) h1)
      (L_M_lays_48 d r_0 x_1 x_2 x_3 x_4 x_5 x_6 (0 : Int32) h1) := (evs_xpd _ tx_M_lays [5, 12, 24, 36, 48] 71 _).trans rfl
set_option maxRecDepth 100000 in
theorem e_M_lays_48 (d : Nat) (r_0 : Nat) (x_1 : Int32) (x_2 : Int32) (x_3 : Int32) (x_4 : Int32) (x_5 : Int32) (x_6 : Int32) (x_7 : Int32) (h : Hp) : L_M_lays_48 d r_0 x_1 x_2 x_3 x_4 x_5 x_6 x_7 h =
    ifp (x_3 < x_7)
      (L_M_lays_36 d r_0 x_1 x_2 x_3 x_4 x_5 (x_6 + (1 : Int32)) h)
      (bR (hR h r_0 23) fun r1 =>
      bI (evm d 184 [vI x_3, vI x_4, vI x_5, vI x_6, vI x_7] h) fun x3 h2 =>
      ifp (x_2 = 0)
        (bL (evm d 195 [vR 12 r_0, vI x_3, vI x_4, vI x_5, vI x_6, vI x_7, vI x_1] h2) fun y5 h4 =>
        ifp (inb x3 (hN h4 r1) = true) (
        L_M_lays_48 d r_0 x_1 x_2 x_3 x_4 x_5 x_6 (x_7 + (1 : Int32)) (sL h4 r1 (ix x3) y5)) none)
        (bL (evm d 196 [vR 12 r_0, vI x_3, vI x_4, vI x_5, vI x_6, vI x_7] h2) fun y7 h6 =>
        ifp (inb x3 (hN h6 r1) = true) (
        L_M_lays_48 d r_0 x_1 x_2 x_3 x_4 x_5 x_6 (x_7 + (1 : Int32)) (sL h6 r1 (ix x3) y7)) none)) := (evs_xpd _ tx_M_lays [5, 12, 24, 36, 48] 71 _).trans rfl
set_option maxRecDepth 100000 in
theorem e_M_lays (d : Nat) (r_0 : Nat) (x_1 : Int32) (x_2 : Int32) (h : Hp) : evm (d + 1) 194 [vR 12 r_0, vI x_1, vI x_2] h =
    bI (evm d 176 [vR 12 r_0] h) fun x2 h1 =>
    L_M_lays_5 d r_0 x_1 x_2 x2 h1 := (evs_xpd _ tx_M_lays [5, 12, 24, 36, 48] 71 _).trans rfl
noncomputable def L_M_ways_41 (d : Nat) (r_0 : Nat) (x_1 : Int32) (x_2 : Int32) (x_3 : Int32) (x_4 : Int32) (x_5 : Int32) (y_7 : Int64) (x_9 : Int32) (h : Hp) : Option Rs := evs (evm d) tx_M_ways (41, [some (vR 12 r_0), some (vI x_1), some (vI x_2), some (vI x_3), some (vI x_4), some (vI x_5), none, some (vL y_7), none, some (vI x_9)], [], h)
set_option maxRecDepth 100000 in
theorem e_M_ways_41 (d : Nat) (r_0 : Nat) (x_1 : Int32) (x_2 : Int32) (x_3 : Int32) (x_4 : Int32) (x_5 : Int32) (y_7 : Int64) (x_9 : Int32) (h : Hp) : L_M_ways_41 d r_0 x_1 x_2 x_3 x_4 x_5 y_7 x_9 h =
    bI (evm d 177 [vR 12 r_0] h) fun x2 h1 =>
    ifp (x_9 < x2)
      (bI (evm d 189 [vR 12 r_0, vI x_1, vI x_2, vI x_3, vI x_4, vI x_5, vI x_9] h1) fun x4 h3 =>
      ifp (x4 = 0)
        (L_M_ways_41 d r_0 x_1 x_2 x_3 x_4 x_5 (y_7 + (0 : Int64)) (x_9 + (1 : Int32)) h3)
        (bR (hR h3 r_0 23) fun r5 =>
        bI (evm d 190 [vR 12 r_0, vI x_1, vI x_2, vI x_3, vI x_4, vI x_5, vI x_9] h3) fun x7 h6 =>
        ifp (inb x7 (hN h6 r5) = true) (
        L_M_ways_41 d r_0 x_1 x_2 x_3 x_4 x_5 (y_7 + (hL h6 r5 (ix x7))) (x_9 + (1 : Int32)) h6) none))
      (some (some (vL y_7), h1)) := (evs_xpd _ tx_M_ways [41] 59 _).trans rfl
set_option maxRecDepth 100000 in
theorem e_M_ways (d : Nat) (r_0 : Nat) (x_1 : Int32) (x_2 : Int32) (x_3 : Int32) (x_4 : Int32) (x_5 : Int32) (x_6 : Int32) (h : Hp) : evm (d + 1) 195 [vR 12 r_0, vI x_1, vI x_2, vI x_3, vI x_4, vI x_5, vI x_6] h =
    bI (evm d 176 [vR 12 r_0] h) fun x2 h1 =>
    ifp (x_1 = x2)
      (bI (evm d 193 [vR 12 r_0, vI x_5] h1) fun x4 h3 =>
      ifp (x4 = 0)
        (some (some (vL (0 : Int64)), h3))
        (ifp (x_6 < 0)
          (some (some (vL (1 : Int64)), h3))
          (ifp (x_6 = x_5)
            (some (some (vL (1 : Int64)), h3))
            (some (some (vL (0 : Int64)), h3)))))
      (L_M_ways_41 d r_0 x_1 x_2 x_3 x_4 x_5 (0 : Int64) (0 : Int32) h1) := (evs_xpd _ tx_M_ways [41] 59 _).trans rfl
noncomputable def L_M_wins_6 (d : Nat) (r_0 : Nat) (x_1 : Int32) (x_2 : Int32) (x_3 : Int32) (x_4 : Int32) (x_5 : Int32) (x_6 : Int32) (x_7 : Int32) (h : Hp) : Option Rs := evs (evm d) tx_M_wins (6, [some (vR 12 r_0), some (vI x_1), some (vI x_2), some (vI x_3), some (vI x_4), some (vI x_5), some (vI x_6), some (vI x_7)], [], h)
noncomputable def L_M_wins_28 (d : Nat) (r_0 : Nat) (x_1 : Int32) (x_2 : Int32) (x_3 : Int32) (x_4 : Int32) (x_5 : Int32) (x_7 : Int32) (h : Hp) : Option Rs := evs (evm d) tx_M_wins (28, [some (vR 12 r_0), some (vI x_1), some (vI x_2), some (vI x_3), some (vI x_4), some (vI x_5), none, some (vI x_7)], [], h)
set_option maxRecDepth 100000 in
theorem e_M_wins_6 (d : Nat) (r_0 : Nat) (x_1 : Int32) (x_2 : Int32) (x_3 : Int32) (x_4 : Int32) (x_5 : Int32) (x_6 : Int32) (x_7 : Int32) (h : Hp) : L_M_wins_6 d r_0 x_1 x_2 x_3 x_4 x_5 x_6 x_7 h =
    bI (evm d 177 [vR 12 r_0] h) fun x2 h1 =>
    ifp (x_7 < x2)
      (bI (evm d 176 [vR 12 r_0] h1) fun x4 h3 =>
      ifp (x_1 < x4)
        (ifp (x_6 = 0)
          (L_M_wins_28 d r_0 x_1 x_2 x_3 x_4 x_5 x_7 h3)
          (L_M_wins_6 d r_0 x_1 x_2 x_3 x_4 x_5 (1 : Int32) (x_7 + (1 : Int32)) h3))
        (ifp (x_6 = 0)
          (some (some (vL (0 : Int64)), h3))
          (some (some (vL (1 : Int64)), h3))))
      (ifp (x_6 = 0)
        (some (some (vL (0 : Int64)), h1))
        (some (some (vL (1 : Int64)), h1))) := (evs_xpd _ tx_M_wins [6, 28] 62 _).trans rfl
set_option maxRecDepth 100000 in
theorem e_M_wins_28 (d : Nat) (r_0 : Nat) (x_1 : Int32) (x_2 : Int32) (x_3 : Int32) (x_4 : Int32) (x_5 : Int32) (x_7 : Int32) (h : Hp) : L_M_wins_28 d r_0 x_1 x_2 x_3 x_4 x_5 x_7 h =
    bI (evm d 189 [vR 12 r_0, vI x_1, vI x_2, vI x_3, vI x_4, vI x_5, vI x_7] h) fun x2 h1 =>
    ifp (x2 = 0)
      (L_M_wins_6 d r_0 x_1 x_2 x_3 x_4 x_5 (0 : Int32) (x_7 + (1 : Int32)) h1)
      (bI (evm d 178 [vR 12 r_0, vI x_7] h1) fun x4 h3 =>
      bI (evm d 176 [vR 12 r_0] h3) fun x6 h5 =>
      ifp ((x_1 + x4) = x6)
        (L_M_wins_6 d r_0 x_1 x_2 x_3 x_4 x_5 (1 : Int32) (x_7 + (1 : Int32)) h5)
        (bR (hR h5 r_0 23) fun r7 =>
        bI (evm d 190 [vR 12 r_0, vI x_1, vI x_2, vI x_3, vI x_4, vI x_5, vI x_7] h5) fun x9 h8 =>
        ifp (inb x9 (hN h8 r7) = true) (
        ifp ((lg_cmp (hL h8 r7 (ix x9)) (0 : Int64)) = 0)
          (L_M_wins_6 d r_0 x_1 x_2 x_3 x_4 x_5 (1 : Int32) (x_7 + (1 : Int32)) h8)
          (L_M_wins_6 d r_0 x_1 x_2 x_3 x_4 x_5 (0 : Int32) (x_7 + (1 : Int32)) h8)) none)) := (evs_xpd _ tx_M_wins [6, 28] 62 _).trans rfl
set_option maxRecDepth 100000 in
theorem e_M_wins (d : Nat) (r_0 : Nat) (x_1 : Int32) (x_2 : Int32) (x_3 : Int32) (x_4 : Int32) (x_5 : Int32) (h : Hp) : evm (d + 1) 196 [vR 12 r_0, vI x_1, vI x_2, vI x_3, vI x_4, vI x_5] h =
    L_M_wins_6 d r_0 x_1 x_2 x_3 x_4 x_5 (0 : Int32) (0 : Int32) h := (evs_xpd _ tx_M_wins [6, 28] 62 _).trans rfl
set_option maxRecDepth 100000 in
theorem e_M_nowAt (d : Nat) (r_0 : Nat) (h : Hp) : evm (d + 1) 197 [vR 12 r_0] h =
    bI (evm d 185 [vR 12 r_0, vI (hI h r_0 21)] h) fun x2 h1 =>
    bI (evm d 180 [vR 12 r_0] h1) fun x4 h3 =>
    bI (evm d 184 [vI (hI h r_0 19), vI (hI h r_0 20), vI x2, vI (hI h1 r_0 22), vI x4] h3) fun x6 h5 =>
    some (some (vI x6), h5) := (evs_xpd _ tx_M_nowAt [] 19 _).trans rfl
set_option maxRecDepth 100000 in
theorem e_M_mayNow (d : Nat) (r_0 : Nat) (x_1 : Int32) (h : Hp) : evm (d + 1) 198 [vR 12 r_0, vI x_1] h =
    bI (evm d 185 [vR 12 r_0, vI (hI h r_0 21)] h) fun x2 h1 =>
    bI (evm d 180 [vR 12 r_0] h1) fun x4 h3 =>
    bI (evm d 189 [vR 12 r_0, vI (hI h r_0 19), vI (hI h r_0 20), vI x2, vI (hI h1 r_0 22), vI x4, vI x_1] h3) fun x6 h5 =>
    bif isB x6 then some (some (vI x6), h5) else none := (evs_xpd _ tx_M_mayNow [] 21 _).trans rfl
set_option maxRecDepth 100000 in
theorem e_M_step (d : Nat) (r_0 : Nat) (x_1 : Int32) (x_2 : Int32) (h : Hp) : evm (d + 1) 199 [vR 12 r_0, vI x_1, vI x_2] h =
    bI (evm d 176 [vR 12 r_0] (sI h r_0 0 (0 : Int32))) fun x2 h1 =>
    bI (evm d 154 [vI x_1, vI (0 : Int32), vI x2] h1) fun x4 h3 =>
    ifp (x4 = 0)
      (some (some (vI (-1 : Int32)), h3))
      (bI (evm d 154 [vI x_2, vI (0 : Int32), vI (2 : Int32)] h3) fun x6 h5 =>
      ifp (x6 = 0)
        (some (some (vI (-1 : Int32)), h5))
        (bV (evm d 225 [vR 12 r_0] h5) fun h7 =>
        ifp (x_2 = 0)
          (bI (evm d 179 [vR 12 r_0, vI x_1] h7) fun x11 h10 =>
          some (some (vI x11), h10))
          (ifp (x_2 = (1 : Int32))
            (bR (hR h7 r_0 32) fun r9 =>
            ifp (inb x_1 (hN h7 r9) = true) (
            some (some (vI (hI h7 r9 (ix x_1))), h7)) none)
            (bR (hR h7 r_0 17) fun r8 =>
            ifp (inb ((41 : Int32) + x_1) (hN h7 r8) = true) (
            some (some (vI (hI h7 r8 (ix ((41 : Int32) + x_1)))), h7)) none)))) := (evs_xpd _ tx_M_step [] 44 _).trans rfl
set_option maxRecDepth 100000 in
theorem e_M_may (d : Nat) (r_0 : Nat) (x_1 : Int32) (h : Hp) : evm (d + 1) 200 [vR 12 r_0, vI x_1] h =
    bV (evm d 183 [vR 12 r_0] (sI (sI h r_0 0 (0 : Int32)) r_0 24 (0 : Int32))) fun h1 =>
    bI (evm d 181 [vR 12 r_0, vI x_1] h1) fun x3 h2 =>
    ifp (x3 < 0)
      (some (some (vI (0 : Int32)), h2))
      (bI (evm d 198 [vR 12 r_0, vI x3] h2) fun x5 h4 =>
      ifp (x5 = 0)
        (some (some (vI (0 : Int32)), h4))
        (some (some (vI (1 : Int32)), h4))) := (evs_xpd _ tx_M_may [] 27 _).trans rfl
set_option maxRecDepth 100000 in
theorem e_M_stride (d : Nat) (r_0 : Nat) (x_1 : Int32) (h : Hp) : evm (d + 1) 201 [vR 12 r_0, vI x_1] h =
    bI (evm d 200 [vR 12 r_0, vI x_1] h) fun x2 h1 =>
    ifp (x2 = 0)
      (some (some (vI (0 : Int32)), h1))
      (bR (hR h1 r_0 17) fun r3 =>
      bI (evm d 180 [vR 12 r_0] h1) fun x5 h4 =>
      ifp (inb ((1 : Int32) + x5) (hN h4 r3) = true) (
      bR (hR (sI h4 r3 (ix ((1 : Int32) + x5)) x_1) r_0 17) fun r6 =>
      ifp (inb (0 : Int32) (hN (sI h4 r3 (ix ((1 : Int32) + x5)) x_1) r6) = true) (
      ifp (inb (0 : Int32) (hN (sI h4 r3 (ix ((1 : Int32) + x5)) x_1) r6) = true) (
      some (some (vI (1 : Int32)), sI (sI h4 r3 (ix ((1 : Int32) + x5)) x_1) r6 (ix (0 : Int32)) ((hI (sI h4 r3 (ix ((1 : Int32) + x5)) x_1) r6 (ix (0 : Int32))) + (1 : Int32)))) none) none) none) := (evs_xpd _ tx_M_stride [] 29 _).trans rfl
set_option maxRecDepth 100000 in
theorem e_M_back (d : Nat) (r_0 : Nat) (x_1 : Int32) (h : Hp) : evm (d + 1) 202 [vR 12 r_0, vI x_1] h =
    bI (evm d 180 [vR 12 r_0] (sI h r_0 0 (0 : Int32))) fun x2 h1 =>
    ifp (x2 = 0)
      (some (some (vI (0 : Int32)), h1))
      (bR (hR h1 r_0 17) fun r3 =>
      ifp (x_1 = 0)
        (bI (evm d 180 [vR 12 r_0] h1) fun x5 h4 =>
        ifp (inb (0 : Int32) (hN h4 r3) = true) (
        some (some (vI (1 : Int32)), sI h4 r3 (ix (0 : Int32)) (x5 - (1 : Int32)))) none)
        (ifp (inb (0 : Int32) (hN h1 r3) = true) (
        some (some (vI (1 : Int32)), sI h1 r3 (ix (0 : Int32)) (0 : Int32))) none)) := (evs_xpd _ tx_M_back [] 27 _).trans rfl
set_option maxRecDepth 100000 in
theorem e_M_taken (d : Nat) (r_0 : Nat) (x_1 : Int32) (h : Hp) : evm (d + 1) 203 [vR 12 r_0, vI x_1] h =
    ifp (x_1 < 0)
      (some (some (vI (-1 : Int32)), sI h r_0 0 (0 : Int32)))
      (bI (evm d 180 [vR 12 r_0] (sI h r_0 0 (0 : Int32))) fun x2 h1 =>
      ifp (x_1 < x2)
        (bR (hR h1 r_0 17) fun r3 =>
        ifp (inb ((1 : Int32) + x_1) (hN h1 r3) = true) (
        some (some (vI (hI h1 r3 (ix ((1 : Int32) + x_1)))), h1)) none)
        (some (some (vI (-1 : Int32)), h1))) := (evs_xpd _ tx_M_taken [] 23 _).trans rfl
noncomputable def L_M_lawfulNow_49 (d : Nat) (r_0 : Nat) (x_1 : Int32) (h : Hp) : Option Rs := evs (evm d) tx_M_lawfulNow (49, [some (vR 12 r_0), some (vI x_1)], [], h)
set_option maxRecDepth 100000 in
theorem e_M_lawfulNow_49 (d : Nat) (r_0 : Nat) (x_1 : Int32) (h : Hp) : L_M_lawfulNow_49 d r_0 x_1 h =
    bR (hR h r_0 10) fun r1 =>
    ifp (inb (3 : Int32) (hN h r1) = true) (
    ifp (x_1 < (hI h r1 (ix (3 : Int32))))
      (some (some (vI (2 : Int32)), h))
      (some (some (vI (0 : Int32)), h))) none := (evs_xpd _ tx_M_lawfulNow [49] 44 _).trans rfl
set_option maxRecDepth 100000 in
theorem e_M_lawfulNow (d : Nat) (r_0 : Nat) (h : Hp) : evm (d + 1) 204 [vR 12 r_0] h =
    bV (evm d 183 [vR 12 r_0] h) fun h1 =>
    bI (evm d 176 [vR 12 r_0] h1) fun x3 h2 =>
    ifp ((hI h1 r_0 19) < x3)
      (some (some (vI (-1 : Int32)), h2))
      (bI (evm d 180 [vR 12 r_0] h2) fun x5 h4 =>
      bR (hR h4 r_0 10) fun r6 =>
      ifp (inb (2 : Int32) (hN h4 r6) = true) (
      ifp ((hI h4 r6 (ix (2 : Int32))) < 0)
        (L_M_lawfulNow_49 d r_0 x5 h4)
        (bR (hR h4 r_0 10) fun r7 =>
        ifp (inb (2 : Int32) (hN h4 r7) = true) (
        ifp ((2 : Int32) = 0) none (
        ifp ((hI h4 r7 (ix (2 : Int32))) = (irem (x5 + (1 : Int32)) (2 : Int32)))
          (L_M_lawfulNow_49 d r_0 x5 h4)
          (some (some (vI (1 : Int32)), h4)))) none)) none) := (evs_xpd _ tx_M_lawfulNow [49] 44 _).trans rfl
set_option maxRecDepth 100000 in
theorem e_M_lawful (d : Nat) (r_0 : Nat) (h : Hp) : evm (d + 1) 205 [vR 12 r_0] h =
    bI (evm d 204 [vR 12 r_0] (sI h r_0 0 (0 : Int32))) fun x2 h1 =>
    some (some (vI x2), h1) := (evs_xpd _ tx_M_lawful [] 11 _).trans rfl
set_option maxRecDepth 100000 in
theorem e_M_many (d : Nat) (r_0 : Nat) (h : Hp) : evm (d + 1) 206 [vR 12 r_0] h =
    bV (evm d 183 [vR 12 r_0] (sI (sI h r_0 0 (0 : Int32)) r_0 24 (0 : Int32))) fun h1 =>
    bV (evm d 194 [vR 12 r_0, vI (-1 : Int32), vI (0 : Int32)] h1) fun h2 =>
    bR (hR h2 r_0 23) fun r3 =>
    bI (evm d 197 [vR 12 r_0] h2) fun x5 h4 =>
    ifp (inb x5 (hN h4 r3) = true) (
    some (some (vL (hL h4 r3 (ix x5))), h4)) none := (evs_xpd _ tx_M_many [] 23 _).trans rfl
set_option maxRecDepth 100000 in
theorem e_M_manyOf (d : Nat) (r_0 : Nat) (x_1 : Int32) (h : Hp) : evm (d + 1) 207 [vR 12 r_0, vI x_1] h =
    bI (evm d 154 [vI x_1, vI (0 : Int32), vI (40 : Int32)] (sI h r_0 0 (0 : Int32))) fun x2 h1 =>
    ifp (x2 = 0)
      (some (some (vL (-1 : Int64)), h1))
      (bV (evm d 183 [vR 12 r_0] (sI h1 r_0 24 (0 : Int32))) fun h3 =>
      bV (evm d 194 [vR 12 r_0, vI x_1, vI (0 : Int32)] h3) fun h4 =>
      bR (hR h4 r_0 23) fun r5 =>
      bI (evm d 197 [vR 12 r_0] h4) fun x7 h6 =>
      ifp (inb x7 (hN h6 r5) = true) (
      some (some (vL (hL h6 r5 (ix x7))), h6)) none) := (evs_xpd _ tx_M_manyOf [] 30 _).trans rfl
noncomputable def L_M_rank0_37 (d : Nat) (r_0 : Nat) (y_1 : Int64) (x_3 : Int32) (x_4 : Int32) (h : Hp) : Option Rs := evs (evm d) tx_M_rank0 (37, [some (vR 12 r_0), some (vL y_1), none, some (vI x_3), some (vI x_4), none], [], h)
noncomputable def L_M_rank0_58 (d : Nat) (r_0 : Nat) (y_1 : Int64) (x_3 : Int32) (x_4 : Int32) (x_5 : Int32) (h : Hp) : Option Rs := evs (evm d) tx_M_rank0 (58, [some (vR 12 r_0), some (vL y_1), none, some (vI x_3), some (vI x_4), some (vI x_5)], [], h)
noncomputable def L_M_rank0_67 (d : Nat) (r_0 : Nat) (y_1 : Int64) (x_3 : Int32) (x_4 : Int32) (x_5 : Int32) (h : Hp) : Option Rs := evs (evm d) tx_M_rank0 (67, [some (vR 12 r_0), some (vL y_1), none, some (vI x_3), some (vI x_4), some (vI x_5)], [], h)
set_option maxRecDepth 100000 in
theorem e_M_rank0_37 (d : Nat) (r_0 : Nat) (y_1 : Int64) (x_3 : Int32) (x_4 : Int32) (h : Hp) : L_M_rank0_37 d r_0 y_1 x_3 x_4 h =
    ifp (x_4 < x_3)
      (bR (hR h r_0 17) fun r2 =>
      ifp (inb (0 : Int32) (hN h r2) = true) (
      bV (evm d 183 [vR 12 r_0] (sI h r2 (ix (0 : Int32)) x_4)) fun h3 =>
      L_M_rank0_58 d r_0 y_1 x_3 x_4 (0 : Int32) h3) none)
      (bR (hR h r_0 17) fun r1 =>
      ifp (inb (0 : Int32) (hN h r1) = true) (
      some (some (vL y_1), sI h r1 (ix (0 : Int32)) x_3)) none) := (evs_xpd _ tx_M_rank0 [37, 58, 67] 90 _).trans rfl
set_option maxRecDepth 100000 in
theorem e_M_rank0_58 (d : Nat) (r_0 : Nat) (y_1 : Int64) (x_3 : Int32) (x_4 : Int32) (x_5 : Int32) (h : Hp) : L_M_rank0_58 d r_0 y_1 x_3 x_4 x_5 h =
    bI (evm d 177 [vR 12 r_0] h) fun x2 h1 =>
    ifp (x_5 < x2)
      (L_M_rank0_67 d r_0 y_1 x_3 x_4 x_5 h1)
      (L_M_rank0_37 d r_0 y_1 x_3 (x_4 + (1 : Int32)) h1) := (evs_xpd _ tx_M_rank0 [37, 58, 67] 90 _).trans rfl
set_option maxRecDepth 100000 in
theorem e_M_rank0_67 (d : Nat) (r_0 : Nat) (y_1 : Int64) (x_3 : Int32) (x_4 : Int32) (x_5 : Int32) (h : Hp) : L_M_rank0_67 d r_0 y_1 x_3 x_4 x_5 h =
    bI (evm d 178 [vR 12 r_0, vI x_5] h) fun x2 h1 =>
    bR (hR h1 r_0 17) fun r3 =>
    ifp (inb ((1 : Int32) + x_4) (hN h1 r3) = true) (
    ifp (x2 < (hI h1 r3 (ix ((1 : Int32) + x_4))))
      (bI (evm d 198 [vR 12 r_0, vI x_5] h1) fun x5 h4 =>
      ifp (x5 = 0)
        (L_M_rank0_58 d r_0 (y_1 + (0 : Int64)) x_3 x_4 (x_5 + (1 : Int32)) h4)
        (bR (hR h4 r_0 23) fun r6 =>
        bI (evm d 185 [vR 12 r_0, vI (hI h4 r_0 21)] h4) fun x8 h7 =>
        bI (evm d 190 [vR 12 r_0, vI (hI h4 r_0 19), vI (hI h4 r_0 20), vI x8, vI (hI h7 r_0 22), vI x_4, vI x_5] h7) fun x10 h9 =>
        ifp (inb x10 (hN h9 r6) = true) (
        L_M_rank0_58 d r_0 (y_1 + (hL h9 r6 (ix x10))) x_3 x_4 (x_5 + (1 : Int32)) h9) none))
      (L_M_rank0_58 d r_0 (y_1 + (0 : Int64)) x_3 x_4 (x_5 + (1 : Int32)) h1)) none := (evs_xpd _ tx_M_rank0 [37, 58, 67] 90 _).trans rfl
set_option maxRecDepth 100000 in
theorem e_M_rank0 (d : Nat) (r_0 : Nat) (h : Hp) : evm (d + 1) 208 [vR 12 r_0] h =
    bI (evm d 204 [vR 12 r_0] (sI (sI h r_0 0 (0 : Int32)) r_0 24 (0 : Int32))) fun x2 h1 =>
    ifp (x2 = 0)
      (bV (evm d 194 [vR 12 r_0, vI (-1 : Int32), vI (0 : Int32)] h1) fun h3 =>
      bI (evm d 180 [vR 12 r_0] h3) fun x5 h4 =>
      L_M_rank0_37 d r_0 (0 : Int64) x5 (0 : Int32) h4)
      (some (some (vL (-1 : Int64)), h1)) := (evs_xpd _ tx_M_rank0 [37, 58, 67] 90 _).trans rfl
noncomputable def L_M_strideAt_40 (d : Nat) (r_0 : Nat) (x_3 : Int32) (y_4 : Int64) (x_6 : Int32) (x_7 : Int32) (x_8 : Int32) (x_9 : Int32) (x_10 : Int32) (x_11 : Int32) (h : Hp) : Option Rs := evs (evm d) tx_M_strideAt (40, [some (vR 12 r_0), none, none, some (vI x_3), some (vL y_4), none, some (vI x_6), some (vI x_7), some (vI x_8), some (vI x_9), some (vI x_10), some (vI x_11), none, none], [], h)
noncomputable def L_M_strideAt_60 (d : Nat) (r_0 : Nat) (x_3 : Int32) (y_4 : Int64) (x_6 : Int32) (x_7 : Int32) (x_8 : Int32) (x_9 : Int32) (x_10 : Int32) (x_11 : Int32) (x_12 : Int32) (h : Hp) : Option Rs := evs (evm d) tx_M_strideAt (60, [some (vR 12 r_0), none, none, some (vI x_3), some (vL y_4), none, some (vI x_6), some (vI x_7), some (vI x_8), some (vI x_9), some (vI x_10), some (vI x_11), some (vI x_12), none], [], h)
noncomputable def L_M_strideAt_106 (d : Nat) (r_0 : Nat) (x_3 : Int32) (y_4 : Int64) (x_6 : Int32) (x_7 : Int32) (x_8 : Int32) (x_9 : Int32) (x_10 : Int32) (x_11 : Int32) (x_12 : Int32) (h : Hp) : Option Rs := evs (evm d) tx_M_strideAt (106, [some (vR 12 r_0), none, none, some (vI x_3), some (vL y_4), none, some (vI x_6), some (vI x_7), some (vI x_8), some (vI x_9), some (vI x_10), some (vI x_11), some (vI x_12), none], [], h)
noncomputable def L_M_strideAt_208 (d : Nat) (r_0 : Nat) (x_3 : Int32) (y_4 : Int64) (x_6 : Int32) (x_7 : Int32) (x_9 : Int32) (x_10 : Int32) (x_11 : Int32) (x_13 : Int32) (xs0 : Int32) (xs1 : Int32) (h : Hp) : Option Rs := evs (evm d) tx_M_strideAt (208, [some (vR 12 r_0), none, none, some (vI x_3), some (vL y_4), none, some (vI x_6), some (vI x_7), none, some (vI x_9), some (vI x_10), some (vI x_11), none, some (vI x_13)], [vI xs0, vI xs1], h)
set_option maxRecDepth 100000 in
theorem e_M_strideAt_40 (d : Nat) (r_0 : Nat) (x_3 : Int32) (y_4 : Int64) (x_6 : Int32) (x_7 : Int32) (x_8 : Int32) (x_9 : Int32) (x_10 : Int32) (x_11 : Int32) (h : Hp) : L_M_strideAt_40 d r_0 x_3 y_4 x_6 x_7 x_8 x_9 x_10 x_11 h =
    ifp (x_3 < x_11)
      (bI (evm d 178 [vR 12 r_0, vI (x_7 - (1 : Int32))] h) fun x2 h1 =>
      some (some (vI x2), h1))
      (bI (evm d 176 [vR 12 r_0] h) fun x4 h3 =>
      ifp (x_6 = x4)
        (some (some (vI (-1 : Int32)), h3))
        (L_M_strideAt_60 d r_0 x_3 y_4 x_6 x_7 x_8 x_9 x_10 x_11 (0 : Int32) h3)) := (evs_xpd _ tx_M_strideAt [40, 60, 106, 208] 134 _).trans rfl
set_option maxRecDepth 100000 in
theorem e_M_strideAt_60 (d : Nat) (r_0 : Nat) (x_3 : Int32) (y_4 : Int64) (x_6 : Int32) (x_7 : Int32) (x_8 : Int32) (x_9 : Int32) (x_10 : Int32) (x_11 : Int32) (x_12 : Int32) (h : Hp) : L_M_strideAt_60 d r_0 x_3 y_4 x_6 x_7 x_8 x_9 x_10 x_11 x_12 h =
    bI (evm d 189 [vR 12 r_0, vI x_6, vI x_7, vI x_8, vI x_9, vI x_10, vI x_12] h) fun x2 h1 =>
    ifp (x2 = 0)
      (L_M_strideAt_106 d r_0 x_3 y_4 x_6 x_7 x_8 x_9 x_10 x_11 x_12 h1)
      (bR (hR h1 r_0 23) fun r3 =>
      bI (evm d 190 [vR 12 r_0, vI x_6, vI x_7, vI x_8, vI x_9, vI x_10, vI x_12] h1) fun x5 h4 =>
      ifp (inb x5 (hN h4 r3) = true) (
      ifp (0 < (lg_cmp (hL h4 r3 (ix x5)) y_4))
        (bI (evm d 178 [vR 12 r_0, vI x_12] h4) fun x7 h6 =>
        bI (evm d 179 [vR 12 r_0, vI (x_6 + x7)] h6) fun x9 h8 =>
        ifp (x9 = (2 : Int32))
          (bR (hR h8 r_0 10) fun r10 =>
          ifp (inb (1 : Int32) (hN h8 r10) = true) (
          ifp ((hI h8 r10 (ix (1 : Int32))) < 0)
            (L_M_strideAt_208 d r_0 x_3 y_4 (x_6 + x7) (x_12 + (1 : Int32)) x_9 x_10 x_11 x7 (0 : Int32) x_8 h8)
            (L_M_strideAt_208 d r_0 x_3 y_4 (x_6 + x7) (x_12 + (1 : Int32)) x_9 x_10 x_11 x7 (1 : Int32) x_8 h8)) none)
          (L_M_strideAt_208 d r_0 x_3 y_4 (x_6 + x7) (x_12 + (1 : Int32)) x_9 x_10 x_11 x7 (0 : Int32) x_8 h8))
        (L_M_strideAt_106 d r_0 x_3 y_4 x_6 x_7 x_8 x_9 x_10 x_11 x_12 h4)) none) := (evs_xpd _ tx_M_strideAt [40, 60, 106, 208] 134 _).trans rfl
set_option maxRecDepth 100000 in
theorem e_M_strideAt_106 (d : Nat) (r_0 : Nat) (x_3 : Int32) (y_4 : Int64) (x_6 : Int32) (x_7 : Int32) (x_8 : Int32) (x_9 : Int32) (x_10 : Int32) (x_11 : Int32) (x_12 : Int32) (h : Hp) : L_M_strideAt_106 d r_0 x_3 y_4 x_6 x_7 x_8 x_9 x_10 x_11 x_12 h =
    bI (evm d 189 [vR 12 r_0, vI x_6, vI x_7, vI x_8, vI x_9, vI x_10, vI x_12] h) fun x2 h1 =>
    ifp (x2 = 0)
      (L_M_strideAt_60 d r_0 x_3 (y_4 - (0 : Int64)) x_6 x_7 x_8 x_9 x_10 x_11 (x_12 + (1 : Int32)) h1)
      (bR (hR h1 r_0 23) fun r3 =>
      bI (evm d 190 [vR 12 r_0, vI x_6, vI x_7, vI x_8, vI x_9, vI x_10, vI x_12] h1) fun x5 h4 =>
      ifp (inb x5 (hN h4 r3) = true) (
      L_M_strideAt_60 d r_0 x_3 (y_4 - (hL h4 r3 (ix x5))) x_6 x_7 x_8 x_9 x_10 x_11 (x_12 + (1 : Int32)) h4) none) := (evs_xpd _ tx_M_strideAt [40, 60, 106, 208] 134 _).trans rfl
set_option maxRecDepth 100000 in
theorem e_M_strideAt_208 (d : Nat) (r_0 : Nat) (x_3 : Int32) (y_4 : Int64) (x_6 : Int32) (x_7 : Int32) (x_9 : Int32) (x_10 : Int32) (x_11 : Int32) (x_13 : Int32) (xs0 : Int32) (xs1 : Int32) (h : Hp) : L_M_strideAt_208 d r_0 x_3 y_4 x_6 x_7 x_9 x_10 x_11 x_13 xs0 xs1 h =
    bI (evm d 182 [vR 12 r_0, vI x_13] h) fun x2 h1 =>
    ifp (x2 = 0)
      (L_M_strideAt_40 d r_0 x_3 y_4 x_6 x_7 (xs1 + xs0) (x_9 + (0 : Int32)) (x_10 + (1 : Int32)) (x_11 + (1 : Int32)) h1)
      (L_M_strideAt_40 d r_0 x_3 y_4 x_6 x_7 (xs1 + xs0) (x_9 + (1 : Int32)) (x_10 + (1 : Int32)) (x_11 + (1 : Int32)) h1) := (evs_xpd _ tx_M_strideAt [40, 60, 106, 208] 134 _).trans rfl
set_option maxRecDepth 100000 in
theorem e_M_strideAt (d : Nat) (r_0 : Nat) (y_1 : Int64) (x_3 : Int32) (h : Hp) : evm (d + 1) 209 [vR 12 r_0, vL y_1, vI x_3] h =
    bI (evm d 185 [vR 12 r_0, vI (hI h r_0 21)] h) fun x2 h1 =>
    bI (evm d 180 [vR 12 r_0] h1) fun x4 h3 =>
    L_M_strideAt_40 d r_0 x_3 y_1 (hI h r_0 19) (hI h r_0 20) x2 (hI h1 r_0 22) x4 (0 : Int32) h3 := (evs_xpd _ tx_M_strideAt [40, 60, 106, 208] 134 _).trans rfl
set_option maxRecDepth 100000 in
theorem e_M_nth (d : Nat) (r_0 : Nat) (y_1 : Int64) (x_3 : Int32) (h : Hp) : evm (d + 1) 210 [vR 12 r_0, vL y_1, vI x_3] h =
    bV (evm d 194 [vR 12 r_0, vI (-1 : Int32), vI (0 : Int32)] (sI (sI h r_0 0 (0 : Int32)) r_0 24 (0 : Int32))) fun h1 =>
    ifp ((lg_cmp y_1 (0 : Int64)) < 0)
      (some (some (vI (-1 : Int32)), h1))
      (bR (hR h1 r_0 23) fun r2 =>
      bI (evm d 184 [vI (0 : Int32), vI (0 : Int32), vI (0 : Int32), vI (0 : Int32), vI (0 : Int32)] h1) fun x4 h3 =>
      ifp (inb x4 (hN h3 r2) = true) (
      ifp ((lg_cmp y_1 (hL h3 r2 (ix x4))) < 0)
        (ifp (x_3 < 0)
          (some (some (vI (-1 : Int32)), h3))
          (bI (evm d 180 [vR 12 r_0] h3) fun x6 h5 =>
          bR (hR h5 r_0 17) fun r7 =>
          ifp (inb (0 : Int32) (hN h5 r7) = true) (
          bV (evm d 183 [vR 12 r_0] (sI h5 r7 (ix (0 : Int32)) (0 : Int32))) fun h8 =>
          bI (evm d 209 [vR 12 r_0, vL y_1, vI x_3] h8) fun x10 h9 =>
          bR (hR h9 r_0 17) fun r11 =>
          ifp (inb (0 : Int32) (hN h9 r11) = true) (
          some (some (vI x10), sI h9 r11 (ix (0 : Int32)) x6)) none) none))
        (some (some (vI (-1 : Int32)), h3))) none) := (evs_xpd _ tx_M_nth [] 57 _).trans rfl
noncomputable def L_M_multiplies_3 (d : Nat) (r_0 : Nat) (r_1 : Nat) (r_2 : Nat) (x_3 : Int32) (x_4 : Int32) (h : Hp) : Option Rs := evs (evm d) tx_M_multiplies (3, [some (vR 12 r_0), some (vR 21 r_1), some (vR 21 r_2), some (vI x_3), some (vI x_4), none, none, none, none], [], h)
noncomputable def L_M_multiplies_13 (d : Nat) (r_0 : Nat) (r_1 : Nat) (r_2 : Nat) (x_3 : Int32) (x_4 : Int32) (x_5 : Int32) (h : Hp) : Option Rs := evs (evm d) tx_M_multiplies (13, [some (vR 12 r_0), some (vR 21 r_1), some (vR 21 r_2), some (vI x_3), some (vI x_4), some (vI x_5), none, none, none], [], h)
noncomputable def L_M_multiplies_26 (d : Nat) (r_0 : Nat) (r_1 : Nat) (r_2 : Nat) (x_3 : Int32) (x_4 : Int32) (x_5 : Int32) (y_6 : Int64) (x_8 : Int32) (h : Hp) : Option Rs := evs (evm d) tx_M_multiplies (26, [some (vR 12 r_0), some (vR 21 r_1), some (vR 21 r_2), some (vI x_3), some (vI x_4), some (vI x_5), some (vL y_6), none, some (vI x_8)], [], h)
noncomputable def L_M_multiplies_98 (d : Nat) (r_0 : Nat) (r_1 : Nat) (x_4 : Int32) (h : Hp) : Option Rs := evs (evm d) tx_M_multiplies (98, [some (vR 12 r_0), some (vR 21 r_1), none, none, some (vI x_4), none, none, none, none], [], h)
set_option maxRecDepth 100000 in
theorem e_M_multiplies_3 (d : Nat) (r_0 : Nat) (r_1 : Nat) (r_2 : Nat) (x_3 : Int32) (x_4 : Int32) (h : Hp) : L_M_multiplies_3 d r_0 r_1 r_2 x_3 x_4 h =
    ifp (x_4 < (12 : Int32))
      (L_M_multiplies_13 d r_0 r_1 r_2 x_3 x_4 (0 : Int32) h)
      (L_M_multiplies_98 d r_0 r_1 (0 : Int32) h) := (evs_xpd _ tx_M_multiplies [3, 13, 26, 98] 73 _).trans rfl
set_option maxRecDepth 100000 in
theorem e_M_multiplies_13 (d : Nat) (r_0 : Nat) (r_1 : Nat) (r_2 : Nat) (x_3 : Int32) (x_4 : Int32) (x_5 : Int32) (h : Hp) : L_M_multiplies_13 d r_0 r_1 r_2 x_3 x_4 x_5 h =
    ifp (x_5 < (12 : Int32))
      (L_M_multiplies_26 d r_0 r_1 r_2 x_3 x_4 x_5 (0 : Int64) (0 : Int32) h)
      (L_M_multiplies_3 d r_0 r_1 r_2 x_3 (x_4 + (1 : Int32)) h) := (evs_xpd _ tx_M_multiplies [3, 13, 26, 98] 73 _).trans rfl
set_option maxRecDepth 100000 in
theorem e_M_multiplies_26 (d : Nat) (r_0 : Nat) (r_1 : Nat) (r_2 : Nat) (x_3 : Int32) (x_4 : Int32) (x_5 : Int32) (y_6 : Int64) (x_8 : Int32) (h : Hp) : L_M_multiplies_26 d r_0 r_1 r_2 x_3 x_4 x_5 y_6 x_8 h =
    ifp (x_8 < (12 : Int32))
      (ifp (inb (((12 : Int32) * x_4) + x_8) (hN h r_1) = true) (
      ifp (inb (((12 : Int32) * x_8) + x_5) (hN h r_2) = true) (
      L_M_multiplies_26 d r_0 r_1 r_2 x_3 x_4 x_5 (y_6 + ((hL h r_1 (ix (((12 : Int32) * x_4) + x_8))) * (hL h r_2 (ix (((12 : Int32) * x_8) + x_5))))) (x_8 + (1 : Int32)) h) none) none)
      (bR (hR h r_0 27) fun r1 =>
      ifp (x_3.toInt64 = 0) none (
      ifp (inb (((12 : Int32) * x_4) + x_5) (hN h r1) = true) (
      L_M_multiplies_13 d r_0 r_1 r_2 x_3 x_4 (x_5 + (1 : Int32)) (sL h r1 (ix (((12 : Int32) * x_4) + x_5)) (lrem y_6 x_3.toInt64))) none)) := (evs_xpd _ tx_M_multiplies [3, 13, 26, 98] 73 _).trans rfl
set_option maxRecDepth 100000 in
theorem e_M_multiplies_98 (d : Nat) (r_0 : Nat) (r_1 : Nat) (x_4 : Int32) (h : Hp) : L_M_multiplies_98 d r_0 r_1 x_4 h =
    ifp (x_4 < (144 : Int32))
      (bR (hR h r_0 27) fun r1 =>
      ifp (inb x_4 (hN h r1) = true) (
      ifp (inb x_4 (hN h r_1) = true) (
      L_M_multiplies_98 d r_0 r_1 (x_4 + (1 : Int32)) (sL h r_1 (ix x_4) (hL h r1 (ix x_4)))) none) none)
      (some (none, h)) := (evs_xpd _ tx_M_multiplies [3, 13, 26, 98] 73 _).trans rfl
set_option maxRecDepth 100000 in
theorem e_M_multiplies (d : Nat) (r_0 : Nat) (r_1 : Nat) (r_2 : Nat) (x_3 : Int32) (h : Hp) : evm (d + 1) 211 [vR 12 r_0, vR 21 r_1, vR 21 r_2, vI x_3] h =
    L_M_multiplies_3 d r_0 r_1 r_2 x_3 (0 : Int32) h := (evs_xpd _ tx_M_multiplies [3, 13, 26, 98] 73 _).trans rfl
noncomputable def L_M_plain_28 (d : Nat) (r_0 : Nat) (x_1 : Int32) (x_2 : Int32) (xs0 : Int32) (rs1 : Nat) (h : Hp) : Option Rs := evs (evm d) tx_M_plain (28, [some (vR 12 r_0), some (vI x_1), some (vI x_2), none], [vI xs0, vR 12 rs1], h)
noncomputable def L_M_plain_42 (d : Nat) (r_0 : Nat) (x_1 : Int32) (x_2 : Int32) (x_3 : Int32) (h : Hp) : Option Rs := evs (evm d) tx_M_plain (42, [some (vR 12 r_0), some (vI x_1), some (vI x_2), some (vI x_3)], [], h)
noncomputable def L_M_plain_69 (d : Nat) (r_0 : Nat) (x_1 : Int32) (x_2 : Int32) (x_3 : Int32) (ys0 : Int64) (xs1 : Int32) (rs2 : Nat) (h : Hp) : Option Rs := evs (evm d) tx_M_plain (69, [some (vR 12 r_0), some (vI x_1), some (vI x_2), some (vI x_3)], [vL ys0, vI xs1, vR 21 rs2], h)
noncomputable def L_M_plain_111 (d : Nat) (r_0 : Nat) (x_1 : Int32) (x_2 : Int32) (x_3 : Int32) (h : Hp) : Option Rs := evs (evm d) tx_M_plain (111, [some (vR 12 r_0), some (vI x_1), some (vI x_2), some (vI x_3)], [], h)
noncomputable def L_M_plain_143 (d : Nat) (r_0 : Nat) (x_2 : Int32) (x_3 : Int32) (h : Hp) : Option Rs := evs (evm d) tx_M_plain (143, [some (vR 12 r_0), none, some (vI x_2), some (vI x_3)], [], h)
noncomputable def L_M_plain_167 (d : Nat) (r_0 : Nat) (x_2 : Int32) (x_3 : Int32) (h : Hp) : Option Rs := evs (evm d) tx_M_plain (167, [some (vR 12 r_0), none, some (vI x_2), some (vI x_3)], [], h)
set_option maxRecDepth 100000 in
theorem e_M_plain_28 (d : Nat) (r_0 : Nat) (x_1 : Int32) (x_2 : Int32) (xs0 : Int32) (rs1 : Nat) (h : Hp) : L_M_plain_28 d r_0 x_1 x_2 xs0 rs1 h =
    ifp (0 < (hI (sI h rs1 0 xs0) r_0 0))
      (some (some (vI (0 : Int32)), sI h rs1 0 xs0))
      (L_M_plain_42 d r_0 x_1 x_2 (0 : Int32) (sI h rs1 0 xs0)) := (evs_xpd _ tx_M_plain [28, 42, 69, 111, 143, 167] 120 _).trans rfl
set_option maxRecDepth 100000 in
theorem e_M_plain_42 (d : Nat) (r_0 : Nat) (x_1 : Int32) (x_2 : Int32) (x_3 : Int32) (h : Hp) : L_M_plain_42 d r_0 x_1 x_2 x_3 h =
    ifp (x_3 < (144 : Int32))
      (bR (hR h r_0 26) fun r1 =>
      ifp ((13 : Int32) = 0) none (
      ifp ((irem x_3 (13 : Int32)) = 0)
        (ifp (x_2 = 0) none (
        L_M_plain_69 d r_0 x_1 x_2 x_3 ((irem (1 : Int32) x_2).toInt64) x_3 r1 h))
        (L_M_plain_69 d r_0 x_1 x_2 x_3 (0 : Int64) x_3 r1 h)))
      (L_M_plain_111 d r_0 x_1 x_2 (0 : Int32) h) := (evs_xpd _ tx_M_plain [28, 42, 69, 111, 143, 167] 120 _).trans rfl
set_option maxRecDepth 100000 in
theorem e_M_plain_69 (d : Nat) (r_0 : Nat) (x_1 : Int32) (x_2 : Int32) (x_3 : Int32) (ys0 : Int64) (xs1 : Int32) (rs2 : Nat) (h : Hp) : L_M_plain_69 d r_0 x_1 x_2 x_3 ys0 xs1 rs2 h =
    ifp (inb xs1 (hN h rs2) = true) (
    bR (hR (sL h rs2 (ix xs1) ys0) r_0 25) fun r1 =>
    ifp (x_3 < (12 : Int32))
      (ifp (inb x_3 (hN (sL h rs2 (ix xs1) ys0) r1) = true) (
      L_M_plain_42 d r_0 x_1 x_2 (x_3 + (1 : Int32)) (sL (sL h rs2 (ix xs1) ys0) r1 (ix x_3) (0 : Int64))) none)
      (ifp ((12 : Int32) = 0) none (
      ifp ((12 : Int32) = 0) none (
      ifp ((irem x_3 (12 : Int32)) = ((x_3 / (12 : Int32)) - (1 : Int32)))
        (ifp (x_2 = 0) none (
        ifp (inb x_3 (hN (sL h rs2 (ix xs1) ys0) r1) = true) (
        L_M_plain_42 d r_0 x_1 x_2 (x_3 + (1 : Int32)) (sL (sL h rs2 (ix xs1) ys0) r1 (ix x_3) ((irem (1 : Int32) x_2).toInt64))) none))
        (ifp (inb x_3 (hN (sL h rs2 (ix xs1) ys0) r1) = true) (
        L_M_plain_42 d r_0 x_1 x_2 (x_3 + (1 : Int32)) (sL (sL h rs2 (ix xs1) ys0) r1 (ix x_3) (0 : Int64))) none))))) none := (evs_xpd _ tx_M_plain [28, 42, 69, 111, 143, 167] 120 _).trans rfl
set_option maxRecDepth 100000 in
theorem e_M_plain_111 (d : Nat) (r_0 : Nat) (x_1 : Int32) (x_2 : Int32) (x_3 : Int32) (h : Hp) : L_M_plain_111 d r_0 x_1 x_2 x_3 h =
    bI (evm d 177 [vR 12 r_0] h) fun x2 h1 =>
    ifp (x_3 < x2)
      (bR (hR h1 r_0 25) fun r3 =>
      bI (evm d 178 [vR 12 r_0, vI x_3] h1) fun x5 h4 =>
      ifp (x_2 = 0) none (
      ifp (inb (x5 - (1 : Int32)) (hN h4 r3) = true) (
      L_M_plain_111 d r_0 x_1 x_2 (x_3 + (1 : Int32)) (sL h4 r3 (ix (x5 - (1 : Int32))) ((irem (1 : Int32) x_2).toInt64))) none))
      (L_M_plain_143 d r_0 x_2 x_1 h1) := (evs_xpd _ tx_M_plain [28, 42, 69, 111, 143, 167] 120 _).trans rfl
set_option maxRecDepth 100000 in
theorem e_M_plain_143 (d : Nat) (r_0 : Nat) (x_2 : Int32) (x_3 : Int32) (h : Hp) : L_M_plain_143 d r_0 x_2 x_3 h =
    ifp (0 < x_3)
      (ifp ((2 : Int32) = 0) none (
      ifp ((irem x_3 (2 : Int32)) = (1 : Int32))
        (bR (hR h r_0 26) fun r2 =>
        bR (hR h r_0 25) fun r3 =>
        bV (evm d 211 [vR 12 r_0, vR 21 r2, vR 21 r3, vI x_2] h) fun h4 =>
        L_M_plain_167 d r_0 x_2 x_3 h4)
        (L_M_plain_167 d r_0 x_2 x_3 h)))
      (bR (hR h r_0 26) fun r1 =>
      ifp (inb (0 : Int32) (hN h r1) = true) (
      some (some (vI ((hL h r1 (ix (0 : Int32))).toInt32)), h)) none) := (evs_xpd _ tx_M_plain [28, 42, 69, 111, 143, 167] 120 _).trans rfl
set_option maxRecDepth 100000 in
theorem e_M_plain_167 (d : Nat) (r_0 : Nat) (x_2 : Int32) (x_3 : Int32) (h : Hp) : L_M_plain_167 d r_0 x_2 x_3 h =
    ifp ((2 : Int32) = 0) none (
    ifp (0 < (x_3 / (2 : Int32)))
      (bV (evm d 213 [vR 12 r_0, vI x_2] h) fun h1 =>
      L_M_plain_143 d r_0 x_2 (x_3 / (2 : Int32)) h1)
      (L_M_plain_143 d r_0 x_2 (x_3 / (2 : Int32)) h)) := (evs_xpd _ tx_M_plain [28, 42, 69, 111, 143, 167] 120 _).trans rfl
set_option maxRecDepth 100000 in
theorem e_M_plain (d : Nat) (r_0 : Nat) (x_1 : Int32) (x_2 : Int32) (h : Hp) : evm (d + 1) 212 [vR 12 r_0, vI x_1, vI x_2] h =
    bI (evm d 154 [vI x_1, vI (0 : Int32), vI (999999999 : Int32)] h) fun x2 h1 =>
    ifp (x2 = 0)
      (L_M_plain_28 d r_0 x_1 x_2 (1 : Int32) r_0 h1)
      (bI (evm d 154 [vI x_2, vI (1 : Int32), vI (9999 : Int32)] h1) fun x4 h3 =>
      ifp (x4 = 0)
        (L_M_plain_28 d r_0 x_1 x_2 (1 : Int32) r_0 h3)
        (L_M_plain_28 d r_0 x_1 x_2 (0 : Int32) r_0 h3)) := (evs_xpd _ tx_M_plain [28, 42, 69, 111, 143, 167] 120 _).trans rfl
noncomputable def L_M_squares_2 (d : Nat) (r_0 : Nat) (x_1 : Int32) (x_2 : Int32) (h : Hp) : Option Rs := evs (evm d) tx_M_squares (2, [some (vR 12 r_0), some (vI x_1), some (vI x_2)], [], h)
set_option maxRecDepth 100000 in
theorem e_M_squares_2 (d : Nat) (r_0 : Nat) (x_1 : Int32) (x_2 : Int32) (h : Hp) : L_M_squares_2 d r_0 x_1 x_2 h =
    ifp (x_2 < (144 : Int32))
      (bR (hR h r_0 28) fun r4 =>
      bR (hR h r_0 25) fun r5 =>
      ifp (inb x_2 (hN h r5) = true) (
      ifp (inb x_2 (hN h r4) = true) (
      L_M_squares_2 d r_0 x_1 (x_2 + (1 : Int32)) (sL h r4 (ix x_2) (hL h r5 (ix x_2)))) none) none)
      (bR (hR h r_0 25) fun r1 =>
      bR (hR h r_0 28) fun r2 =>
      bV (evm d 211 [vR 12 r_0, vR 21 r1, vR 21 r2, vI x_1] h) fun h3 =>
      some (none, h3)) := (evs_xpd _ tx_M_squares [2] 28 _).trans rfl
set_option maxRecDepth 100000 in
theorem e_M_squares (d : Nat) (r_0 : Nat) (x_1 : Int32) (h : Hp) : evm (d + 1) 213 [vR 12 r_0, vI x_1] h =
    L_M_squares_2 d r_0 x_1 (0 : Int32) h := (evs_xpd _ tx_M_squares [2] 28 _).trans rfl
noncomputable def L_M_weightAt_63 (d : Nat) (r_0 : Nat) (x_1 : Int32) (x_5 : Int32) (xs0 : Int32) (xs1 : Int32) (rs2 : Nat) (h : Hp) : Option Rs := evs (evm d) tx_M_weightAt (63, [some (vR 12 r_0), some (vI x_1), none, none, none, some (vI x_5), none, none], [vI xs0, vI xs1, vR 20 rs2], h)
noncomputable def L_M_weightAt_92 (d : Nat) (x_7 : Int32) (h : Hp) : Option Rs := evs (evm d) tx_M_weightAt (92, [none, none, none, none, none, none, none, some (vI x_7)], [], h)
set_option maxRecDepth 100000 in
theorem e_M_weightAt_63 (d : Nat) (r_0 : Nat) (x_1 : Int32) (x_5 : Int32) (xs0 : Int32) (xs1 : Int32) (rs2 : Nat) (h : Hp) : L_M_weightAt_63 d r_0 x_1 x_5 xs0 xs1 rs2 h =
    ifp (inb xs1 (hN h rs2) = true) (
    bR (hR (sI h rs2 (ix xs1) xs0) r_0 15) fun r1 =>
    ifp (inb (2 : Int32) (hN (sI h rs2 (ix xs1) xs0) r1) = true) (
    bR (hR (sI (sI h rs2 (ix xs1) xs0) r1 (ix (2 : Int32)) x_1) r_0 15) fun r2 =>
    ifp (inb (3 : Int32) (hN (sI (sI h rs2 (ix xs1) xs0) r1 (ix (2 : Int32)) x_1) r2) = true) (
    bR (hR (sI (sI (sI h rs2 (ix xs1) xs0) r1 (ix (2 : Int32)) x_1) r2 (ix (3 : Int32)) x_5) r_0 10) fun r3 =>
    ifp (inb (7 : Int32) (hN (sI (sI (sI h rs2 (ix xs1) xs0) r1 (ix (2 : Int32)) x_1) r2 (ix (3 : Int32)) x_5) r3) = true) (
    bI (evm d 174 [vR 12 r_0, vI (hI (sI (sI (sI h rs2 (ix xs1) xs0) r1 (ix (2 : Int32)) x_1) r2 (ix (3 : Int32)) x_5) r3 (ix (7 : Int32)))] (sI (sI (sI h rs2 (ix xs1) xs0) r1 (ix (2 : Int32)) x_1) r2 (ix (3 : Int32)) x_5)) fun x5 h4 =>
    L_M_weightAt_92 d x5 h4) none) none) none) none := (evs_xpd _ tx_M_weightAt [63, 92] 71 _).trans rfl
set_option maxRecDepth 100000 in
theorem e_M_weightAt_92 (d : Nat) (x_7 : Int32) (h : Hp) : L_M_weightAt_92 d x_7 h =
    ifp (x_7 < 0)
      (some (some (vI (0 : Int32)), h))
      (ifp ((9 : Int32) < x_7)
        (some (some (vI (9 : Int32)), h))
        (some (some (vI x_7), h))) := (evs_xpd _ tx_M_weightAt [63, 92] 71 _).trans rfl
set_option maxRecDepth 100000 in
theorem e_M_weightAt (d : Nat) (r_0 : Nat) (x_1 : Int32) (x_2 : Int32) (x_3 : Int32) (x_4 : Int32) (x_5 : Int32) (x_6 : Int32) (h : Hp) : evm (d + 1) 214 [vR 12 r_0, vI x_1, vI x_2, vI x_3, vI x_4, vI x_5, vI x_6] h =
    bI (evm d 189 [vR 12 r_0, vI x_1, vI x_2, vI x_3, vI x_4, vI x_5, vI x_6] h) fun x2 h1 =>
    ifp (x2 = 0)
      (some (some (vI (0 : Int32)), h1))
      (bR (hR h1 r_0 10) fun r3 =>
      ifp (inb (7 : Int32) (hN h1 r3) = true) (
      ifp ((hI h1 r3 (ix (7 : Int32))) < 0)
        (L_M_weightAt_92 d (1 : Int32) h1)
        (bR (hR h1 r_0 15) fun r4 =>
        bI (evm d 178 [vR 12 r_0, vI x_6] h1) fun x6 h5 =>
        ifp (inb (0 : Int32) (hN h5 r4) = true) (
        bR (hR (sI h5 r4 (ix (0 : Int32)) x6) r_0 15) fun r7 =>
        ifp (x_2 = 0)
          (L_M_weightAt_63 d r_0 x_1 x_5 (0 : Int32) (1 : Int32) r7 (sI h5 r4 (ix (0 : Int32)) x6))
          (bI (evm d 178 [vR 12 r_0, vI (x_2 - (1 : Int32))] (sI h5 r4 (ix (0 : Int32)) x6)) fun x9 h8 =>
          L_M_weightAt_63 d r_0 x_1 x_5 x9 (1 : Int32) r7 h8)) none)) none) := (evs_xpd _ tx_M_weightAt [63, 92] 71 _).trans rfl
noncomputable def L_M_goesCrowd_2 (d : Nat) (r_0 : Nat) (y_1 : Int64) (x_3 : Int32) (h : Hp) : Option Rs := evs (evm d) tx_M_goesCrowd (2, [some (vR 12 r_0), some (vL y_1), none, some (vI x_3), none, none, none, none], [], h)
noncomputable def L_M_goesCrowd_26 (d : Nat) (r_0 : Nat) (y_1 : Int64) (x_3 : Int32) (h : Hp) : Option Rs := evs (evm d) tx_M_goesCrowd (26, [some (vR 12 r_0), some (vL y_1), none, some (vI x_3), none, none, none, none], [], h)
noncomputable def L_M_goesCrowd_73 (d : Nat) (r_0 : Nat) (x_3 : Int32) (h : Hp) : Option Rs := evs (evm d) tx_M_goesCrowd (73, [some (vR 12 r_0), none, none, some (vI x_3), none, none, none, none], [], h)
noncomputable def L_M_goesCrowd_84 (d : Nat) (r_0 : Nat) (x_3 : Int32) (x_4 : Int32) (h : Hp) : Option Rs := evs (evm d) tx_M_goesCrowd (84, [some (vR 12 r_0), none, none, some (vI x_3), some (vI x_4), none, none, none], [], h)
noncomputable def L_M_goesCrowd_96 (d : Nat) (r_0 : Nat) (x_3 : Int32) (x_4 : Int32) (x_5 : Int32) (h : Hp) : Option Rs := evs (evm d) tx_M_goesCrowd (96, [some (vR 12 r_0), none, none, some (vI x_3), some (vI x_4), some (vI x_5), none, none], [], h)
noncomputable def L_M_goesCrowd_108 (d : Nat) (r_0 : Nat) (x_3 : Int32) (x_4 : Int32) (x_5 : Int32) (x_6 : Int32) (h : Hp) : Option Rs := evs (evm d) tx_M_goesCrowd (108, [some (vR 12 r_0), none, none, some (vI x_3), some (vI x_4), some (vI x_5), some (vI x_6), none], [], h)
noncomputable def L_M_goesCrowd_120 (d : Nat) (r_0 : Nat) (x_3 : Int32) (x_4 : Int32) (x_5 : Int32) (x_6 : Int32) (x_7 : Int32) (h : Hp) : Option Rs := evs (evm d) tx_M_goesCrowd (120, [some (vR 12 r_0), none, none, some (vI x_3), some (vI x_4), some (vI x_5), some (vI x_6), some (vI x_7)], [], h)
set_option maxRecDepth 100000 in
theorem e_M_goesCrowd_2 (d : Nat) (r_0 : Nat) (y_1 : Int64) (x_3 : Int32) (h : Hp) : L_M_goesCrowd_2 d r_0 y_1 x_3 h =
    bR (hR h r_0 23) fun r1 =>
    ifp (x_3 < (nI (hN h r1)))
      (bR (hR h r_0 23) fun r2 =>
      ifp (inb x_3 (hN h r2) = true) (
      L_M_goesCrowd_2 d r_0 y_1 (x_3 + (1 : Int32)) (sL h r2 (ix x_3) (0 : Int64))) none)
      (L_M_goesCrowd_26 d r_0 y_1 (0 : Int32) h) := (evs_xpd _ tx_M_goesCrowd [2, 26, 73, 84, 96, 108, 120] 108 _).trans rfl
set_option maxRecDepth 100000 in
theorem e_M_goesCrowd_26 (d : Nat) (r_0 : Nat) (y_1 : Int64) (x_3 : Int32) (h : Hp) : L_M_goesCrowd_26 d r_0 y_1 x_3 h =
    ifp ((40 : Int32) < x_3)
      (bR (hR (sL h r_0 30 (0 : Int64)) r_0 29) fun r1 =>
      ifp (inb (0 : Int32) (hN (sL h r_0 30 (0 : Int64)) r1) = true) (
      bR (hR (sL (sL h r_0 30 (0 : Int64)) r1 (ix (0 : Int32)) y_1) r_0 23) fun r2 =>
      bI (evm d 184 [vI (0 : Int32), vI (0 : Int32), vI (0 : Int32), vI (0 : Int32), vI (0 : Int32)] (sL (sL h r_0 30 (0 : Int64)) r1 (ix (0 : Int32)) y_1)) fun x4 h3 =>
      ifp (inb x4 (hN h3 r2) = true) (
      L_M_goesCrowd_73 d r_0 (0 : Int32) (sL h3 r2 (ix x4) y_1)) none) none)
      (bR (hR h r_0 29) fun r5 =>
      ifp (inb x_3 (hN h r5) = true) (
      L_M_goesCrowd_26 d r_0 y_1 (x_3 + (1 : Int32)) (sL h r5 (ix x_3) (0 : Int64))) none) := (evs_xpd _ tx_M_goesCrowd [2, 26, 73, 84, 96, 108, 120] 108 _).trans rfl
set_option maxRecDepth 100000 in
theorem e_M_goesCrowd_73 (d : Nat) (r_0 : Nat) (x_3 : Int32) (h : Hp) : L_M_goesCrowd_73 d r_0 x_3 h =
    bI (evm d 176 [vR 12 r_0] h) fun x2 h1 =>
    ifp (x_3 < x2)
      (L_M_goesCrowd_84 d r_0 x_3 (0 : Int32) h1)
      (some (none, h1)) := (evs_xpd _ tx_M_goesCrowd [2, 26, 73, 84, 96, 108, 120] 108 _).trans rfl
set_option maxRecDepth 100000 in
theorem e_M_goesCrowd_84 (d : Nat) (r_0 : Nat) (x_3 : Int32) (x_4 : Int32) (h : Hp) : L_M_goesCrowd_84 d r_0 x_3 x_4 h =
    bI (evm d 177 [vR 12 r_0] h) fun x2 h1 =>
    ifp (x2 < x_4)
      (L_M_goesCrowd_73 d r_0 (x_3 + (1 : Int32)) h1)
      (L_M_goesCrowd_96 d r_0 x_3 x_4 (0 : Int32) h1) := (evs_xpd _ tx_M_goesCrowd [2, 26, 73, 84, 96, 108, 120] 108 _).trans rfl
set_option maxRecDepth 100000 in
theorem e_M_goesCrowd_96 (d : Nat) (r_0 : Nat) (x_3 : Int32) (x_4 : Int32) (x_5 : Int32) (h : Hp) : L_M_goesCrowd_96 d r_0 x_3 x_4 x_5 h =
    bI (evm d 191 [vR 12 r_0] h) fun x2 h1 =>
    ifp (x2 < x_5)
      (L_M_goesCrowd_84 d r_0 x_3 (x_4 + (1 : Int32)) h1)
      (L_M_goesCrowd_108 d r_0 x_3 x_4 x_5 (0 : Int32) h1) := (evs_xpd _ tx_M_goesCrowd [2, 26, 73, 84, 96, 108, 120] 108 _).trans rfl
set_option maxRecDepth 100000 in
theorem e_M_goesCrowd_108 (d : Nat) (r_0 : Nat) (x_3 : Int32) (x_4 : Int32) (x_5 : Int32) (x_6 : Int32) (h : Hp) : L_M_goesCrowd_108 d r_0 x_3 x_4 x_5 x_6 h =
    bI (evm d 192 [vR 12 r_0] h) fun x2 h1 =>
    ifp (x2 < x_6)
      (L_M_goesCrowd_96 d r_0 x_3 x_4 (x_5 + (1 : Int32)) h1)
      (L_M_goesCrowd_120 d r_0 x_3 x_4 x_5 x_6 (0 : Int32) h1) := (evs_xpd _ tx_M_goesCrowd [2, 26, 73, 84, 96, 108, 120] 108 _).trans rfl
set_option maxRecDepth 100000 in
theorem e_M_goesCrowd_120 (d : Nat) (r_0 : Nat) (x_3 : Int32) (x_4 : Int32) (x_5 : Int32) (x_6 : Int32) (x_7 : Int32) (h : Hp) : L_M_goesCrowd_120 d r_0 x_3 x_4 x_5 x_6 x_7 h =
    ifp (x_3 < x_7)
      (L_M_goesCrowd_108 d r_0 x_3 x_4 x_5 (x_6 + (1 : Int32)) h)
      (bR (hR h r_0 23) fun r1 =>
      bI (evm d 184 [vI x_3, vI x_4, vI x_5, vI x_6, vI x_7] h) fun x3 h2 =>
      ifp (inb x3 (hN h2 r1) = true) (
      ifp (0 < (lg_cmp (hL h2 r1 (ix x3)) (0 : Int64)))
        (bV (evm d 216 [vR 12 r_0, vI x_3, vI x_4, vI x_5, vI x_6, vI x_7] h2) fun h4 =>
        L_M_goesCrowd_120 d r_0 x_3 x_4 x_5 x_6 (x_7 + (1 : Int32)) h4)
        (L_M_goesCrowd_120 d r_0 x_3 x_4 x_5 x_6 (x_7 + (1 : Int32)) h2)) none) := (evs_xpd _ tx_M_goesCrowd [2, 26, 73, 84, 96, 108, 120] 108 _).trans rfl
set_option maxRecDepth 100000 in
theorem e_M_goesCrowd (d : Nat) (r_0 : Nat) (y_1 : Int64) (h : Hp) : evm (d + 1) 215 [vR 12 r_0, vL y_1] h =
    L_M_goesCrowd_2 d r_0 y_1 (0 : Int32) h := (evs_xpd _ tx_M_goesCrowd [2, 26, 73, 84, 96, 108, 120] 108 _).trans rfl
noncomputable def L_M_parts_26 (d : Nat) (r_0 : Nat) (x_1 : Int32) (x_2 : Int32) (x_3 : Int32) (x_4 : Int32) (x_5 : Int32) (y_6 : Int64) (x_8 : Int32) (x_9 : Int32) (x_10 : Int32) (h : Hp) : Option Rs := evs (evm d) tx_M_parts (26, [some (vR 12 r_0), some (vI x_1), some (vI x_2), some (vI x_3), some (vI x_4), some (vI x_5), some (vL y_6), none, some (vI x_8), some (vI x_9), some (vI x_10), none, none, none, none], [], h)
noncomputable def L_M_parts_89 (d : Nat) (r_0 : Nat) (x_1 : Int32) (x_2 : Int32) (x_3 : Int32) (x_4 : Int32) (x_5 : Int32) (y_6 : Int64) (x_8 : Int32) (x_9 : Int32) (y_10 : Int64) (x_12 : Int32) (h : Hp) : Option Rs := evs (evm d) tx_M_parts (89, [some (vR 12 r_0), some (vI x_1), some (vI x_2), some (vI x_3), some (vI x_4), some (vI x_5), some (vL y_6), none, some (vI x_8), some (vI x_9), some (vL y_10), none, some (vI x_12), none, none], [], h)
noncomputable def L_M_parts_154 (d : Nat) (r_0 : Nat) (x_1 : Int32) (x_2 : Int32) (x_3 : Int32) (x_4 : Int32) (x_5 : Int32) (x_8 : Int32) (x_9 : Int32) (y_10 : Int64) (h : Hp) : Option Rs := evs (evm d) tx_M_parts (154, [some (vR 12 r_0), some (vI x_1), some (vI x_2), some (vI x_3), some (vI x_4), some (vI x_5), none, none, some (vI x_8), some (vI x_9), some (vL y_10), none, none, none, none], [], h)
set_option maxRecDepth 100000 in
theorem e_M_parts_26 (d : Nat) (r_0 : Nat) (x_1 : Int32) (x_2 : Int32) (x_3 : Int32) (x_4 : Int32) (x_5 : Int32) (y_6 : Int64) (x_8 : Int32) (x_9 : Int32) (x_10 : Int32) (h : Hp) : L_M_parts_26 d r_0 x_1 x_2 x_3 x_4 x_5 y_6 x_8 x_9 x_10 h =
    bI (evm d 177 [vR 12 r_0] h) fun x2 h1 =>
    ifp (x_10 < x2)
      (bI (evm d 214 [vR 12 r_0, vI x_1, vI x_2, vI x_3, vI x_4, vI x_5, vI x_10] h1) fun x4 h3 =>
      ifp (x_9 < 0)
        (ifp (0 < x4)
          (L_M_parts_26 d r_0 x_1 x_2 x_3 x_4 x_5 y_6 (x_8 + x4) x_10 (x_10 + (1 : Int32)) h3)
          (L_M_parts_26 d r_0 x_1 x_2 x_3 x_4 x_5 y_6 (x_8 + x4) x_9 (x_10 + (1 : Int32)) h3))
        (L_M_parts_26 d r_0 x_1 x_2 x_3 x_4 x_5 y_6 (x_8 + x4) x_9 (x_10 + (1 : Int32)) h3))
      (L_M_parts_89 d r_0 x_1 x_2 x_3 x_4 x_5 y_6 x_8 x_9 y_6 (0 : Int32) h1) := (evs_xpd _ tx_M_parts [26, 89, 154] 100 _).trans rfl
set_option maxRecDepth 100000 in
theorem e_M_parts_89 (d : Nat) (r_0 : Nat) (x_1 : Int32) (x_2 : Int32) (x_3 : Int32) (x_4 : Int32) (x_5 : Int32) (y_6 : Int64) (x_8 : Int32) (x_9 : Int32) (y_10 : Int64) (x_12 : Int32) (h : Hp) : L_M_parts_89 d r_0 x_1 x_2 x_3 x_4 x_5 y_6 x_8 x_9 y_10 x_12 h =
    bI (evm d 177 [vR 12 r_0] h) fun x2 h1 =>
    ifp (x_12 < x2)
      (ifp (0 < x_8)
        (bI (evm d 214 [vR 12 r_0, vI x_1, vI x_2, vI x_3, vI x_4, vI x_5, vI x_12] h1) fun x4 h3 =>
        ifp (x_8.toInt64 = 0) none (
        bV (evm d 217 [vR 12 r_0, vI x_1, vI x_2, vI x_3, vI x_4, vI x_5, vI x_12, vL ((y_6 * x4.toInt64) / x_8.toInt64)] h3) fun h5 =>
        L_M_parts_89 d r_0 x_1 x_2 x_3 x_4 x_5 y_6 x_8 x_9 (y_10 - ((y_6 * x4.toInt64) / x_8.toInt64)) (x_12 + (1 : Int32)) h5))
        (L_M_parts_154 d r_0 x_1 x_2 x_3 x_4 x_5 x_8 x_9 y_10 h1))
      (L_M_parts_154 d r_0 x_1 x_2 x_3 x_4 x_5 x_8 x_9 y_10 h1) := (evs_xpd _ tx_M_parts [26, 89, 154] 100 _).trans rfl
set_option maxRecDepth 100000 in
theorem e_M_parts_154 (d : Nat) (r_0 : Nat) (x_1 : Int32) (x_2 : Int32) (x_3 : Int32) (x_4 : Int32) (x_5 : Int32) (x_8 : Int32) (x_9 : Int32) (y_10 : Int64) (h : Hp) : L_M_parts_154 d r_0 x_1 x_2 x_3 x_4 x_5 x_8 x_9 y_10 h =
    ifp (0 < x_8)
      (bV (evm d 217 [vR 12 r_0, vI x_1, vI x_2, vI x_3, vI x_4, vI x_5, vI x_9, vL y_10] h) fun h1 =>
      some (none, h1))
      (some (none, h)) := (evs_xpd _ tx_M_parts [26, 89, 154] 100 _).trans rfl
set_option maxRecDepth 100000 in
theorem e_M_parts (d : Nat) (r_0 : Nat) (x_1 : Int32) (x_2 : Int32) (x_3 : Int32) (x_4 : Int32) (x_5 : Int32) (h : Hp) : evm (d + 1) 216 [vR 12 r_0, vI x_1, vI x_2, vI x_3, vI x_4, vI x_5] h =
    bR (hR h r_0 23) fun r1 =>
    bI (evm d 184 [vI x_1, vI x_2, vI x_3, vI x_4, vI x_5] h) fun x3 h2 =>
    ifp (inb x3 (hN h2 r1) = true) (
    L_M_parts_26 d r_0 x_1 x_2 x_3 x_4 x_5 (hL h2 r1 (ix x3)) (0 : Int32) (-1 : Int32) (0 : Int32) h2) none := (evs_xpd _ tx_M_parts [26, 89, 154] 100 _).trans rfl
set_option maxRecDepth 100000 in
theorem e_M_moves (d : Nat) (r_0 : Nat) (x_1 : Int32) (x_2 : Int32) (x_3 : Int32) (x_4 : Int32) (x_5 : Int32) (x_6 : Int32) (y_7 : Int64) (h : Hp) : evm (d + 1) 217 [vR 12 r_0, vI x_1, vI x_2, vI x_3, vI x_4, vI x_5, vI x_6, vL y_7] h =
    ifp (0 < (lg_cmp y_7 (0 : Int64)))
      (bR (hR h r_0 23) fun r1 =>
      bI (evm d 190 [vR 12 r_0, vI x_1, vI x_2, vI x_3, vI x_4, vI x_5, vI x_6] h) fun x3 h2 =>
      ifp (inb x3 (hN h2 r1) = true) (
      ifp (inb x3 (hN h2 r1) = true) (
      bR (hR (sL h2 r1 (ix x3) ((hL h2 r1 (ix x3)) + y_7)) r_0 29) fun r4 =>
      bI (evm d 178 [vR 12 r_0, vI x_6] (sL h2 r1 (ix x3) ((hL h2 r1 (ix x3)) + y_7))) fun x6 h5 =>
      ifp (inb (x_1 + x6) (hN h5 r4) = true) (
      ifp (inb (x_1 + x6) (hN h5 r4) = true) (
      some (none, sL (sL h5 r4 (ix (x_1 + x6)) ((hL h5 r4 (ix (x_1 + x6))) + y_7)) r_0 30 ((hL (sL h5 r4 (ix (x_1 + x6)) ((hL h5 r4 (ix (x_1 + x6))) + y_7)) r_0 30) + y_7))) none) none) none) none)
      (some (none, h)) := (evs_xpd _ tx_M_moves [] 43 _).trans rfl
set_option maxRecDepth 100000 in
theorem e_M_isCrowd (d : Nat) (y_0 : Int64) (h : Hp) : evm (d + 1) 218 [vL y_0] h =
    ifp ((lg_cmp y_0 (1 : Int64)) < 0)
      (some (some (vI (0 : Int32)), h))
      (ifp (0 < (lg_cmp y_0 (1000000000000 : Int64)))
        (some (some (vI (0 : Int32)), h))
        (some (some (vI (1 : Int32)), h))) := (evs_xpd _ tx_M_isCrowd [] 17 _).trans rfl
set_option maxRecDepth 100000 in
theorem e_M_crowd (d : Nat) (r_0 : Nat) (y_1 : Int64) (x_3 : Int32) (h : Hp) : evm (d + 1) 219 [vR 12 r_0, vL y_1, vI x_3] h =
    bI (evm d 218 [vL y_1] (sI h r_0 0 (0 : Int32))) fun x2 h1 =>
    ifp (x2 = 0)
      (some (some (vL (-1 : Int64)), h1))
      (bI (evm d 176 [vR 12 r_0] h1) fun x4 h3 =>
      bI (evm d 154 [vI x_3, vI (0 : Int32), vI x4] h3) fun x6 h5 =>
      ifp (x6 = 0)
        (some (some (vL (-1 : Int64)), h5))
        (bV (evm d 215 [vR 12 r_0, vL y_1] (sI h5 r_0 24 (0 : Int32))) fun h7 =>
        bR (hR h7 r_0 29) fun r8 =>
        ifp (inb x_3 (hN h7 r8) = true) (
        some (some (vL (hL h7 r8 (ix x_3))), h7)) none)) := (evs_xpd _ tx_M_crowd [] 30 _).trans rfl
set_option maxRecDepth 100000 in
theorem e_M_weary (d : Nat) (r_0 : Nat) (y_1 : Int64) (h : Hp) : evm (d + 1) 220 [vR 12 r_0, vL y_1] h =
    bI (evm d 218 [vL y_1] (sI h r_0 0 (0 : Int32))) fun x2 h1 =>
    ifp (x2 = 0)
      (some (some (vL (-1 : Int64)), h1))
      (bV (evm d 215 [vR 12 r_0, vL y_1] (sI h1 r_0 24 (0 : Int32))) fun h3 =>
      some (some (vL (hL h3 r_0 30)), h3)) := (evs_xpd _ tx_M_weary [] 22 _).trans rfl
set_option maxRecDepth 100000 in
theorem e_M_weight (d : Nat) (r_0 : Nat) (x_1 : Int32) (h : Hp) : evm (d + 1) 221 [vR 12 r_0, vI x_1] h =
    bI (evm d 200 [vR 12 r_0, vI x_1] h) fun x2 h1 =>
    ifp (x2 = 0)
      (some (some (vI (-1 : Int32)), h1))
      (bI (evm d 185 [vR 12 r_0, vI (hI h1 r_0 21)] h1) fun x4 h3 =>
      bI (evm d 180 [vR 12 r_0] h3) fun x6 h5 =>
      bI (evm d 181 [vR 12 r_0, vI x_1] h5) fun x8 h7 =>
      bI (evm d 214 [vR 12 r_0, vI (hI h1 r_0 19), vI (hI h1 r_0 20), vI x4, vI (hI h3 r_0 22), vI x6, vI x8] h7) fun x10 h9 =>
      some (some (vI x10), h9)) := (evs_xpd _ tx_M_weight [] 29 _).trans rfl
noncomputable def L_M_comes_17 (d : Nat) (r_0 : Nat) (xs0 : Int32) (h : Hp) : Option Rs := evs (evm d) tx_M_comes (17, [some (vR 12 r_0), none, none, none, none], [vI xs0], h)
set_option maxRecDepth 100000 in
theorem e_M_comes_17 (d : Nat) (r_0 : Nat) (xs0 : Int32) (h : Hp) : L_M_comes_17 d r_0 xs0 h =
    ifp (xs0 < 0)
      (some (some (vI (-1 : Int32)), h))
      (bI (evm d 176 [vR 12 r_0] h) fun x2 h1 =>
      ifp (x2 < xs0)
        (some (some (vI (-1 : Int32)), h1))
        (bI (evm d 179 [vR 12 r_0, vI xs0] h1) fun x4 h3 =>
        ifp (x4 = (1 : Int32))
          (some (some (vI (-1 : Int32)), h3))
          (some (some (vI xs0), h3)))) := (evs_xpd _ tx_M_comes [17] 32 _).trans rfl
set_option maxRecDepth 100000 in
theorem e_M_comes (d : Nat) (r_0 : Nat) (x_1 : Int32) (x_2 : Int32) (x_3 : Int32) (h : Hp) : evm (d + 1) 222 [vR 12 r_0, vI x_1, vI x_2, vI x_3] h =
    ifp (x_2 < 0)
      (L_M_comes_17 d r_0 x_1 h)
      (bI (evm d 178 [vR 12 r_0, vI x_2] h) fun x2 h1 =>
      L_M_comes_17 d r_0 (x_1 + (x_3 * x2)) h1) := (evs_xpd _ tx_M_comes [17] 32 _).trans rfl
noncomputable def L_M_two_25 (d : Nat) (r_0 : Nat) (x_1 : Int32) (x_2 : Int32) (h : Hp) : Option Rs := evs (evm d) tx_M_two (25, [some (vR 12 r_0), some (vI x_1), some (vI x_2), none, none, none, none, none, none, none], [], h)
noncomputable def L_M_two_31 (d : Nat) (r_0 : Nat) (x_1 : Int32) (x_2 : Int32) (x_3 : Int32) (h : Hp) : Option Rs := evs (evm d) tx_M_two (31, [some (vR 12 r_0), some (vI x_1), some (vI x_2), some (vI x_3), none, none, none, none, none, none], [], h)
noncomputable def L_M_two_50 (d : Nat) (r_0 : Nat) (x_1 : Int32) (x_2 : Int32) (x_3 : Int32) (ys0 : Int64) (h : Hp) : Option Rs := evs (evm d) tx_M_two (50, [some (vR 12 r_0), some (vI x_1), some (vI x_2), some (vI x_3), none, none, none, none, none, none], [vL ys0], h)
noncomputable def L_M_two_64 (d : Nat) (r_0 : Nat) (x_1 : Int32) (x_2 : Int32) (x_3 : Int32) (y_4 : Int64) (x_6 : Int32) (h : Hp) : Option Rs := evs (evm d) tx_M_two (64, [some (vR 12 r_0), some (vI x_1), some (vI x_2), some (vI x_3), some (vL y_4), none, some (vI x_6), none, none, none], [], h)
noncomputable def L_M_two_79 (d : Nat) (r_0 : Nat) (x_1 : Int32) (x_2 : Int32) (x_3 : Int32) (y_4 : Int64) (x_6 : Int32) (xs0 : Int32) (xs1 : Int32) (h : Hp) : Option Rs := evs (evm d) tx_M_two (79, [some (vR 12 r_0), some (vI x_1), some (vI x_2), some (vI x_3), some (vL y_4), none, some (vI x_6), none, none, none], [vI xs0, vI xs1], h)
noncomputable def L_M_two_93 (d : Nat) (r_0 : Nat) (x_1 : Int32) (x_2 : Int32) (x_3 : Int32) (y_4 : Int64) (x_6 : Int32) (x_7 : Int32) (h : Hp) : Option Rs := evs (evm d) tx_M_two (93, [some (vR 12 r_0), some (vI x_1), some (vI x_2), some (vI x_3), some (vL y_4), none, some (vI x_6), some (vI x_7), none, none], [], h)
noncomputable def L_M_two_107 (d : Nat) (r_0 : Nat) (x_1 : Int32) (x_2 : Int32) (x_3 : Int32) (y_4 : Int64) (x_6 : Int32) (x_7 : Int32) (xs0 : Int32) (xs1 : Int32) (h : Hp) : Option Rs := evs (evm d) tx_M_two (107, [some (vR 12 r_0), some (vI x_1), some (vI x_2), some (vI x_3), some (vL y_4), none, some (vI x_6), some (vI x_7), none, none], [vI xs0, vI xs1], h)
noncomputable def L_M_two_119 (d : Nat) (r_0 : Nat) (x_1 : Int32) (x_2 : Int32) (x_3 : Int32) (y_4 : Int64) (x_6 : Int32) (x_7 : Int32) (h : Hp) : Option Rs := evs (evm d) tx_M_two (119, [some (vR 12 r_0), some (vI x_1), some (vI x_2), some (vI x_3), some (vL y_4), none, some (vI x_6), some (vI x_7), none, none], [], h)
set_option maxRecDepth 100000 in
theorem e_M_two_25 (d : Nat) (r_0 : Nat) (x_1 : Int32) (x_2 : Int32) (h : Hp) : L_M_two_25 d r_0 x_1 x_2 h =
    ifp (x_2 < 0)
      (bR (hR h r_0 31) fun r1 =>
      ifp (inb x_1 (hN h r1) = true) (
      some (some (vL (hL h r1 (ix x_1))), h)) none)
      (L_M_two_31 d r_0 x_1 x_2 (0 : Int32) h) := (evs_xpd _ tx_M_two [25, 31, 50, 64, 79, 93, 107, 119] 124 _).trans rfl
set_option maxRecDepth 100000 in
theorem e_M_two_31 (d : Nat) (r_0 : Nat) (x_1 : Int32) (x_2 : Int32) (x_3 : Int32) (h : Hp) : L_M_two_31 d r_0 x_1 x_2 x_3 h =
    ifp (x_1 < x_3)
      (L_M_two_25 d r_0 x_1 (x_2 + (-1 : Int32)) h)
      (ifp (x_2 = x_1)
        (ifp (x_3 = 0)
          (L_M_two_50 d r_0 x_1 x_2 x_3 (1 : Int64) h)
          (L_M_two_50 d r_0 x_1 x_2 x_3 (0 : Int64) h))
        (L_M_two_50 d r_0 x_1 x_2 x_3 (0 : Int64) h)) := (evs_xpd _ tx_M_two [25, 31, 50, 64, 79, 93, 107, 119] 124 _).trans rfl
set_option maxRecDepth 100000 in
theorem e_M_two_50 (d : Nat) (r_0 : Nat) (x_1 : Int32) (x_2 : Int32) (x_3 : Int32) (ys0 : Int64) (h : Hp) : L_M_two_50 d r_0 x_1 x_2 x_3 ys0 h =
    ifp (x_2 = x_1)
      (L_M_two_64 d r_0 x_1 x_2 x_3 ys0 (-1 : Int32) h)
      (L_M_two_64 d r_0 x_1 x_2 x_3 ys0 (0 : Int32) h) := (evs_xpd _ tx_M_two [25, 31, 50, 64, 79, 93, 107, 119] 124 _).trans rfl
set_option maxRecDepth 100000 in
theorem e_M_two_64 (d : Nat) (r_0 : Nat) (x_1 : Int32) (x_2 : Int32) (x_3 : Int32) (y_4 : Int64) (x_6 : Int32) (h : Hp) : L_M_two_64 d r_0 x_1 x_2 x_3 y_4 x_6 h =
    ifp (x_2 = x_1)
      (L_M_two_79 d r_0 x_1 x_2 x_3 y_4 x_6 (0 : Int32) x_6 h)
      (bI (evm d 177 [vR 12 r_0] h) fun x2 h1 =>
      L_M_two_79 d r_0 x_1 x_2 x_3 y_4 x_6 x2 x_6 h1) := (evs_xpd _ tx_M_two [25, 31, 50, 64, 79, 93, 107, 119] 124 _).trans rfl
set_option maxRecDepth 100000 in
theorem e_M_two_79 (d : Nat) (r_0 : Nat) (x_1 : Int32) (x_2 : Int32) (x_3 : Int32) (y_4 : Int64) (x_6 : Int32) (xs0 : Int32) (xs1 : Int32) (h : Hp) : L_M_two_79 d r_0 x_1 x_2 x_3 y_4 x_6 xs0 xs1 h =
    ifp (xs1 < xs0)
      (ifp (x_3 = 0)
        (L_M_two_93 d r_0 x_1 x_2 x_3 y_4 x_6 (-1 : Int32) h)
        (L_M_two_93 d r_0 x_1 x_2 x_3 y_4 x_6 (0 : Int32) h))
      (bR (hR h r_0 31) fun r1 =>
      ifp (inb (((25 : Int32) * x_2) + x_3) (hN h r1) = true) (
      L_M_two_31 d r_0 x_1 x_2 (x_3 + (1 : Int32)) (sL h r1 (ix (((25 : Int32) * x_2) + x_3)) y_4)) none) := (evs_xpd _ tx_M_two [25, 31, 50, 64, 79, 93, 107, 119] 124 _).trans rfl
set_option maxRecDepth 100000 in
theorem e_M_two_93 (d : Nat) (r_0 : Nat) (x_1 : Int32) (x_2 : Int32) (x_3 : Int32) (y_4 : Int64) (x_6 : Int32) (x_7 : Int32) (h : Hp) : L_M_two_93 d r_0 x_1 x_2 x_3 y_4 x_6 x_7 h =
    ifp (x_3 = 0)
      (L_M_two_107 d r_0 x_1 x_2 x_3 y_4 x_6 x_7 (0 : Int32) x_7 h)
      (bI (evm d 177 [vR 12 r_0] h) fun x2 h1 =>
      L_M_two_107 d r_0 x_1 x_2 x_3 y_4 x_6 x_7 x2 x_7 h1) := (evs_xpd _ tx_M_two [25, 31, 50, 64, 79, 93, 107, 119] 124 _).trans rfl
set_option maxRecDepth 100000 in
theorem e_M_two_107 (d : Nat) (r_0 : Nat) (x_1 : Int32) (x_2 : Int32) (x_3 : Int32) (y_4 : Int64) (x_6 : Int32) (x_7 : Int32) (xs0 : Int32) (xs1 : Int32) (h : Hp) : L_M_two_107 d r_0 x_1 x_2 x_3 y_4 x_6 x_7 xs0 xs1 h =
    ifp (xs1 < xs0)
      (ifp (x_2 < x_1)
        (L_M_two_119 d r_0 x_1 x_2 x_3 y_4 x_6 x_7 h)
        (ifp (0 < x_3)
          (L_M_two_119 d r_0 x_1 x_2 x_3 y_4 x_6 x_7 h)
          (L_M_two_64 d r_0 x_1 x_2 x_3 y_4 (x_6 + (1 : Int32)) h)))
      (L_M_two_64 d r_0 x_1 x_2 x_3 y_4 (x_6 + (1 : Int32)) h) := (evs_xpd _ tx_M_two [25, 31, 50, 64, 79, 93, 107, 119] 124 _).trans rfl
set_option maxRecDepth 100000 in
theorem e_M_two_119 (d : Nat) (r_0 : Nat) (x_1 : Int32) (x_2 : Int32) (x_3 : Int32) (y_4 : Int64) (x_6 : Int32) (x_7 : Int32) (h : Hp) : L_M_two_119 d r_0 x_1 x_2 x_3 y_4 x_6 x_7 h =
    bI (evm d 222 [vR 12 r_0, vI x_2, vI x_6, vI (1 : Int32)] h) fun x2 h1 =>
    bI (evm d 222 [vR 12 r_0, vI x_3, vI x_7, vI (-1 : Int32)] h1) fun x4 h3 =>
    ifp (x2 < 0)
      (L_M_two_93 d r_0 x_1 x_2 x_3 (y_4 + (0 : Int64)) x_6 (x_7 + (1 : Int32)) h3)
      (ifp (x4 < 0)
        (L_M_two_93 d r_0 x_1 x_2 x_3 (y_4 + (0 : Int64)) x_6 (x_7 + (1 : Int32)) h3)
        (ifp (x2 = x4)
          (L_M_two_93 d r_0 x_1 x_2 x_3 (y_4 + (0 : Int64)) x_6 (x_7 + (1 : Int32)) h3)
          (bR (hR h3 r_0 31) fun r5 =>
          ifp (inb (((25 : Int32) * x2) + x4) (hN h3 r5) = true) (
          L_M_two_93 d r_0 x_1 x_2 x_3 (y_4 + (hL h3 r5 (ix (((25 : Int32) * x2) + x4)))) x_6 (x_7 + (1 : Int32)) h3) none))) := (evs_xpd _ tx_M_two [25, 31, 50, 64, 79, 93, 107, 119] 124 _).trans rfl
set_option maxRecDepth 100000 in
theorem e_M_two (d : Nat) (r_0 : Nat) (h : Hp) : evm (d + 1) 223 [vR 12 r_0] h =
    bI (evm d 176 [vR 12 r_0] (sI h r_0 0 (0 : Int32))) fun x2 h1 =>
    ifp ((24 : Int32) < x2)
      (some (some (vL (-1 : Int64)), h1))
      (bI (evm d 176 [vR 12 r_0] h1) fun x4 h3 =>
      L_M_two_25 d r_0 x4 x4 h3) := (evs_xpd _ tx_M_two [25, 31, 50, 64, 79, 93, 107, 119] 124 _).trans rfl
noncomputable def L_M_game_35 (d : Nat) (r_0 : Nat) (x_1 : Int32) (h : Hp) : Option Rs := evs (evm d) tx_M_game (35, [some (vR 12 r_0), some (vI x_1)], [], h)
noncomputable def L_M_game_43 (d : Nat) (r_0 : Nat) (x_1 : Int32) (h : Hp) : Option Rs := evs (evm d) tx_M_game (43, [some (vR 12 r_0), some (vI x_1)], [], h)
set_option maxRecDepth 100000 in
theorem e_M_game_35 (d : Nat) (r_0 : Nat) (x_1 : Int32) (h : Hp) : L_M_game_35 d r_0 x_1 h =
    bI (evm d 177 [vR 12 r_0] h) fun x2 h1 =>
    ifp (x_1 < x2)
      (L_M_game_43 d r_0 x_1 h1)
      (some (some (vI (0 : Int32)), h1)) := (evs_xpd _ tx_M_game [35, 43] 72 _).trans rfl
set_option maxRecDepth 100000 in
theorem e_M_game_43 (d : Nat) (r_0 : Nat) (x_1 : Int32) (h : Hp) : L_M_game_43 d r_0 x_1 h =
    bI (evm d 198 [vR 12 r_0, vI x_1] h) fun x2 h1 =>
    ifp (x2 = 0)
      (L_M_game_35 d r_0 (x_1 + (1 : Int32)) h1)
      (bI (evm d 178 [vR 12 r_0, vI x_1] h1) fun x4 h3 =>
      bI (evm d 176 [vR 12 r_0] h3) fun x6 h5 =>
      ifp (((hI h1 r_0 19) + x4) = x6)
        (bI (evm d 178 [vR 12 r_0, vI x_1] h5) fun x8 h7 =>
        some (some (vI x8), h7))
        (bR (hR h5 r_0 23) fun r9 =>
        bI (evm d 185 [vR 12 r_0, vI (hI h5 r_0 21)] h5) fun x11 h10 =>
        bI (evm d 180 [vR 12 r_0] h10) fun x13 h12 =>
        bI (evm d 190 [vR 12 r_0, vI (hI h5 r_0 19), vI (hI h5 r_0 20), vI x11, vI (hI h10 r_0 22), vI x13, vI x_1] h12) fun x15 h14 =>
        ifp (inb x15 (hN h14 r9) = true) (
        ifp ((lg_cmp (hL h14 r9 (ix x15)) (0 : Int64)) = 0)
          (bI (evm d 178 [vR 12 r_0, vI x_1] h14) fun x17 h16 =>
          some (some (vI x17), h16))
          (L_M_game_35 d r_0 (x_1 + (1 : Int32)) h14)) none)) := (evs_xpd _ tx_M_game [35, 43] 72 _).trans rfl
set_option maxRecDepth 100000 in
theorem e_M_game (d : Nat) (r_0 : Nat) (h : Hp) : evm (d + 1) 224 [vR 12 r_0] h =
    bV (evm d 183 [vR 12 r_0] (sI (sI h r_0 0 (0 : Int32)) r_0 24 (0 : Int32))) fun h1 =>
    bI (evm d 176 [vR 12 r_0] h1) fun x3 h2 =>
    ifp ((hI h1 r_0 19) = x3)
      (some (some (vI (-1 : Int32)), h2))
      (bV (evm d 194 [vR 12 r_0, vI (-1 : Int32), vI (1 : Int32)] h2) fun h4 =>
      L_M_game_35 d r_0 (0 : Int32) h4) := (evs_xpd _ tx_M_game [35, 43] 72 _).trans rfl
noncomputable def L_M_findHeaps_5 (d : Nat) (r_0 : Nat) (x_1 : Int32) (h : Hp) : Option Rs := evs (evm d) tx_M_findHeaps (5, [some (vR 12 r_0), some (vI x_1), none, none, none], [], h)
noncomputable def L_M_findHeaps_13 (d : Nat) (r_0 : Nat) (x_1 : Int32) (x_2 : Int32) (x_3 : Int32) (h : Hp) : Option Rs := evs (evm d) tx_M_findHeaps (13, [some (vR 12 r_0), some (vI x_1), some (vI x_2), some (vI x_3), none], [], h)
noncomputable def L_M_findHeaps_73 (d : Nat) (r_0 : Nat) (x_1 : Int32) (x_2 : Int32) (x_3 : Int32) (h : Hp) : Option Rs := evs (evm d) tx_M_findHeaps (73, [some (vR 12 r_0), some (vI x_1), some (vI x_2), some (vI x_3), none], [], h)
set_option maxRecDepth 100000 in
theorem e_M_findHeaps_5 (d : Nat) (r_0 : Nat) (x_1 : Int32) (h : Hp) : L_M_findHeaps_5 d r_0 x_1 h =
    ifp (x_1 < 0)
      (some (none, h))
      (L_M_findHeaps_13 d r_0 x_1 (0 : Int32) (0 : Int32) h) := (evs_xpd _ tx_M_findHeaps [5, 13, 73] 78 _).trans rfl
set_option maxRecDepth 100000 in
theorem e_M_findHeaps_13 (d : Nat) (r_0 : Nat) (x_1 : Int32) (x_2 : Int32) (x_3 : Int32) (h : Hp) : L_M_findHeaps_13 d r_0 x_1 x_2 x_3 h =
    bI (evm d 177 [vR 12 r_0] h) fun x2 h1 =>
    ifp (x_3 < x2)
      (bI (evm d 178 [vR 12 r_0, vI x_3] h1) fun x4 h3 =>
      bI (evm d 176 [vR 12 r_0] h3) fun x6 h5 =>
      ifp (x6 < (x_1 + x4))
        (L_M_findHeaps_13 d r_0 x_1 (x_2 ||| (0 : Int32)) (x_3 + (1 : Int32)) h5)
        (bI (evm d 179 [vR 12 r_0, vI (x_1 + x4)] h5) fun x8 h7 =>
        ifp (x8 = (1 : Int32))
          (L_M_findHeaps_13 d r_0 x_1 (x_2 ||| (0 : Int32)) (x_3 + (1 : Int32)) h7)
          (bR (hR h7 r_0 32) fun r9 =>
          ifp (inb (x_1 + x4) (hN h7 r9) = true) (
          L_M_findHeaps_13 d r_0 x_1 (x_2 ||| ((1 : Int32) <<< ((hI h7 r9 (ix (x_1 + x4))) &&& 31))) (x_3 + (1 : Int32)) h7) none)))
      (L_M_findHeaps_73 d r_0 x_1 x_2 (0 : Int32) h1) := (evs_xpd _ tx_M_findHeaps [5, 13, 73] 78 _).trans rfl
set_option maxRecDepth 100000 in
theorem e_M_findHeaps_73 (d : Nat) (r_0 : Nat) (x_1 : Int32) (x_2 : Int32) (x_3 : Int32) (h : Hp) : L_M_findHeaps_73 d r_0 x_1 x_2 x_3 h =
    ifp (((x_2 >>> (x_3 &&& 31)) &&& (1 : Int32)) = (1 : Int32))
      (L_M_findHeaps_73 d r_0 x_1 x_2 (x_3 + (1 : Int32)) h)
      (bR (hR h r_0 32) fun r1 =>
      bI (evm d 179 [vR 12 r_0, vI x_1] h) fun x3 h2 =>
      ifp (x3 = (1 : Int32))
        (ifp (inb x_1 (hN h2 r1) = true) (
        L_M_findHeaps_5 d r_0 (x_1 + (-1 : Int32)) (sI h2 r1 (ix x_1) (-1 : Int32))) none)
        (bI (evm d 176 [vR 12 r_0] h2) fun x5 h4 =>
        ifp (x_1 = x5)
          (ifp (inb x_1 (hN h4 r1) = true) (
          L_M_findHeaps_5 d r_0 (x_1 + (-1 : Int32)) (sI h4 r1 (ix x_1) (0 : Int32))) none)
          (ifp (inb x_1 (hN h4 r1) = true) (
          L_M_findHeaps_5 d r_0 (x_1 + (-1 : Int32)) (sI h4 r1 (ix x_1) x_3)) none))) := (evs_xpd _ tx_M_findHeaps [5, 13, 73] 78 _).trans rfl
set_option maxRecDepth 100000 in
theorem e_M_findHeaps (d : Nat) (r_0 : Nat) (h : Hp) : evm (d + 1) 225 [vR 12 r_0] h =
    bI (evm d 176 [vR 12 r_0] h) fun x2 h1 =>
    L_M_findHeaps_5 d r_0 x2 h1 := (evs_xpd _ tx_M_findHeaps [5, 13, 73] 78 _).trans rfl
noncomputable def L_M_heaps_27 (d : Nat) (r_0 : Nat) (x_2 : Int32) (x_3 : Int32) (x_4 : Int32) (x_5 : Int32) (h : Hp) : Option Rs := evs (evm d) tx_M_heaps (27, [some (vR 12 r_0), none, some (vI x_2), some (vI x_3), some (vI x_4), some (vI x_5), none], [], h)
noncomputable def L_M_heaps_73 (d : Nat) (r_0 : Nat) (x_2 : Int32) (x_3 : Int32) (x_5 : Int32) (x_6 : Int32) (xs0 : Int32) (h : Hp) : Option Rs := evs (evm d) tx_M_heaps (73, [some (vR 12 r_0), none, some (vI x_2), some (vI x_3), none, some (vI x_5), some (vI x_6)], [vI xs0], h)
noncomputable def L_M_heaps_100 (d : Nat) (x_2 : Int32) (x_3 : Int32) (x_4 : Int32) (h : Hp) : Option Rs := evs (evm d) tx_M_heaps (100, [none, none, some (vI x_2), some (vI x_3), some (vI x_4), none, none], [], h)
set_option maxRecDepth 100000 in
theorem e_M_heaps_27 (d : Nat) (r_0 : Nat) (x_2 : Int32) (x_3 : Int32) (x_4 : Int32) (x_5 : Int32) (h : Hp) : L_M_heaps_27 d r_0 x_2 x_3 x_4 x_5 h =
    ifp (x_5 < (4 : Int32))
      (ifp (x_4 = 0)
        (L_M_heaps_100 d x_2 x_3 x_4 h)
        (ifp ((64 : Int32) = 0) none (
        ifp ((64 : Int32) = 0) none (
        bI (evm d 176 [vR 12 r_0] h) fun x2 h1 =>
        ifp (x2 < (irem x_2 (64 : Int32)))
          (L_M_heaps_73 d r_0 (x_2 / (64 : Int32)) x_3 x_5 (irem x_2 (64 : Int32)) (0 : Int32) h1)
          (bR (hR h1 r_0 32) fun r3 =>
          ifp (inb (irem x_2 (64 : Int32)) (hN h1 r3) = true) (
          ifp ((hI h1 r3 (ix (irem x_2 (64 : Int32)))) < 0)
            (L_M_heaps_73 d r_0 (x_2 / (64 : Int32)) x_3 x_5 (irem x_2 (64 : Int32)) (0 : Int32) h1)
            (L_M_heaps_73 d r_0 (x_2 / (64 : Int32)) x_3 x_5 (irem x_2 (64 : Int32)) (1 : Int32) h1)) none)))))
      (L_M_heaps_100 d x_2 x_3 x_4 h) := (evs_xpd _ tx_M_heaps [27, 73, 100] 73 _).trans rfl
set_option maxRecDepth 100000 in
theorem e_M_heaps_73 (d : Nat) (r_0 : Nat) (x_2 : Int32) (x_3 : Int32) (x_5 : Int32) (x_6 : Int32) (xs0 : Int32) (h : Hp) : L_M_heaps_73 d r_0 x_2 x_3 x_5 x_6 xs0 h =
    ifp (xs0 = 0)
      (L_M_heaps_27 d r_0 x_2 (x_3 ^^^ (0 : Int32)) xs0 (x_5 + (1 : Int32)) h)
      (bR (hR h r_0 32) fun r1 =>
      ifp (inb x_6 (hN h r1) = true) (
      L_M_heaps_27 d r_0 x_2 (x_3 ^^^ (hI h r1 (ix x_6))) xs0 (x_5 + (1 : Int32)) h) none) := (evs_xpd _ tx_M_heaps [27, 73, 100] 73 _).trans rfl
set_option maxRecDepth 100000 in
theorem e_M_heaps_100 (d : Nat) (x_2 : Int32) (x_3 : Int32) (x_4 : Int32) (h : Hp) : L_M_heaps_100 d x_2 x_3 x_4 h =
    ifp (x_4 = 0)
      (some (some (vI (-1 : Int32)), h))
      (ifp (0 < x_2)
        (some (some (vI (-1 : Int32)), h))
        (ifp (x_3 = 0)
          (some (some (vI (0 : Int32)), h))
          (some (some (vI (1 : Int32)), h)))) := (evs_xpd _ tx_M_heaps [27, 73, 100] 73 _).trans rfl
set_option maxRecDepth 100000 in
theorem e_M_heaps (d : Nat) (r_0 : Nat) (x_1 : Int32) (h : Hp) : evm (d + 1) 226 [vR 12 r_0, vI x_1] h =
    bV (evm d 225 [vR 12 r_0] (sI h r_0 0 (0 : Int32))) fun h1 =>
    ifp (x_1 < 0)
      (L_M_heaps_27 d r_0 x_1 (0 : Int32) (0 : Int32) (0 : Int32) h1)
      (L_M_heaps_27 d r_0 x_1 (0 : Int32) (1 : Int32) (0 : Int32) h1) := (evs_xpd _ tx_M_heaps [27, 73, 100] 73 _).trans rfl
set_option maxRecDepth 100000 in
theorem e_M_dust (d : Nat) (r_0 : Nat) (x_1 : Int32) (x_2 : Int32) (h : Hp) : evm (d + 1) 227 [vR 12 r_0, vI x_1, vI x_2] h =
    bI (evm d 176 [vR 12 r_0] (sI h r_0 0 (0 : Int32))) fun x2 h1 =>
    bI (evm d 154 [vI x_1, vI (1 : Int32), vI (x2 - (1 : Int32))] h1) fun x4 h3 =>
    ifp (x4 = 0)
      (some (some (vI (0 : Int32)), h3))
      (bI (evm d 154 [vI x_2, vI (0 : Int32), vI (2 : Int32)] h3) fun x6 h5 =>
      ifp (x6 = 0)
        (some (some (vI (0 : Int32)), h5))
        (bR (hR h5 r_0 17) fun r7 =>
        ifp (inb ((41 : Int32) + x_1) (hN h5 r7) = true) (
        some (some (vI (1 : Int32)), sI h5 r7 (ix ((41 : Int32) + x_1)) x_2)) none)) := (evs_xpd _ tx_M_dust [] 32 _).trans rfl
set_option maxRecDepth 100000 in
theorem e_M_fit (d : Nat) (r_0 : Nat) (h : Hp) : evm (d + 1) 228 [vR 12 r_0] h =
    bV (evm d 194 [vR 12 r_0, vI (-1 : Int32), vI (0 : Int32)] (sI (sI h r_0 0 (0 : Int32)) r_0 24 (1 : Int32))) fun h1 =>
    bR (hR (sI h1 r_0 24 (0 : Int32)) r_0 23) fun r2 =>
    bI (evm d 184 [vI (0 : Int32), vI (0 : Int32), vI (0 : Int32), vI (0 : Int32), vI (0 : Int32)] (sI h1 r_0 24 (0 : Int32))) fun x4 h3 =>
    ifp (inb x4 (hN h3 r2) = true) (
    some (some (vL (hL h3 r2 (ix x4))), h3)) none := (evs_xpd _ tx_M_fit [] 28 _).trans rfl
set_option maxRecDepth 100000 in
theorem e_M_isOpen (d : Nat) (r_0 : Nat) (x_1 : Int32) (h : Hp) : evm (d + 1) 229 [vR 12 r_0, vI x_1] h =
    bI (evm d 179 [vR 12 r_0, vI x_1] h) fun x2 h1 =>
    ifp (x2 = (1 : Int32))
      (some (some (vI (0 : Int32)), h1))
      (bR (hR h1 r_0 17) fun r3 =>
      ifp (inb ((41 : Int32) + x_1) (hN h1 r3) = true) (
      ifp ((hI h1 r3 (ix ((41 : Int32) + x_1))) = (2 : Int32))
        (some (some (vI (0 : Int32)), h1))
        (some (some (vI (1 : Int32)), h1))) none) := (evs_xpd _ tx_M_isOpen [] 22 _).trans rfl
noncomputable def L_M_findLeads_5 (d : Nat) (r_0 : Nat) (x_1 : Int32) (h : Hp) : Option Rs := evs (evm d) tx_M_findLeads (5, [some (vR 12 r_0), some (vI x_1), none, none, none, none], [], h)
noncomputable def L_M_findLeads_11 (d : Nat) (r_0 : Nat) (x_1 : Int32) (x_2 : Int32) (h : Hp) : Option Rs := evs (evm d) tx_M_findLeads (11, [some (vR 12 r_0), some (vI x_1), some (vI x_2), none, none, none], [], h)
noncomputable def L_M_findLeads_41 (d : Nat) (r_0 : Nat) (x_1 : Int32) (x_2 : Int32) (x_3 : Int32) (x_4 : Int32) (h : Hp) : Option Rs := evs (evm d) tx_M_findLeads (41, [some (vR 12 r_0), some (vI x_1), some (vI x_2), some (vI x_3), some (vI x_4), none], [], h)
noncomputable def L_M_findLeads_58 (d : Nat) (r_0 : Nat) (x_1 : Int32) (x_2 : Int32) (x_3 : Int32) (x_4 : Int32) (h : Hp) : Option Rs := evs (evm d) tx_M_findLeads (58, [some (vR 12 r_0), some (vI x_1), some (vI x_2), some (vI x_3), some (vI x_4), none], [], h)
noncomputable def L_M_findLeads_114 (d : Nat) (r_0 : Nat) (x_1 : Int32) (x_2 : Int32) (x_3 : Int32) (h : Hp) : Option Rs := evs (evm d) tx_M_findLeads (114, [some (vR 12 r_0), some (vI x_1), some (vI x_2), some (vI x_3), none, none], [], h)
set_option maxRecDepth 100000 in
theorem e_M_findLeads_5 (d : Nat) (r_0 : Nat) (x_1 : Int32) (h : Hp) : L_M_findLeads_5 d r_0 x_1 h =
    ifp (x_1 < 0)
      (some (none, h))
      (L_M_findLeads_11 d r_0 x_1 (0 : Int32) h) := (evs_xpd _ tx_M_findLeads [5, 11, 41, 58, 114] 81 _).trans rfl
set_option maxRecDepth 100000 in
theorem e_M_findLeads_11 (d : Nat) (r_0 : Nat) (x_1 : Int32) (x_2 : Int32) (h : Hp) : L_M_findLeads_11 d r_0 x_1 x_2 h =
    bI (evm d 176 [vR 12 r_0] h) fun x2 h1 =>
    ifp (x2 < x_2)
      (L_M_findLeads_5 d r_0 (x_1 + (-1 : Int32)) h1)
      (ifp (x_1 = x_2)
        (bI (evm d 229 [vR 12 r_0, vI x_1] h1) fun x4 h3 =>
        ifp (x4 = 0)
          (L_M_findLeads_41 d r_0 x_1 x_2 (0 : Int32) (0 : Int32) h3)
          (L_M_findLeads_41 d r_0 x_1 x_2 (1 : Int32) (0 : Int32) h3))
        (L_M_findLeads_41 d r_0 x_1 x_2 (0 : Int32) (0 : Int32) h1)) := (evs_xpd _ tx_M_findLeads [5, 11, 41, 58, 114] 81 _).trans rfl
set_option maxRecDepth 100000 in
theorem e_M_findLeads_41 (d : Nat) (r_0 : Nat) (x_1 : Int32) (x_2 : Int32) (x_3 : Int32) (x_4 : Int32) (h : Hp) : L_M_findLeads_41 d r_0 x_1 x_2 x_3 x_4 h =
    bI (evm d 177 [vR 12 r_0] h) fun x2 h1 =>
    ifp (x_4 < x2)
      (bI (evm d 229 [vR 12 r_0, vI x_1] h1) fun x4 h3 =>
      ifp (x4 = 0)
        (L_M_findLeads_114 d r_0 x_1 x_2 x_3 h3)
        (L_M_findLeads_58 d r_0 x_1 x_2 x_3 x_4 h3))
      (L_M_findLeads_114 d r_0 x_1 x_2 x_3 h1) := (evs_xpd _ tx_M_findLeads [5, 11, 41, 58, 114] 81 _).trans rfl
set_option maxRecDepth 100000 in
theorem e_M_findLeads_58 (d : Nat) (r_0 : Nat) (x_1 : Int32) (x_2 : Int32) (x_3 : Int32) (x_4 : Int32) (h : Hp) : L_M_findLeads_58 d r_0 x_1 x_2 x_3 x_4 h =
    bI (evm d 178 [vR 12 r_0, vI x_4] h) fun x2 h1 =>
    ifp (x_3 = 0)
      (ifp (x_2 < (x_1 + x2))
        (L_M_findLeads_41 d r_0 x_1 x_2 (0 : Int32) (x_4 + (1 : Int32)) h1)
        (bI (evm d 229 [vR 12 r_0, vI (x_1 + x2)] h1) fun x4 h3 =>
        ifp (x4 = 0)
          (L_M_findLeads_41 d r_0 x_1 x_2 (0 : Int32) (x_4 + (1 : Int32)) h3)
          (bR (hR h3 r_0 33) fun r5 =>
          ifp (inb (((41 : Int32) * (x_1 + x2)) + x_2) (hN h3 r5) = true) (
          ifp ((hI h3 r5 (ix (((41 : Int32) * (x_1 + x2)) + x_2))) = 0)
            (L_M_findLeads_41 d r_0 x_1 x_2 (0 : Int32) (x_4 + (1 : Int32)) h3)
            (L_M_findLeads_41 d r_0 x_1 x_2 (1 : Int32) (x_4 + (1 : Int32)) h3)) none)))
      (L_M_findLeads_41 d r_0 x_1 x_2 (1 : Int32) (x_4 + (1 : Int32)) h1) := (evs_xpd _ tx_M_findLeads [5, 11, 41, 58, 114] 81 _).trans rfl
set_option maxRecDepth 100000 in
theorem e_M_findLeads_114 (d : Nat) (r_0 : Nat) (x_1 : Int32) (x_2 : Int32) (x_3 : Int32) (h : Hp) : L_M_findLeads_114 d r_0 x_1 x_2 x_3 h =
    bR (hR h r_0 33) fun r1 =>
    ifp (inb (((41 : Int32) * x_1) + x_2) (hN h r1) = true) (
    bif isB x_3 then
    L_M_findLeads_11 d r_0 x_1 (x_2 + (1 : Int32)) (sI h r1 (ix (((41 : Int32) * x_1) + x_2)) x_3)
    else none) none := (evs_xpd _ tx_M_findLeads [5, 11, 41, 58, 114] 81 _).trans rfl
set_option maxRecDepth 100000 in
theorem e_M_findLeads (d : Nat) (r_0 : Nat) (h : Hp) : evm (d + 1) 230 [vR 12 r_0] h =
    bI (evm d 176 [vR 12 r_0] h) fun x2 h1 =>
    L_M_findLeads_5 d r_0 x2 h1 := (evs_xpd _ tx_M_findLeads [5, 11, 41, 58, 114] 81 _).trans rfl
set_option maxRecDepth 100000 in
theorem e_M_isTrodden (d : Nat) (r_0 : Nat) (x_1 : Int32) (h : Hp) : evm (d + 1) 231 [vR 12 r_0, vI x_1] h =
    bR (hR h r_0 17) fun r1 =>
    ifp (inb ((41 : Int32) + x_1) (hN h r1) = true) (
    ifp ((hI h r1 (ix ((41 : Int32) + x_1))) = (1 : Int32))
      (some (some (vI (1 : Int32)), h))
      (some (some (vI (0 : Int32)), h))) none := (evs_xpd _ tx_M_isTrodden [] 17 _).trans rfl
noncomputable def L_M_finds_4 (d : Nat) (r_0 : Nat) (x_1 : Int32) (x_2 : Int32) (h : Hp) : Option Rs := evs (evm d) tx_M_finds (4, [some (vR 12 r_0), some (vI x_1), some (vI x_2)], [], h)
noncomputable def L_M_finds_20 (d : Nat) (r_0 : Nat) (x_1 : Int32) (x_2 : Int32) (h : Hp) : Option Rs := evs (evm d) tx_M_finds (20, [some (vR 12 r_0), some (vI x_1), some (vI x_2)], [], h)
set_option maxRecDepth 100000 in
theorem e_M_finds_4 (d : Nat) (r_0 : Nat) (x_1 : Int32) (x_2 : Int32) (h : Hp) : L_M_finds_4 d r_0 x_1 x_2 h =
    bI (evm d 176 [vR 12 r_0] h) fun x2 h1 =>
    ifp (x_2 < x2)
      (bI (evm d 231 [vR 12 r_0, vI x_2] h1) fun x4 h3 =>
      ifp (x4 = 0)
        (L_M_finds_4 d r_0 x_1 (x_2 + (1 : Int32)) h3)
        (L_M_finds_20 d r_0 x_1 x_2 h3))
      (some (some (vI (0 : Int32)), h1)) := (evs_xpd _ tx_M_finds [4, 20] 59 _).trans rfl
set_option maxRecDepth 100000 in
theorem e_M_finds_20 (d : Nat) (r_0 : Nat) (x_1 : Int32) (x_2 : Int32) (h : Hp) : L_M_finds_20 d r_0 x_1 x_2 h =
    bR (hR h r_0 33) fun r1 =>
    ifp (inb (((41 : Int32) * x_1) + x_2) (hN h r1) = true) (
    ifp ((hI h r1 (ix (((41 : Int32) * x_1) + x_2))) = 0)
      (L_M_finds_4 d r_0 x_1 (x_2 + (1 : Int32)) h)
      (bR (hR h r_0 35) fun r2 =>
      ifp (inb x_2 (hN h r2) = true) (
      ifp ((hI h r2 (ix x_2)) = 0)
        (bR (hR h r_0 35) fun r3 =>
        ifp (inb x_2 (hN h r3) = true) (
        bR (hR (sI h r3 (ix x_2) (1 : Int32)) r_0 34) fun r4 =>
        ifp (inb x_2 (hN (sI h r3 (ix x_2) (1 : Int32)) r4) = true) (
        ifp ((hI (sI h r3 (ix x_2) (1 : Int32)) r4 (ix x_2)) < 0)
          (bR (hR (sI h r3 (ix x_2) (1 : Int32)) r_0 34) fun r5 =>
          ifp (inb x_2 (hN (sI h r3 (ix x_2) (1 : Int32)) r5) = true) (
          some (some (vI (1 : Int32)), sI (sI h r3 (ix x_2) (1 : Int32)) r5 (ix x_2) x_1)) none)
          (bR (hR (sI h r3 (ix x_2) (1 : Int32)) r_0 34) fun r6 =>
          ifp (inb x_2 (hN (sI h r3 (ix x_2) (1 : Int32)) r6) = true) (
          bI (evm d 232 [vR 12 r_0, vI (hI (sI h r3 (ix x_2) (1 : Int32)) r6 (ix x_2))] (sI h r3 (ix x_2) (1 : Int32))) fun x8 h7 =>
          ifp (x8 = 0)
            (L_M_finds_4 d r_0 x_1 (x_2 + (1 : Int32)) h7)
            (bR (hR h7 r_0 34) fun r9 =>
            ifp (inb x_2 (hN h7 r9) = true) (
            some (some (vI (1 : Int32)), sI h7 r9 (ix x_2) x_1)) none)) none)) none) none)
        (L_M_finds_4 d r_0 x_1 (x_2 + (1 : Int32)) h)) none)) none := (evs_xpd _ tx_M_finds [4, 20] 59 _).trans rfl
set_option maxRecDepth 100000 in
theorem e_M_finds (d : Nat) (r_0 : Nat) (x_1 : Int32) (h : Hp) : evm (d + 1) 232 [vR 12 r_0, vI x_1] h =
    L_M_finds_4 d r_0 x_1 (x_1 + (1 : Int32)) h := (evs_xpd _ tx_M_finds [4, 20] 59 _).trans rfl
noncomputable def L_M_fewest_13 (d : Nat) (r_0 : Nat) (x_1 : Int32) (x_2 : Int32) (h : Hp) : Option Rs := evs (evm d) tx_M_fewest (13, [some (vR 12 r_0), some (vI x_1), some (vI x_2), none], [], h)
noncomputable def L_M_fewest_57 (d : Nat) (r_0 : Nat) (x_1 : Int32) (x_2 : Int32) (h : Hp) : Option Rs := evs (evm d) tx_M_fewest (57, [some (vR 12 r_0), some (vI x_1), some (vI x_2), none], [], h)
noncomputable def L_M_fewest_71 (d : Nat) (r_0 : Nat) (x_2 : Int32) (xs0 : Int32) (xs1 : Int32) (h : Hp) : Option Rs := evs (evm d) tx_M_fewest (71, [some (vR 12 r_0), none, some (vI x_2), none], [vI xs0, vI xs1], h)
noncomputable def L_M_fewest_88 (d : Nat) (r_0 : Nat) (x_1 : Int32) (x_2 : Int32) (h : Hp) : Option Rs := evs (evm d) tx_M_fewest (88, [some (vR 12 r_0), some (vI x_1), some (vI x_2), none], [], h)
noncomputable def L_M_fewest_98 (d : Nat) (r_0 : Nat) (x_1 : Int32) (x_2 : Int32) (x_3 : Int32) (h : Hp) : Option Rs := evs (evm d) tx_M_fewest (98, [some (vR 12 r_0), some (vI x_1), some (vI x_2), some (vI x_3)], [], h)
set_option maxRecDepth 100000 in
theorem e_M_fewest_13 (d : Nat) (r_0 : Nat) (x_1 : Int32) (x_2 : Int32) (h : Hp) : L_M_fewest_13 d r_0 x_1 x_2 h =
    bI (evm d 176 [vR 12 r_0] h) fun x2 h1 =>
    ifp (x_2 < x2)
      (bI (evm d 231 [vR 12 r_0, vI x_2] h1) fun x4 h3 =>
      ifp (x4 = 0)
        (L_M_fewest_57 d r_0 x_1 x_2 h3)
        (bR (hR h3 r_0 33) fun r5 =>
        ifp (inb x_2 (hN h3 r5) = true) (
        ifp ((hI h3 r5 (ix x_2)) = 0)
          (some (some (vI (-1 : Int32)), h3))
          (bR (hR h3 r_0 33) fun r6 =>
          bI (evm d 176 [vR 12 r_0] h3) fun x8 h7 =>
          ifp (inb (((41 : Int32) * x_2) + x8) (hN h7 r6) = true) (
          ifp ((hI h7 r6 (ix (((41 : Int32) * x_2) + x8))) = 0)
            (some (some (vI (-1 : Int32)), h7))
            (L_M_fewest_57 d r_0 x_1 x_2 h7)) none)) none))
      (L_M_fewest_88 d r_0 x_1 (1 : Int32) h1) := (evs_xpd _ tx_M_fewest [13, 57, 71, 88, 98] 92 _).trans rfl
set_option maxRecDepth 100000 in
theorem e_M_fewest_57 (d : Nat) (r_0 : Nat) (x_1 : Int32) (x_2 : Int32) (h : Hp) : L_M_fewest_57 d r_0 x_1 x_2 h =
    bI (evm d 231 [vR 12 r_0, vI x_2] h) fun x2 h1 =>
    ifp (x2 = 0)
      (L_M_fewest_71 d r_0 x_2 (0 : Int32) x_1 h1)
      (L_M_fewest_71 d r_0 x_2 (1 : Int32) x_1 h1) := (evs_xpd _ tx_M_fewest [13, 57, 71, 88, 98] 92 _).trans rfl
set_option maxRecDepth 100000 in
theorem e_M_fewest_71 (d : Nat) (r_0 : Nat) (x_2 : Int32) (xs0 : Int32) (xs1 : Int32) (h : Hp) : L_M_fewest_71 d r_0 x_2 xs0 xs1 h =
    bR (hR h r_0 34) fun r1 =>
    ifp (inb x_2 (hN h r1) = true) (
    L_M_fewest_13 d r_0 (xs1 + xs0) (x_2 + (1 : Int32)) (sI h r1 (ix x_2) (-1 : Int32))) none := (evs_xpd _ tx_M_fewest [13, 57, 71, 88, 98] 92 _).trans rfl
set_option maxRecDepth 100000 in
theorem e_M_fewest_88 (d : Nat) (r_0 : Nat) (x_1 : Int32) (x_2 : Int32) (h : Hp) : L_M_fewest_88 d r_0 x_1 x_2 h =
    bI (evm d 176 [vR 12 r_0] h) fun x2 h1 =>
    ifp (x_2 < x2)
      (L_M_fewest_98 d r_0 x_1 x_2 (0 : Int32) h1)
      (some (some (vI x_1), h1)) := (evs_xpd _ tx_M_fewest [13, 57, 71, 88, 98] 92 _).trans rfl
set_option maxRecDepth 100000 in
theorem e_M_fewest_98 (d : Nat) (r_0 : Nat) (x_1 : Int32) (x_2 : Int32) (x_3 : Int32) (h : Hp) : L_M_fewest_98 d r_0 x_1 x_2 x_3 h =
    ifp ((40 : Int32) < x_3)
      (bI (evm d 231 [vR 12 r_0, vI x_2] h) fun x2 h1 =>
      ifp (x2 = 0)
        (L_M_fewest_88 d r_0 (x_1 - (0 : Int32)) (x_2 + (1 : Int32)) h1)
        (bI (evm d 232 [vR 12 r_0, vI x_2] h1) fun x4 h3 =>
        ifp (x4 = 0)
          (L_M_fewest_88 d r_0 (x_1 - (0 : Int32)) (x_2 + (1 : Int32)) h3)
          (L_M_fewest_88 d r_0 (x_1 - (1 : Int32)) (x_2 + (1 : Int32)) h3)))
      (bR (hR h r_0 35) fun r5 =>
      ifp (inb x_3 (hN h r5) = true) (
      L_M_fewest_98 d r_0 x_1 x_2 (x_3 + (1 : Int32)) (sI h r5 (ix x_3) (0 : Int32))) none) := (evs_xpd _ tx_M_fewest [13, 57, 71, 88, 98] 92 _).trans rfl
set_option maxRecDepth 100000 in
theorem e_M_fewest (d : Nat) (r_0 : Nat) (h : Hp) : evm (d + 1) 233 [vR 12 r_0] h =
    bV (evm d 230 [vR 12 r_0] (sI h r_0 0 (0 : Int32))) fun h1 =>
    L_M_fewest_13 d r_0 (0 : Int32) (1 : Int32) h1 := (evs_xpd _ tx_M_fewest [13, 57, 71, 88, 98] 92 _).trans rfl
noncomputable def L_M_still_50 (d : Nat) (x_1 : Int32) (x_2 : Int32) (x_3 : Int32) (x_4 : Int32) (x_5 : Int32) (h : Hp) : Option Rs := evs (evm d) tx_M_still (50, [none, some (vI x_1), some (vI x_2), some (vI x_3), some (vI x_4), some (vI x_5), none, none, none, none, none], [], h)
noncomputable def L_M_still_112 (d : Nat) (x_5 : Int32) (x_6 : Int32) (xs0 : Int32) (h : Hp) : Option Rs := evs (evm d) tx_M_still (112, [none, none, none, none, none, some (vI x_5), some (vI x_6), none, none, none, none], [vI xs0], h)
noncomputable def L_M_still_129 (d : Nat) (x_5 : Int32) (x_6 : Int32) (x_7 : Int32) (x_8 : Int32) (x_9 : Int32) (h : Hp) : Option Rs := evs (evm d) tx_M_still (129, [none, none, none, none, none, some (vI x_5), some (vI x_6), some (vI x_7), some (vI x_8), some (vI x_9), none], [], h)
set_option maxRecDepth 100000 in
theorem e_M_still_50 (d : Nat) (x_1 : Int32) (x_2 : Int32) (x_3 : Int32) (x_4 : Int32) (x_5 : Int32) (h : Hp) : L_M_still_50 d x_1 x_2 x_3 x_4 x_5 h =
    bI (evm d 154 [vI x_5, vI (0 : Int32), vI (1 : Int32)] h) fun x2 h1 =>
    ifp (x2 = 0)
      (some (some (vI (-1 : Int32)), h1))
      (ifp (x_2 = x_4)
        (some (some (vI (-1 : Int32)), h1))
        (ifp ((x_4 - x_2) < 0)
          (ifp ((x_4 - x_2) < 0)
            (L_M_still_112 d x_5 (-((x_1 * x_4) - (x_2 * x_3))) (-(x_4 - x_2)) h1)
            (L_M_still_112 d x_5 (-((x_1 * x_4) - (x_2 * x_3))) (x_4 - x_2) h1))
          (ifp ((x_4 - x_2) < 0)
            (L_M_still_112 d x_5 ((x_1 * x_4) - (x_2 * x_3)) (-(x_4 - x_2)) h1)
            (L_M_still_112 d x_5 ((x_1 * x_4) - (x_2 * x_3)) (x_4 - x_2) h1)))) := (evs_xpd _ tx_M_still [50, 112, 129] 93 _).trans rfl
set_option maxRecDepth 100000 in
theorem e_M_still_112 (d : Nat) (x_5 : Int32) (x_6 : Int32) (xs0 : Int32) (h : Hp) : L_M_still_112 d x_5 x_6 xs0 h =
    ifp (0 < x_6)
      (L_M_still_129 d x_5 x_6 xs0 x_6 xs0 h)
      (some (some (vI (-1 : Int32)), h)) := (evs_xpd _ tx_M_still [50, 112, 129] 93 _).trans rfl
set_option maxRecDepth 100000 in
theorem e_M_still_129 (d : Nat) (x_5 : Int32) (x_6 : Int32) (x_7 : Int32) (x_8 : Int32) (x_9 : Int32) (h : Hp) : L_M_still_129 d x_5 x_6 x_7 x_8 x_9 h =
    ifp (x_9 = 0)
      (ifp (x_5 = 0)
        (ifp (x_8 = 0) none (
        some (some (vI (x_6 / x_8)), h)))
        (ifp (x_8 = 0) none (
        some (some (vI (x_7 / x_8)), h))))
      (ifp (x_9 = 0) none (
      L_M_still_129 d x_5 x_6 x_7 x_9 (irem x_8 x_9) h)) := (evs_xpd _ tx_M_still [50, 112, 129] 93 _).trans rfl
set_option maxRecDepth 100000 in
theorem e_M_still (d : Nat) (r_0 : Nat) (x_1 : Int32) (x_2 : Int32) (x_3 : Int32) (x_4 : Int32) (x_5 : Int32) (h : Hp) : evm (d + 1) 234 [vR 12 r_0, vI x_1, vI x_2, vI x_3, vI x_4, vI x_5] h =
    bI (evm d 154 [vI x_1, vI (1 : Int32), vI (999 : Int32)] (sI h r_0 0 (0 : Int32))) fun x2 h1 =>
    ifp (x2 = 0)
      (some (some (vI (-1 : Int32)), h1))
      (bI (evm d 154 [vI x_2, vI (1 : Int32), vI (999 : Int32)] h1) fun x4 h3 =>
      ifp (x4 = 0)
        (some (some (vI (-1 : Int32)), h3))
        (bI (evm d 154 [vI x_3, vI (1 : Int32), vI (999 : Int32)] h3) fun x6 h5 =>
        ifp (x6 = 0)
          (some (some (vI (-1 : Int32)), h5))
          (bI (evm d 154 [vI x_4, vI (1 : Int32), vI (999 : Int32)] h5) fun x8 h7 =>
          ifp (x8 = 0)
            (some (some (vI (-1 : Int32)), h7))
            (L_M_still_50 d x_1 x_2 x_3 x_4 x_5 h7)))) := (evs_xpd _ tx_M_still [50, 112, 129] 93 _).trans rfl
set_option maxRecDepth 100000 in
theorem e_M_draw (d : Nat) (r_0 : Nat) (x_1 : Int32) (h : Hp) : evm (d + 1) 235 [vR 12 r_0, vI x_1] h =
    ifp ((2147483648 : Int64) = 0) none (
    ifp ((65536 : Int64) = 0) none (
    ifp (x_1.toInt64 = 0) none (
    some (some (vI ((lrem ((hL (sL h r_0 36 (lrem (((hL h r_0 36) * (1103515245 : Int64)) + (12345 : Int64)) (2147483648 : Int64))) r_0 36) / (65536 : Int64)) x_1.toInt64).toInt32)), sL h r_0 36 (lrem (((hL h r_0 36) * (1103515245 : Int64)) + (12345 : Int64)) (2147483648 : Int64)))))) := (evs_xpd _ tx_M_draw [] 24 _).trans rfl
noncomputable def L_M_fair_27 (d : Nat) (r_0 : Nat) (x_1 : Int32) (x_2 : Int32) (h : Hp) : Option Rs := evs (evm d) tx_M_fair (27, [some (vR 12 r_0), some (vI x_1), some (vI x_2), none, none, none, none], [], h)
set_option maxRecDepth 100000 in
theorem e_M_fair_27 (d : Nat) (r_0 : Nat) (x_1 : Int32) (x_2 : Int32) (h : Hp) : L_M_fair_27 d r_0 x_1 x_2 h =
    bV (evm d 183 [vR 12 r_0] h) fun h1 =>
    bV (evm d 194 [vR 12 r_0, vI (-1 : Int32), vI (0 : Int32)] h1) fun h2 =>
    bR (hR h2 r_0 23) fun r3 =>
    bI (evm d 197 [vR 12 r_0] h2) fun x5 h4 =>
    ifp (inb x5 (hN h4 r3) = true) (
    ifp ((lg_cmp (hL h4 r3 (ix x5)) (0 : Int64)) = 0)
      (some (some (vI (-1 : Int32)), h4))
      (bI (evm d 235 [vR 12 r_0, vI (32768 : Int32)] (sL h4 r_0 36 x_1.toInt64)) fun x7 h6 =>
      bI (evm d 235 [vR 12 r_0, vI (32768 : Int32)] h6) fun x9 h8 =>
      bI (evm d 235 [vR 12 r_0, vI (32768 : Int32)] h8) fun x11 h10 =>
      ifp ((hL h4 r3 (ix x5)) = 0) none (
      bI (evm d 209 [vR 12 r_0, vL (lrem ((((x7.toInt64 * (32768 : Int64)) + x9.toInt64) * (32768 : Int64)) + x11.toInt64) (hL h4 r3 (ix x5))), vI x_2] h10) fun x13 h12 =>
      some (some (vI x13), h12)))) none := (evs_xpd _ tx_M_fair [27] 72 _).trans rfl
set_option maxRecDepth 100000 in
theorem e_M_fair (d : Nat) (r_0 : Nat) (x_1 : Int32) (x_2 : Int32) (h : Hp) : evm (d + 1) 236 [vR 12 r_0, vI x_1, vI x_2] h =
    bI (evm d 154 [vI x_1, vI (0 : Int32), vI (9999 : Int32)] (sI (sI h r_0 0 (0 : Int32)) r_0 24 (0 : Int32))) fun x2 h1 =>
    ifp (x2 = 0)
      (some (some (vI (-1 : Int32)), h1))
      (ifp (x_2 < 0)
        (some (some (vI (-1 : Int32)), h1))
        (L_M_fair_27 d r_0 x_1 x_2 h1)) := (evs_xpd _ tx_M_fair [27] 72 _).trans rfl
noncomputable def L_M_climb_55 (d : Nat) (r_0 : Nat) (x_2 : Int32) (x_3 : Int32) (x_4 : Int32) (x_5 : Int32) (x_6 : Int32) (x_7 : Int32) (x_8 : Int32) (h : Hp) : Option Rs := evs (evm d) tx_M_climb (55, [some (vR 12 r_0), none, some (vI x_2), some (vI x_3), some (vI x_4), some (vI x_5), some (vI x_6), some (vI x_7), some (vI x_8), none, none], [], h)
noncomputable def L_M_climb_66 (d : Nat) (r_0 : Nat) (x_2 : Int32) (x_3 : Int32) (x_4 : Int32) (x_5 : Int32) (x_6 : Int32) (x_7 : Int32) (x_8 : Int32) (x_9 : Int32) (h : Hp) : Option Rs := evs (evm d) tx_M_climb (66, [some (vR 12 r_0), none, some (vI x_2), some (vI x_3), some (vI x_4), some (vI x_5), some (vI x_6), some (vI x_7), some (vI x_8), some (vI x_9), none], [], h)
noncomputable def L_M_climb_117 (d : Nat) (r_0 : Nat) (x_2 : Int32) (x_3 : Int32) (x_4 : Int32) (x_5 : Int32) (x_6 : Int32) (x_7 : Int32) (x_8 : Int32) (x_9 : Int32) (x_10 : Int32) (h : Hp) : Option Rs := evs (evm d) tx_M_climb (117, [some (vR 12 r_0), none, some (vI x_2), some (vI x_3), some (vI x_4), some (vI x_5), some (vI x_6), some (vI x_7), some (vI x_8), some (vI x_9), some (vI x_10)], [], h)
noncomputable def L_M_climb_203 (d : Nat) (r_0 : Nat) (x_2 : Int32) (x_3 : Int32) (x_4 : Int32) (x_6 : Int32) (x_7 : Int32) (x_8 : Int32) (x_10 : Int32) (xs0 : Int32) (xs1 : Int32) (h : Hp) : Option Rs := evs (evm d) tx_M_climb (203, [some (vR 12 r_0), none, some (vI x_2), some (vI x_3), some (vI x_4), none, some (vI x_6), some (vI x_7), some (vI x_8), none, some (vI x_10)], [vI xs0, vI xs1], h)
set_option maxRecDepth 100000 in
theorem e_M_climb_55 (d : Nat) (r_0 : Nat) (x_2 : Int32) (x_3 : Int32) (x_4 : Int32) (x_5 : Int32) (x_6 : Int32) (x_7 : Int32) (x_8 : Int32) (h : Hp) : L_M_climb_55 d r_0 x_2 x_3 x_4 x_5 x_6 x_7 x_8 h =
    ifp (0 < x_8)
      (L_M_climb_66 d r_0 x_2 x_3 x_4 x_5 x_6 x_7 (0 : Int32) (0 : Int32) h)
      (ifp (x_2 = 0)
        (some (some (vI x_3), h))
        (some (some (vI x_7), h))) := (evs_xpd _ tx_M_climb [55, 66, 117, 203] 139 _).trans rfl
set_option maxRecDepth 100000 in
theorem e_M_climb_66 (d : Nat) (r_0 : Nat) (x_2 : Int32) (x_3 : Int32) (x_4 : Int32) (x_5 : Int32) (x_6 : Int32) (x_7 : Int32) (x_8 : Int32) (x_9 : Int32) (h : Hp) : L_M_climb_66 d r_0 x_2 x_3 x_4 x_5 x_6 x_7 x_8 x_9 h =
    bI (evm d 177 [vR 12 r_0] h) fun x2 h1 =>
    ifp (x_9 < x2)
      (bI (evm d 214 [vR 12 r_0, vI x_3, vI x_4, vI x_5, vI x_6, vI x_7, vI x_9] h1) fun x6 h5 =>
      L_M_climb_66 d r_0 x_2 x_3 x_4 x_5 x_6 x_7 (x_8 + x6) (x_9 + (1 : Int32)) h5)
      (ifp (0 < x_8)
        (bI (evm d 235 [vR 12 r_0, vI x_8] h1) fun x4 h3 =>
        L_M_climb_117 d r_0 x_2 x_3 x_4 x_5 x_6 x_7 x_8 x4 (0 : Int32) h3)
        (L_M_climb_55 d r_0 x_2 x_3 x_4 x_5 x_6 x_7 x_8 h1)) := (evs_xpd _ tx_M_climb [55, 66, 117, 203] 139 _).trans rfl
set_option maxRecDepth 100000 in
theorem e_M_climb_117 (d : Nat) (r_0 : Nat) (x_2 : Int32) (x_3 : Int32) (x_4 : Int32) (x_5 : Int32) (x_6 : Int32) (x_7 : Int32) (x_8 : Int32) (x_9 : Int32) (x_10 : Int32) (h : Hp) : L_M_climb_117 d r_0 x_2 x_3 x_4 x_5 x_6 x_7 x_8 x_9 x_10 h =
    bI (evm d 214 [vR 12 r_0, vI x_3, vI x_4, vI x_5, vI x_6, vI x_7, vI x_10] h) fun x2 h1 =>
    ifp (x_9 < x2)
      (bI (evm d 178 [vR 12 r_0, vI x_10] h1) fun x4 h3 =>
      bI (evm d 179 [vR 12 r_0, vI (x_3 + x4)] h3) fun x6 h5 =>
      ifp (x6 = (2 : Int32))
        (bR (hR h5 r_0 10) fun r7 =>
        ifp (inb (1 : Int32) (hN h5 r7) = true) (
        ifp ((hI h5 r7 (ix (1 : Int32))) < 0)
          (L_M_climb_203 d r_0 x_2 (x_3 + x4) (x_10 + (1 : Int32)) x_6 x_7 x_8 x_10 (0 : Int32) x_5 h5)
          (L_M_climb_203 d r_0 x_2 (x_3 + x4) (x_10 + (1 : Int32)) x_6 x_7 x_8 x_10 (1 : Int32) x_5 h5)) none)
        (L_M_climb_203 d r_0 x_2 (x_3 + x4) (x_10 + (1 : Int32)) x_6 x_7 x_8 x_10 (0 : Int32) x_5 h5))
      (bI (evm d 214 [vR 12 r_0, vI x_3, vI x_4, vI x_5, vI x_6, vI x_7, vI x_10] h1) fun x9 h8 =>
      L_M_climb_117 d r_0 x_2 x_3 x_4 x_5 x_6 x_7 x_8 (x_9 - x9) (x_10 + (1 : Int32)) h8) := (evs_xpd _ tx_M_climb [55, 66, 117, 203] 139 _).trans rfl
set_option maxRecDepth 100000 in
theorem e_M_climb_203 (d : Nat) (r_0 : Nat) (x_2 : Int32) (x_3 : Int32) (x_4 : Int32) (x_6 : Int32) (x_7 : Int32) (x_8 : Int32) (x_10 : Int32) (xs0 : Int32) (xs1 : Int32) (h : Hp) : L_M_climb_203 d r_0 x_2 x_3 x_4 x_6 x_7 x_8 x_10 xs0 xs1 h =
    bI (evm d 178 [vR 12 r_0, vI x_10] h) fun x2 h1 =>
    bI (evm d 182 [vR 12 r_0, vI x2] h1) fun x4 h3 =>
    ifp (x4 = 0)
      (L_M_climb_55 d r_0 x_2 x_3 x_4 (xs1 + xs0) (x_6 + (0 : Int32)) (x_7 + (1 : Int32)) x_8 h3)
      (L_M_climb_55 d r_0 x_2 x_3 x_4 (xs1 + xs0) (x_6 + (1 : Int32)) (x_7 + (1 : Int32)) x_8 h3) := (evs_xpd _ tx_M_climb [55, 66, 117, 203] 139 _).trans rfl
set_option maxRecDepth 100000 in
theorem e_M_climb (d : Nat) (r_0 : Nat) (x_1 : Int32) (x_2 : Int32) (h : Hp) : evm (d + 1) 237 [vR 12 r_0, vI x_1, vI x_2] h =
    bI (evm d 154 [vI x_1, vI (0 : Int32), vI (9999 : Int32)] (sI (sI h r_0 0 (0 : Int32)) r_0 24 (0 : Int32))) fun x2 h1 =>
    ifp (x2 = 0)
      (some (some (vI (-1 : Int32)), h1))
      (bI (evm d 154 [vI x_2, vI (0 : Int32), vI (1 : Int32)] h1) fun x4 h3 =>
      ifp (x4 = 0)
        (some (some (vI (-1 : Int32)), h3))
        (L_M_climb_55 d r_0 x_2 (0 : Int32) (0 : Int32) (0 : Int32) (0 : Int32) (0 : Int32) (1 : Int32) (sL h3 r_0 36 x_1.toInt64))) := (evs_xpd _ tx_M_climb [55, 66, 117, 203] 139 _).trans rfl
noncomputable def L_M_mark_29 (d : Nat) (r_0 : Nat) (x_1 : Int32) (x_2 : Int32) (h : Hp) : Option Rs := evs (evm d) tx_M_mark (29, [some (vR 12 r_0), some (vI x_1), some (vI x_2), none, none, none], [], h)
noncomputable def L_M_mark_47 (d : Nat) (r_0 : Nat) (x_1 : Int32) (x_2 : Int32) (xs0 : Int32) (h : Hp) : Option Rs := evs (evm d) tx_M_mark (47, [some (vR 12 r_0), some (vI x_1), some (vI x_2), none, none, none], [vI xs0], h)
noncomputable def L_M_mark_64 (d : Nat) (r_0 : Nat) (x_3 : Int32) (x_4 : Int32) (x_5 : Int32) (h : Hp) : Option Rs := evs (evm d) tx_M_mark (64, [some (vR 12 r_0), none, none, some (vI x_3), some (vI x_4), some (vI x_5)], [], h)
set_option maxRecDepth 100000 in
theorem e_M_mark_29 (d : Nat) (r_0 : Nat) (x_1 : Int32) (x_2 : Int32) (h : Hp) : L_M_mark_29 d r_0 x_1 x_2 h =
    bR (hR h r_0 18) fun r1 =>
    ifp (inb x_1 (hN h r1) = true) (
    ifp (x_2 = 0)
      (L_M_mark_47 d r_0 x_1 x_2 (0 : Int32) (sI h r1 (ix x_1) (1 : Int32)))
      (L_M_mark_47 d r_0 x_1 x_2 ((1 : Int32) + x_1) (sI h r1 (ix x_1) (1 : Int32)))) none := (evs_xpd _ tx_M_mark [29, 47, 64] 68 _).trans rfl
set_option maxRecDepth 100000 in
theorem e_M_mark_47 (d : Nat) (r_0 : Nat) (x_1 : Int32) (x_2 : Int32) (xs0 : Int32) (h : Hp) : L_M_mark_47 d r_0 x_1 x_2 xs0 h =
    ifp (x_2 = 0)
      (L_M_mark_64 d r_0 xs0 ((1 : Int32) + x_1) (0 : Int32) h)
      (L_M_mark_64 d r_0 xs0 (0 : Int32) (0 : Int32) h) := (evs_xpd _ tx_M_mark [29, 47, 64] 68 _).trans rfl
set_option maxRecDepth 100000 in
theorem e_M_mark_64 (d : Nat) (r_0 : Nat) (x_3 : Int32) (x_4 : Int32) (x_5 : Int32) (h : Hp) : L_M_mark_64 d r_0 x_3 x_4 x_5 h =
    ifp (x_5 < (84 : Int32))
      (bR (hR h r_0 17) fun r1 =>
      bR (hR h r_0 17) fun r2 =>
      ifp (inb (((84 : Int32) * x_3) + x_5) (hN h r2) = true) (
      ifp (inb (((84 : Int32) * x_4) + x_5) (hN h r1) = true) (
      L_M_mark_64 d r_0 x_3 x_4 (x_5 + (1 : Int32)) (sI h r1 (ix (((84 : Int32) * x_4) + x_5)) (hI h r2 (ix (((84 : Int32) * x_3) + x_5))))) none) none)
      (some (some (vI (1 : Int32)), h)) := (evs_xpd _ tx_M_mark [29, 47, 64] 68 _).trans rfl
set_option maxRecDepth 100000 in
theorem e_M_mark (d : Nat) (r_0 : Nat) (x_1 : Int32) (x_2 : Int32) (h : Hp) : evm (d + 1) 238 [vR 12 r_0, vI x_1, vI x_2] h =
    bI (evm d 154 [vI x_1, vI (0 : Int32), vI (3 : Int32)] (sI h r_0 0 (0 : Int32))) fun x2 h1 =>
    ifp (x2 = 0)
      (some (some (vI (0 : Int32)), h1))
      (ifp (x_2 = 0)
        (L_M_mark_29 d r_0 x_1 x_2 h1)
        (bR (hR h1 r_0 18) fun r3 =>
        ifp (inb x_1 (hN h1 r3) = true) (
        ifp ((hI h1 r3 (ix x_1)) = 0)
          (some (some (vI (0 : Int32)), h1))
          (L_M_mark_29 d r_0 x_1 x_2 h1)) none)) := (evs_xpd _ tx_M_mark [29, 47, 64] 68 _).trans rfl
set_option maxRecDepth 100000 in
theorem e_M_count (d : Nat) (r_0 : Nat) (x_1 : Int32) (h : Hp) : evm (d + 1) 239 [vR 12 r_0, vI x_1] h =
    bV (evm d 183 [vR 12 r_0] (sI h r_0 0 (0 : Int32))) fun h1 =>
    ifp (x_1 = (0 : Int32))
      (bI (evm d 176 [vR 12 r_0] h1) fun x3 h2 =>
      some (some (vI x3), h2))
      (ifp (x_1 = ((0 : Int32) + 1))
      (some (some (vI (hI h1 r_0 19)), h1))
      (ifp (x_1 = (((0 : Int32) + 1) + 1))
      (bI (evm d 180 [vR 12 r_0] h1) fun x5 h4 =>
      some (some (vI x5), h4))
      (ifp (x_1 = ((((0 : Int32) + 1) + 1) + 1))
      (some (some (vI (hI h1 r_0 21)), h1))
      (ifp (x_1 = (((((0 : Int32) + 1) + 1) + 1) + 1))
      (some (some (vI (hI h1 r_0 22)), h1))
      (ifp (x_1 = ((((((0 : Int32) + 1) + 1) + 1) + 1) + 1))
      (bI (evm d 177 [vR 12 r_0] h1) fun x7 h6 =>
      some (some (vI x7), h6))
      (ifp (x_1 = (((((((0 : Int32) + 1) + 1) + 1) + 1) + 1) + 1))
      (bR (hR h1 r_0 10) fun r8 =>
      ifp (inb (15 : Int32) (hN h1 r8) = true) (
      some (some (vI (hI h1 r8 (ix (15 : Int32)))), h1)) none)
      (ifp (x_1 = ((((((((0 : Int32) + 1) + 1) + 1) + 1) + 1) + 1) + 1))
      (some (some (vI (hI h1 r_0 2)), h1))
      (
      some (some (vI (-1 : Int32)), h1))))))))) := (evs_xpd _ tx_M_count [] 40 _).trans rfl
