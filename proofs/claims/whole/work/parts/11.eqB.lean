set_option maxRecDepth 100000 in
theorem e_StairReader_new (d : Nat) (r_0 : Nat) (h : Hp) : evm (d + 1) 38 [vR 6 r_0] h =
    alc h fun q1 =>
    bV (evm d 66 [vR 8 q1] (sN h 8 0 6)) fun h2 =>
    some (none, sR h2 r_0 0 q1) := (evs_xpd _ tx_StairReader_new [] 13 _).trans rfl
noncomputable def L_StairReader_read_29 (d : Nat) (r_0 : Nat) (r_1 : Nat) (x_2 : Int32) (x_3 : Int32) (h : Hp) : Option Rs := evs (evm d) tx_StairReader_read (29, [some (vR 6 r_0), some (vR 5 r_1), some (vI x_2), some (vI x_3)], [], h)
noncomputable def L_StairReader_read_62 (d : Nat) (r_0 : Nat) (r_1 : Nat) (h : Hp) : Option Rs := evs (evm d) tx_StairReader_read (62, [some (vR 6 r_0), some (vR 5 r_1), none, none], [], h)
set_option maxRecDepth 100000 in
theorem e_StairReader_read_29 (d : Nat) (r_0 : Nat) (r_1 : Nat) (x_2 : Int32) (x_3 : Int32) (h : Hp) : L_StairReader_read_29 d r_0 r_1 x_2 x_3 h =
    ifp (x_3 < (1000 : Int32))
      (ifp (x_2 = 0)
        (L_StairReader_read_62 d r_0 r_1 h)
        (bR (hR h r_0 0) fun r1 =>
        ifp ((hI h r1 2) = 0)
          (L_StairReader_read_62 d r_0 r_1 h)
          (bI (evm d 41 [vR 6 r_0, vR 5 r_1] h) fun x3 h2 =>
          L_StairReader_read_29 d r_0 r_1 x3 (x_3 + (1 : Int32)) h2)))
      (L_StairReader_read_62 d r_0 r_1 h) := (evs_xpd _ tx_StairReader_read [29, 62] 49 _).trans rfl
set_option maxRecDepth 100000 in
theorem e_StairReader_read_62 (d : Nat) (r_0 : Nat) (r_1 : Nat) (h : Hp) : L_StairReader_read_62 d r_0 r_1 h =
    bR (hR h r_0 0) fun r1 =>
    ifp ((hI (sI h r1 1 (0 : Int32)) r_0 2) = 0)
      (bV (evm d 26 [vR 5 r_1] (sI h r1 1 (0 : Int32))) fun h2 =>
      some (some (vI (hI h2 r_0 2)), h2))
      (some (some (vI (hI (sI h r1 1 (0 : Int32)) r_0 2)), sI h r1 1 (0 : Int32))) := (evs_xpd _ tx_StairReader_read [29, 62] 49 _).trans rfl
set_option maxRecDepth 100000 in
theorem e_StairReader_read (d : Nat) (r_0 : Nat) (r_1 : Nat) (h : Hp) : evm (d + 1) 39 [vR 6 r_0, vR 5 r_1] h =
    bV (evm d 25 [vR 5 r_1] (sI (sI h r_0 1 (0 : Int32)) r_0 2 (0 : Int32))) fun h1 =>
    bR (hR h1 r_0 0) fun r2 =>
    bV (evm d 68 [vR 8 r2] h1) fun h3 =>
    bI (evm d 40 [vR 6 r_0, vR 5 r_1] h3) fun x5 h4 =>
    L_StairReader_read_29 d r_0 r_1 x5 (0 : Int32) h4 := (evs_xpd _ tx_StairReader_read [29, 62] 49 _).trans rfl
set_option maxRecDepth 100000 in
theorem e_StairReader_readFirst (d : Nat) (r_0 : Nat) (r_1 : Nat) (h : Hp) : evm (d + 1) 40 [vR 6 r_0, vR 5 r_1] h =
    bI (evm d 58 [vR 6 r_0, vR 40 1] h) fun x2 h1 =>
    ifp (x2 = 0)
      (some (some (vI (0 : Int32)), h1))
      (bI (evm d 57 [vR 6 r_0, vI (1 : Int32), vI (40 : Int32)] h1) fun x4 h3 =>
      ifp (x4 = 0)
        (some (some (vI (0 : Int32)), h3))
        (bI (evm d 59 [vR 6 r_0, vI (59 : Int32)] (sI h3 r_1 7 (hI h3 r_0 3))) fun x6 h5 =>
        bif isB x6 then some (some (vI x6), h5) else none)) := (evs_xpd _ tx_StairReader_readFirst [] 24 _).trans rfl
noncomputable def L_StairReader_readLine_34 (d : Nat) (r_0 : Nat) (r_1 : Nat) (h : Hp) : Option Rs := evs (evm d) tx_StairReader_readLine (34, [some (vR 6 r_0), some (vR 5 r_1)], [], h)
noncomputable def L_StairReader_readLine_91 (d : Nat) (r_0 : Nat) (r_1 : Nat) (h : Hp) : Option Rs := evs (evm d) tx_StairReader_readLine (91, [some (vR 6 r_0), some (vR 5 r_1)], [], h)
noncomputable def L_StairReader_readLine_177 (d : Nat) (r_0 : Nat) (r_1 : Nat) (h : Hp) : Option Rs := evs (evm d) tx_StairReader_readLine (177, [some (vR 6 r_0), some (vR 5 r_1)], [], h)
noncomputable def L_StairReader_readLine_247 (d : Nat) (r_0 : Nat) (r_1 : Nat) (h : Hp) : Option Rs := evs (evm d) tx_StairReader_readLine (247, [some (vR 6 r_0), some (vR 5 r_1)], [], h)
set_option maxRecDepth 100000 in
theorem e_StairReader_readLine_34 (d : Nat) (r_0 : Nat) (r_1 : Nat) (h : Hp) : L_StairReader_readLine_34 d r_0 r_1 h =
    bR (hR h r_0 0) fun r1 =>
    bI (evm d 70 [vR 8 r1, vR 40 3] h) fun x3 h2 =>
    ifp (x3 = 0)
      (bR (hR h2 r_0 0) fun r4 =>
      bI (evm d 70 [vR 8 r4, vR 40 4] h2) fun x6 h5 =>
      ifp (x6 = 0)
        (bR (hR h5 r_0 0) fun r7 =>
        bI (evm d 70 [vR 8 r7, vR 40 5] h5) fun x9 h8 =>
        ifp (x9 = 0)
          (L_StairReader_readLine_91 d r_0 r_1 h8)
          (bI (evm d 43 [vR 6 r_0, vR 5 r_1, vI (3 : Int32)] h8) fun x11 h10 =>
          bif isB x11 then some (some (vI x11), h10) else none))
        (bI (evm d 43 [vR 6 r_0, vR 5 r_1, vI (2 : Int32)] h5) fun x13 h12 =>
        bif isB x13 then some (some (vI x13), h12) else none))
      (bI (evm d 43 [vR 6 r_0, vR 5 r_1, vI (1 : Int32)] h2) fun x15 h14 =>
      bif isB x15 then some (some (vI x15), h14) else none) := (evs_xpd _ tx_StairReader_readLine [34, 91, 177, 247] 156 _).trans rfl
set_option maxRecDepth 100000 in
theorem e_StairReader_readLine_91 (d : Nat) (r_0 : Nat) (r_1 : Nat) (h : Hp) : L_StairReader_readLine_91 d r_0 r_1 h =
    bR (hR h r_0 0) fun r1 =>
    bI (evm d 70 [vR 8 r1, vR 40 6] h) fun x3 h2 =>
    ifp (x3 = 0)
      (bR (hR h2 r_0 0) fun r4 =>
      bI (evm d 70 [vR 8 r4, vR 40 7] h2) fun x6 h5 =>
      ifp (x6 = 0)
        (bR (hR h5 r_0 0) fun r7 =>
        bI (evm d 70 [vR 8 r7, vR 40 8] h5) fun x9 h8 =>
        ifp (x9 = 0)
          (L_StairReader_readLine_177 d r_0 r_1 h8)
          (bI (evm d 55 [vR 6 r_0, vI (4 : Int32)] h8) fun x11 h10 =>
          ifp (x11 = 0)
            (some (some (vI (0 : Int32)), h10))
            (bI (evm d 46 [vR 6 r_0, vR 5 r_1] h10) fun x13 h12 =>
            ifp (x13 = 0)
              (some (some (vI (0 : Int32)), h12))
              (some (some (vI (1 : Int32)), h12)))))
        (bI (evm d 45 [vR 6 r_0, vR 5 r_1] h5) fun x15 h14 =>
        bif isB x15 then some (some (vI x15), h14) else none))
      (bI (evm d 55 [vR 6 r_0, vI (2 : Int32)] h2) fun x17 h16 =>
      ifp (x17 = 0)
        (some (some (vI (0 : Int32)), h16))
        (bI (evm d 44 [vR 6 r_0, vR 5 r_1] h16) fun x19 h18 =>
        ifp (x19 = 0)
          (some (some (vI (0 : Int32)), h18))
          (some (some (vI (1 : Int32)), h18)))) := (evs_xpd _ tx_StairReader_readLine [34, 91, 177, 247] 156 _).trans rfl
set_option maxRecDepth 100000 in
theorem e_StairReader_readLine_177 (d : Nat) (r_0 : Nat) (r_1 : Nat) (h : Hp) : L_StairReader_readLine_177 d r_0 r_1 h =
    bR (hR h r_0 0) fun r1 =>
    bI (evm d 70 [vR 8 r1, vR 40 11] h) fun x3 h2 =>
    ifp (x3 = 0)
      (bR (hR h2 r_0 0) fun r4 =>
      bI (evm d 70 [vR 8 r4, vR 40 13] h2) fun x6 h5 =>
      ifp (x6 = 0)
        (L_StairReader_readLine_247 d r_0 r_1 h5)
        (bI (evm d 55 [vR 6 r_0, vI (16 : Int32)] h5) fun x8 h7 =>
        ifp (x8 = 0)
          (some (some (vI (0 : Int32)), h7))
          (bI (evm d 48 [vR 6 r_0, vR 5 r_1] h7) fun x10 h9 =>
          ifp (x10 = 0)
            (some (some (vI (0 : Int32)), h9))
            (some (some (vI (1 : Int32)), h9)))))
      (bI (evm d 55 [vR 6 r_0, vI (8 : Int32)] h2) fun x12 h11 =>
      ifp (x12 = 0)
        (some (some (vI (0 : Int32)), h11))
        (bI (evm d 47 [vR 6 r_0, vR 5 r_1] h11) fun x14 h13 =>
        ifp (x14 = 0)
          (some (some (vI (0 : Int32)), h13))
          (some (some (vI (1 : Int32)), h13)))) := (evs_xpd _ tx_StairReader_readLine [34, 91, 177, 247] 156 _).trans rfl
set_option maxRecDepth 100000 in
theorem e_StairReader_readLine_247 (d : Nat) (r_0 : Nat) (r_1 : Nat) (h : Hp) : L_StairReader_readLine_247 d r_0 r_1 h =
    bR (hR h r_0 0) fun r1 =>
    bI (evm d 70 [vR 8 r1, vR 40 15] h) fun x3 h2 =>
    ifp (x3 = 0)
      (bI (evm d 60 [vR 6 r_0, vI (1 : Int32)] h2) fun x5 h4 =>
      bif isB x5 then some (some (vI x5), h4) else none)
      (bI (evm d 55 [vR 6 r_0, vI (32 : Int32)] h2) fun x7 h6 =>
      ifp (x7 = 0)
        (some (some (vI (0 : Int32)), h6))
        (bR (hR h6 r_1 6) fun r8 =>
        bI (evm d 49 [vR 6 r_0, vR 2 r8, vI (0 : Int32)] h6) fun x10 h9 =>
        ifp (x10 = 0)
          (some (some (vI (0 : Int32)), h9))
          (bI (evm d 59 [vR 6 r_0, vI (59 : Int32)] h9) fun x12 h11 =>
          ifp (x12 = 0)
            (some (some (vI (0 : Int32)), h11))
            (some (some (vI (1 : Int32)), h11))))) := (evs_xpd _ tx_StairReader_readLine [34, 91, 177, 247] 156 _).trans rfl
set_option maxRecDepth 100000 in
theorem e_StairReader_readLine (d : Nat) (r_0 : Nat) (r_1 : Nat) (h : Hp) : evm (d + 1) 41 [vR 6 r_0, vR 5 r_1] h =
    bR (hR h r_0 0) fun r1 =>
    bI (evm d 70 [vR 8 r1, vR 40 2] h) fun x3 h2 =>
    ifp (x3 = 0)
      (L_StairReader_readLine_34 d r_0 r_1 h2)
      (bI (evm d 55 [vR 6 r_0, vI (1 : Int32)] h2) fun x5 h4 =>
      ifp (x5 = 0)
        (some (some (vI (0 : Int32)), h4))
        (bI (evm d 42 [vR 6 r_0, vR 5 r_1] h4) fun x7 h6 =>
        ifp (x7 = 0)
          (some (some (vI (0 : Int32)), h6))
          (some (some (vI (1 : Int32)), h6)))) := (evs_xpd _ tx_StairReader_readLine [34, 91, 177, 247] 156 _).trans rfl
noncomputable def L_StairReader_readStrides_2 (d : Nat) (r_0 : Nat) (r_1 : Nat) (x_2 : Int32) (h : Hp) : Option Rs := evs (evm d) tx_StairReader_readStrides (2, [some (vR 6 r_0), some (vR 5 r_1), some (vI x_2)], [], h)
noncomputable def L_StairReader_readStrides_27 (d : Nat) (r_0 : Nat) (r_1 : Nat) (x_2 : Int32) (h : Hp) : Option Rs := evs (evm d) tx_StairReader_readStrides (27, [some (vR 6 r_0), some (vR 5 r_1), some (vI x_2)], [], h)
noncomputable def L_StairReader_readStrides_58 (d : Nat) (r_0 : Nat) (r_1 : Nat) (x_2 : Int32) (h : Hp) : Option Rs := evs (evm d) tx_StairReader_readStrides (58, [some (vR 6 r_0), some (vR 5 r_1), some (vI x_2)], [], h)
set_option maxRecDepth 100000 in
theorem e_StairReader_readStrides_2 (d : Nat) (r_0 : Nat) (r_1 : Nat) (x_2 : Int32) (h : Hp) : L_StairReader_readStrides_2 d r_0 r_1 x_2 h =
    ifp ((6 : Int32) < x_2)
      (bI (evm d 59 [vR 6 r_0, vI (59 : Int32)] h) fun x2 h1 =>
      bif isB x2 then some (some (vI x2), h1) else none)
      (ifp (0 < x_2)
        (bR (hR h r_0 0) fun r3 =>
        ifp ((hI h r3 2) = (59 : Int32))
          (bI (evm d 59 [vR 6 r_0, vI (59 : Int32)] h) fun x5 h4 =>
          bif isB x5 then some (some (vI x5), h4) else none)
          (L_StairReader_readStrides_27 d r_0 r_1 x_2 h))
        (L_StairReader_readStrides_27 d r_0 r_1 x_2 h)) := (evs_xpd _ tx_StairReader_readStrides [2, 27, 58] 61 _).trans rfl
set_option maxRecDepth 100000 in
theorem e_StairReader_readStrides_27 (d : Nat) (r_0 : Nat) (r_1 : Nat) (x_2 : Int32) (h : Hp) : L_StairReader_readStrides_27 d r_0 r_1 x_2 h =
    bR (hR h r_0 0) fun r1 =>
    ifp ((hI h r1 2) = (3 : Int32))
      (bR (hR h r_0 0) fun r2 =>
      bI (evm d 28 [vR 5 r_1, vI (hI h r2 5)] h) fun x4 h3 =>
      ifp (x4 = 0)
        (L_StairReader_readStrides_58 d r_0 r_1 x_2 h3)
        (bI (evm d 60 [vR 6 r_0, vI (3 : Int32)] h3) fun x6 h5 =>
        bif isB x6 then some (some (vI x6), h5) else none))
      (L_StairReader_readStrides_58 d r_0 r_1 x_2 h) := (evs_xpd _ tx_StairReader_readStrides [2, 27, 58] 61 _).trans rfl
set_option maxRecDepth 100000 in
theorem e_StairReader_readStrides_58 (d : Nat) (r_0 : Nat) (r_1 : Nat) (x_2 : Int32) (h : Hp) : L_StairReader_readStrides_58 d r_0 r_1 x_2 h =
    bI (evm d 56 [vR 6 r_0, vI (1 : Int32), vI (12 : Int32)] h) fun x2 h1 =>
    ifp (x2 = 0)
      (some (some (vI (0 : Int32)), h1))
      (ifp (x_2 = (6 : Int32))
        (bI (evm d 60 [vR 6 r_0, vI (5 : Int32)] h1) fun x8 h7 =>
        bif isB x8 then some (some (vI x8), h7) else none)
        (bR (hR h1 r_0 0) fun r3 =>
        bV (evm d 27 [vR 5 r_1, vI (hI h1 r3 5)] h1) fun h4 =>
        bR (hR h4 r_0 0) fun r5 =>
        bV (evm d 69 [vR 8 r5] h4) fun h6 =>
        L_StairReader_readStrides_2 d r_0 r_1 (x_2 + (1 : Int32)) h6)) := (evs_xpd _ tx_StairReader_readStrides [2, 27, 58] 61 _).trans rfl
set_option maxRecDepth 100000 in
theorem e_StairReader_readStrides (d : Nat) (r_0 : Nat) (r_1 : Nat) (h : Hp) : evm (d + 1) 42 [vR 6 r_0, vR 5 r_1] h =
    L_StairReader_readStrides_2 d r_0 r_1 (0 : Int32) h := (evs_xpd _ tx_StairReader_readStrides [2, 27, 58] 61 _).trans rfl
set_option maxRecDepth 100000 in
theorem e_StairReader_readStep (d : Nat) (r_0 : Nat) (r_1 : Nat) (x_2 : Int32) (h : Hp) : evm (d + 1) 43 [vR 6 r_0, vR 5 r_1, vI x_2] h =
    bR (hR h r_0 0) fun r1 =>
    bV (evm d 69 [vR 8 r1] h) fun h2 =>
    bI (evm d 56 [vR 6 r_0, vI (1 : Int32), vI ((hI h2 r_1 7) - (1 : Int32))] h2) fun x4 h3 =>
    ifp (x4 = 0)
      (some (some (vI (0 : Int32)), h3))
      (bR (hR h3 r_0 0) fun r5 =>
      bR (hR h3 r_1 2) fun r6 =>
      ifp (inb (hI h3 r5 5) (hN h3 r6) = true) (
      ifp ((hI h3 r6 (ix (hI h3 r5 5))) = 0)
        (bR (hR h3 r_1 2) fun r7 =>
        ifp (inb (hI h3 r5 5) (hN h3 r7) = true) (
        bR (hR (sI h3 r7 (ix (hI h3 r5 5)) x_2) r_0 0) fun r8 =>
        bV (evm d 69 [vR 8 r8] (sI h3 r7 (ix (hI h3 r5 5)) x_2)) fun h9 =>
        bI (evm d 59 [vR 6 r_0, vI (59 : Int32)] h9) fun x11 h10 =>
        bif isB x11 then some (some (vI x11), h10) else none) none)
        (bI (evm d 60 [vR 6 r_0, vI (3 : Int32)] h3) fun x13 h12 =>
        bif isB x13 then some (some (vI x13), h12) else none)) none) := (evs_xpd _ tx_StairReader_readStep [] 43 _).trans rfl
set_option maxRecDepth 100000 in
theorem e_StairReader_readCreaks (d : Nat) (r_0 : Nat) (r_1 : Nat) (h : Hp) : evm (d + 1) 44 [vR 6 r_0, vR 5 r_1] h =
    bI (evm d 57 [vR 6 r_0, vI (0 : Int32), vI (4 : Int32)] h) fun x2 h1 =>
    ifp (x2 = 0)
      (some (some (vI (0 : Int32)), h1))
      (bI (evm d 59 [vR 6 r_0, vI (59 : Int32)] (sI h1 r_1 10 (hI h1 r_0 3))) fun x4 h3 =>
      bif isB x4 then some (some (vI x4), h3) else none) := (evs_xpd _ tx_StairReader_readCreaks [] 20 _).trans rfl
noncomputable def L_StairReader_readBar_34 (d : Nat) (r_0 : Nat) (r_1 : Nat) (h : Hp) : Option Rs := evs (evm d) tx_StairReader_readBar (34, [some (vR 6 r_0), some (vR 5 r_1), none], [], h)
set_option maxRecDepth 100000 in
theorem e_StairReader_readBar_34 (d : Nat) (r_0 : Nat) (r_1 : Nat) (h : Hp) : L_StairReader_readBar_34 d r_0 r_1 h =
    bI (evm d 56 [vR 6 r_0, vI (1 : Int32), vI (12 : Int32)] h) fun x2 h1 =>
    ifp (x2 = 0)
      (some (some (vI (0 : Int32)), h1))
      (bR (hR h1 r_0 0) fun r3 =>
      bI (evm d 29 [vR 5 r_1, vI (hI h r_0 3), vI (hI h1 r3 5)] h1) fun x5 h4 =>
      ifp (x5 = 0)
        (bR (hR h4 r_1 3) fun r6 =>
        ifp (inb (hI h r_0 3) (hN h4 r6) = true) (
        bR (hR h4 r_0 0) fun r7 =>
        ifp (inb (hI h r_0 3) (hN h4 r6) = true) (
        bR (hR (sI (sI h4 r6 (ix (hI h r_0 3)) ((hI h4 r6 (ix (hI h r_0 3))) ||| ((1 : Int32) <<< ((hI h4 r7 5) &&& 31)))) r_1 11 ((hI (sI h4 r6 (ix (hI h r_0 3)) ((hI h4 r6 (ix (hI h r_0 3))) ||| ((1 : Int32) <<< ((hI h4 r7 5) &&& 31)))) r_1 11) + (1 : Int32))) r_0 0) fun r8 =>
        bV (evm d 69 [vR 8 r8] (sI (sI h4 r6 (ix (hI h r_0 3)) ((hI h4 r6 (ix (hI h r_0 3))) ||| ((1 : Int32) <<< ((hI h4 r7 5) &&& 31)))) r_1 11 ((hI (sI h4 r6 (ix (hI h r_0 3)) ((hI h4 r6 (ix (hI h r_0 3))) ||| ((1 : Int32) <<< ((hI h4 r7 5) &&& 31)))) r_1 11) + (1 : Int32)))) fun h9 =>
        bI (evm d 59 [vR 6 r_0, vI (59 : Int32)] h9) fun x11 h10 =>
        bif isB x11 then some (some (vI x11), h10) else none) none) none)
        (bI (evm d 60 [vR 6 r_0, vI (3 : Int32)] h4) fun x13 h12 =>
        bif isB x13 then some (some (vI x13), h12) else none)) := (evs_xpd _ tx_StairReader_readBar [34] 69 _).trans rfl
set_option maxRecDepth 100000 in
theorem e_StairReader_readBar (d : Nat) (r_0 : Nat) (r_1 : Nat) (h : Hp) : evm (d + 1) 45 [vR 6 r_0, vR 5 r_1] h =
    ifp ((hI h r_1 11) < (8 : Int32))
      (bR (hR h r_0 0) fun r1 =>
      bV (evm d 69 [vR 8 r1] h) fun h2 =>
      bI (evm d 57 [vR 6 r_0, vI (1 : Int32), vI (12 : Int32)] h2) fun x4 h3 =>
      ifp (x4 = 0)
        (some (some (vI (0 : Int32)), h3))
        (L_StairReader_readBar_34 d r_0 r_1 h3))
      (bI (evm d 60 [vR 6 r_0, vI (5 : Int32)] h) fun x6 h5 =>
      bif isB x6 then some (some (vI x6), h5) else none) := (evs_xpd _ tx_StairReader_readBar [34] 69 _).trans rfl
set_option maxRecDepth 100000 in
theorem e_StairReader_readFoot (d : Nat) (r_0 : Nat) (r_1 : Nat) (h : Hp) : evm (d + 1) 46 [vR 6 r_0, vR 5 r_1] h =
    bR (hR h r_0 0) fun r1 =>
    bI (evm d 70 [vR 8 r1, vR 40 9] h) fun x3 h2 =>
    ifp (x3 = 0)
      (bR (hR h2 r_0 0) fun r4 =>
      bI (evm d 70 [vR 8 r4, vR 40 10] h2) fun x6 h5 =>
      ifp (x6 = 0)
        (bI (evm d 60 [vR 6 r_0, vI (1 : Int32)] h5) fun x8 h7 =>
        bif isB x8 then some (some (vI x8), h7) else none)
        (bR (hR (sI h5 r_1 12 (0 : Int32)) r_0 0) fun r9 =>
        bV (evm d 69 [vR 8 r9] (sI h5 r_1 12 (0 : Int32))) fun h10 =>
        bI (evm d 59 [vR 6 r_0, vI (59 : Int32)] h10) fun x12 h11 =>
        bif isB x12 then some (some (vI x12), h11) else none))
      (bR (hR (sI h2 r_1 12 (1 : Int32)) r_0 0) fun r13 =>
      bV (evm d 69 [vR 8 r13] (sI h2 r_1 12 (1 : Int32))) fun h14 =>
      bI (evm d 59 [vR 6 r_0, vI (59 : Int32)] h14) fun x16 h15 =>
      bif isB x16 then some (some (vI x16), h15) else none) := (evs_xpd _ tx_StairReader_readFoot [] 34 _).trans rfl
set_option maxRecDepth 100000 in
theorem e_StairReader_readCount (d : Nat) (r_0 : Nat) (r_1 : Nat) (h : Hp) : evm (d + 1) 47 [vR 6 r_0, vR 5 r_1] h =
    bI (evm d 57 [vR 6 r_0, vI (0 : Int32), vI (40 : Int32)] h) fun x2 h1 =>
    ifp (x2 = 0)
      (some (some (vI (0 : Int32)), h1))
      (bI (evm d 58 [vR 6 r_0, vR 40 12] (sI h1 r_1 13 (hI h1 r_0 3))) fun x4 h3 =>
      ifp (x4 = 0)
        (some (some (vI (0 : Int32)), h3))
        (bI (evm d 57 [vR 6 r_0, vI (hI h3 r_1 13), vI (40 : Int32)] h3) fun x6 h5 =>
        ifp (x6 = 0)
          (some (some (vI (0 : Int32)), h5))
          (bI (evm d 59 [vR 6 r_0, vI (59 : Int32)] (sI h5 r_1 14 (hI h5 r_0 3))) fun x8 h7 =>
          bif isB x8 then some (some (vI x8), h7) else none))) := (evs_xpd _ tx_StairReader_readCount [] 36 _).trans rfl
set_option maxRecDepth 100000 in
theorem e_StairReader_readGreat (d : Nat) (r_0 : Nat) (r_1 : Nat) (h : Hp) : evm (d + 1) 48 [vR 6 r_0, vR 5 r_1] h =
    bI (evm d 57 [vR 6 r_0, vI (1 : Int32), vI (12 : Int32)] h) fun x2 h1 =>
    ifp (x2 = 0)
      (some (some (vI (0 : Int32)), h1))
      (bI (evm d 58 [vR 6 r_0, vR 40 14] (sI h1 r_1 15 (hI h1 r_0 3))) fun x4 h3 =>
      ifp (x4 = 0)
        (some (some (vI (0 : Int32)), h3))
        (bI (evm d 57 [vR 6 r_0, vI (0 : Int32), vI (4 : Int32)] h3) fun x6 h5 =>
        ifp (x6 = 0)
          (some (some (vI (0 : Int32)), h5))
          (bI (evm d 59 [vR 6 r_0, vI (59 : Int32)] (sI h5 r_1 16 (hI h5 r_0 3))) fun x8 h7 =>
          bif isB x8 then some (some (vI x8), h7) else none))) := (evs_xpd _ tx_StairReader_readGreat [] 35 _).trans rfl
noncomputable def L_StairReader_readEither_13 (d : Nat) (r_0 : Nat) (r_1 : Nat) (x_2 : Int32) (x_3 : Int32) (h : Hp) : Option Rs := evs (evm d) tx_StairReader_readEither (13, [some (vR 6 r_0), some (vR 2 r_1), some (vI x_2), some (vI x_3), none], [], h)
noncomputable def L_StairReader_readEither_44 (d : Nat) (r_0 : Nat) (r_1 : Nat) (x_2 : Int32) (x_3 : Int32) (h : Hp) : Option Rs := evs (evm d) tx_StairReader_readEither (44, [some (vR 6 r_0), some (vR 2 r_1), some (vI x_2), some (vI x_3), none], [], h)
noncomputable def L_StairReader_readEither_63 (d : Nat) (r_0 : Nat) (r_1 : Nat) (x_2 : Int32) (x_3 : Int32) (xs0 : Int32) (h : Hp) : Option Rs := evs (evm d) tx_StairReader_readEither (63, [some (vR 6 r_0), some (vR 2 r_1), some (vI x_2), some (vI x_3), none], [vI xs0], h)
set_option maxRecDepth 100000 in
theorem e_StairReader_readEither_13 (d : Nat) (r_0 : Nat) (r_1 : Nat) (x_2 : Int32) (x_3 : Int32) (h : Hp) : L_StairReader_readEither_13 d r_0 r_1 x_2 x_3 h =
    ifp (x_3 < (1000 : Int32))
      (bR (hR h r_0 0) fun r1 =>
      bI (evm d 70 [vR 8 r1, vR 40 21] h) fun x3 h2 =>
      ifp (x3 = 0)
        (bR (hR h2 r_0 0) fun r4 =>
        bI (evm d 70 [vR 8 r4, vR 40 22] h2) fun x6 h5 =>
        ifp (x6 = 0)
          (some (some (vI (1 : Int32)), h5))
          (L_StairReader_readEither_44 d r_0 r_1 x_2 x_3 h5))
        (L_StairReader_readEither_44 d r_0 r_1 x_2 x_3 h2))
      (some (some (vI (1 : Int32)), h)) := (evs_xpd _ tx_StairReader_readEither [13, 44, 63] 53 _).trans rfl
set_option maxRecDepth 100000 in
theorem e_StairReader_readEither_44 (d : Nat) (r_0 : Nat) (r_1 : Nat) (x_2 : Int32) (x_3 : Int32) (h : Hp) : L_StairReader_readEither_44 d r_0 r_1 x_2 x_3 h =
    bR (hR h r_0 0) fun r1 =>
    bI (evm d 70 [vR 8 r1, vR 40 21] h) fun x3 h2 =>
    ifp (x3 = 0)
      (L_StairReader_readEither_63 d r_0 r_1 x_2 x_3 (-12 : Int32) h2)
      (L_StairReader_readEither_63 d r_0 r_1 x_2 x_3 (-11 : Int32) h2) := (evs_xpd _ tx_StairReader_readEither [13, 44, 63] 53 _).trans rfl
set_option maxRecDepth 100000 in
theorem e_StairReader_readEither_63 (d : Nat) (r_0 : Nat) (r_1 : Nat) (x_2 : Int32) (x_3 : Int32) (xs0 : Int32) (h : Hp) : L_StairReader_readEither_63 d r_0 r_1 x_2 x_3 xs0 h =
    bR (hR h r_0 0) fun r1 =>
    bV (evm d 69 [vR 8 r1] h) fun h2 =>
    bI (evm d 50 [vR 6 r_0, vR 2 r_1, vI x_2] h2) fun x4 h3 =>
    ifp (x4 = 0)
      (some (some (vI (0 : Int32)), h3))
      (bV (evm d 12 [vR 2 r_1, vI xs0] h3) fun h5 =>
      L_StairReader_readEither_13 d r_0 r_1 x_2 (x_3 + (1 : Int32)) h5) := (evs_xpd _ tx_StairReader_readEither [13, 44, 63] 53 _).trans rfl
set_option maxRecDepth 100000 in
theorem e_StairReader_readEither (d : Nat) (r_0 : Nat) (r_1 : Nat) (x_2 : Int32) (h : Hp) : evm (d + 1) 49 [vR 6 r_0, vR 2 r_1, vI x_2] h =
    bI (evm d 50 [vR 6 r_0, vR 2 r_1, vI x_2] h) fun x2 h1 =>
    ifp (x2 = 0)
      (some (some (vI (0 : Int32)), h1))
      (L_StairReader_readEither_13 d r_0 r_1 x_2 (0 : Int32) h1) := (evs_xpd _ tx_StairReader_readEither [13, 44, 63] 53 _).trans rfl
noncomputable def L_StairReader_readTest_37 (d : Nat) (r_0 : Nat) (r_1 : Nat) (x_2 : Int32) (h : Hp) : Option Rs := evs (evm d) tx_StairReader_readTest (37, [some (vR 6 r_0), some (vR 2 r_1), some (vI x_2), none], [], h)
noncomputable def L_StairReader_readTest_56 (d : Nat) (r_0 : Nat) (r_1 : Nat) (x_2 : Int32) (xs0 : Int32) (h : Hp) : Option Rs := evs (evm d) tx_StairReader_readTest (56, [some (vR 6 r_0), some (vR 2 r_1), some (vI x_2), none], [vI xs0], h)
set_option maxRecDepth 100000 in
theorem e_StairReader_readTest_37 (d : Nat) (r_0 : Nat) (r_1 : Nat) (x_2 : Int32) (h : Hp) : L_StairReader_readTest_37 d r_0 r_1 x_2 h =
    bR (hR h r_0 0) fun r1 =>
    ifp ((hI h r1 2) = (60 : Int32))
      (L_StairReader_readTest_56 d r_0 r_1 x_2 (-9 : Int32) h)
      (L_StairReader_readTest_56 d r_0 r_1 x_2 (-10 : Int32) h) := (evs_xpd _ tx_StairReader_readTest [37, 56] 48 _).trans rfl
set_option maxRecDepth 100000 in
theorem e_StairReader_readTest_56 (d : Nat) (r_0 : Nat) (r_1 : Nat) (x_2 : Int32) (xs0 : Int32) (h : Hp) : L_StairReader_readTest_56 d r_0 r_1 x_2 xs0 h =
    bR (hR h r_0 0) fun r1 =>
    bV (evm d 69 [vR 8 r1] h) fun h2 =>
    bI (evm d 51 [vR 6 r_0, vR 2 r_1, vI x_2] h2) fun x4 h3 =>
    ifp (x4 = 0)
      (some (some (vI (0 : Int32)), h3))
      (bV (evm d 12 [vR 2 r_1, vI xs0] h3) fun h5 =>
      some (some (vI (1 : Int32)), h5)) := (evs_xpd _ tx_StairReader_readTest [37, 56] 48 _).trans rfl
set_option maxRecDepth 100000 in
theorem e_StairReader_readTest (d : Nat) (r_0 : Nat) (r_1 : Nat) (x_2 : Int32) (h : Hp) : evm (d + 1) 50 [vR 6 r_0, vR 2 r_1, vI x_2] h =
    bI (evm d 51 [vR 6 r_0, vR 2 r_1, vI x_2] h) fun x2 h1 =>
    ifp (x2 = 0)
      (some (some (vI (0 : Int32)), h1))
      (bR (hR h1 r_0 0) fun r3 =>
      ifp ((hI h1 r3 2) = (60 : Int32))
        (L_StairReader_readTest_37 d r_0 r_1 x_2 h1)
        (bR (hR h1 r_0 0) fun r4 =>
        ifp ((hI h1 r4 2) = (61 : Int32))
          (L_StairReader_readTest_37 d r_0 r_1 x_2 h1)
          (some (some (vI (1 : Int32)), h1)))) := (evs_xpd _ tx_StairReader_readTest [37, 56] 48 _).trans rfl
noncomputable def L_StairReader_readSum_13 (d : Nat) (r_0 : Nat) (r_1 : Nat) (x_2 : Int32) (x_3 : Int32) (h : Hp) : Option Rs := evs (evm d) tx_StairReader_readSum (13, [some (vR 6 r_0), some (vR 2 r_1), some (vI x_2), some (vI x_3), none], [], h)
noncomputable def L_StairReader_readSum_44 (d : Nat) (r_0 : Nat) (r_1 : Nat) (x_2 : Int32) (x_3 : Int32) (h : Hp) : Option Rs := evs (evm d) tx_StairReader_readSum (44, [some (vR 6 r_0), some (vR 2 r_1), some (vI x_2), some (vI x_3), none], [], h)
noncomputable def L_StairReader_readSum_63 (d : Nat) (r_0 : Nat) (r_1 : Nat) (x_2 : Int32) (x_3 : Int32) (xs0 : Int32) (h : Hp) : Option Rs := evs (evm d) tx_StairReader_readSum (63, [some (vR 6 r_0), some (vR 2 r_1), some (vI x_2), some (vI x_3), none], [vI xs0], h)
set_option maxRecDepth 100000 in
theorem e_StairReader_readSum_13 (d : Nat) (r_0 : Nat) (r_1 : Nat) (x_2 : Int32) (x_3 : Int32) (h : Hp) : L_StairReader_readSum_13 d r_0 r_1 x_2 x_3 h =
    ifp (x_3 < (1000 : Int32))
      (bR (hR h r_0 0) fun r1 =>
      ifp ((hI h r1 2) = (43 : Int32))
        (L_StairReader_readSum_44 d r_0 r_1 x_2 x_3 h)
        (bR (hR h r_0 0) fun r2 =>
        ifp ((hI h r2 2) = (45 : Int32))
          (L_StairReader_readSum_44 d r_0 r_1 x_2 x_3 h)
          (some (some (vI (1 : Int32)), h))))
      (some (some (vI (1 : Int32)), h)) := (evs_xpd _ tx_StairReader_readSum [13, 44, 63] 53 _).trans rfl
set_option maxRecDepth 100000 in
theorem e_StairReader_readSum_44 (d : Nat) (r_0 : Nat) (r_1 : Nat) (x_2 : Int32) (x_3 : Int32) (h : Hp) : L_StairReader_readSum_44 d r_0 r_1 x_2 x_3 h =
    bR (hR h r_0 0) fun r1 =>
    ifp ((hI h r1 2) = (43 : Int32))
      (L_StairReader_readSum_63 d r_0 r_1 x_2 x_3 (-6 : Int32) h)
      (L_StairReader_readSum_63 d r_0 r_1 x_2 x_3 (-7 : Int32) h) := (evs_xpd _ tx_StairReader_readSum [13, 44, 63] 53 _).trans rfl
set_option maxRecDepth 100000 in
theorem e_StairReader_readSum_63 (d : Nat) (r_0 : Nat) (r_1 : Nat) (x_2 : Int32) (x_3 : Int32) (xs0 : Int32) (h : Hp) : L_StairReader_readSum_63 d r_0 r_1 x_2 x_3 xs0 h =
    bR (hR h r_0 0) fun r1 =>
    bV (evm d 69 [vR 8 r1] h) fun h2 =>
    bI (evm d 52 [vR 6 r_0, vR 2 r_1, vI x_2] h2) fun x4 h3 =>
    ifp (x4 = 0)
      (some (some (vI (0 : Int32)), h3))
      (bV (evm d 12 [vR 2 r_1, vI xs0] h3) fun h5 =>
      L_StairReader_readSum_13 d r_0 r_1 x_2 (x_3 + (1 : Int32)) h5) := (evs_xpd _ tx_StairReader_readSum [13, 44, 63] 53 _).trans rfl
set_option maxRecDepth 100000 in
theorem e_StairReader_readSum (d : Nat) (r_0 : Nat) (r_1 : Nat) (x_2 : Int32) (h : Hp) : evm (d + 1) 51 [vR 6 r_0, vR 2 r_1, vI x_2] h =
    bI (evm d 52 [vR 6 r_0, vR 2 r_1, vI x_2] h) fun x2 h1 =>
    ifp (x2 = 0)
      (some (some (vI (0 : Int32)), h1))
      (L_StairReader_readSum_13 d r_0 r_1 x_2 (0 : Int32) h1) := (evs_xpd _ tx_StairReader_readSum [13, 44, 63] 53 _).trans rfl
noncomputable def L_StairReader_readProduct_13 (d : Nat) (r_0 : Nat) (r_1 : Nat) (x_2 : Int32) (x_3 : Int32) (h : Hp) : Option Rs := evs (evm d) tx_StairReader_readProduct (13, [some (vR 6 r_0), some (vR 2 r_1), some (vI x_2), some (vI x_3)], [], h)
set_option maxRecDepth 100000 in
theorem e_StairReader_readProduct_13 (d : Nat) (r_0 : Nat) (r_1 : Nat) (x_2 : Int32) (x_3 : Int32) (h : Hp) : L_StairReader_readProduct_13 d r_0 r_1 x_2 x_3 h =
    ifp (x_3 < (1000 : Int32))
      (bR (hR h r_0 0) fun r1 =>
      ifp ((hI h r1 2) = (42 : Int32))
        (bR (hR h r_0 0) fun r2 =>
        bV (evm d 69 [vR 8 r2] h) fun h3 =>
        bI (evm d 53 [vR 6 r_0, vR 2 r_1, vI x_2] h3) fun x5 h4 =>
        ifp (x5 = 0)
          (some (some (vI (0 : Int32)), h4))
          (bV (evm d 12 [vR 2 r_1, vI (-8 : Int32)] h4) fun h6 =>
          L_StairReader_readProduct_13 d r_0 r_1 x_2 (x_3 + (1 : Int32)) h6))
        (some (some (vI (1 : Int32)), h)))
      (some (some (vI (1 : Int32)), h)) := (evs_xpd _ tx_StairReader_readProduct [13] 39 _).trans rfl
set_option maxRecDepth 100000 in
theorem e_StairReader_readProduct (d : Nat) (r_0 : Nat) (r_1 : Nat) (x_2 : Int32) (h : Hp) : evm (d + 1) 52 [vR 6 r_0, vR 2 r_1, vI x_2] h =
    bI (evm d 53 [vR 6 r_0, vR 2 r_1, vI x_2] h) fun x2 h1 =>
    ifp (x2 = 0)
      (some (some (vI (0 : Int32)), h1))
      (L_StairReader_readProduct_13 d r_0 r_1 x_2 (0 : Int32) h1) := (evs_xpd _ tx_StairReader_readProduct [13] 39 _).trans rfl
noncomputable def L_StairReader_readPart_27 (d : Nat) (r_0 : Nat) (r_1 : Nat) (x_2 : Int32) (x_3 : Int32) (xs0 : Int32) (h : Hp) : Option Rs := evs (evm d) tx_StairReader_readPart (27, [some (vR 6 r_0), some (vR 2 r_1), some (vI x_2), some (vI x_3), none, none], [vI xs0], h)
noncomputable def L_StairReader_readPart_54 (d : Nat) (r_0 : Nat) (r_1 : Nat) (x_2 : Int32) (x_3 : Int32) (x_4 : Int32) (xs0 : Int32) (h : Hp) : Option Rs := evs (evm d) tx_StairReader_readPart (54, [some (vR 6 r_0), some (vR 2 r_1), some (vI x_2), some (vI x_3), some (vI x_4), none], [vI xs0], h)
noncomputable def L_StairReader_readPart_78 (d : Nat) (r_0 : Nat) (r_1 : Nat) (x_2 : Int32) (x_3 : Int32) (x_4 : Int32) (x_5 : Int32) (h : Hp) : Option Rs := evs (evm d) tx_StairReader_readPart (78, [some (vR 6 r_0), some (vR 2 r_1), some (vI x_2), some (vI x_3), some (vI x_4), some (vI x_5)], [], h)
noncomputable def L_StairReader_readPart_144 (d : Nat) (r_1 : Nat) (x_3 : Int32) (x_5 : Int32) (h : Hp) : Option Rs := evs (evm d) tx_StairReader_readPart (144, [none, some (vR 2 r_1), none, some (vI x_3), none, some (vI x_5)], [], h)
set_option maxRecDepth 100000 in
theorem e_StairReader_readPart_27 (d : Nat) (r_0 : Nat) (r_1 : Nat) (x_2 : Int32) (x_3 : Int32) (xs0 : Int32) (h : Hp) : L_StairReader_readPart_27 d r_0 r_1 x_2 x_3 xs0 h =
    bR (hR h r_0 0) fun r1 =>
    ifp ((hI h r1 2) = (3 : Int32))
      (bR (hR h r_0 0) fun r4 =>
      L_StairReader_readPart_54 d r_0 r_1 x_2 x_3 xs0 (hI h r4 5) h)
      (bI (evm d 54 [vR 6 r_0] h) fun x3 h2 =>
      L_StairReader_readPart_54 d r_0 r_1 x_2 x_3 xs0 x3 h2) := (evs_xpd _ tx_StairReader_readPart [27, 54, 78, 144] 89 _).trans rfl
set_option maxRecDepth 100000 in
theorem e_StairReader_readPart_54 (d : Nat) (r_0 : Nat) (r_1 : Nat) (x_2 : Int32) (x_3 : Int32) (x_4 : Int32) (xs0 : Int32) (h : Hp) : L_StairReader_readPart_54 d r_0 r_1 x_2 x_3 x_4 xs0 h =
    ifp (x_3 = 0)
      (ifp (x_4 = 0)
        (ifp (xs0 = (-5 : Int32))
          (bI (evm d 60 [vR 6 r_0, vI (1 : Int32)] h) fun x2 h1 =>
          bif isB x2 then some (some (vI x2), h1) else none)
          (L_StairReader_readPart_78 d r_0 r_1 x_2 x_3 x_4 xs0 h))
        (L_StairReader_readPart_78 d r_0 r_1 x_2 x_3 x_4 xs0 h))
      (L_StairReader_readPart_78 d r_0 r_1 x_2 x_3 x_4 xs0 h) := (evs_xpd _ tx_StairReader_readPart [27, 54, 78, 144] 89 _).trans rfl
set_option maxRecDepth 100000 in
theorem e_StairReader_readPart_78 (d : Nat) (r_0 : Nat) (r_1 : Nat) (x_2 : Int32) (x_3 : Int32) (x_4 : Int32) (x_5 : Int32) (h : Hp) : L_StairReader_readPart_78 d r_0 r_1 x_2 x_3 x_4 x_5 h =
    ifp (x_2 < (5 : Int32))
      (bR (hR h r_0 0) fun r1 =>
      bV (evm d 69 [vR 8 r1] h) fun h2 =>
      ifp (x_4 = 0)
        (ifp (x_3 = 0)
          (L_StairReader_readPart_144 d r_1 x_3 x_5 h2)
          (bI (evm d 53 [vR 6 r_0, vR 2 r_1, vI (x_2 + (1 : Int32))] h2) fun x4 h3 =>
          ifp (x4 = 0)
            (some (some (vI (0 : Int32)), h3))
            (L_StairReader_readPart_144 d r_1 x_3 x_5 h3)))
        (bI (evm d 49 [vR 6 r_0, vR 2 r_1, vI (x_2 + (1 : Int32))] h2) fun x6 h5 =>
        ifp (x6 = 0)
          (some (some (vI (0 : Int32)), h5))
          (bI (evm d 59 [vR 6 r_0, vI (41 : Int32)] h5) fun x8 h7 =>
          ifp (x8 = 0)
            (some (some (vI (0 : Int32)), h7))
            (some (some (vI (1 : Int32)), h7)))))
      (bI (evm d 60 [vR 6 r_0, vI (5 : Int32)] h) fun x10 h9 =>
      bif isB x10 then some (some (vI x10), h9) else none) := (evs_xpd _ tx_StairReader_readPart [27, 54, 78, 144] 89 _).trans rfl
set_option maxRecDepth 100000 in
theorem e_StairReader_readPart_144 (d : Nat) (r_1 : Nat) (x_3 : Int32) (x_5 : Int32) (h : Hp) : L_StairReader_readPart_144 d r_1 x_3 x_5 h =
    ifp (x_3 = 0)
      (bV (evm d 12 [vR 2 r_1, vI x_5] h) fun h1 =>
      some (some (vI (1 : Int32)), h1))
      (bV (evm d 12 [vR 2 r_1, vI (-5 : Int32)] h) fun h2 =>
      some (some (vI (1 : Int32)), h2)) := (evs_xpd _ tx_StairReader_readPart [27, 54, 78, 144] 89 _).trans rfl
set_option maxRecDepth 100000 in
theorem e_StairReader_readPart (d : Nat) (r_0 : Nat) (r_1 : Nat) (x_2 : Int32) (h : Hp) : evm (d + 1) 53 [vR 6 r_0, vR 2 r_1, vI x_2] h =
    bR (hR h r_0 0) fun r1 =>
    bI (evm d 70 [vR 8 r1, vR 40 16] h) fun x3 h2 =>
    bR (hR h2 r_0 0) fun r4 =>
    ifp ((hI h2 r4 2) = (40 : Int32))
      (L_StairReader_readPart_27 d r_0 r_1 x_2 x3 (1 : Int32) h2)
      (L_StairReader_readPart_27 d r_0 r_1 x_2 x3 (0 : Int32) h2) := (evs_xpd _ tx_StairReader_readPart [27, 54, 78, 144] 89 _).trans rfl
set_option maxRecDepth 100000 in
theorem e_StairReader_namedFact (d : Nat) (r_0 : Nat) (h : Hp) : evm (d + 1) 54 [vR 6 r_0] h =
    bR (hR h r_0 0) fun r1 =>
    bI (evm d 70 [vR 8 r1, vR 40 17] h) fun x3 h2 =>
    ifp (x3 = 0)
      (bR (hR h2 r_0 0) fun r4 =>
      bI (evm d 70 [vR 8 r4, vR 40 18] h2) fun x6 h5 =>
      ifp (x6 = 0)
        (bR (hR h5 r_0 0) fun r7 =>
        bI (evm d 70 [vR 8 r7, vR 40 19] h5) fun x9 h8 =>
        ifp (x9 = 0)
          (bR (hR h8 r_0 0) fun r10 =>
          bI (evm d 70 [vR 8 r10, vR 40 20] h8) fun x12 h11 =>
          ifp (x12 = 0)
            (some (some (vI (-5 : Int32)), h11))
            (some (some (vI (-4 : Int32)), h11)))
          (some (some (vI (-3 : Int32)), h8)))
        (some (some (vI (-2 : Int32)), h5)))
      (some (some (vI (-1 : Int32)), h2)) := (evs_xpd _ tx_StairReader_namedFact [] 35 _).trans rfl
set_option maxRecDepth 100000 in
theorem e_StairReader_isFirst (d : Nat) (r_0 : Nat) (x_1 : Int32) (h : Hp) : evm (d + 1) 55 [vR 6 r_0, vI x_1] h =
    ifp (((hI h r_0 1) &&& x_1) = 0)
      (bR (hR (sI h r_0 1 ((hI h r_0 1) ||| x_1)) r_0 0) fun r1 =>
      bV (evm d 69 [vR 8 r1] (sI h r_0 1 ((hI h r_0 1) ||| x_1))) fun h2 =>
      some (some (vI (1 : Int32)), h2))
      (bI (evm d 60 [vR 6 r_0, vI (3 : Int32)] h) fun x4 h3 =>
      bif isB x4 then some (some (vI x4), h3) else none) := (evs_xpd _ tx_StairReader_isFirst [] 25 _).trans rfl
noncomputable def L_StairReader_isNumber_39 (d : Nat) (r_0 : Nat) (h : Hp) : Option Rs := evs (evm d) tx_StairReader_isNumber (39, [some (vR 6 r_0), none, none], [], h)
set_option maxRecDepth 100000 in
theorem e_StairReader_isNumber_39 (d : Nat) (r_0 : Nat) (h : Hp) : L_StairReader_isNumber_39 d r_0 h =
    bI (evm d 60 [vR 6 r_0, vI (4 : Int32)] h) fun x2 h1 =>
    ifp (x2 = 0)
      (some (some (vI (0 : Int32)), h1))
      (some (some (vI (1 : Int32)), h1)) := (evs_xpd _ tx_StairReader_isNumber [39] 32 _).trans rfl
set_option maxRecDepth 100000 in
theorem e_StairReader_isNumber (d : Nat) (r_0 : Nat) (x_1 : Int32) (x_2 : Int32) (h : Hp) : evm (d + 1) 56 [vR 6 r_0, vI x_1, vI x_2] h =
    bR (hR h r_0 0) fun r1 =>
    ifp ((hI h r1 2) = (3 : Int32))
      (bR (hR h r_0 0) fun r2 =>
      ifp ((hI h r2 5) < x_1)
        (L_StairReader_isNumber_39 d r_0 h)
        (bR (hR h r_0 0) fun r3 =>
        ifp (x_2 < (hI h r3 5))
          (L_StairReader_isNumber_39 d r_0 h)
          (some (some (vI (1 : Int32)), h))))
      (bI (evm d 60 [vR 6 r_0, vI (1 : Int32)] h) fun x5 h4 =>
      bif isB x5 then some (some (vI x5), h4) else none) := (evs_xpd _ tx_StairReader_isNumber [39] 32 _).trans rfl
set_option maxRecDepth 100000 in
theorem e_StairReader_takeNumber (d : Nat) (r_0 : Nat) (x_1 : Int32) (x_2 : Int32) (h : Hp) : evm (d + 1) 57 [vR 6 r_0, vI x_1, vI x_2] h =
    bI (evm d 56 [vR 6 r_0, vI x_1, vI x_2] h) fun x2 h1 =>
    ifp (x2 = 0)
      (some (some (vI (0 : Int32)), h1))
      (bR (hR h1 r_0 0) fun r3 =>
      bR (hR (sI h1 r_0 3 (hI h1 r3 5)) r_0 0) fun r4 =>
      bV (evm d 69 [vR 8 r4] (sI h1 r_0 3 (hI h1 r3 5))) fun h5 =>
      some (some (vI (1 : Int32)), h5)) := (evs_xpd _ tx_StairReader_takeNumber [] 22 _).trans rfl
set_option maxRecDepth 100000 in
theorem e_StairReader_takeWord (d : Nat) (r_0 : Nat) (r_1 : Nat) (h : Hp) : evm (d + 1) 58 [vR 6 r_0, vR 40 r_1] h =
    bR (hR h r_0 0) fun r1 =>
    bI (evm d 70 [vR 8 r1, vR 40 r_1] h) fun x3 h2 =>
    ifp (x3 = 0)
      (bI (evm d 60 [vR 6 r_0, vI (1 : Int32)] h2) fun x7 h6 =>
      bif isB x7 then some (some (vI x7), h6) else none)
      (bR (hR h2 r_0 0) fun r4 =>
      bV (evm d 69 [vR 8 r4] h2) fun h5 =>
      some (some (vI (1 : Int32)), h5)) := (evs_xpd _ tx_StairReader_takeWord [] 19 _).trans rfl
set_option maxRecDepth 100000 in
theorem e_StairReader_takeSign (d : Nat) (r_0 : Nat) (x_1 : Int32) (h : Hp) : evm (d + 1) 59 [vR 6 r_0, vI x_1] h =
    bR (hR h r_0 0) fun r1 =>
    ifp ((hI h r1 2) = x_1)
      (bR (hR h r_0 0) fun r2 =>
      bV (evm d 69 [vR 8 r2] h) fun h3 =>
      some (some (vI (1 : Int32)), h3))
      (bI (evm d 60 [vR 6 r_0, vI (1 : Int32)] h) fun x5 h4 =>
      bif isB x5 then some (some (vI x5), h4) else none) := (evs_xpd _ tx_StairReader_takeSign [] 19 _).trans rfl
set_option maxRecDepth 100000 in
theorem e_StairReader_fail (d : Nat) (r_0 : Nat) (x_1 : Int32) (h : Hp) : evm (d + 1) 60 [vR 6 r_0, vI x_1] h =
    bR (hR h r_0 0) fun r1 =>
    some (some (vI (0 : Int32)), sI h r_0 2 (x_1 + ((16 : Int32) * (hI h r1 3)))) := (evs_xpd _ tx_StairReader_fail [] 16 _).trans rfl
set_option maxRecDepth 100000 in
theorem e_Sweep_new (d : Nat) (r_0 : Nat) (h : Hp) : evm (d + 1) 61 [vR 7 r_0] h =
    ifp (inb (41 : Int32) 1000000 = true) (
    alc h fun q1 =>
    ifp (inb (41 : Int32) 1000000 = true) (
    alc (sR (sN h 21 (ix (41 : Int32)) (ix (41 : Int32))) r_0 0 q1) fun q2 =>
    some (none, sR (sN (sR (sN h 21 (ix (41 : Int32)) (ix (41 : Int32))) r_0 0 q1) 20 (ix (41 : Int32)) (ix (41 : Int32))) r_0 1 q2)) none) none := (evs_xpd _ tx_Sweep_new [] 16 _).trans rfl
noncomputable def L_Sweep_fewestClimbers_22 (d : Nat) (r_0 : Nat) (r_1 : Nat) (r_2 : Nat) (x_3 : Int32) (x_4 : Int32) (h : Hp) : Option Rs := evs (evm d) tx_Sweep_fewestClimbers (22, [some (vR 7 r_0), some (vR 5 r_1), some (vR 20 r_2), some (vI x_3), some (vI x_4)], [], h)
noncomputable def L_Sweep_fewestClimbers_31 (d : Nat) (r_0 : Nat) (r_1 : Nat) (r_2 : Nat) (x_3 : Int32) (x_4 : Int32) (h : Hp) : Option Rs := evs (evm d) tx_Sweep_fewestClimbers (31, [some (vR 7 r_0), some (vR 5 r_1), some (vR 20 r_2), some (vI x_3), some (vI x_4)], [], h)
set_option maxRecDepth 100000 in
theorem e_Sweep_fewestClimbers_22 (d : Nat) (r_0 : Nat) (r_1 : Nat) (r_2 : Nat) (x_3 : Int32) (x_4 : Int32) (h : Hp) : L_Sweep_fewestClimbers_22 d r_0 r_1 r_2 x_3 x_4 h =
    ifp (x_4 < (hI h r_1 7))
      (L_Sweep_fewestClimbers_31 d r_0 r_1 r_2 x_3 x_4 h)
      (some (some (vI x_3), h)) := (evs_xpd _ tx_Sweep_fewestClimbers [22, 31] 63 _).trans rfl
set_option maxRecDepth 100000 in
theorem e_Sweep_fewestClimbers_31 (d : Nat) (r_0 : Nat) (r_1 : Nat) (r_2 : Nat) (x_3 : Int32) (x_4 : Int32) (h : Hp) : L_Sweep_fewestClimbers_31 d r_0 r_1 r_2 x_3 x_4 h =
    ifp (inb x_4 (hN h r_2) = true) (
    ifp ((hI h r_2 (ix x_4)) = (1 : Int32))
      (bI (evm d 64 [vR 7 r_0, vI (0 : Int32), vI x_4] h) fun x2 h1 =>
      ifp (x2 = 0)
        (some (some (vI (-1 : Int32)), h1))
        (bI (evm d 64 [vR 7 r_0, vI x_4, vI (hI h1 r_1 7)] h1) fun x4 h3 =>
        ifp (x4 = 0)
          (some (some (vI (-1 : Int32)), h3))
          (bI (evm d 65 [vR 7 r_0, vR 5 r_1, vR 20 r_2, vI x_4, vI (0 : Int32)] (sL h3 r_0 2 (0 : Int64))) fun x6 h5 =>
          ifp (x6 = 0)
            (L_Sweep_fewestClimbers_22 d r_0 r_1 r_2 (x_3 + (1 : Int32)) (x_4 + (1 : Int32)) h5)
            (L_Sweep_fewestClimbers_22 d r_0 r_1 r_2 (x_3 + (0 : Int32)) (x_4 + (1 : Int32)) h5))))
      (L_Sweep_fewestClimbers_22 d r_0 r_1 r_2 x_3 (x_4 + (1 : Int32)) h)) none := (evs_xpd _ tx_Sweep_fewestClimbers [22, 31] 63 _).trans rfl
set_option maxRecDepth 100000 in
theorem e_Sweep_fewestClimbers (d : Nat) (r_0 : Nat) (r_1 : Nat) (r_2 : Nat) (h : Hp) : evm (d + 1) 62 [vR 7 r_0, vR 5 r_1, vR 20 r_2] h =
    ifp ((hI h r_1 7) < (nI (hN h r_2)))
      (bV (evm d 63 [vR 7 r_0, vR 5 r_1, vR 20 r_2] h) fun h1 =>
      L_Sweep_fewestClimbers_22 d r_0 r_1 r_2 (0 : Int32) (1 : Int32) h1)
      (some (some (vI (-1 : Int32)), h)) := (evs_xpd _ tx_Sweep_fewestClimbers [22, 31] 63 _).trans rfl
noncomputable def L_Sweep_findReached_5 (d : Nat) (r_0 : Nat) (r_1 : Nat) (r_2 : Nat) (x_3 : Int32) (h : Hp) : Option Rs := evs (evm d) tx_Sweep_findReached (5, [some (vR 7 r_0), some (vR 5 r_1), some (vR 20 r_2), some (vI x_3), none, none], [], h)
noncomputable def L_Sweep_findReached_26 (d : Nat) (r_0 : Nat) (r_1 : Nat) (r_2 : Nat) (x_3 : Int32) (x_4 : Int32) (h : Hp) : Option Rs := evs (evm d) tx_Sweep_findReached (26, [some (vR 7 r_0), some (vR 5 r_1), some (vR 20 r_2), some (vI x_3), some (vI x_4), none], [], h)
noncomputable def L_Sweep_findReached_35 (d : Nat) (r_0 : Nat) (r_1 : Nat) (r_2 : Nat) (x_3 : Int32) (x_4 : Int32) (h : Hp) : Option Rs := evs (evm d) tx_Sweep_findReached (35, [some (vR 7 r_0), some (vR 5 r_1), some (vR 20 r_2), some (vI x_3), some (vI x_4), none], [], h)
set_option maxRecDepth 100000 in
theorem e_Sweep_findReached_5 (d : Nat) (r_0 : Nat) (r_1 : Nat) (r_2 : Nat) (x_3 : Int32) (h : Hp) : L_Sweep_findReached_5 d r_0 r_1 r_2 x_3 h =
    ifp (x_3 < 0)
      (some (none, h))
      (bR (hR h r_0 1) fun r1 =>
      ifp (inb x_3 (hN h r1) = true) (
      bR (hR (sI h r1 (ix x_3) (-1 : Int32)) r_0 0) fun r2 =>
      ifp (inb x_3 (hN (sI h r1 (ix x_3) (-1 : Int32)) r2) = true) (
      L_Sweep_findReached_26 d r_0 r_1 r_2 x_3 (0 : Int32) (sL (sI h r1 (ix x_3) (-1 : Int32)) r2 (ix x_3) (0 : Int64))) none) none) := (evs_xpd _ tx_Sweep_findReached [5, 26, 35] 68 _).trans rfl
set_option maxRecDepth 100000 in
theorem e_Sweep_findReached_26 (d : Nat) (r_0 : Nat) (r_1 : Nat) (r_2 : Nat) (x_3 : Int32) (x_4 : Int32) (h : Hp) : L_Sweep_findReached_26 d r_0 r_1 r_2 x_3 x_4 h =
    ifp (x_4 < (hI h r_1 8))
      (L_Sweep_findReached_35 d r_0 r_1 r_2 x_3 x_4 h)
      (L_Sweep_findReached_5 d r_0 r_1 r_2 (x_3 + (-1 : Int32)) h) := (evs_xpd _ tx_Sweep_findReached [5, 26, 35] 68 _).trans rfl
set_option maxRecDepth 100000 in
theorem e_Sweep_findReached_35 (d : Nat) (r_0 : Nat) (r_1 : Nat) (r_2 : Nat) (x_3 : Int32) (x_4 : Int32) (h : Hp) : L_Sweep_findReached_35 d r_0 r_1 r_2 x_3 x_4 h =
    bR (hR h r_1 0) fun r1 =>
    ifp (inb x_4 (hN h r1) = true) (
    ifp ((hI h r_1 7) < (x_3 + (hI h r1 (ix x_4))))
      (L_Sweep_findReached_26 d r_0 r_1 r_2 x_3 (x_4 + (1 : Int32)) h)
      (bR (hR h r_1 2) fun r2 =>
      ifp (inb (x_3 + (hI h r1 (ix x_4))) (hN h r2) = true) (
      ifp ((hI h r2 (ix (x_3 + (hI h r1 (ix x_4))))) = (1 : Int32))
        (L_Sweep_findReached_26 d r_0 r_1 r_2 x_3 (x_4 + (1 : Int32)) h)
        (ifp (inb (x_3 + (hI h r1 (ix x_4))) (hN h r_2) = true) (
        ifp ((hI h r_2 (ix (x_3 + (hI h r1 (ix x_4))))) = (2 : Int32))
          (L_Sweep_findReached_26 d r_0 r_1 r_2 x_3 (x_4 + (1 : Int32)) h)
          (bR (hR h r_0 0) fun r3 =>
          ifp (inb x_3 (hN h r3) = true) (
          bR (hR h r_0 0) fun r4 =>
          ifp (inb (x_3 + (hI h r1 (ix x_4))) (hN h r4) = true) (
          ifp (inb x_3 (hN h r3) = true) (
          L_Sweep_findReached_26 d r_0 r_1 r_2 x_3 (x_4 + (1 : Int32)) (sL h r3 (ix x_3) ((hL h r3 (ix x_3)) ||| ((hL h r4 (ix (x_3 + (hI h r1 (ix x_4))))) ||| ((1 : Int64) <<< ((x_3 + (hI h r1 (ix x_4))).toInt64 &&& 63)))))) none) none) none)) none)) none)) none := (evs_xpd _ tx_Sweep_findReached [5, 26, 35] 68 _).trans rfl
set_option maxRecDepth 100000 in
theorem e_Sweep_findReached (d : Nat) (r_0 : Nat) (r_1 : Nat) (r_2 : Nat) (h : Hp) : evm (d + 1) 63 [vR 7 r_0, vR 5 r_1, vR 20 r_2] h =
    L_Sweep_findReached_5 d r_0 r_1 r_2 (hI h r_1 7) h := (evs_xpd _ tx_Sweep_findReached [5, 26, 35] 68 _).trans rfl
set_option maxRecDepth 100000 in
theorem e_Sweep_leads (d : Nat) (r_0 : Nat) (x_1 : Int32) (x_2 : Int32) (h : Hp) : evm (d + 1) 64 [vR 7 r_0, vI x_1, vI x_2] h =
    bR (hR h r_0 0) fun r1 =>
    ifp (inb x_1 (hN h r1) = true) (
    ifp ((lg_cmp (((hL h r1 (ix x_1)) >>> (x_2.toInt64 &&& 63)) &&& (1 : Int64)) (0 : Int64)) = 0)
      (some (some (vI (0 : Int32)), h))
      (some (some (vI (1 : Int32)), h))) none := (evs_xpd _ tx_Sweep_leads [] 20 _).trans rfl
noncomputable def L_Sweep_joins_14 (d : Nat) (r_0 : Nat) (r_1 : Nat) (r_2 : Nat) (x_3 : Int32) (x_4 : Int32) (x_5 : Int32) (h : Hp) : Option Rs := evs (evm d) tx_Sweep_joins (14, [some (vR 7 r_0), some (vR 5 r_1), some (vR 20 r_2), some (vI x_3), some (vI x_4), some (vI x_5)], [], h)
noncomputable def L_Sweep_joins_58 (d : Nat) (r_0 : Nat) (r_1 : Nat) (r_2 : Nat) (x_3 : Int32) (x_4 : Int32) (x_5 : Int32) (h : Hp) : Option Rs := evs (evm d) tx_Sweep_joins (58, [some (vR 7 r_0), some (vR 5 r_1), some (vR 20 r_2), some (vI x_3), some (vI x_4), some (vI x_5)], [], h)
set_option maxRecDepth 100000 in
theorem e_Sweep_joins_14 (d : Nat) (r_0 : Nat) (r_1 : Nat) (r_2 : Nat) (x_3 : Int32) (x_4 : Int32) (x_5 : Int32) (h : Hp) : L_Sweep_joins_14 d r_0 r_1 r_2 x_3 x_4 x_5 h =
    ifp (x_5 < (hI h r_1 7))
      (ifp (inb x_5 (hN h r_2) = true) (
      ifp ((hI h r_2 (ix x_5)) = (1 : Int32))
        (bI (evm d 64 [vR 7 r_0, vI x_3, vI x_5] h) fun x2 h1 =>
        ifp (x2 = 0)
          (L_Sweep_joins_14 d r_0 r_1 r_2 x_3 x_4 (x_5 + (1 : Int32)) h1)
          (ifp ((lg_cmp (((hL h1 r_0 2) >>> (x_5.toInt64 &&& 63)) &&& (1 : Int64)) (0 : Int64)) = 0)
            (L_Sweep_joins_58 d r_0 r_1 r_2 x_3 x_4 x_5 h1)
            (L_Sweep_joins_14 d r_0 r_1 r_2 x_3 x_4 (x_5 + (1 : Int32)) h1)))
        (L_Sweep_joins_14 d r_0 r_1 r_2 x_3 x_4 (x_5 + (1 : Int32)) h)) none)
      (some (some (vI (0 : Int32)), h)) := (evs_xpd _ tx_Sweep_joins [14, 58] 75 _).trans rfl
set_option maxRecDepth 100000 in
theorem e_Sweep_joins_58 (d : Nat) (r_0 : Nat) (r_1 : Nat) (r_2 : Nat) (x_3 : Int32) (x_4 : Int32) (x_5 : Int32) (h : Hp) : L_Sweep_joins_58 d r_0 r_1 r_2 x_3 x_4 x_5 h =
    bR (hR (sL h r_0 2 ((hL h r_0 2) ||| ((1 : Int64) <<< (x_5.toInt64 &&& 63)))) r_0 1) fun r1 =>
    ifp (inb x_5 (hN (sL h r_0 2 ((hL h r_0 2) ||| ((1 : Int64) <<< (x_5.toInt64 &&& 63)))) r1) = true) (
    ifp ((hI (sL h r_0 2 ((hL h r_0 2) ||| ((1 : Int64) <<< (x_5.toInt64 &&& 63)))) r1 (ix x_5)) = (-1 : Int32))
      (bR (hR (sL h r_0 2 ((hL h r_0 2) ||| ((1 : Int64) <<< (x_5.toInt64 &&& 63)))) r_0 1) fun r2 =>
      ifp (inb x_5 (hN (sL h r_0 2 ((hL h r_0 2) ||| ((1 : Int64) <<< (x_5.toInt64 &&& 63)))) r2) = true) (
      some (some (vI (1 : Int32)), sI (sL h r_0 2 ((hL h r_0 2) ||| ((1 : Int64) <<< (x_5.toInt64 &&& 63)))) r2 (ix x_5) x_3)) none)
      (bR (hR (sL h r_0 2 ((hL h r_0 2) ||| ((1 : Int64) <<< (x_5.toInt64 &&& 63)))) r_0 1) fun r3 =>
      ifp (inb x_5 (hN (sL h r_0 2 ((hL h r_0 2) ||| ((1 : Int64) <<< (x_5.toInt64 &&& 63)))) r3) = true) (
      bI (evm d 65 [vR 7 r_0, vR 5 r_1, vR 20 r_2, vI (hI (sL h r_0 2 ((hL h r_0 2) ||| ((1 : Int64) <<< (x_5.toInt64 &&& 63)))) r3 (ix x_5)), vI (x_4 + (1 : Int32))] (sL h r_0 2 ((hL h r_0 2) ||| ((1 : Int64) <<< (x_5.toInt64 &&& 63))))) fun x5 h4 =>
      ifp (x5 = 0)
        (L_Sweep_joins_14 d r_0 r_1 r_2 x_3 x_4 (x_5 + (1 : Int32)) h4)
        (bR (hR h4 r_0 1) fun r6 =>
        ifp (inb x_5 (hN h4 r6) = true) (
        some (some (vI (1 : Int32)), sI h4 r6 (ix x_5) x_3)) none)) none)) none := (evs_xpd _ tx_Sweep_joins [14, 58] 75 _).trans rfl
set_option maxRecDepth 100000 in
theorem e_Sweep_joins (d : Nat) (r_0 : Nat) (r_1 : Nat) (r_2 : Nat) (x_3 : Int32) (x_4 : Int32) (h : Hp) : evm (d + 1) 65 [vR 7 r_0, vR 5 r_1, vR 20 r_2, vI x_3, vI x_4] h =
    ifp ((40 : Int32) < x_4)
      (some (some (vI (0 : Int32)), h))
      (L_Sweep_joins_14 d r_0 r_1 r_2 x_3 x_4 (x_3 + (1 : Int32)) h) := (evs_xpd _ tx_Sweep_joins [14, 58] 75 _).trans rfl
set_option maxRecDepth 100000 in
theorem e_Tape_new (d : Nat) (r_0 : Nat) (h : Hp) : evm (d + 1) 66 [vR 8 r_0] h =
    ifp (inb (1000 : Int32) 1000000 = true) (
    alc h fun q1 =>
    some (none, sR (sN h 22 (ix (1000 : Int32)) (ix (1000 : Int32))) r_0 0 q1)) none := (evs_xpd _ tx_Tape_new [] 12 _).trans rfl
noncomputable def L_Tape_put_3 (d : Nat) (r_0 : Nat) (y_1 : Int64) (x_3 : Int32) (h : Hp) : Option Rs := evs (evm d) tx_Tape_put (3, [some (vR 8 r_0), some (vL y_1), none, some (vI x_3), none, none], [], h)
noncomputable def L_Tape_put_43 (d : Nat) (r_0 : Nat) (y_1 : Int64) (x_3 : Int32) (x_4 : Int32) (xs0 : Int32) (h : Hp) : Option Rs := evs (evm d) tx_Tape_put (43, [some (vR 8 r_0), some (vL y_1), none, some (vI x_3), some (vI x_4), none], [vI xs0], h)
set_option maxRecDepth 100000 in
theorem e_Tape_put_3 (d : Nat) (r_0 : Nat) (y_1 : Int64) (x_3 : Int32) (h : Hp) : L_Tape_put_3 d r_0 y_1 x_3 h =
    ifp (x_3 < 0)
      (some (none, h))
      (ifp (((y_1 >>> (x_3.toInt64 &&& 63)).toInt32 &&& (255 : Int32)) = (10 : Int32))
        (L_Tape_put_43 d r_0 y_1 x_3 ((y_1 >>> (x_3.toInt64 &&& 63)).toInt32 &&& (255 : Int32)) (1 : Int32) h)
        (ifp (((y_1 >>> (x_3.toInt64 &&& 63)).toInt32 &&& (255 : Int32)) < (32 : Int32))
          (L_Tape_put_43 d r_0 y_1 x_3 ((y_1 >>> (x_3.toInt64 &&& 63)).toInt32 &&& (255 : Int32)) (0 : Int32) h)
          (ifp ((126 : Int32) < ((y_1 >>> (x_3.toInt64 &&& 63)).toInt32 &&& (255 : Int32)))
            (L_Tape_put_43 d r_0 y_1 x_3 ((y_1 >>> (x_3.toInt64 &&& 63)).toInt32 &&& (255 : Int32)) (0 : Int32) h)
            (L_Tape_put_43 d r_0 y_1 x_3 ((y_1 >>> (x_3.toInt64 &&& 63)).toInt32 &&& (255 : Int32)) (1 : Int32) h)))) := (evs_xpd _ tx_Tape_put [3, 43] 53 _).trans rfl
set_option maxRecDepth 100000 in
theorem e_Tape_put_43 (d : Nat) (r_0 : Nat) (y_1 : Int64) (x_3 : Int32) (x_4 : Int32) (xs0 : Int32) (h : Hp) : L_Tape_put_43 d r_0 y_1 x_3 x_4 xs0 h =
    ifp (xs0 = 0)
      (L_Tape_put_3 d r_0 y_1 (x_3 + (-8 : Int32)) h)
      (bR (hR h r_0 0) fun r1 =>
      ifp ((hI h r_0 1) < (nI (hN h r1)))
        (bR (hR h r_0 0) fun r2 =>
        ifp (inb (hI h r_0 1) (hN h r2) = true) (
        bif isCh (chr x_4) then
        L_Tape_put_3 d r_0 y_1 (x_3 + (-8 : Int32)) (sI (sI h r2 (ix (hI h r_0 1)) (chr x_4)) r_0 1 ((hI (sI h r2 (ix (hI h r_0 1)) (chr x_4)) r_0 1) + (1 : Int32)))
        else none) none)
        (L_Tape_put_3 d r_0 y_1 (x_3 + (-8 : Int32)) h)) := (evs_xpd _ tx_Tape_put [3, 43] 53 _).trans rfl
set_option maxRecDepth 100000 in
theorem e_Tape_put (d : Nat) (r_0 : Nat) (y_1 : Int64) (h : Hp) : evm (d + 1) 67 [vR 8 r_0, vL y_1] h =
    L_Tape_put_3 d r_0 y_1 (56 : Int32) h := (evs_xpd _ tx_Tape_put [3, 43] 53 _).trans rfl
set_option maxRecDepth 100000 in
theorem e_Tape_rewind (d : Nat) (r_0 : Nat) (h : Hp) : evm (d + 1) 68 [vR 8 r_0] h =
    bV (evm d 69 [vR 8 r_0] (sI h r_0 4 (0 : Int32))) fun h1 =>
    some (none, h1) := (evs_xpd _ tx_Tape_rewind [] 11 _).trans rfl
noncomputable def L_Tape_advance_8 (d : Nat) (r_0 : Nat) (h : Hp) : Option Rs := evs (evm d) tx_Tape_advance (8, [some (vR 8 r_0), none], [], h)
noncomputable def L_Tape_advance_47 (d : Nat) (r_0 : Nat) (h : Hp) : Option Rs := evs (evm d) tx_Tape_advance (47, [some (vR 8 r_0), none], [], h)
noncomputable def L_Tape_advance_143 (d : Nat) (r_0 : Nat) (xs0 : Int32) (rs1 : Nat) (h : Hp) : Option Rs := evs (evm d) tx_Tape_advance (143, [some (vR 8 r_0), none], [vI xs0, vR 8 rs1], h)
set_option maxRecDepth 100000 in
theorem e_Tape_advance_8 (d : Nat) (r_0 : Nat) (h : Hp) : L_Tape_advance_8 d r_0 h =
    ifp ((hI h r_0 3) < (hI h r_0 1))
      (bR (hR h r_0 0) fun r1 =>
      ifp (inb (hI h r_0 3) (hN h r1) = true) (
      bI (evm d 73 [vI (hI h r1 (ix (hI h r_0 3)))] h) fun x3 h2 =>
      ifp (x3 = 0)
        (L_Tape_advance_47 d r_0 h2)
        (L_Tape_advance_8 d r_0 (sI h2 r_0 3 ((hI h2 r_0 3) + (1 : Int32))))) none)
      (L_Tape_advance_47 d r_0 h) := (evs_xpd _ tx_Tape_advance [8, 47, 143] 83 _).trans rfl
set_option maxRecDepth 100000 in
theorem e_Tape_advance_47 (d : Nat) (r_0 : Nat) (h : Hp) : L_Tape_advance_47 d r_0 h =
    ifp ((hI (sI h r_0 4 (hI h r_0 3)) r_0 3) < (hI (sI h r_0 4 (hI h r_0 3)) r_0 1))
      (bR (hR (sI h r_0 4 (hI h r_0 3)) r_0 0) fun r1 =>
      ifp (inb (hI (sI h r_0 4 (hI h r_0 3)) r_0 3) (hN (sI h r_0 4 (hI h r_0 3)) r1) = true) (
      bI (evm d 74 [vI (hI (sI h r_0 4 (hI h r_0 3)) r1 (ix (hI (sI h r_0 4 (hI h r_0 3)) r_0 3)))] (sI h r_0 4 (hI h r_0 3))) fun x3 h2 =>
      ifp (x3 = 0)
        (bR (hR h2 r_0 0) fun r4 =>
        ifp (inb (hI h2 r_0 3) (hN h2 r4) = true) (
        bI (evm d 75 [vI (hI h2 r4 (ix (hI h2 r_0 3)))] h2) fun x6 h5 =>
        ifp (x6 = 0)
          (bR (hR h5 r_0 0) fun r7 =>
          ifp (inb (hI h5 r_0 3) (hN h5 r7) = true) (
          bI (evm d 246 [vR 40 0, vI (hI h5 r7 (ix (hI h5 r_0 3)))] h5) fun x9 h8 =>
          ifp (x9 < 0)
            (L_Tape_advance_143 d r_0 (1 : Int32) r_0 h8)
            (L_Tape_advance_143 d r_0 (hI h5 r7 (ix (hI h5 r_0 3))) r_0 h8)) none)
          (bV (evm d 72 [vR 8 r_0] h5) fun h10 =>
          some (none, h10))) none)
        (bV (evm d 71 [vR 8 r_0] h2) fun h11 =>
        some (none, h11))) none)
      (some (none, sI (sI h r_0 4 (hI h r_0 3)) r_0 2 (0 : Int32))) := (evs_xpd _ tx_Tape_advance [8, 47, 143] 83 _).trans rfl
set_option maxRecDepth 100000 in
theorem e_Tape_advance_143 (d : Nat) (r_0 : Nat) (xs0 : Int32) (rs1 : Nat) (h : Hp) : L_Tape_advance_143 d r_0 xs0 rs1 h =
    some (none, sI (sI h rs1 2 xs0) r_0 4 ((hI (sI h rs1 2 xs0) r_0 4) + (1 : Int32))) := (evs_xpd _ tx_Tape_advance [8, 47, 143] 83 _).trans rfl
set_option maxRecDepth 100000 in
theorem e_Tape_advance (d : Nat) (r_0 : Nat) (h : Hp) : evm (d + 1) 69 [vR 8 r_0] h =
    L_Tape_advance_8 d r_0 (sI h r_0 3 (hI h r_0 4)) := (evs_xpd _ tx_Tape_advance [8, 47, 143] 83 _).trans rfl
noncomputable def L_Tape_isWord_28 (d : Nat) (r_0 : Nat) (r_1 : Nat) (x_2 : Int32) (h : Hp) : Option Rs := evs (evm d) tx_Tape_isWord (28, [some (vR 8 r_0), some (vR 40 r_1), some (vI x_2)], [], h)
set_option maxRecDepth 100000 in
theorem e_Tape_isWord_28 (d : Nat) (r_0 : Nat) (r_1 : Nat) (x_2 : Int32) (h : Hp) : L_Tape_isWord_28 d r_0 r_1 x_2 h =
    bI (evm d 242 [vR 40 r_1] h) fun x2 h1 =>
    ifp (x_2 < x2)
      (bR (hR h1 r_0 0) fun r3 =>
      ifp (inb ((hI h1 r_0 3) + x_2) (hN h1 r3) = true) (
      bI (evm d 245 [vR 40 r_1, vI x_2] h1) fun x5 h4 =>
      ifp ((hI h1 r3 (ix ((hI h1 r_0 3) + x_2))) = x5)
        (L_Tape_isWord_28 d r_0 r_1 (x_2 + (1 : Int32)) h4)
        (some (some (vI (0 : Int32)), h4))) none)
      (some (some (vI (1 : Int32)), h1)) := (evs_xpd _ tx_Tape_isWord [28] 42 _).trans rfl
set_option maxRecDepth 100000 in
theorem e_Tape_isWord (d : Nat) (r_0 : Nat) (r_1 : Nat) (h : Hp) : evm (d + 1) 70 [vR 8 r_0, vR 40 r_1] h =
    ifp ((hI h r_0 2) = (2 : Int32))
      (bI (evm d 242 [vR 40 r_1] h) fun x2 h1 =>
      ifp (x2 = ((hI h1 r_0 4) - (hI h1 r_0 3)))
        (L_Tape_isWord_28 d r_0 r_1 (0 : Int32) h1)
        (some (some (vI (0 : Int32)), h1)))
      (some (some (vI (0 : Int32)), h)) := (evs_xpd _ tx_Tape_isWord [28] 42 _).trans rfl
noncomputable def L_Tape_readWord_0 (d : Nat) (r_0 : Nat) (h : Hp) : Option Rs := evs (evm d) tx_Tape_readWord (0, [some (vR 8 r_0)], [], h)
noncomputable def L_Tape_readWord_39 (d : Nat) (r_0 : Nat) (h : Hp) : Option Rs := evs (evm d) tx_Tape_readWord (39, [some (vR 8 r_0)], [], h)
set_option maxRecDepth 100000 in
theorem e_Tape_readWord_0 (d : Nat) (r_0 : Nat) (h : Hp) : L_Tape_readWord_0 d r_0 h =
    ifp ((hI h r_0 4) < (hI h r_0 1))
      (bR (hR h r_0 0) fun r1 =>
      ifp (inb (hI h r_0 4) (hN h r1) = true) (
      bI (evm d 74 [vI (hI h r1 (ix (hI h r_0 4)))] h) fun x3 h2 =>
      ifp (x3 = 0)
        (L_Tape_readWord_39 d r_0 h2)
        (L_Tape_readWord_0 d r_0 (sI h2 r_0 4 ((hI h2 r_0 4) + (1 : Int32))))) none)
      (L_Tape_readWord_39 d r_0 h) := (evs_xpd _ tx_Tape_readWord [0, 39] 37 _).trans rfl
set_option maxRecDepth 100000 in
theorem e_Tape_readWord_39 (d : Nat) (r_0 : Nat) (h : Hp) : L_Tape_readWord_39 d r_0 h =
    ifp ((8 : Int32) < ((hI h r_0 4) - (hI h r_0 3)))
      (some (none, sI h r_0 2 (1 : Int32)))
      (some (none, sI h r_0 2 (2 : Int32))) := (evs_xpd _ tx_Tape_readWord [0, 39] 37 _).trans rfl
set_option maxRecDepth 100000 in
theorem e_Tape_readWord (d : Nat) (r_0 : Nat) (h : Hp) : evm (d + 1) 71 [vR 8 r_0] h =
    L_Tape_readWord_0 d r_0 h := rfl
noncomputable def L_Tape_readNumber_5 (d : Nat) (r_0 : Nat) (h : Hp) : Option Rs := evs (evm d) tx_Tape_readNumber (5, [some (vR 8 r_0)], [], h)
noncomputable def L_Tape_readNumber_68 (d : Nat) (r_0 : Nat) (h : Hp) : Option Rs := evs (evm d) tx_Tape_readNumber (68, [some (vR 8 r_0)], [], h)
set_option maxRecDepth 100000 in
theorem e_Tape_readNumber_5 (d : Nat) (r_0 : Nat) (h : Hp) : L_Tape_readNumber_5 d r_0 h =
    ifp ((hI h r_0 4) < (hI h r_0 1))
      (bR (hR h r_0 0) fun r1 =>
      ifp (inb (hI h r_0 4) (hN h r1) = true) (
      bI (evm d 75 [vI (hI h r1 (ix (hI h r_0 4)))] h) fun x3 h2 =>
      ifp (x3 = 0)
        (L_Tape_readNumber_68 d r_0 h2)
        (bR (hR h2 r_0 0) fun r4 =>
        ifp (inb (hI h2 r_0 4) (hN h2 r4) = true) (
        L_Tape_readNumber_5 d r_0 (sI (sI h2 r_0 5 ((((hI h2 r_0 5) * (10 : Int32)) + (hI h2 r4 (ix (hI h2 r_0 4)))) - (48 : Int32))) r_0 4 ((hI (sI h2 r_0 5 ((((hI h2 r_0 5) * (10 : Int32)) + (hI h2 r4 (ix (hI h2 r_0 4)))) - (48 : Int32))) r_0 4) + (1 : Int32)))) none)) none)
      (L_Tape_readNumber_68 d r_0 h) := (evs_xpd _ tx_Tape_readNumber [5, 68] 54 _).trans rfl
set_option maxRecDepth 100000 in
theorem e_Tape_readNumber_68 (d : Nat) (r_0 : Nat) (h : Hp) : L_Tape_readNumber_68 d r_0 h =
    ifp ((4 : Int32) < ((hI h r_0 4) - (hI h r_0 3)))
      (some (none, sI h r_0 2 (1 : Int32)))
      (some (none, sI h r_0 2 (3 : Int32))) := (evs_xpd _ tx_Tape_readNumber [5, 68] 54 _).trans rfl
set_option maxRecDepth 100000 in
theorem e_Tape_readNumber (d : Nat) (r_0 : Nat) (h : Hp) : evm (d + 1) 72 [vR 8 r_0] h =
    L_Tape_readNumber_5 d r_0 (sI h r_0 5 (0 : Int32)) := (evs_xpd _ tx_Tape_readNumber [5, 68] 54 _).trans rfl
set_option maxRecDepth 100000 in
theorem e_Tape_isBlank (d : Nat) (x_0 : Int32) (h : Hp) : evm (d + 1) 73 [vI x_0] h =
    ifp (x_0 = (10 : Int32))
      (some (some (vI (1 : Int32)), h))
      (ifp (x_0 = (32 : Int32))
        (some (some (vI (1 : Int32)), h))
        (some (some (vI (0 : Int32)), h))) := (evs_xpd _ tx_Tape_isBlank [] 15 _).trans rfl
set_option maxRecDepth 100000 in
theorem e_Tape_isLetter (d : Nat) (x_0 : Int32) (h : Hp) : evm (d + 1) 74 [vI x_0] h =
    ifp (x_0 < (97 : Int32))
      (some (some (vI (0 : Int32)), h))
      (ifp ((122 : Int32) < x_0)
        (some (some (vI (0 : Int32)), h))
        (some (some (vI (1 : Int32)), h))) := (evs_xpd _ tx_Tape_isLetter [] 15 _).trans rfl
set_option maxRecDepth 100000 in
theorem e_Tape_isDigit (d : Nat) (x_0 : Int32) (h : Hp) : evm (d + 1) 75 [vI x_0] h =
    ifp (x_0 < (48 : Int32))
      (some (some (vI (0 : Int32)), h))
      (ifp ((57 : Int32) < x_0)
        (some (some (vI (0 : Int32)), h))
        (some (some (vI (1 : Int32)), h))) := (evs_xpd _ tx_Tape_isDigit [] 15 _).trans rfl
set_option maxRecDepth 100000 in
theorem e_Throng_new (d : Nat) (r_0 : Nat) (h : Hp) : evm (d + 1) 76 [vR 9 r_0] h =
    ifp (inb (41 : Int32) 1000000 = true) (
    alc h fun q1 =>
    alc (sR (sN h 21 (ix (41 : Int32)) (ix (41 : Int32))) r_0 0 q1) fun q2 =>
    bV (evm d 0 [vR 0 q2] (sN (sR (sN h 21 (ix (41 : Int32)) (ix (41 : Int32))) r_0 0 q1) 0 0 6)) fun h3 =>
    ifp (inb (6 : Int32) 1000000 = true) (
    alc (sR h3 r_0 2 q2) fun q4 =>
    ifp (inb (6 : Int32) 1000000 = true) (
    alc (sR (sN (sR h3 r_0 2 q2) 20 (ix (6 : Int32)) (ix (6 : Int32))) r_0 3 q4) fun q5 =>
    ifp (inb (6 : Int32) 1000000 = true) (
    alc (sR (sN (sR (sN (sR h3 r_0 2 q2) 20 (ix (6 : Int32)) (ix (6 : Int32))) r_0 3 q4) 20 (ix (6 : Int32)) (ix (6 : Int32))) r_0 4 q5) fun q6 =>
    ifp (inb (64 : Int32) 1000000 = true) (
    alc (sR (sN (sR (sN (sR (sN (sR h3 r_0 2 q2) 20 (ix (6 : Int32)) (ix (6 : Int32))) r_0 3 q4) 20 (ix (6 : Int32)) (ix (6 : Int32))) r_0 4 q5) 21 (ix (6 : Int32)) (ix (6 : Int32))) r_0 5 q6) fun q7 =>
    some (none, sR (sN (sR (sN (sR (sN (sR (sN (sR h3 r_0 2 q2) 20 (ix (6 : Int32)) (ix (6 : Int32))) r_0 3 q4) 20 (ix (6 : Int32)) (ix (6 : Int32))) r_0 4 q5) 21 (ix (6 : Int32)) (ix (6 : Int32))) r_0 5 q6) 21 (ix (64 : Int32)) (ix (64 : Int32))) r_0 6 q7)) none) none) none) none) none := (evs_xpd _ tx_Throng_new [] 33 _).trans rfl
set_option maxRecDepth 100000 in
theorem e_Throng_forget (d : Nat) (r_0 : Nat) (h : Hp) : evm (d + 1) 77 [vR 9 r_0] h =
    some (none, sL h r_0 7 (0 : Int64)) := (evs_xpd _ tx_Throng_forget [] 9 _).trans rfl
noncomputable def L_Throng_goUp_37 (d : Nat) (r_0 : Nat) (r_1 : Nat) (x_4 : Int32) (h : Hp) : Option Rs := evs (evm d) tx_Throng_goUp (37, [some (vR 9 r_0), some (vR 5 r_1), none, none, some (vI x_4), none, none], [], h)
noncomputable def L_Throng_goUp_68 (d : Nat) (r_0 : Nat) (r_1 : Nat) (x_4 : Int32) (x_6 : Int32) (h : Hp) : Option Rs := evs (evm d) tx_Throng_goUp (68, [some (vR 9 r_0), some (vR 5 r_1), none, none, some (vI x_4), none, some (vI x_6)], [], h)
set_option maxRecDepth 100000 in
theorem e_Throng_goUp_37 (d : Nat) (r_0 : Nat) (r_1 : Nat) (x_4 : Int32) (h : Hp) : L_Throng_goUp_37 d r_0 r_1 x_4 h =
    ifp (x_4 < (hI h r_1 7))
      (bI (evm d 32 [vR 5 r_1] h) fun x2 h1 =>
      bI (evm d 241 [vI ((hI h r_1 7) - (1 : Int32)), vI (x_4 * x2)] h1) fun x4 h3 =>
      L_Throng_goUp_68 d r_0 r_1 x_4 x4 h3)
      (some (none, h)) := (evs_xpd _ tx_Throng_goUp [37, 68] 58 _).trans rfl
set_option maxRecDepth 100000 in
theorem e_Throng_goUp_68 (d : Nat) (r_0 : Nat) (r_1 : Nat) (x_4 : Int32) (x_6 : Int32) (h : Hp) : L_Throng_goUp_68 d r_0 r_1 x_4 x_6 h =
    ifp (x_6 < x_4)
      (L_Throng_goUp_37 d r_0 r_1 (x_4 + (1 : Int32)) h)
      (bV (evm d 80 [vR 9 r_0, vR 5 r_1, vI x_6, vI x_4] h) fun h1 =>
      L_Throng_goUp_68 d r_0 r_1 x_4 (x_6 + (-1 : Int32)) h1) := (evs_xpd _ tx_Throng_goUp [37, 68] 58 _).trans rfl
set_option maxRecDepth 100000 in
theorem e_Throng_goUp (d : Nat) (r_0 : Nat) (r_1 : Nat) (y_2 : Int64) (h : Hp) : evm (d + 1) 78 [vR 9 r_0, vR 5 r_1, vL y_2] h =
    ifp ((lg_cmp (hL h r_0 7) y_2) = 0)
      (some (none, h))
      (bV (evm d 79 [vR 9 r_0, vR 5 r_1] (sL h r_0 7 y_2)) fun h1 =>
      bR (hR h1 r_0 0) fun r2 =>
      ifp (inb (0 : Int32) (hN h1 r2) = true) (
      bR (hR (sL h1 r2 (ix (0 : Int32)) y_2) r_0 6) fun r3 =>
      ifp (inb (0 : Int32) (hN (sL h1 r2 (ix (0 : Int32)) y_2) r3) = true) (
      L_Throng_goUp_37 d r_0 r_1 (0 : Int32) (sL (sL h1 r2 (ix (0 : Int32)) y_2) r3 (ix (0 : Int32)) y_2)) none) none) := (evs_xpd _ tx_Throng_goUp [37, 68] 58 _).trans rfl
noncomputable def L_Throng_begin_74 (d : Nat) (r_0 : Nat) (x_3 : Int32) (h : Hp) : Option Rs := evs (evm d) tx_Throng_begin (74, [some (vR 9 r_0), none, none, some (vI x_3)], [], h)
noncomputable def L_Throng_begin_98 (d : Nat) (r_0 : Nat) (x_3 : Int32) (h : Hp) : Option Rs := evs (evm d) tx_Throng_begin (98, [some (vR 9 r_0), none, none, some (vI x_3)], [], h)
set_option maxRecDepth 100000 in
theorem e_Throng_begin_74 (d : Nat) (r_0 : Nat) (x_3 : Int32) (h : Hp) : L_Throng_begin_74 d r_0 x_3 h =
    bR (hR h r_0 6) fun r1 =>
    ifp (x_3 < (nI (hN h r1)))
      (bR (hR h r_0 6) fun r2 =>
      ifp (inb x_3 (hN h r2) = true) (
      L_Throng_begin_74 d r_0 (x_3 + (1 : Int32)) (sL h r2 (ix x_3) (0 : Int64))) none)
      (L_Throng_begin_98 d r_0 (0 : Int32) h) := (evs_xpd _ tx_Throng_begin [74, 98] 78 _).trans rfl
set_option maxRecDepth 100000 in
theorem e_Throng_begin_98 (d : Nat) (r_0 : Nat) (x_3 : Int32) (h : Hp) : L_Throng_begin_98 d r_0 x_3 h =
    bR (hR h r_0 0) fun r1 =>
    ifp (x_3 < (nI (hN h r1)))
      (bR (hR h r_0 0) fun r2 =>
      ifp (inb x_3 (hN h r2) = true) (
      L_Throng_begin_98 d r_0 (x_3 + (1 : Int32)) (sL h r2 (ix x_3) (0 : Int64))) none)
      (some (none, sL h r_0 1 (0 : Int64))) := (evs_xpd _ tx_Throng_begin [74, 98] 78 _).trans rfl
set_option maxRecDepth 100000 in
theorem e_Throng_begin (d : Nat) (r_0 : Nat) (r_1 : Nat) (h : Hp) : evm (d + 1) 79 [vR 9 r_0, vR 5 r_1] h =
    bI (evm d 33 [vR 5 r_1] (sI h r_0 8 ((hI h r_1 8) + (1 : Int32)))) fun x2 h1 =>
    bI (evm d 34 [vR 5 r_1] (sI h1 r_0 9 x2)) fun x4 h3 =>
    bR (hR (sI h3 r_0 10 x4) r_0 6) fun r5 =>
    ifp ((nI (hN (sI h3 r_0 10 x4) r5)) < ((((hI (sI h3 r_0 10 x4) r_1 7) * (hI (sI h3 r_0 10 x4) r_0 8)) * (hI (sI h3 r_0 10 x4) r_0 9)) * (hI (sI h3 r_0 10 x4) r_0 10)))
      (bR (hR (sI h3 r_0 10 x4) r_0 6) fun r6 =>
      bI (evm d 240 [vI ((((hI (sI h3 r_0 10 x4) r_1 7) * (hI (sI h3 r_0 10 x4) r_0 8)) * (hI (sI h3 r_0 10 x4) r_0 9)) * (hI (sI h3 r_0 10 x4) r_0 10)), vI ((2 : Int32) * (nI (hN (sI h3 r_0 10 x4) r6)))] (sI h3 r_0 10 x4)) fun x8 h7 =>
      ifp (inb x8 1000000 = true) (
      alc h7 fun q9 =>
      L_Throng_begin_74 d r_0 (0 : Int32) (sR (sN h7 21 (ix x8) (ix x8)) r_0 6 q9)) none)
      (L_Throng_begin_74 d r_0 (0 : Int32) (sI h3 r_0 10 x4)) := (evs_xpd _ tx_Throng_begin [74, 98] 78 _).trans rfl
noncomputable def L_Throng_passStep_3 (d : Nat) (r_0 : Nat) (r_1 : Nat) (x_2 : Int32) (x_3 : Int32) (x_4 : Int32) (h : Hp) : Option Rs := evs (evm d) tx_Throng_passStep (3, [some (vR 9 r_0), some (vR 5 r_1), some (vI x_2), some (vI x_3), some (vI x_4), none, none, none, none, none, none, none], [], h)
noncomputable def L_Throng_passStep_47 (d : Nat) (r_0 : Nat) (r_1 : Nat) (x_2 : Int32) (x_3 : Int32) (x_4 : Int32) (x_5 : Int32) (x_6 : Int32) (x_7 : Int32) (h : Hp) : Option Rs := evs (evm d) tx_Throng_passStep (47, [some (vR 9 r_0), some (vR 5 r_1), some (vI x_2), some (vI x_3), some (vI x_4), some (vI x_5), some (vI x_6), some (vI x_7), none, none, none, none], [], h)
noncomputable def L_Throng_passStep_59 (d : Nat) (r_0 : Nat) (r_1 : Nat) (x_2 : Int32) (x_3 : Int32) (x_4 : Int32) (x_5 : Int32) (x_6 : Int32) (x_7 : Int32) (x_8 : Int32) (h : Hp) : Option Rs := evs (evm d) tx_Throng_passStep (59, [some (vR 9 r_0), some (vR 5 r_1), some (vI x_2), some (vI x_3), some (vI x_4), some (vI x_5), some (vI x_6), some (vI x_7), some (vI x_8), none, none, none], [], h)
noncomputable def L_Throng_passStep_68 (d : Nat) (r_0 : Nat) (r_1 : Nat) (x_2 : Int32) (x_3 : Int32) (x_4 : Int32) (x_5 : Int32) (x_6 : Int32) (x_7 : Int32) (x_8 : Int32) (h : Hp) : Option Rs := evs (evm d) tx_Throng_passStep (68, [some (vR 9 r_0), some (vR 5 r_1), some (vI x_2), some (vI x_3), some (vI x_4), some (vI x_5), some (vI x_6), some (vI x_7), some (vI x_8), none, none, none], [], h)
noncomputable def L_Throng_passStep_144 (d : Nat) (r_0 : Nat) (r_1 : Nat) (x_2 : Int32) (x_3 : Int32) (x_4 : Int32) (x_5 : Int32) (x_6 : Int32) (x_7 : Int32) (x_8 : Int32) (x_9 : Int32) (h : Hp) : Option Rs := evs (evm d) tx_Throng_passStep (144, [some (vR 9 r_0), some (vR 5 r_1), some (vI x_2), some (vI x_3), some (vI x_4), some (vI x_5), some (vI x_6), some (vI x_7), some (vI x_8), some (vI x_9), none, none], [], h)
set_option maxRecDepth 100000 in
theorem e_Throng_passStep_3 (d : Nat) (r_0 : Nat) (r_1 : Nat) (x_2 : Int32) (x_3 : Int32) (x_4 : Int32) (h : Hp) : L_Throng_passStep_3 d r_0 r_1 x_2 x_3 x_4 h =
    ifp (x_4 < (hI h r_0 8))
      (ifp ((hI h r_1 8) < x_4)
        (some (none, h))
        (ifp (x_4 = 0)
          (L_Throng_passStep_47 d r_0 r_1 x_2 x_3 x_4 (0 : Int32) (0 : Int32) (0 : Int32) h)
          (bR (hR h r_1 0) fun r1 =>
          ifp (inb (x_4 - (1 : Int32)) (hN h r1) = true) (
          L_Throng_passStep_47 d r_0 r_1 x_2 x_3 x_4 (hI h r1 (ix (x_4 - (1 : Int32)))) (0 : Int32) (0 : Int32) h) none)))
      (some (none, h)) := (evs_xpd _ tx_Throng_passStep [3, 47, 59, 68, 144] 100 _).trans rfl
set_option maxRecDepth 100000 in
theorem e_Throng_passStep_47 (d : Nat) (r_0 : Nat) (r_1 : Nat) (x_2 : Int32) (x_3 : Int32) (x_4 : Int32) (x_5 : Int32) (x_6 : Int32) (x_7 : Int32) (h : Hp) : L_Throng_passStep_47 d r_0 r_1 x_2 x_3 x_4 x_5 x_6 x_7 h =
    ifp (x_7 < (hI h r_0 9))
      (L_Throng_passStep_59 d r_0 r_1 x_2 x_3 x_4 x_5 x_6 x_7 (0 : Int32) h)
      (L_Throng_passStep_3 d r_0 r_1 x_2 x_3 (x_4 + (1 : Int32)) h) := (evs_xpd _ tx_Throng_passStep [3, 47, 59, 68, 144] 100 _).trans rfl
set_option maxRecDepth 100000 in
theorem e_Throng_passStep_59 (d : Nat) (r_0 : Nat) (r_1 : Nat) (x_2 : Int32) (x_3 : Int32) (x_4 : Int32) (x_5 : Int32) (x_6 : Int32) (x_7 : Int32) (x_8 : Int32) (h : Hp) : L_Throng_passStep_59 d r_0 r_1 x_2 x_3 x_4 x_5 x_6 x_7 x_8 h =
    ifp (x_8 < (hI h r_0 10))
      (L_Throng_passStep_68 d r_0 r_1 x_2 x_3 x_4 x_5 x_6 x_7 x_8 h)
      (L_Throng_passStep_47 d r_0 r_1 x_2 x_3 x_4 x_5 x_6 (x_7 + (1 : Int32)) h) := (evs_xpd _ tx_Throng_passStep [3, 47, 59, 68, 144] 100 _).trans rfl
set_option maxRecDepth 100000 in
theorem e_Throng_passStep_68 (d : Nat) (r_0 : Nat) (r_1 : Nat) (x_2 : Int32) (x_3 : Int32) (x_4 : Int32) (x_5 : Int32) (x_6 : Int32) (x_7 : Int32) (x_8 : Int32) (h : Hp) : L_Throng_passStep_68 d r_0 r_1 x_2 x_3 x_4 x_5 x_6 x_7 x_8 h =
    bR (hR h r_0 2) fun r1 =>
    bV (evm d 2 [vR 0 r1, vI x_2, vI x_3, vI x_5, vI x_7, vI x_8] h) fun h2 =>
    bR (hR h2 r_0 2) fun r3 =>
    bI (evm d 81 [vR 9 r_0, vR 5 r_1, vR 0 r3] h2) fun x5 h4 =>
    ifp (x5 < 0)
      (L_Throng_passStep_59 d r_0 r_1 x_2 x_3 x_4 x_5 x_6 x_7 (x_8 + (1 : Int32)) h4)
      (bR (hR h4 r_0 6) fun r6 =>
      ifp (x5 < (nI (hN h4 r6)))
        (bR (hR h4 r_0 6) fun r7 =>
        ifp (inb x5 (hN h4 r7) = true) (
        ifp ((lg_cmp (hL h4 r7 (ix x5)) (0 : Int64)) = 0)
          (L_Throng_passStep_59 d r_0 r_1 x_2 x_3 x_4 x_5 x_6 x_7 (x_8 + (1 : Int32)) h4)
          (ifp (x_6 = 0)
            (bR (hR h4 r_0 2) fun r8 =>
            bR (hR h4 r_0 3) fun r9 =>
            bV (evm d 8 [vR 0 r8, vR 5 r_1, vR 20 r9] h4) fun h10 =>
            L_Throng_passStep_144 d r_0 r_1 x_2 x_3 x_4 x_5 (1 : Int32) x_7 x_8 x5 h10)
            (L_Throng_passStep_144 d r_0 r_1 x_2 x_3 x_4 x_5 x_6 x_7 x_8 x5 h4))) none)
        (L_Throng_passStep_59 d r_0 r_1 x_2 x_3 x_4 x_5 x_6 x_7 (x_8 + (1 : Int32)) h4)) := (evs_xpd _ tx_Throng_passStep [3, 47, 59, 68, 144] 100 _).trans rfl
set_option maxRecDepth 100000 in
theorem e_Throng_passStep_144 (d : Nat) (r_0 : Nat) (r_1 : Nat) (x_2 : Int32) (x_3 : Int32) (x_4 : Int32) (x_5 : Int32) (x_6 : Int32) (x_7 : Int32) (x_8 : Int32) (x_9 : Int32) (h : Hp) : L_Throng_passStep_144 d r_0 r_1 x_2 x_3 x_4 x_5 x_6 x_7 x_8 x_9 h =
    bR (hR h r_0 6) fun r1 =>
    ifp (inb x_9 (hN h r1) = true) (
    bR (hR h r_0 6) fun r2 =>
    ifp (inb x_9 (hN h r2) = true) (
    bV (evm d 82 [vR 9 r_0, vR 5 r_1, vL (hL h r1 (ix x_9))] (sL h r2 (ix x_9) (0 : Int64))) fun h3 =>
    L_Throng_passStep_59 d r_0 r_1 x_2 x_3 x_4 x_5 x_6 x_7 (x_8 + (1 : Int32)) h3) none) none := (evs_xpd _ tx_Throng_passStep [3, 47, 59, 68, 144] 100 _).trans rfl
set_option maxRecDepth 100000 in
theorem e_Throng_passStep (d : Nat) (r_0 : Nat) (r_1 : Nat) (x_2 : Int32) (x_3 : Int32) (h : Hp) : evm (d + 1) 80 [vR 9 r_0, vR 5 r_1, vI x_2, vI x_3] h =
    L_Throng_passStep_3 d r_0 r_1 x_2 x_3 (0 : Int32) h := (evs_xpd _ tx_Throng_passStep [3, 47, 59, 68, 144] 100 _).trans rfl
noncomputable def L_Throng_placeOf_60 (d : Nat) (r_0 : Nat) (r_2 : Nat) (xs0 : Int32) (xs1 : Int32) (h : Hp) : Option Rs := evs (evm d) tx_Throng_placeOf (60, [some (vR 9 r_0), none, some (vR 0 r_2), none], [vI xs0, vI xs1], h)
set_option maxRecDepth 100000 in
theorem e_Throng_placeOf_60 (d : Nat) (r_0 : Nat) (r_2 : Nat) (xs0 : Int32) (xs1 : Int32) (h : Hp) : L_Throng_placeOf_60 d r_0 r_2 xs0 xs1 h =
    ifp ((1 : Int32) < (hI h r_0 10))
      (some (some (vI (((xs1 + xs0) * (hI h r_0 10)) + (hI h r_2 5))), h))
      (some (some (vI (((xs1 + xs0) * (hI h r_0 10)) + (0 : Int32))), h)) := (evs_xpd _ tx_Throng_placeOf [60] 54 _).trans rfl
set_option maxRecDepth 100000 in
theorem e_Throng_placeOf (d : Nat) (r_0 : Nat) (r_1 : Nat) (r_2 : Nat) (h : Hp) : evm (d + 1) 81 [vR 9 r_0, vR 5 r_1, vR 0 r_2] h =
    ifp ((hI h r_2 3) < 0)
      (some (some (vI (-1 : Int32)), h))
      (ifp ((12 : Int32) < (hI h r_2 3))
        (some (some (vI (-1 : Int32)), h))
        (bR (hR h r_1 1) fun r1 =>
        ifp (inb (hI h r_2 3) (hN h r1) = true) (
        ifp ((1 : Int32) < (hI h r_0 9))
          (L_Throng_placeOf_60 d r_0 r_2 (hI h r_2 4) ((((hI h r_2 1) * (hI h r_0 8)) + (hI h r1 (ix (hI h r_2 3)))) * (hI h r_0 9)) h)
          (L_Throng_placeOf_60 d r_0 r_2 (0 : Int32) ((((hI h r_2 1) * (hI h r_0 8)) + (hI h r1 (ix (hI h r_2 3)))) * (hI h r_0 9)) h)) none)) := (evs_xpd _ tx_Throng_placeOf [60] 54 _).trans rfl
noncomputable def L_Throng_part_33 (d : Nat) (r_0 : Nat) (r_1 : Nat) (y_2 : Int64) (x_4 : Int32) (y_5 : Int64) (x_7 : Int32) (x_8 : Int32) (h : Hp) : Option Rs := evs (evm d) tx_Throng_part (33, [some (vR 9 r_0), some (vR 5 r_1), some (vL y_2), none, some (vI x_4), some (vL y_5), none, some (vI x_7), some (vI x_8)], [], h)
noncomputable def L_Throng_part_42 (d : Nat) (r_0 : Nat) (r_1 : Nat) (y_2 : Int64) (x_4 : Int32) (y_5 : Int64) (x_7 : Int32) (x_8 : Int32) (h : Hp) : Option Rs := evs (evm d) tx_Throng_part (42, [some (vR 9 r_0), some (vR 5 r_1), some (vL y_2), none, some (vI x_4), some (vL y_5), none, some (vI x_7), some (vI x_8)], [], h)
noncomputable def L_Throng_part_114 (d : Nat) (r_0 : Nat) (r_1 : Nat) (y_5 : Int64) (x_7 : Int32) (x_8 : Int32) (h : Hp) : Option Rs := evs (evm d) tx_Throng_part (114, [some (vR 9 r_0), some (vR 5 r_1), none, none, none, some (vL y_5), none, some (vI x_7), some (vI x_8)], [], h)
set_option maxRecDepth 100000 in
theorem e_Throng_part_33 (d : Nat) (r_0 : Nat) (r_1 : Nat) (y_2 : Int64) (x_4 : Int32) (y_5 : Int64) (x_7 : Int32) (x_8 : Int32) (h : Hp) : L_Throng_part_33 d r_0 r_1 y_2 x_4 y_5 x_7 x_8 h =
    ifp (x_8 < (hI h r_1 8))
      (L_Throng_part_42 d r_0 r_1 y_2 x_4 y_5 x_7 x_8 h)
      (L_Throng_part_114 d r_0 r_1 y_5 x_7 (0 : Int32) h) := (evs_xpd _ tx_Throng_part [33, 42, 114] 100 _).trans rfl
set_option maxRecDepth 100000 in
theorem e_Throng_part_42 (d : Nat) (r_0 : Nat) (r_1 : Nat) (y_2 : Int64) (x_4 : Int32) (y_5 : Int64) (x_7 : Int32) (x_8 : Int32) (h : Hp) : L_Throng_part_42 d r_0 r_1 y_2 x_4 y_5 x_7 x_8 h =
    bR (hR h r_0 5) fun r1 =>
    ifp (x_8 < (nI (hN h r1)))
      (bR (hR h r_0 5) fun r2 =>
      bR (hR h r_0 4) fun r3 =>
      ifp (inb x_8 (hN h r3) = true) (
      ifp (x_4.toInt64 = 0) none (
      ifp (inb x_8 (hN h r2) = true) (
      bR (hR (sL h r2 (ix x_8) ((y_2 * (hI h r3 (ix x_8)).toInt64) / x_4.toInt64)) r_0 5) fun r4 =>
      ifp (inb x_8 (hN (sL h r2 (ix x_8) ((y_2 * (hI h r3 (ix x_8)).toInt64) / x_4.toInt64)) r4) = true) (
      ifp (x_7 = (-1 : Int32))
        (bR (hR (sL h r2 (ix x_8) ((y_2 * (hI h r3 (ix x_8)).toInt64) / x_4.toInt64)) r_0 4) fun r5 =>
        ifp (inb x_8 (hN (sL h r2 (ix x_8) ((y_2 * (hI h r3 (ix x_8)).toInt64) / x_4.toInt64)) r5) = true) (
        ifp (0 < (hI (sL h r2 (ix x_8) ((y_2 * (hI h r3 (ix x_8)).toInt64) / x_4.toInt64)) r5 (ix x_8)))
          (L_Throng_part_33 d r_0 r_1 y_2 x_4 (y_5 - (hL (sL h r2 (ix x_8) ((y_2 * (hI h r3 (ix x_8)).toInt64) / x_4.toInt64)) r4 (ix x_8))) x_8 (x_8 + (1 : Int32)) (sL h r2 (ix x_8) ((y_2 * (hI h r3 (ix x_8)).toInt64) / x_4.toInt64)))
          (L_Throng_part_33 d r_0 r_1 y_2 x_4 (y_5 - (hL (sL h r2 (ix x_8) ((y_2 * (hI h r3 (ix x_8)).toInt64) / x_4.toInt64)) r4 (ix x_8))) x_7 (x_8 + (1 : Int32)) (sL h r2 (ix x_8) ((y_2 * (hI h r3 (ix x_8)).toInt64) / x_4.toInt64)))) none)
        (L_Throng_part_33 d r_0 r_1 y_2 x_4 (y_5 - (hL (sL h r2 (ix x_8) ((y_2 * (hI h r3 (ix x_8)).toInt64) / x_4.toInt64)) r4 (ix x_8))) x_7 (x_8 + (1 : Int32)) (sL h r2 (ix x_8) ((y_2 * (hI h r3 (ix x_8)).toInt64) / x_4.toInt64)))) none) none)) none)
      (L_Throng_part_114 d r_0 r_1 y_5 x_7 (0 : Int32) h) := (evs_xpd _ tx_Throng_part [33, 42, 114] 100 _).trans rfl
set_option maxRecDepth 100000 in
theorem e_Throng_part_114 (d : Nat) (r_0 : Nat) (r_1 : Nat) (y_5 : Int64) (x_7 : Int32) (x_8 : Int32) (h : Hp) : L_Throng_part_114 d r_0 r_1 y_5 x_7 x_8 h =
    ifp (x_8 < (hI h r_1 8))
      (bR (hR h r_0 5) fun r1 =>
      ifp (x_8 < (nI (hN h r1)))
        (bR (hR h r_1 0) fun r2 =>
        ifp (inb x_8 (hN h r2) = true) (
        ifp (x_8 = x_7)
          (bR (hR h r_0 5) fun r5 =>
          ifp (inb x_8 (hN h r5) = true) (
          bV (evm d 83 [vR 9 r_0, vR 5 r_1, vI (hI h r2 (ix x_8)), vL ((hL h r5 (ix x_8)) + y_5)] h) fun h6 =>
          L_Throng_part_114 d r_0 r_1 y_5 x_7 (x_8 + (1 : Int32)) h6) none)
          (bR (hR h r_0 5) fun r3 =>
          ifp (inb x_8 (hN h r3) = true) (
          bV (evm d 83 [vR 9 r_0, vR 5 r_1, vI (hI h r2 (ix x_8)), vL (hL h r3 (ix x_8))] h) fun h4 =>
          L_Throng_part_114 d r_0 r_1 y_5 x_7 (x_8 + (1 : Int32)) h4) none)) none)
        (some (none, h)))
      (some (none, h)) := (evs_xpd _ tx_Throng_part [33, 42, 114] 100 _).trans rfl
set_option maxRecDepth 100000 in
theorem e_Throng_part (d : Nat) (r_0 : Nat) (r_1 : Nat) (y_2 : Int64) (h : Hp) : evm (d + 1) 82 [vR 9 r_0, vR 5 r_1, vL y_2] h =
    bR (hR h r_0 2) fun r1 =>
    bR (hR h r_0 3) fun r2 =>
    bR (hR h r_0 4) fun r3 =>
    bI (evm d 9 [vR 0 r1, vR 5 r_1, vR 20 r2, vR 20 r3] h) fun x5 h4 =>
    ifp (0 < x5)
      (L_Throng_part_33 d r_0 r_1 y_2 x5 y_2 (-1 : Int32) (0 : Int32) h4)
      (some (none, h4)) := (evs_xpd _ tx_Throng_part [33, 42, 114] 100 _).trans rfl
noncomputable def L_Throng_send_92 (d : Nat) (r_0 : Nat) (r_1 : Nat) (y_3 : Int64) (x_5 : Int32) (x_6 : Int32) (x_7 : Int32) (x_8 : Int32) (x_9 : Int32) (h : Hp) : Option Rs := evs (evm d) tx_Throng_send (92, [some (vR 9 r_0), some (vR 5 r_1), none, some (vL y_3), none, some (vI x_5), some (vI x_6), some (vI x_7), some (vI x_8), some (vI x_9), none], [], h)
noncomputable def L_Throng_send_153 (d : Nat) (r_0 : Nat) (x_5 : Int32) (x_6 : Int32) (x_7 : Int32) (x_8 : Int32) (x_9 : Int32) (h : Hp) : Option Rs := evs (evm d) tx_Throng_send (153, [some (vR 9 r_0), none, none, none, none, some (vI x_5), some (vI x_6), some (vI x_7), some (vI x_8), some (vI x_9), none], [], h)
set_option maxRecDepth 100000 in
theorem e_Throng_send_92 (d : Nat) (r_0 : Nat) (r_1 : Nat) (y_3 : Int64) (x_5 : Int32) (x_6 : Int32) (x_7 : Int32) (x_8 : Int32) (x_9 : Int32) (h : Hp) : L_Throng_send_92 d r_0 r_1 y_3 x_5 x_6 x_7 x_8 x_9 h =
    bR (hR (sL h r_0 1 ((hL h r_0 1) + y_3)) r_0 2) fun r1 =>
    bI (evm d 81 [vR 9 r_0, vR 5 r_1, vR 0 r1] (sL h r_0 1 ((hL h r_0 1) + y_3))) fun x3 h2 =>
    bR (hR h2 r_0 2) fun r4 =>
    ifp ((hI h2 r4 1) < (hI h2 r_1 7))
      (ifp (x3 < 0)
        (L_Throng_send_153 d r_0 x_5 x_6 x_7 x_8 x_9 h2)
        (bR (hR h2 r_0 6) fun r5 =>
        ifp (x3 < (nI (hN h2 r5)))
          (bR (hR h2 r_0 6) fun r6 =>
          ifp (inb x3 (hN h2 r6) = true) (
          ifp (inb x3 (hN h2 r6) = true) (
          L_Throng_send_153 d r_0 x_5 x_6 x_7 x_8 x_9 (sL h2 r6 (ix x3) ((hL h2 r6 (ix x3)) + y_3))) none) none)
          (L_Throng_send_153 d r_0 x_5 x_6 x_7 x_8 x_9 h2)))
      (L_Throng_send_153 d r_0 x_5 x_6 x_7 x_8 x_9 h2) := (evs_xpd _ tx_Throng_send [92, 153] 94 _).trans rfl
set_option maxRecDepth 100000 in
theorem e_Throng_send_153 (d : Nat) (r_0 : Nat) (x_5 : Int32) (x_6 : Int32) (x_7 : Int32) (x_8 : Int32) (x_9 : Int32) (h : Hp) : L_Throng_send_153 d r_0 x_5 x_6 x_7 x_8 x_9 h =
    bR (hR h r_0 2) fun r1 =>
    bV (evm d 2 [vR 0 r1, vI x_5, vI x_6, vI x_7, vI x_8, vI x_9] h) fun h2 =>
    some (none, h2) := (evs_xpd _ tx_Throng_send [92, 153] 94 _).trans rfl
set_option maxRecDepth 100000 in
theorem e_Throng_send (d : Nat) (r_0 : Nat) (r_1 : Nat) (x_2 : Int32) (y_3 : Int64) (h : Hp) : evm (d + 1) 83 [vR 9 r_0, vR 5 r_1, vI x_2, vL y_3] h =
    ifp ((lg_cmp y_3 (0 : Int64)) = 0)
      (some (none, h))
      (bR (hR h r_0 2) fun r1 =>
      bR (hR h r_0 2) fun r2 =>
      bR (hR h r_0 2) fun r3 =>
      bR (hR h r_0 2) fun r4 =>
      bR (hR h r_0 2) fun r5 =>
      bR (hR h r_0 2) fun r6 =>
      bV (evm d 5 [vR 0 r6, vR 5 r_1, vI x_2] h) fun h7 =>
      bR (hR h7 r_0 2) fun r8 =>
      bR (hR h7 r_0 0) fun r9 =>
      ifp ((hI h7 r8 1) < (nI (hN h7 r9)))
        (bR (hR h7 r_0 0) fun r10 =>
        bR (hR h7 r_0 2) fun r11 =>
        ifp (inb (hI h7 r11 1) (hN h7 r10) = true) (
        ifp (inb (hI h7 r11 1) (hN h7 r10) = true) (
        L_Throng_send_92 d r_0 r_1 y_3 (hI h r1 1) (hI h r2 2) (hI h r3 3) (hI h r4 4) (hI h r5 5) (sL h7 r10 (ix (hI h7 r11 1)) ((hL h7 r10 (ix (hI h7 r11 1))) + y_3))) none) none)
        (L_Throng_send_92 d r_0 r_1 y_3 (hI h r1 1) (hI h r2 2) (hI h r3 3) (hI h r4 4) (hI h r5 5) h7)) := (evs_xpd _ tx_Throng_send [92, 153] 94 _).trans rfl
set_option maxRecDepth 100000 in
theorem e_Ways_new (d : Nat) (r_0 : Nat) (h : Hp) : evm (d + 1) 84 [vR 10 r_0] h =
    ifp (inb (13 : Int32) 1000000 = true) (
    alc h fun q1 =>
    ifp (inb (41 : Int32) 1000000 = true) (
    alc (sR (sN h 20 (ix (13 : Int32)) (ix (13 : Int32))) r_0 0 q1) fun q2 =>
    ifp (inb (64 : Int32) 1000000 = true) (
    alc (sR (sN (sR (sN h 20 (ix (13 : Int32)) (ix (13 : Int32))) r_0 0 q1) 20 (ix (41 : Int32)) (ix (41 : Int32))) r_0 1 q2) fun q3 =>
    some (none, sI (sR (sN (sR (sN (sR (sN h 20 (ix (13 : Int32)) (ix (13 : Int32))) r_0 0 q1) 20 (ix (41 : Int32)) (ix (41 : Int32))) r_0 1 q2) 21 (ix (64 : Int32)) (ix (64 : Int32))) r_0 2 q3) r_0 3 (-4 : Int32))) none) none) none := (evs_xpd _ tx_Ways_new [] 23 _).trans rfl
set_option maxRecDepth 100000 in
theorem e_Ways_forget (d : Nat) (r_0 : Nat) (h : Hp) : evm (d + 1) 85 [vR 10 r_0] h =
    some (none, sI h r_0 3 (-4 : Int32)) := (evs_xpd _ tx_Ways_forget [] 9 _).trans rfl
set_option maxRecDepth 100000 in
theorem e_Ways_beginAll (d : Nat) (r_0 : Nat) (r_1 : Nat) (h : Hp) : evm (d + 1) 86 [vR 10 r_0, vR 5 r_1] h =
    ifp ((hI h r_0 3) = (-1 : Int32))
      (some (none, h))
      (bV (evm d 95 [vR 10 r_0, vR 5 r_1, vI (-1 : Int32), vI (hI h r_1 13), vI (hI h r_1 14)] h) fun h1 =>
      some (none, h1)) := (evs_xpd _ tx_Ways_beginAll [] 18 _).trans rfl
set_option maxRecDepth 100000 in
theorem e_Ways_beginExactly (d : Nat) (r_0 : Nat) (r_1 : Nat) (x_2 : Int32) (h : Hp) : evm (d + 1) 87 [vR 10 r_0, vR 5 r_1, vI x_2] h =
    ifp ((hI h r_0 3) = x_2)
      (some (none, h))
      (bI (evm d 240 [vI (hI h r_1 13), vI x_2] h) fun x2 h1 =>
      bI (evm d 241 [vI (hI h1 r_1 14), vI x_2] h1) fun x4 h3 =>
      bV (evm d 95 [vR 10 r_0, vR 5 r_1, vI x_2, vI x2, vI x4] h3) fun h5 =>
      some (none, h5)) := (evs_xpd _ tx_Ways_beginExactly [] 22 _).trans rfl
set_option maxRecDepth 100000 in
theorem e_Ways_beginGame (d : Nat) (r_0 : Nat) (r_1 : Nat) (h : Hp) : evm (d + 1) 88 [vR 10 r_0, vR 5 r_1] h =
    ifp ((hI h r_0 3) = (-3 : Int32))
      (some (none, h))
      (bV (evm d 95 [vR 10 r_0, vR 5 r_1, vI (-3 : Int32), vI (0 : Int32), vI (hI h r_1 14)] h) fun h1 =>
      some (none, h1)) := (evs_xpd _ tx_Ways_beginGame [] 17 _).trans rfl
noncomputable def L_Ways_beginDusty_2 (d : Nat) (r_0 : Nat) (r_1 : Nat) (r_2 : Nat) (x_3 : Int32) (h : Hp) : Option Rs := evs (evm d) tx_Ways_beginDusty (2, [some (vR 10 r_0), some (vR 5 r_1), some (vR 20 r_2), some (vI x_3)], [], h)
noncomputable def L_Ways_beginDusty_32 (d : Nat) (r_0 : Nat) (r_1 : Nat) (h : Hp) : Option Rs := evs (evm d) tx_Ways_beginDusty (32, [some (vR 10 r_0), some (vR 5 r_1), none, none], [], h)
set_option maxRecDepth 100000 in
theorem e_Ways_beginDusty_2 (d : Nat) (r_0 : Nat) (r_1 : Nat) (r_2 : Nat) (x_3 : Int32) (h : Hp) : L_Ways_beginDusty_2 d r_0 r_1 r_2 x_3 h =
    bR (hR h r_0 1) fun r1 =>
    ifp (x_3 < (nI (hN h r1)))
      (ifp (x_3 < (nI (hN h r_2)))
        (bR (hR h r_0 1) fun r2 =>
        ifp (inb x_3 (hN h r_2) = true) (
        ifp (inb x_3 (hN h r2) = true) (
        L_Ways_beginDusty_2 d r_0 r_1 r_2 (x_3 + (1 : Int32)) (sI h r2 (ix x_3) (hI h r_2 (ix x_3)))) none) none)
        (L_Ways_beginDusty_32 d r_0 r_1 h))
      (L_Ways_beginDusty_32 d r_0 r_1 h) := (evs_xpd _ tx_Ways_beginDusty [2, 32] 34 _).trans rfl
set_option maxRecDepth 100000 in
theorem e_Ways_beginDusty_32 (d : Nat) (r_0 : Nat) (r_1 : Nat) (h : Hp) : L_Ways_beginDusty_32 d r_0 r_1 h =
    bV (evm d 95 [vR 10 r_0, vR 5 r_1, vI (-2 : Int32), vI (hI h r_1 13), vI (hI h r_1 14)] h) fun h1 =>
    some (none, h1) := (evs_xpd _ tx_Ways_beginDusty [2, 32] 34 _).trans rfl
set_option maxRecDepth 100000 in
theorem e_Ways_beginDusty (d : Nat) (r_0 : Nat) (r_1 : Nat) (r_2 : Nat) (h : Hp) : evm (d + 1) 89 [vR 10 r_0, vR 5 r_1, vR 20 r_2] h =
    L_Ways_beginDusty_2 d r_0 r_1 r_2 (0 : Int32) h := (evs_xpd _ tx_Ways_beginDusty [2, 32] 34 _).trans rfl
noncomputable def L_Ways_from_8 (d : Nat) (r_0 : Nat) (r_1 : Nat) (r_2 : Nat) (x_3 : Int32) (h : Hp) : Option Rs := evs (evm d) tx_Ways_from (8, [some (vR 10 r_0), some (vR 5 r_1), some (vR 0 r_2), some (vI x_3), none, none, none, none], [], h)
noncomputable def L_Ways_from_84 (d : Nat) (r_0 : Nat) (r_1 : Nat) (r_2 : Nat) (x_3 : Int32) (x_4 : Int32) (y_5 : Int64) (x_7 : Int32) (h : Hp) : Option Rs := evs (evm d) tx_Ways_from (84, [some (vR 10 r_0), some (vR 5 r_1), some (vR 0 r_2), some (vI x_3), some (vI x_4), some (vL y_5), none, some (vI x_7)], [], h)
set_option maxRecDepth 100000 in
theorem e_Ways_from_8 (d : Nat) (r_0 : Nat) (r_1 : Nat) (r_2 : Nat) (x_3 : Int32) (h : Hp) : L_Ways_from_8 d r_0 r_1 r_2 x_3 h =
    ifp ((hI h r_2 1) < (hI h r_1 7))
      (bI (evm d 97 [vR 10 r_0, vR 0 r_2] h) fun x2 h1 =>
      ifp (x2 < 0)
        (some (some (vL (0 : Int64)), h1))
        (bR (hR h1 r_0 2) fun r3 =>
        ifp (x2 < (nI (hN h1 r3)))
          (bR (hR h1 r_0 2) fun r4 =>
          ifp (inb x2 (hN h1 r4) = true) (
          ifp ((lg_cmp (hL h1 r4 (ix x2)) (0 : Int64)) < 0)
            (L_Ways_from_84 d r_0 r_1 r_2 x_3 x2 (0 : Int64) (0 : Int32) h1)
            (bR (hR h1 r_0 2) fun r5 =>
            ifp (inb x2 (hN h1 r5) = true) (
            some (some (vL (hL h1 r5 (ix x2))), h1)) none)) none)
          (some (some (vL (0 : Int64)), h1))))
      (bI (evm d 98 [vR 10 r_0, vR 5 r_1, vR 0 r_2] h) fun x7 h6 =>
      ifp (x7 = 0)
        (some (some (vL (0 : Int64)), h6))
        (some (some (vL (1 : Int64)), h6))) := (evs_xpd _ tx_Ways_from [8, 84] 80 _).trans rfl
set_option maxRecDepth 100000 in
theorem e_Ways_from_84 (d : Nat) (r_0 : Nat) (r_1 : Nat) (r_2 : Nat) (x_3 : Int32) (x_4 : Int32) (y_5 : Int64) (x_7 : Int32) (h : Hp) : L_Ways_from_84 d r_0 r_1 r_2 x_3 x_4 y_5 x_7 h =
    ifp (x_7 < (hI h r_1 8))
      (bR (hR h r_1 0) fun r2 =>
      ifp (inb x_7 (hN h r2) = true) (
      bL (evm d 91 [vR 10 r_0, vR 5 r_1, vR 0 r_2, vI (hI h r2 (ix x_7)), vI (x_3 + (1 : Int32))] h) fun y4 h3 =>
      L_Ways_from_84 d r_0 r_1 r_2 x_3 x_4 (y_5 + y4) (x_7 + (1 : Int32)) h3) none)
      (bR (hR h r_0 2) fun r1 =>
      ifp (inb x_4 (hN h r1) = true) (
      some (some (vL y_5), sL h r1 (ix x_4) y_5)) none) := (evs_xpd _ tx_Ways_from [8, 84] 80 _).trans rfl
set_option maxRecDepth 100000 in
theorem e_Ways_from (d : Nat) (r_0 : Nat) (r_1 : Nat) (r_2 : Nat) (x_3 : Int32) (h : Hp) : evm (d + 1) 90 [vR 10 r_0, vR 5 r_1, vR 0 r_2, vI x_3] h =
    ifp ((40 : Int32) < x_3)
      (some (some (vL (0 : Int64)), h))
      (L_Ways_from_8 d r_0 r_1 r_2 x_3 h) := (evs_xpd _ tx_Ways_from [8, 84] 80 _).trans rfl
set_option maxRecDepth 100000 in
theorem e_Ways_behind (d : Nat) (r_0 : Nat) (r_1 : Nat) (r_2 : Nat) (x_3 : Int32) (x_4 : Int32) (h : Hp) : evm (d + 1) 91 [vR 10 r_0, vR 5 r_1, vR 0 r_2, vI x_3, vI x_4] h =
    bI (evm d 99 [vR 10 r_0, vR 5 r_1, vR 0 r_2, vI x_3] h) fun x2 h1 =>
    ifp (x2 = 0)
      (some (some (vL (0 : Int64)), h1))
      (bV (evm d 5 [vR 0 r_2, vR 5 r_1, vI x_3] h1) fun h3 =>
      bL (evm d 90 [vR 10 r_0, vR 5 r_1, vR 0 r_2, vI x_4] h3) fun y5 h4 =>
      bV (evm d 6 [vR 0 r_2, vR 5 r_1] h4) fun h6 =>
      some (some (vL y5), h6)) := (evs_xpd _ tx_Ways_behind [] 28 _).trans rfl
noncomputable def L_Ways_ahead_6 (d : Nat) (r_0 : Nat) (r_1 : Nat) (r_2 : Nat) (x_3 : Int32) (y_4 : Int64) (x_6 : Int32) (h : Hp) : Option Rs := evs (evm d) tx_Ways_ahead (6, [some (vR 10 r_0), some (vR 5 r_1), some (vR 0 r_2), some (vI x_3), some (vL y_4), none, some (vI x_6)], [], h)
set_option maxRecDepth 100000 in
theorem e_Ways_ahead_6 (d : Nat) (r_0 : Nat) (r_1 : Nat) (r_2 : Nat) (x_3 : Int32) (y_4 : Int64) (x_6 : Int32) (h : Hp) : L_Ways_ahead_6 d r_0 r_1 r_2 x_3 y_4 x_6 h =
    ifp (x_6 < (hI h r_1 8))
      (bR (hR h r_1 0) fun r1 =>
      ifp (inb x_6 (hN h r1) = true) (
      ifp ((hI h r1 (ix x_6)) < x_3)
        (bR (hR h r_1 0) fun r2 =>
        ifp (inb x_6 (hN h r2) = true) (
        bL (evm d 91 [vR 10 r_0, vR 5 r_1, vR 0 r_2, vI (hI h r2 (ix x_6)), vI (0 : Int32)] h) fun y4 h3 =>
        L_Ways_ahead_6 d r_0 r_1 r_2 x_3 (y_4 + y4) (x_6 + (1 : Int32)) h3) none)
        (some (some (vL y_4), h))) none)
      (some (some (vL y_4), h)) := (evs_xpd _ tx_Ways_ahead [6] 35 _).trans rfl
set_option maxRecDepth 100000 in
theorem e_Ways_ahead (d : Nat) (r_0 : Nat) (r_1 : Nat) (r_2 : Nat) (x_3 : Int32) (h : Hp) : evm (d + 1) 92 [vR 10 r_0, vR 5 r_1, vR 0 r_2, vI x_3] h =
    L_Ways_ahead_6 d r_0 r_1 r_2 x_3 (0 : Int64) (0 : Int32) h := (evs_xpd _ tx_Ways_ahead [6] 35 _).trans rfl
noncomputable def L_Ways_strideAt_6 (d : Nat) (r_0 : Nat) (r_1 : Nat) (r_2 : Nat) (x_5 : Int32) (y_6 : Int64) (x_8 : Int32) (h : Hp) : Option Rs := evs (evm d) tx_Ways_strideAt (6, [some (vR 10 r_0), some (vR 5 r_1), some (vR 0 r_2), none, none, some (vI x_5), some (vL y_6), none, some (vI x_8), none, none, none, none], [], h)
noncomputable def L_Ways_strideAt_37 (d : Nat) (r_0 : Nat) (r_1 : Nat) (r_2 : Nat) (x_5 : Int32) (y_6 : Int64) (x_8 : Int32) (x_9 : Int32) (x_10 : Int32) (h : Hp) : Option Rs := evs (evm d) tx_Ways_strideAt (37, [some (vR 10 r_0), some (vR 5 r_1), some (vR 0 r_2), none, none, some (vI x_5), some (vL y_6), none, some (vI x_8), some (vI x_9), some (vI x_10), none, none], [], h)
noncomputable def L_Ways_strideAt_101 (d : Nat) (r_0 : Nat) (r_1 : Nat) (r_2 : Nat) (x_5 : Int32) (y_6 : Int64) (x_8 : Int32) (x_9 : Int32) (h : Hp) : Option Rs := evs (evm d) tx_Ways_strideAt (101, [some (vR 10 r_0), some (vR 5 r_1), some (vR 0 r_2), none, none, some (vI x_5), some (vL y_6), none, some (vI x_8), some (vI x_9), none, none, none], [], h)
set_option maxRecDepth 100000 in
theorem e_Ways_strideAt_6 (d : Nat) (r_0 : Nat) (r_1 : Nat) (r_2 : Nat) (x_5 : Int32) (y_6 : Int64) (x_8 : Int32) (h : Hp) : L_Ways_strideAt_6 d r_0 r_1 r_2 x_5 y_6 x_8 h =
    ifp (x_5 < x_8)
      (some (some (vI (-1 : Int32)), h))
      (ifp (x_8 < (40 : Int32))
        (ifp ((hI h r_2 1) < (hI h r_1 7))
          (L_Ways_strideAt_37 d r_0 r_1 r_2 x_5 y_6 x_8 (-1 : Int32) (0 : Int32) h)
          (some (some (vI (-1 : Int32)), h)))
        (some (some (vI (-1 : Int32)), h))) := (evs_xpd _ tx_Ways_strideAt [6, 37, 101] 73 _).trans rfl
set_option maxRecDepth 100000 in
theorem e_Ways_strideAt_37 (d : Nat) (r_0 : Nat) (r_1 : Nat) (r_2 : Nat) (x_5 : Int32) (y_6 : Int64) (x_8 : Int32) (x_9 : Int32) (x_10 : Int32) (h : Hp) : L_Ways_strideAt_37 d r_0 r_1 r_2 x_5 y_6 x_8 x_9 x_10 h =
    ifp (x_10 < (hI h r_1 8))
      (ifp (x_9 = (-1 : Int32))
        (bR (hR h r_1 0) fun r1 =>
        ifp (inb x_10 (hN h r1) = true) (
        bL (evm d 91 [vR 10 r_0, vR 5 r_1, vR 0 r_2, vI (hI h r1 (ix x_10)), vI (0 : Int32)] h) fun y3 h2 =>
        ifp ((lg_cmp y_6 y3) < 0)
          (bR (hR h2 r_1 0) fun r4 =>
          ifp (inb x_10 (hN h2 r4) = true) (
          L_Ways_strideAt_37 d r_0 r_1 r_2 x_5 y_6 x_8 (hI h2 r4 (ix x_10)) (x_10 + (1 : Int32)) h2) none)
          (L_Ways_strideAt_37 d r_0 r_1 r_2 x_5 (y_6 - y3) x_8 x_9 (x_10 + (1 : Int32)) h2)) none)
        (L_Ways_strideAt_101 d r_0 r_1 r_2 x_5 y_6 x_8 x_9 h))
      (L_Ways_strideAt_101 d r_0 r_1 r_2 x_5 y_6 x_8 x_9 h) := (evs_xpd _ tx_Ways_strideAt [6, 37, 101] 73 _).trans rfl
set_option maxRecDepth 100000 in
theorem e_Ways_strideAt_101 (d : Nat) (r_0 : Nat) (r_1 : Nat) (r_2 : Nat) (x_5 : Int32) (y_6 : Int64) (x_8 : Int32) (x_9 : Int32) (h : Hp) : L_Ways_strideAt_101 d r_0 r_1 r_2 x_5 y_6 x_8 x_9 h =
    ifp (x_8 = x_5)
      (some (some (vI x_9), h))
      (ifp (x_9 = (-1 : Int32))
        (some (some (vI x_9), h))
        (bV (evm d 5 [vR 0 r_2, vR 5 r_1, vI x_9] h) fun h1 =>
        L_Ways_strideAt_6 d r_0 r_1 r_2 x_5 y_6 (x_8 + (1 : Int32)) h1)) := (evs_xpd _ tx_Ways_strideAt [6, 37, 101] 73 _).trans rfl
set_option maxRecDepth 100000 in
theorem e_Ways_strideAt (d : Nat) (r_0 : Nat) (r_1 : Nat) (r_2 : Nat) (y_3 : Int64) (x_5 : Int32) (h : Hp) : evm (d + 1) 93 [vR 10 r_0, vR 5 r_1, vR 0 r_2, vL y_3, vI x_5] h =
    L_Ways_strideAt_6 d r_0 r_1 r_2 x_5 y_3 (0 : Int32) h := (evs_xpd _ tx_Ways_strideAt [6, 37, 101] 73 _).trans rfl
noncomputable def L_Ways_winning_59 (d : Nat) (r_0 : Nat) (r_1 : Nat) (r_2 : Nat) (x_3 : Int32) (x_4 : Int32) (x_5 : Int32) (x_6 : Int32) (h : Hp) : Option Rs := evs (evm d) tx_Ways_winning (59, [some (vR 10 r_0), some (vR 5 r_1), some (vR 0 r_2), some (vI x_3), some (vI x_4), some (vI x_5), some (vI x_6), none], [], h)
noncomputable def L_Ways_winning_122 (d : Nat) (r_0 : Nat) (r_1 : Nat) (r_2 : Nat) (x_3 : Int32) (x_4 : Int32) (x_6 : Int32) (x_7 : Int32) (h : Hp) : Option Rs := evs (evm d) tx_Ways_winning (122, [some (vR 10 r_0), some (vR 5 r_1), some (vR 0 r_2), some (vI x_3), some (vI x_4), none, some (vI x_6), some (vI x_7)], [], h)
noncomputable def L_Ways_winning_141 (d : Nat) (r_0 : Nat) (x_4 : Int32) (x_5 : Int32) (h : Hp) : Option Rs := evs (evm d) tx_Ways_winning (141, [some (vR 10 r_0), none, none, none, some (vI x_4), some (vI x_5), none, none], [], h)
set_option maxRecDepth 100000 in
theorem e_Ways_winning_59 (d : Nat) (r_0 : Nat) (r_1 : Nat) (r_2 : Nat) (x_3 : Int32) (x_4 : Int32) (x_5 : Int32) (x_6 : Int32) (h : Hp) : L_Ways_winning_59 d r_0 r_1 r_2 x_3 x_4 x_5 x_6 h =
    ifp (x_6 < (hI h r_1 8))
      (ifp (x_5 = 0)
        (bR (hR h r_1 0) fun r1 =>
        ifp (inb x_6 (hN h r1) = true) (
        bI (evm d 4 [vR 0 r_2, vR 5 r_1, vI (hI h r1 (ix x_6))] h) fun x3 h2 =>
        ifp (x3 = 0)
          (L_Ways_winning_59 d r_0 r_1 r_2 x_3 x_4 x_5 (x_6 + (1 : Int32)) h2)
          (bV (evm d 5 [vR 0 r_2, vR 5 r_1, vI (hI h r1 (ix x_6))] h2) fun h4 =>
          ifp ((hI h4 r_2 1) < (hI h4 r_1 7))
            (bI (evm d 94 [vR 10 r_0, vR 5 r_1, vR 0 r_2, vI (x_3 + (1 : Int32))] h4) fun x6 h5 =>
            ifp (x6 = 0)
              (L_Ways_winning_122 d r_0 r_1 r_2 x_3 x_4 x_6 (hI h r1 (ix x_6)) h5)
              (bV (evm d 6 [vR 0 r_2, vR 5 r_1] h5) fun h7 =>
              L_Ways_winning_59 d r_0 r_1 r_2 x_3 x_4 (0 : Int32) (x_6 + (1 : Int32)) h7))
            (L_Ways_winning_122 d r_0 r_1 r_2 x_3 x_4 x_6 (hI h r1 (ix x_6)) h4))) none)
        (L_Ways_winning_141 d r_0 x_4 x_5 h))
      (L_Ways_winning_141 d r_0 x_4 x_5 h) := (evs_xpd _ tx_Ways_winning [59, 122, 141] 90 _).trans rfl
set_option maxRecDepth 100000 in
theorem e_Ways_winning_122 (d : Nat) (r_0 : Nat) (r_1 : Nat) (r_2 : Nat) (x_3 : Int32) (x_4 : Int32) (x_6 : Int32) (x_7 : Int32) (h : Hp) : L_Ways_winning_122 d r_0 r_1 r_2 x_3 x_4 x_6 x_7 h =
    bV (evm d 6 [vR 0 r_2, vR 5 r_1] h) fun h1 =>
    L_Ways_winning_59 d r_0 r_1 r_2 x_3 x_4 x_7 (x_6 + (1 : Int32)) h1 := (evs_xpd _ tx_Ways_winning [59, 122, 141] 90 _).trans rfl
set_option maxRecDepth 100000 in
theorem e_Ways_winning_141 (d : Nat) (r_0 : Nat) (x_4 : Int32) (x_5 : Int32) (h : Hp) : L_Ways_winning_141 d r_0 x_4 x_5 h =
    bR (hR h r_0 2) fun r1 =>
    ifp (inb x_4 (hN h r1) = true) (
    some (some (vI x_5), sL h r1 (ix x_4) x_5.toInt64)) none := (evs_xpd _ tx_Ways_winning [59, 122, 141] 90 _).trans rfl
set_option maxRecDepth 100000 in
theorem e_Ways_winning (d : Nat) (r_0 : Nat) (r_1 : Nat) (r_2 : Nat) (x_3 : Int32) (h : Hp) : evm (d + 1) 94 [vR 10 r_0, vR 5 r_1, vR 0 r_2, vI x_3] h =
    ifp ((40 : Int32) < x_3)
      (some (some (vI (0 : Int32)), h))
      (bI (evm d 97 [vR 10 r_0, vR 0 r_2] h) fun x2 h1 =>
      ifp (x2 < 0)
        (some (some (vI (0 : Int32)), h1))
        (bR (hR h1 r_0 2) fun r3 =>
        ifp (x2 < (nI (hN h1 r3)))
          (bR (hR h1 r_0 2) fun r4 =>
          ifp (inb x2 (hN h1 r4) = true) (
          ifp ((lg_cmp (hL h1 r4 (ix x2)) (0 : Int64)) < 0)
            (L_Ways_winning_59 d r_0 r_1 r_2 x_3 x2 (0 : Int32) (0 : Int32) h1)
            (bR (hR h1 r_0 2) fun r5 =>
            ifp (inb x2 (hN h1 r5) = true) (
            some (some (vI ((hL h1 r5 (ix x2)).toInt32)), h1)) none)) none)
          (some (some (vI (0 : Int32)), h1)))) := (evs_xpd _ tx_Ways_winning [59, 122, 141] 90 _).trans rfl
noncomputable def L_Ways_begin_41 (d : Nat) (r_0 : Nat) (r_1 : Nat) (x_2 : Int32) (xs0 : Int32) (rs1 : Nat) (h : Hp) : Option Rs := evs (evm d) tx_Ways_begin (41, [some (vR 10 r_0), some (vR 5 r_1), some (vI x_2), none, none, none, none, none], [vI xs0, vR 10 rs1], h)
noncomputable def L_Ways_begin_64 (d : Nat) (r_0 : Nat) (r_1 : Nat) (xs0 : Int32) (rs1 : Nat) (h : Hp) : Option Rs := evs (evm d) tx_Ways_begin (64, [some (vR 10 r_0), some (vR 5 r_1), none, none, none, none, none, none], [vI xs0, vR 10 rs1], h)
noncomputable def L_Ways_begin_131 (d : Nat) (r_0 : Nat) (xs0 : Int32) (h : Hp) : Option Rs := evs (evm d) tx_Ways_begin (131, [some (vR 10 r_0), none, none, none, none, none, none, none], [vI xs0], h)
noncomputable def L_Ways_begin_195 (d : Nat) (r_0 : Nat) (x_6 : Int32) (x_7 : Int32) (h : Hp) : Option Rs := evs (evm d) tx_Ways_begin (195, [some (vR 10 r_0), none, none, none, none, none, some (vI x_6), some (vI x_7)], [], h)
set_option maxRecDepth 100000 in
theorem e_Ways_begin_41 (d : Nat) (r_0 : Nat) (r_1 : Nat) (x_2 : Int32) (xs0 : Int32) (rs1 : Nat) (h : Hp) : L_Ways_begin_41 d r_0 r_1 x_2 xs0 rs1 h =
    bif isB xs0 then
    ifp ((hI (sI h rs1 6 xs0) r_1 12) = (-1 : Int32))
      (L_Ways_begin_64 d r_0 r_1 (0 : Int32) r_0 (sI h rs1 6 xs0))
      (ifp (x_2 = (-3 : Int32))
        (L_Ways_begin_64 d r_0 r_1 (0 : Int32) r_0 (sI h rs1 6 xs0))
        (L_Ways_begin_64 d r_0 r_1 (1 : Int32) r_0 (sI h rs1 6 xs0)))
    else none := (evs_xpd _ tx_Ways_begin [41, 64, 131, 195] 124 _).trans rfl
set_option maxRecDepth 100000 in
theorem e_Ways_begin_64 (d : Nat) (r_0 : Nat) (r_1 : Nat) (xs0 : Int32) (rs1 : Nat) (h : Hp) : L_Ways_begin_64 d r_0 r_1 xs0 rs1 h =
    bif isB xs0 then
    bI (evm d 33 [vR 5 r_1] (sI h rs1 7 xs0)) fun x2 h1 =>
    bI (evm d 34 [vR 5 r_1] (sI h1 r_0 9 x2)) fun x4 h3 =>
    bV (evm d 96 [vR 10 r_0, vR 5 r_1] (sI h3 r_0 10 x4)) fun h5 =>
    ifp ((hI h5 r_0 6) = 0)
      (ifp ((hI h5 r_0 7) = 0)
        (L_Ways_begin_131 d r_0 (hI h5 r_1 7) h5)
        (L_Ways_begin_131 d r_0 ((2 : Int32) * (hI h5 r_1 7)) h5))
      (ifp ((2 : Int32) = 0) none (
      L_Ways_begin_131 d r_0 (((hI h5 r_1 7) * ((hI h5 r_1 7) + (1 : Int32))) / (2 : Int32)) h5))
    else none := (evs_xpd _ tx_Ways_begin [41, 64, 131, 195] 124 _).trans rfl
set_option maxRecDepth 100000 in
theorem e_Ways_begin_131 (d : Nat) (r_0 : Nat) (xs0 : Int32) (h : Hp) : L_Ways_begin_131 d r_0 xs0 h =
    bR (hR h r_0 2) fun r1 =>
    ifp ((nI (hN h r1)) < (((xs0 * (hI h r_0 8)) * (hI h r_0 9)) * (hI h r_0 10)))
      (ifp ((143500 : Int32) < (((xs0 * (hI h r_0 8)) * (hI h r_0 9)) * (hI h r_0 10)))
        (L_Ways_begin_195 d r_0 (((xs0 * (hI h r_0 8)) * (hI h r_0 9)) * (hI h r_0 10)) (0 : Int32) h)
        (bR (hR h r_0 2) fun r2 =>
        bI (evm d 241 [vI ((2 : Int32) * (nI (hN h r2))), vI (143500 : Int32)] h) fun x4 h3 =>
        bI (evm d 240 [vI (((xs0 * (hI h r_0 8)) * (hI h r_0 9)) * (hI h r_0 10)), vI x4] h3) fun x6 h5 =>
        ifp (inb x6 1000000 = true) (
        alc h5 fun q7 =>
        L_Ways_begin_195 d r_0 (((xs0 * (hI h r_0 8)) * (hI h r_0 9)) * (hI h r_0 10)) (0 : Int32) (sR (sN h5 21 (ix x6) (ix x6)) r_0 2 q7)) none))
      (L_Ways_begin_195 d r_0 (((xs0 * (hI h r_0 8)) * (hI h r_0 9)) * (hI h r_0 10)) (0 : Int32) h) := (evs_xpd _ tx_Ways_begin [41, 64, 131, 195] 124 _).trans rfl
set_option maxRecDepth 100000 in
theorem e_Ways_begin_195 (d : Nat) (r_0 : Nat) (x_6 : Int32) (x_7 : Int32) (h : Hp) : L_Ways_begin_195 d r_0 x_6 x_7 h =
    ifp (x_7 < x_6)
      (bR (hR h r_0 2) fun r1 =>
      ifp (x_7 < (nI (hN h r1)))
        (bR (hR h r_0 2) fun r2 =>
        ifp (inb x_7 (hN h r2) = true) (
        L_Ways_begin_195 d r_0 x_6 (x_7 + (1 : Int32)) (sL h r2 (ix x_7) (-1 : Int64))) none)
        (some (none, h)))
      (some (none, h)) := (evs_xpd _ tx_Ways_begin [41, 64, 131, 195] 124 _).trans rfl
set_option maxRecDepth 100000 in
theorem e_Ways_begin (d : Nat) (r_0 : Nat) (r_1 : Nat) (x_2 : Int32) (x_3 : Int32) (x_4 : Int32) (h : Hp) : evm (d + 1) 95 [vR 10 r_0, vR 5 r_1, vI x_2, vI x_3, vI x_4] h =
    ifp ((1 : Int32) < (hI (sI (sI (sI h r_0 3 x_2) r_0 4 x_3) r_0 5 x_4) r_0 4))
      (L_Ways_begin_41 d r_0 r_1 x_2 (1 : Int32) r_0 (sI (sI (sI h r_0 3 x_2) r_0 4 x_3) r_0 5 x_4))
      (ifp ((hI (sI (sI (sI h r_0 3 x_2) r_0 4 x_3) r_0 5 x_4) r_0 5) < (hI (sI (sI (sI h r_0 3 x_2) r_0 4 x_3) r_0 5 x_4) r_1 7))
        (L_Ways_begin_41 d r_0 r_1 x_2 (1 : Int32) r_0 (sI (sI (sI h r_0 3 x_2) r_0 4 x_3) r_0 5 x_4))
        (L_Ways_begin_41 d r_0 r_1 x_2 (0 : Int32) r_0 (sI (sI (sI h r_0 3 x_2) r_0 4 x_3) r_0 5 x_4))) := (evs_xpd _ tx_Ways_begin [41, 64, 131, 195] 124 _).trans rfl
noncomputable def L_Ways_findLastKinds_7 (d : Nat) (r_0 : Nat) (r_1 : Nat) (x_2 : Int32) (h : Hp) : Option Rs := evs (evm d) tx_Ways_findLastKinds (7, [some (vR 10 r_0), some (vR 5 r_1), some (vI x_2)], [], h)
set_option maxRecDepth 100000 in
theorem e_Ways_findLastKinds_7 (d : Nat) (r_0 : Nat) (r_1 : Nat) (x_2 : Int32) (h : Hp) : L_Ways_findLastKinds_7 d r_0 r_1 x_2 h =
    ifp ((12 : Int32) < x_2)
      (some (none, h))
      (bR (hR h r_0 0) fun r1 =>
      ifp (inb x_2 (hN h r1) = true) (
      bI (evm d 28 [vR 5 r_1, vI x_2] (sI h r1 (ix x_2) (0 : Int32))) fun x3 h2 =>
      ifp (x3 = 0)
        (L_Ways_findLastKinds_7 d r_0 r_1 (x_2 + (1 : Int32)) h2)
        (bR (hR h2 r_1 3) fun r4 =>
        ifp (inb x_2 (hN h2 r4) = true) (
        ifp (((hI h2 r4 (ix x_2)) &&& (hI h2 r_1 9)) = 0)
          (L_Ways_findLastKinds_7 d r_0 r_1 (x_2 + (1 : Int32)) h2)
          (bR (hR h2 r_0 0) fun r5 =>
          ifp (inb x_2 (hN h2 r5) = true) (
          L_Ways_findLastKinds_7 d r_0 r_1 (x_2 + (1 : Int32)) (sI (sI h2 r5 (ix x_2) (hI h2 r_0 8)) r_0 8 ((hI (sI h2 r5 (ix x_2) (hI h2 r_0 8)) r_0 8) + (1 : Int32)))) none)) none)) none) := (evs_xpd _ tx_Ways_findLastKinds [7] 45 _).trans rfl
set_option maxRecDepth 100000 in
theorem e_Ways_findLastKinds (d : Nat) (r_0 : Nat) (r_1 : Nat) (h : Hp) : evm (d + 1) 96 [vR 10 r_0, vR 5 r_1] h =
    L_Ways_findLastKinds_7 d r_0 r_1 (0 : Int32) (sI h r_0 8 (1 : Int32)) := (evs_xpd _ tx_Ways_findLastKinds [7] 45 _).trans rfl
noncomputable def L_Ways_placeOf_73 (d : Nat) (r_0 : Nat) (r_1 : Nat) (x_2 : Int32) (h : Hp) : Option Rs := evs (evm d) tx_Ways_placeOf (73, [some (vR 10 r_0), some (vR 0 r_1), some (vI x_2)], [], h)
noncomputable def L_Ways_placeOf_112 (d : Nat) (r_0 : Nat) (r_1 : Nat) (xs0 : Int32) (xs1 : Int32) (h : Hp) : Option Rs := evs (evm d) tx_Ways_placeOf (112, [some (vR 10 r_0), some (vR 0 r_1), none], [vI xs0, vI xs1], h)
set_option maxRecDepth 100000 in
theorem e_Ways_placeOf_73 (d : Nat) (r_0 : Nat) (r_1 : Nat) (x_2 : Int32) (h : Hp) : L_Ways_placeOf_73 d r_0 r_1 x_2 h =
    bR (hR h r_0 0) fun r1 =>
    ifp (inb (hI h r_1 3) (hN h r1) = true) (
    ifp ((1 : Int32) < (hI h r_0 9))
      (L_Ways_placeOf_112 d r_0 r_1 (hI h r_1 4) (((x_2 * (hI h r_0 8)) + (hI h r1 (ix (hI h r_1 3)))) * (hI h r_0 9)) h)
      (L_Ways_placeOf_112 d r_0 r_1 (0 : Int32) (((x_2 * (hI h r_0 8)) + (hI h r1 (ix (hI h r_1 3)))) * (hI h r_0 9)) h)) none := (evs_xpd _ tx_Ways_placeOf [73, 112] 86 _).trans rfl
set_option maxRecDepth 100000 in
theorem e_Ways_placeOf_112 (d : Nat) (r_0 : Nat) (r_1 : Nat) (xs0 : Int32) (xs1 : Int32) (h : Hp) : L_Ways_placeOf_112 d r_0 r_1 xs0 xs1 h =
    ifp ((1 : Int32) < (hI h r_0 10))
      (some (some (vI (((xs1 + xs0) * (hI h r_0 10)) + (hI h r_1 5))), h))
      (some (some (vI (((xs1 + xs0) * (hI h r_0 10)) + (0 : Int32))), h)) := (evs_xpd _ tx_Ways_placeOf [73, 112] 86 _).trans rfl
set_option maxRecDepth 100000 in
theorem e_Ways_placeOf (d : Nat) (r_0 : Nat) (r_1 : Nat) (h : Hp) : evm (d + 1) 97 [vR 10 r_0, vR 0 r_1] h =
    ifp ((hI h r_1 3) < 0)
      (some (some (vI (-1 : Int32)), h))
      (ifp ((12 : Int32) < (hI h r_1 3))
        (some (some (vI (-1 : Int32)), h))
        (ifp ((hI h r_0 6) = 0)
          (ifp ((hI h r_0 7) = 0)
            (L_Ways_placeOf_73 d r_0 r_1 (hI h r_1 1) h)
            (L_Ways_placeOf_73 d r_0 r_1 (((2 : Int32) * (hI h r_1 1)) + ((hI h r_1 2) &&& (1 : Int32))) h))
          (ifp ((2 : Int32) = 0) none (
          L_Ways_placeOf_73 d r_0 r_1 ((((hI h r_1 1) * ((hI h r_1 1) + (1 : Int32))) / (2 : Int32)) + (hI h r_1 2)) h)))) := (evs_xpd _ tx_Ways_placeOf [73, 112] 86 _).trans rfl
set_option maxRecDepth 100000 in
theorem e_Ways_isEnd (d : Nat) (r_0 : Nat) (r_1 : Nat) (r_2 : Nat) (h : Hp) : evm (d + 1) 98 [vR 10 r_0, vR 5 r_1, vR 0 r_2] h =
    ifp ((hI h r_2 2) < (hI h r_0 4))
      (some (some (vI (0 : Int32)), h))
      (ifp ((hI h r_0 5) < (hI h r_2 2))
        (some (some (vI (0 : Int32)), h))
        (bI (evm d 31 [vR 5 r_1, vI (hI h r_2 2)] h) fun x2 h1 =>
        ifp (x2 = 0)
          (some (some (vI (0 : Int32)), h1))
          (some (some (vI (1 : Int32)), h1)))) := (evs_xpd _ tx_Ways_isEnd [] 24 _).trans rfl
set_option maxRecDepth 100000 in
theorem e_Ways_isOpen (d : Nat) (r_0 : Nat) (r_1 : Nat) (r_2 : Nat) (x_3 : Int32) (h : Hp) : evm (d + 1) 99 [vR 10 r_0, vR 5 r_1, vR 0 r_2, vI x_3] h =
    ifp ((hI h r_2 2) < (hI h r_0 5))
      (bI (evm d 4 [vR 0 r_2, vR 5 r_1, vI x_3] h) fun x2 h1 =>
      ifp (x2 = 0)
        (some (some (vI (0 : Int32)), h1))
        (ifp ((hI h1 r_0 3) = (-2 : Int32))
          (bI (evm d 100 [vR 10 r_0, vI (hI h1 r_2 1), vI ((hI h1 r_2 1) + x_3)] h1) fun x4 h3 =>
          ifp (x4 = 0)
            (some (some (vI (0 : Int32)), h3))
            (some (some (vI (1 : Int32)), h3)))
          (some (some (vI (1 : Int32)), h1))))
      (some (some (vI (0 : Int32)), h)) := (evs_xpd _ tx_Ways_isOpen [] 34 _).trans rfl
noncomputable def L_Ways_agreesWithDust_29 (d : Nat) (r_0 : Nat) (x_2 : Int32) (x_3 : Int32) (h : Hp) : Option Rs := evs (evm d) tx_Ways_agreesWithDust (29, [some (vR 10 r_0), none, some (vI x_2), some (vI x_3)], [], h)
set_option maxRecDepth 100000 in
theorem e_Ways_agreesWithDust_29 (d : Nat) (r_0 : Nat) (x_2 : Int32) (x_3 : Int32) (h : Hp) : L_Ways_agreesWithDust_29 d r_0 x_2 x_3 h =
    ifp (x_3 < x_2)
      (bR (hR h r_0 1) fun r1 =>
      ifp (inb x_3 (hN h r1) = true) (
      ifp ((hI h r1 (ix x_3)) = (1 : Int32))
        (some (some (vI (0 : Int32)), h))
        (L_Ways_agreesWithDust_29 d r_0 x_2 (x_3 + (1 : Int32)) h)) none)
      (some (some (vI (1 : Int32)), h)) := (evs_xpd _ tx_Ways_agreesWithDust [29] 39 _).trans rfl
set_option maxRecDepth 100000 in
theorem e_Ways_agreesWithDust (d : Nat) (r_0 : Nat) (x_1 : Int32) (x_2 : Int32) (h : Hp) : evm (d + 1) 100 [vR 10 r_0, vI x_1, vI x_2] h =
    ifp (x_1 < 0)
      (some (some (vI (0 : Int32)), h))
      (bR (hR h r_0 1) fun r1 =>
      ifp (x_2 < (nI (hN h r1)))
        (bR (hR h r_0 1) fun r2 =>
        ifp (inb x_2 (hN h r2) = true) (
        ifp ((hI h r2 (ix x_2)) = (2 : Int32))
          (some (some (vI (0 : Int32)), h))
          (L_Ways_agreesWithDust_29 d r_0 x_2 (x_1 + (1 : Int32)) h)) none)
        (some (some (vI (0 : Int32)), h))) := (evs_xpd _ tx_Ways_agreesWithDust [29] 39 _).trans rfl
