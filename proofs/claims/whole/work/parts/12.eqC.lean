noncomputable def L_X_new_102 (d : Nat) (r_0 : Nat) (x_1 : Int32) (h : Hp) : Option Rs := evs (evm d) tx_X_new (102, [some (vR 11 r_0), some (vI x_1)], [], h)
set_option maxRecDepth 100000 in
theorem e_X_new_102 (d : Nat) (r_0 : Nat) (x_1 : Int32) (h : Hp) : L_X_new_102 d r_0 x_1 h =
    ifp (x_1 < (4 : Int32))
      (bR (hR h r_0 8) fun r11 =>
      alc h fun q12 =>
      bV (evm d 10 [vR 1 q12] (sN h 1 0 3)) fun h13 =>
      ifp (inb x_1 (hN h13 r11) = true) (
      L_X_new_102 d r_0 (x_1 + (1 : Int32)) (sR h13 r11 (ix x_1) q12)) none)
      (ifp (inb (41 : Int32) 1000000 = true) (
      alc h fun q1 =>
      ifp (inb (6 : Int32) 1000000 = true) (
      alc (sR (sN h 20 (ix (41 : Int32)) (ix (41 : Int32))) r_0 9 q1) fun q2 =>
      alc (sR (sN (sR (sN h 20 (ix (41 : Int32)) (ix (41 : Int32))) r_0 9 q1) 20 (ix (6 : Int32)) (ix (6 : Int32))) r_0 10 q2) fun q3 =>
      bV (evm d 24 [vR 5 q3] (sN (sR (sN (sR (sN h 20 (ix (41 : Int32)) (ix (41 : Int32))) r_0 9 q1) 20 (ix (6 : Int32)) (ix (6 : Int32))) r_0 10 q2) 5 0 17)) fun h4 =>
      alc (sR h4 r_0 11 q3) fun q5 =>
      bV (evm d 24 [vR 5 q5] (sN (sR h4 r_0 11 q3) 5 0 17)) fun h6 =>
      bR (hR (sR h6 r_0 12 q5) r_0 11) fun r7 =>
      bV (evm d 25 [vR 5 r7] (sR h6 r_0 12 q5)) fun h8 =>
      bR (hR h8 r_0 11) fun r9 =>
      bV (evm d 26 [vR 5 r9] h8) fun h10 =>
      some (none, h10)) none) none) := (evs_xpd _ tx_X_new [102] 90 _).trans rfl
set_option maxRecDepth 100000 in
theorem e_X_new (d : Nat) (r_0 : Nat) (h : Hp) : evm (d + 1) 101 [vR 11 r_0] h =
    alc h fun q1 =>
    bV (evm d 38 [vR 6 q1] (sN h 6 0 4)) fun h2 =>
    alc (sR h2 r_0 0 q1) fun q3 =>
    bV (evm d 0 [vR 0 q3] (sN (sR h2 r_0 0 q1) 0 0 6)) fun h4 =>
    alc (sR h4 r_0 1 q3) fun q5 =>
    bV (evm d 0 [vR 0 q5] (sN (sR h4 r_0 1 q3) 0 0 6)) fun h6 =>
    alc (sR h6 r_0 2 q5) fun q7 =>
    bV (evm d 84 [vR 10 q7] (sN (sR h6 r_0 2 q5) 10 0 11)) fun h8 =>
    alc (sR h8 r_0 3 q7) fun q9 =>
    bV (evm d 76 [vR 9 q9] (sN (sR h8 r_0 3 q7) 9 0 11)) fun h10 =>
    alc (sR h10 r_0 4 q9) fun q11 =>
    bV (evm d 61 [vR 7 q11] (sN (sR h10 r_0 4 q9) 7 0 3)) fun h12 =>
    alc (sR h12 r_0 5 q11) fun q13 =>
    bV (evm d 16 [vR 3 q13] (sN (sR h12 r_0 5 q11) 3 0 1)) fun h14 =>
    alc (sR h14 r_0 6 q13) fun q15 =>
    bV (evm d 20 [vR 4 q15] (sN (sR h14 r_0 6 q13) 4 0 3)) fun h16 =>
    ifp (inb (4 : Int32) 1000000 = true) (
    alc (sR h16 r_0 7 q15) fun q17 =>
    L_X_new_102 d r_0 (0 : Int32) (sR (sN (sR h16 r_0 7 q15) 24 (ix (4 : Int32)) (ix (4 : Int32))) r_0 8 q17)) none := (evs_xpd _ tx_X_new [102] 90 _).trans rfl
set_option maxRecDepth 100000 in
theorem e_X_feed (d : Nat) (r_0 : Nat) (y_1 : Int64) (y_3 : Int64) (y_5 : Int64) (h : Hp) : evm (d + 1) 102 [vR 11 r_0, vL y_1, vL y_3, vL y_5] h =
    bR (hR h r_0 0) fun r1 =>
    bR (hR h r1 0) fun r2 =>
    bV (evm d 67 [vR 8 r2, vL y_1] h) fun h3 =>
    bR (hR h3 r_0 0) fun r4 =>
    bR (hR h3 r4 0) fun r5 =>
    bV (evm d 67 [vR 8 r5, vL y_3] h3) fun h6 =>
    bR (hR h6 r_0 0) fun r7 =>
    bR (hR h6 r7 0) fun r8 =>
    bV (evm d 67 [vR 8 r8, vL y_5] h6) fun h9 =>
    bR (hR h9 r_0 0) fun r10 =>
    bR (hR h9 r10 0) fun r11 =>
    some (some (vI (hI h9 r11 1)), h9) := (evs_xpd _ tx_X_feed [] 25 _).trans rfl
set_option maxRecDepth 100000 in
theorem e_X_stair (d : Nat) (r_0 : Nat) (h : Hp) : evm (d + 1) 103 [vR 11 r_0] h =
    bR (hR h r_0 0) fun r1 =>
    bR (hR h r_0 12) fun r2 =>
    bI (evm d 39 [vR 6 r1, vR 5 r2] h) fun x4 h3 =>
    ifp (x4 = 0)
      (bR (hR h3 r_0 11) fun r5 =>
      bR (hR h3 r_0 12) fun r6 =>
      bV (evm d 129 [vR 11 r_0] (sR (sR h3 r_0 11 r6) r_0 12 r5)) fun h7 =>
      some (some (vI x4), h7))
      (some (some (vI x4), h3)) := (evs_xpd _ tx_X_stair [] 27 _).trans rfl
set_option maxRecDepth 100000 in
theorem e_X_step (d : Nat) (r_0 : Nat) (x_1 : Int32) (x_2 : Int32) (h : Hp) : evm (d + 1) 104 [vR 11 r_0, vI x_1, vI x_2] h =
    ifp (x_1 < 0)
      (some (some (vI (-1 : Int32)), h))
      (bR (hR h r_0 11) fun r1 =>
      ifp ((hI h r1 7) < x_1)
        (some (some (vI (-1 : Int32)), h))
        (ifp (x_2 = (0 : Int32))
          (bR (hR h r_0 11) fun r2 =>
          bR (hR h r2 2) fun r3 =>
          ifp (inb x_1 (hN h r3) = true) (
          some (some (vI (hI h r3 (ix x_1))), h)) none)
          (ifp (x_2 = ((0 : Int32) + 1))
          (bR (hR h r_0 11) fun r4 =>
          bR (hR h r4 4) fun r5 =>
          ifp (inb x_1 (hN h r5) = true) (
          some (some (vI (hI h r5 (ix x_1))), h)) none)
          (ifp (x_2 = (((0 : Int32) + 1) + 1))
          (bR (hR h r_0 9) fun r6 =>
          ifp (inb x_1 (hN h r6) = true) (
          some (some (vI (hI h r6 (ix x_1))), h)) none)
          (
          some (some (vI (-1 : Int32)), h)))))) := (evs_xpd _ tx_X_step [] 35 _).trans rfl
set_option maxRecDepth 100000 in
theorem e_X_may (d : Nat) (r_0 : Nat) (x_1 : Int32) (h : Hp) : evm (d + 1) 105 [vR 11 r_0, vI x_1] h =
    bR (hR h r_0 1) fun r1 =>
    bR (hR h r_0 11) fun r2 =>
    bI (evm d 4 [vR 0 r1, vR 5 r2, vI x_1] h) fun x4 h3 =>
    bif isB x4 then some (some (vI x4), h3) else none := (evs_xpd _ tx_X_may [] 12 _).trans rfl
set_option maxRecDepth 100000 in
theorem e_X_stride (d : Nat) (r_0 : Nat) (x_1 : Int32) (h : Hp) : evm (d + 1) 106 [vR 11 r_0, vI x_1] h =
    bR (hR h r_0 1) fun r1 =>
    bR (hR h r_0 11) fun r2 =>
    bI (evm d 4 [vR 0 r1, vR 5 r2, vI x_1] h) fun x4 h3 =>
    ifp (x4 = 0)
      (some (some (vI (0 : Int32)), h3))
      (bR (hR h3 r_0 1) fun r5 =>
      bR (hR h3 r_0 11) fun r6 =>
      bV (evm d 5 [vR 0 r5, vR 5 r6, vI x_1] h3) fun h7 =>
      some (some (vI (1 : Int32)), h7)) := (evs_xpd _ tx_X_stride [] 22 _).trans rfl
set_option maxRecDepth 100000 in
theorem e_X_back (d : Nat) (r_0 : Nat) (x_1 : Int32) (h : Hp) : evm (d + 1) 107 [vR 11 r_0, vI x_1] h =
    bR (hR h r_0 1) fun r1 =>
    ifp ((hI h r1 2) = 0)
      (some (some (vI (0 : Int32)), h))
      (ifp (x_1 = 0)
        (bR (hR h r_0 1) fun r2 =>
        bR (hR h r_0 11) fun r3 =>
        bV (evm d 6 [vR 0 r2, vR 5 r3] h) fun h4 =>
        some (some (vI (1 : Int32)), h4))
        (bR (hR h r_0 1) fun r5 =>
        bV (evm d 1 [vR 0 r5] h) fun h6 =>
        some (some (vI (1 : Int32)), h6))) := (evs_xpd _ tx_X_back [] 24 _).trans rfl
set_option maxRecDepth 100000 in
theorem e_X_taken (d : Nat) (r_0 : Nat) (x_1 : Int32) (h : Hp) : evm (d + 1) 108 [vR 11 r_0, vI x_1] h =
    ifp (x_1 < 0)
      (some (some (vI (-1 : Int32)), h))
      (bR (hR h r_0 1) fun r1 =>
      ifp (x_1 < (hI h r1 2))
        (bR (hR h r_0 1) fun r2 =>
        bR (hR h r2 0) fun r3 =>
        ifp (inb x_1 (hN h r3) = true) (
        some (some (vI (hI h r3 (ix x_1))), h)) none)
        (some (some (vI (-1 : Int32)), h))) := (evs_xpd _ tx_X_taken [] 20 _).trans rfl
set_option maxRecDepth 100000 in
theorem e_X_lawful (d : Nat) (r_0 : Nat) (h : Hp) : evm (d + 1) 109 [vR 11 r_0] h =
    bR (hR h r_0 1) fun r1 =>
    bR (hR h r_0 11) fun r2 =>
    ifp ((hI h r1 1) < (hI h r2 7))
      (some (some (vI (-1 : Int32)), h))
      (bR (hR h r_0 11) fun r3 =>
      bR (hR h r_0 1) fun r4 =>
      bI (evm d 31 [vR 5 r3, vI (hI h r4 2)] h) fun x6 h5 =>
      ifp (x6 = 0)
        (some (some (vI (1 : Int32)), h5))
        (bR (hR h5 r_0 1) fun r7 =>
        bR (hR h5 r_0 11) fun r8 =>
        ifp ((hI h5 r7 2) < (hI h5 r8 13))
          (some (some (vI (2 : Int32)), h5))
          (some (some (vI (0 : Int32)), h5)))) := (evs_xpd _ tx_X_lawful [] 34 _).trans rfl
set_option maxRecDepth 100000 in
theorem e_X_many (d : Nat) (r_0 : Nat) (h : Hp) : evm (d + 1) 110 [vR 11 r_0] h =
    bR (hR h r_0 1) fun r1 =>
    bL (evm d 130 [vR 11 r_0, vR 0 r1] h) fun y3 h2 =>
    some (some (vL y3), h2) := (evs_xpd _ tx_X_many [] 10 _).trans rfl
set_option maxRecDepth 100000 in
theorem e_X_manyOf (d : Nat) (r_0 : Nat) (x_1 : Int32) (h : Hp) : evm (d + 1) 111 [vR 11 r_0, vI x_1] h =
    ifp (x_1 < 0)
      (some (some (vL (-1 : Int64)), h))
      (ifp ((40 : Int32) < x_1)
        (some (some (vL (-1 : Int64)), h))
        (bR (hR h r_0 3) fun r1 =>
        bR (hR h r_0 11) fun r2 =>
        bV (evm d 87 [vR 10 r1, vR 5 r2, vI x_1] h) fun h3 =>
        bR (hR h3 r_0 2) fun r4 =>
        bR (hR h3 r_0 1) fun r5 =>
        bV (evm d 3 [vR 0 r4, vR 0 r5] h3) fun h6 =>
        bR (hR h6 r_0 3) fun r7 =>
        bR (hR h6 r_0 11) fun r8 =>
        bR (hR h6 r_0 2) fun r9 =>
        bL (evm d 90 [vR 10 r7, vR 5 r8, vR 0 r9, vI (0 : Int32)] h6) fun y11 h10 =>
        some (some (vL y11), h10))) := (evs_xpd _ tx_X_manyOf [] 32 _).trans rfl
noncomputable def L_X_rank_33 (d : Nat) (r_0 : Nat) (y_1 : Int64) (x_3 : Int32) (h : Hp) : Option Rs := evs (evm d) tx_X_rank (33, [some (vR 11 r_0), some (vL y_1), none, some (vI x_3)], [], h)
set_option maxRecDepth 100000 in
theorem e_X_rank_33 (d : Nat) (r_0 : Nat) (y_1 : Int64) (x_3 : Int32) (h : Hp) : L_X_rank_33 d r_0 y_1 x_3 h =
    bR (hR h r_0 1) fun r1 =>
    ifp (x_3 < (hI h r1 2))
      (bR (hR h r_0 3) fun r2 =>
      bR (hR h r_0 11) fun r3 =>
      bR (hR h r_0 2) fun r4 =>
      bR (hR h r_0 1) fun r5 =>
      bR (hR h r5 0) fun r6 =>
      ifp (inb x_3 (hN h r6) = true) (
      bL (evm d 92 [vR 10 r2, vR 5 r3, vR 0 r4, vI (hI h r6 (ix x_3))] h) fun y8 h7 =>
      bR (hR h7 r_0 2) fun r9 =>
      bR (hR h7 r_0 11) fun r10 =>
      bR (hR h7 r_0 1) fun r11 =>
      bR (hR h7 r11 0) fun r12 =>
      ifp (inb x_3 (hN h7 r12) = true) (
      bV (evm d 5 [vR 0 r9, vR 5 r10, vI (hI h7 r12 (ix x_3))] h7) fun h13 =>
      L_X_rank_33 d r_0 (y_1 + y8) (x_3 + (1 : Int32)) h13) none) none)
      (some (some (vL y_1), h)) := (evs_xpd _ tx_X_rank [33] 56 _).trans rfl
set_option maxRecDepth 100000 in
theorem e_X_rank (d : Nat) (r_0 : Nat) (h : Hp) : evm (d + 1) 112 [vR 11 r_0] h =
    bI (evm d 109 [vR 11 r_0] h) fun x2 h1 =>
    ifp (x2 = 0)
      (bR (hR h1 r_0 3) fun r3 =>
      bR (hR h1 r_0 11) fun r4 =>
      bV (evm d 86 [vR 10 r3, vR 5 r4] h1) fun h5 =>
      bR (hR h5 r_0 2) fun r6 =>
      bV (evm d 1 [vR 0 r6] h5) fun h7 =>
      L_X_rank_33 d r_0 (0 : Int64) (0 : Int32) h7)
      (some (some (vL (-1 : Int64)), h1)) := (evs_xpd _ tx_X_rank [33] 56 _).trans rfl
set_option maxRecDepth 100000 in
theorem e_X_nth (d : Nat) (r_0 : Nat) (y_1 : Int64) (x_3 : Int32) (h : Hp) : evm (d + 1) 113 [vR 11 r_0, vL y_1, vI x_3] h =
    bR (hR h r_0 2) fun r1 =>
    bV (evm d 1 [vR 0 r1] h) fun h2 =>
    bI (evm d 131 [vR 11 r_0, vL y_1, vI x_3] h2) fun x4 h3 =>
    some (some (vI x4), h3) := (evs_xpd _ tx_X_nth [] 13 _).trans rfl
set_option maxRecDepth 100000 in
theorem e_X_plain (d : Nat) (r_0 : Nat) (x_1 : Int32) (x_2 : Int32) (h : Hp) : evm (d + 1) 114 [vR 11 r_0, vI x_1, vI x_2] h =
    ifp (x_1 < 0)
      (none)
      (ifp ((999999999 : Int32) < x_1)
        (none)
        (ifp (x_2 < (1 : Int32))
          (none)
          (ifp ((9999 : Int32) < x_2)
            (none)
            (bR (hR h r_0 7) fun r1 =>
            bR (hR h r_0 11) fun r2 =>
            bI (evm d 21 [vR 4 r1, vR 5 r2, vI x_1, vI x_2] h) fun x4 h3 =>
            some (some (vI x4), h3))))) := (evs_xpd _ tx_X_plain [] 28 _).trans rfl
set_option maxRecDepth 100000 in
theorem e_X_crowd (d : Nat) (r_0 : Nat) (y_1 : Int64) (x_3 : Int32) (h : Hp) : evm (d + 1) 115 [vR 11 r_0, vL y_1, vI x_3] h =
    bI (evm d 134 [vL y_1] h) fun x2 h1 =>
    ifp (x2 = 0)
      (ifp (x_3 < 0)
        (some (some (vL (-1 : Int64)), h1))
        (bR (hR h1 r_0 11) fun r3 =>
        ifp ((hI h1 r3 7) < x_3)
          (some (some (vL (-1 : Int64)), h1))
          (bR (hR h1 r_0 4) fun r4 =>
          bR (hR h1 r_0 11) fun r5 =>
          bV (evm d 78 [vR 9 r4, vR 5 r5, vL y_1] h1) fun h6 =>
          bR (hR h6 r_0 4) fun r7 =>
          bR (hR h6 r7 0) fun r8 =>
          ifp (inb x_3 (hN h6 r8) = true) (
          some (some (vL (hL h6 r8 (ix x_3))), h6)) none)))
      (some (some (vL (-1 : Int64)), h1)) := (evs_xpd _ tx_X_crowd [] 29 _).trans rfl
set_option maxRecDepth 100000 in
theorem e_X_weary (d : Nat) (r_0 : Nat) (y_1 : Int64) (h : Hp) : evm (d + 1) 116 [vR 11 r_0, vL y_1] h =
    bI (evm d 134 [vL y_1] h) fun x2 h1 =>
    ifp (x2 = 0)
      (bR (hR h1 r_0 4) fun r3 =>
      bR (hR h1 r_0 11) fun r4 =>
      bV (evm d 78 [vR 9 r3, vR 5 r4, vL y_1] h1) fun h5 =>
      bR (hR h5 r_0 4) fun r6 =>
      some (some (vL (hL h5 r6 1)), h5))
      (some (some (vL (-1 : Int64)), h1)) := (evs_xpd _ tx_X_weary [] 20 _).trans rfl
set_option maxRecDepth 100000 in
theorem e_X_weight (d : Nat) (r_0 : Nat) (x_1 : Int32) (h : Hp) : evm (d + 1) 117 [vR 11 r_0, vI x_1] h =
    bR (hR h r_0 1) fun r1 =>
    bR (hR h r_0 11) fun r2 =>
    bI (evm d 4 [vR 0 r1, vR 5 r2, vI x_1] h) fun x4 h3 =>
    ifp (x4 = 0)
      (some (some (vI (-1 : Int32)), h3))
      (bR (hR h3 r_0 1) fun r5 =>
      bR (hR h3 r_0 11) fun r6 =>
      bI (evm d 7 [vR 0 r5, vR 5 r6, vI x_1] h3) fun x8 h7 =>
      some (some (vI x8), h7)) := (evs_xpd _ tx_X_weight [] 21 _).trans rfl
set_option maxRecDepth 100000 in
theorem e_X_two (d : Nat) (r_0 : Nat) (h : Hp) : evm (d + 1) 118 [vR 11 r_0] h =
    bR (hR h r_0 11) fun r1 =>
    ifp ((24 : Int32) < (hI h r1 7))
      (some (some (vL (-1 : Int64)), h))
      (bR (hR h r_0 6) fun r2 =>
      bR (hR h r_0 11) fun r3 =>
      bL (evm d 17 [vR 3 r2, vR 5 r3] h) fun y5 h4 =>
      some (some (vL y5), h4)) := (evs_xpd _ tx_X_two [] 18 _).trans rfl
set_option maxRecDepth 100000 in
theorem e_X_game (d : Nat) (r_0 : Nat) (h : Hp) : evm (d + 1) 119 [vR 11 r_0] h =
    bR (hR h r_0 1) fun r1 =>
    bR (hR h r_0 11) fun r2 =>
    ifp ((hI h r1 1) < (hI h r2 7))
      (bR (hR h r_0 3) fun r3 =>
      bR (hR h r_0 11) fun r4 =>
      bV (evm d 88 [vR 10 r3, vR 5 r4] h) fun h5 =>
      bR (hR h5 r_0 2) fun r6 =>
      bR (hR h5 r_0 1) fun r7 =>
      bV (evm d 3 [vR 0 r6, vR 0 r7] h5) fun h8 =>
      bR (hR h8 r_0 3) fun r9 =>
      bR (hR h8 r_0 11) fun r10 =>
      bR (hR h8 r_0 2) fun r11 =>
      bI (evm d 94 [vR 10 r9, vR 5 r10, vR 0 r11, vI (0 : Int32)] h8) fun x13 h12 =>
      some (some (vI x13), h12))
      (some (some (vI (-1 : Int32)), h)) := (evs_xpd _ tx_X_game [] 33 _).trans rfl
noncomputable def L_X_heaps_13 (d : Nat) (r_0 : Nat) (x_2 : Int32) (x_3 : Int32) (x_4 : Int32) (h : Hp) : Option Rs := evs (evm d) tx_X_heaps (13, [some (vR 11 r_0), none, some (vI x_2), some (vI x_3), some (vI x_4), none], [], h)
noncomputable def L_X_heaps_19 (d : Nat) (r_0 : Nat) (x_2 : Int32) (x_3 : Int32) (x_4 : Int32) (h : Hp) : Option Rs := evs (evm d) tx_X_heaps (19, [some (vR 11 r_0), none, some (vI x_2), some (vI x_3), some (vI x_4), none], [], h)
set_option maxRecDepth 100000 in
theorem e_X_heaps_13 (d : Nat) (r_0 : Nat) (x_2 : Int32) (x_3 : Int32) (x_4 : Int32) (h : Hp) : L_X_heaps_13 d r_0 x_2 x_3 x_4 h =
    ifp (x_4 < (4 : Int32))
      (L_X_heaps_19 d r_0 x_2 x_3 x_4 h)
      (ifp (x_2 = 0)
        (ifp (x_3 = 0)
          (some (some (vI (0 : Int32)), h))
          (some (some (vI (1 : Int32)), h)))
        (some (some (vI (-1 : Int32)), h))) := (evs_xpd _ tx_X_heaps [13, 19] 60 _).trans rfl
set_option maxRecDepth 100000 in
theorem e_X_heaps_19 (d : Nat) (r_0 : Nat) (x_2 : Int32) (x_3 : Int32) (x_4 : Int32) (h : Hp) : L_X_heaps_19 d r_0 x_2 x_3 x_4 h =
    bR (hR h r_0 11) fun r1 =>
    ifp ((hI h r1 7) < (x_2 &&& (63 : Int32)))
      (some (some (vI (-1 : Int32)), h))
      (bR (hR h r_0 11) fun r2 =>
      bR (hR h r2 2) fun r3 =>
      ifp (inb (x_2 &&& (63 : Int32)) (hN h r3) = true) (
      ifp ((hI h r3 (ix (x_2 &&& (63 : Int32)))) = (1 : Int32))
        (some (some (vI (-1 : Int32)), h))
        (bR (hR h r_0 11) fun r4 =>
        bR (hR h r4 4) fun r5 =>
        ifp (inb (x_2 &&& (63 : Int32)) (hN h r5) = true) (
        L_X_heaps_13 d r_0 (x_2 >>> ((6 : Int32) &&& 31)) (x_3 ^^^ (hI h r5 (ix (x_2 &&& (63 : Int32))))) (x_4 + (1 : Int32)) h) none)) none) := (evs_xpd _ tx_X_heaps [13, 19] 60 _).trans rfl
set_option maxRecDepth 100000 in
theorem e_X_heaps (d : Nat) (r_0 : Nat) (x_1 : Int32) (h : Hp) : evm (d + 1) 120 [vR 11 r_0, vI x_1] h =
    ifp (x_1 < 0)
      (some (some (vI (-1 : Int32)), h))
      (L_X_heaps_13 d r_0 x_1 (0 : Int32) (0 : Int32) h) := (evs_xpd _ tx_X_heaps [13, 19] 60 _).trans rfl
set_option maxRecDepth 100000 in
theorem e_X_dust (d : Nat) (r_0 : Nat) (x_1 : Int32) (x_2 : Int32) (h : Hp) : evm (d + 1) 121 [vR 11 r_0, vI x_1, vI x_2] h =
    ifp (x_1 < (1 : Int32))
      (some (some (vI (0 : Int32)), h))
      (bR (hR h r_0 11) fun r1 =>
      ifp (x_1 < (hI h r1 7))
        (ifp (x_2 < 0)
          (some (some (vI (0 : Int32)), h))
          (ifp ((2 : Int32) < x_2)
            (some (some (vI (0 : Int32)), h))
            (bR (hR h r_0 9) fun r2 =>
            ifp (inb x_1 (hN h r2) = true) (
            some (some (vI (1 : Int32)), sI h r2 (ix x_1) x_2)) none)))
        (some (some (vI (0 : Int32)), h))) := (evs_xpd _ tx_X_dust [] 27 _).trans rfl
set_option maxRecDepth 100000 in
theorem e_X_fit (d : Nat) (r_0 : Nat) (h : Hp) : evm (d + 1) 122 [vR 11 r_0] h =
    bR (hR h r_0 3) fun r1 =>
    bR (hR h r_0 11) fun r2 =>
    bR (hR h r_0 9) fun r3 =>
    bV (evm d 89 [vR 10 r1, vR 5 r2, vR 20 r3] h) fun h4 =>
    bR (hR h4 r_0 2) fun r5 =>
    bV (evm d 1 [vR 0 r5] h4) fun h6 =>
    bR (hR h6 r_0 3) fun r7 =>
    bR (hR h6 r_0 11) fun r8 =>
    bR (hR h6 r_0 2) fun r9 =>
    bL (evm d 90 [vR 10 r7, vR 5 r8, vR 0 r9, vI (0 : Int32)] h6) fun y11 h10 =>
    some (some (vL y11), h10) := (evs_xpd _ tx_X_fit [] 24 _).trans rfl
set_option maxRecDepth 100000 in
theorem e_X_fewest (d : Nat) (r_0 : Nat) (h : Hp) : evm (d + 1) 123 [vR 11 r_0] h =
    bR (hR h r_0 5) fun r1 =>
    bR (hR h r_0 11) fun r2 =>
    bR (hR h r_0 9) fun r3 =>
    bI (evm d 62 [vR 7 r1, vR 5 r2, vR 20 r3] h) fun x5 h4 =>
    some (some (vI x5), h4) := (evs_xpd _ tx_X_fewest [] 13 _).trans rfl
noncomputable def L_X_still_14 (d : Nat) (x_1 : Int32) (x_2 : Int32) (x_3 : Int32) (x_4 : Int32) (x_5 : Int32) (h : Hp) : Option Rs := evs (evm d) tx_X_still (14, [none, some (vI x_1), some (vI x_2), some (vI x_3), some (vI x_4), some (vI x_5), none, none, none], [], h)
noncomputable def L_X_still_81 (d : Nat) (x_5 : Int32) (x_6 : Int32) (x_7 : Int32) (h : Hp) : Option Rs := evs (evm d) tx_X_still (81, [none, none, none, none, none, some (vI x_5), some (vI x_6), some (vI x_7), none], [], h)
set_option maxRecDepth 100000 in
theorem e_X_still_14 (d : Nat) (x_1 : Int32) (x_2 : Int32) (x_3 : Int32) (x_4 : Int32) (x_5 : Int32) (h : Hp) : L_X_still_14 d x_1 x_2 x_3 x_4 x_5 h =
    bI (evm d 135 [vI x_3] h) fun x2 h1 =>
    ifp (x2 = 0)
      (bI (evm d 135 [vI x_4] h1) fun x4 h3 =>
      ifp (x4 = 0)
        (ifp (x_5 < 0)
          (some (some (vI (-1 : Int32)), h3))
          (ifp ((1 : Int32) < x_5)
            (some (some (vI (-1 : Int32)), h3))
            (ifp (x_2 = x_4)
              (some (some (vI (-1 : Int32)), h3))
              (ifp ((x_4 - x_2) < 0)
                (L_X_still_81 d x_5 (-((x_1 * x_4) - (x_3 * x_2))) (-(x_4 - x_2)) h3)
                (L_X_still_81 d x_5 ((x_1 * x_4) - (x_3 * x_2)) (x_4 - x_2) h3)))))
        (some (some (vI (-1 : Int32)), h3)))
      (some (some (vI (-1 : Int32)), h1)) := (evs_xpd _ tx_X_still [14, 81] 65 _).trans rfl
set_option maxRecDepth 100000 in
theorem e_X_still_81 (d : Nat) (x_5 : Int32) (x_6 : Int32) (x_7 : Int32) (h : Hp) : L_X_still_81 d x_5 x_6 x_7 h =
    ifp (0 < x_6)
      (bI (evm d 137 [vI x_6, vI x_7] h) fun x2 h1 =>
      ifp (x_5 = 0)
        (ifp (x2 = 0) none (
        some (some (vI (x_6 / x2)), h1)))
        (ifp (x2 = 0) none (
        some (some (vI (x_7 / x2)), h1))))
      (some (some (vI (-1 : Int32)), h)) := (evs_xpd _ tx_X_still [14, 81] 65 _).trans rfl
set_option maxRecDepth 100000 in
theorem e_X_still (d : Nat) (r_0 : Nat) (x_1 : Int32) (x_2 : Int32) (x_3 : Int32) (x_4 : Int32) (x_5 : Int32) (h : Hp) : evm (d + 1) 124 [vR 11 r_0, vI x_1, vI x_2, vI x_3, vI x_4, vI x_5] h =
    bI (evm d 135 [vI x_1] h) fun x2 h1 =>
    ifp (x2 = 0)
      (bI (evm d 135 [vI x_2] h1) fun x4 h3 =>
      ifp (x4 = 0)
        (L_X_still_14 d x_1 x_2 x_3 x_4 x_5 h3)
        (some (some (vI (-1 : Int32)), h3)))
      (some (some (vI (-1 : Int32)), h1)) := (evs_xpd _ tx_X_still [14, 81] 65 _).trans rfl
noncomputable def L_X_fair_9 (d : Nat) (r_0 : Nat) (x_1 : Int32) (x_2 : Int32) (h : Hp) : Option Rs := evs (evm d) tx_X_fair (9, [some (vR 11 r_0), some (vI x_1), some (vI x_2), none, none, none, none], [], h)
set_option maxRecDepth 100000 in
theorem e_X_fair_9 (d : Nat) (r_0 : Nat) (x_1 : Int32) (x_2 : Int32) (h : Hp) : L_X_fair_9 d r_0 x_1 x_2 h =
    bR (hR h r_0 1) fun r1 =>
    bL (evm d 130 [vR 11 r_0, vR 0 r1] h) fun y3 h2 =>
    ifp (0 < (lg_cmp y3 (0 : Int64)))
      (bI (evm d 132 [vR 11 r_0, vI (32768 : Int32)] (sL h2 r_0 13 x_1.toInt64)) fun x5 h4 =>
      bI (evm d 132 [vR 11 r_0, vI (32768 : Int32)] h4) fun x7 h6 =>
      bI (evm d 132 [vR 11 r_0, vI (32768 : Int32)] h6) fun x9 h8 =>
      ifp (y3 = 0) none (
      bI (evm d 131 [vR 11 r_0, vL (lrem ((((x5.toInt64 * (32768 : Int64)) + x7.toInt64) * (32768 : Int64)) + x9.toInt64) y3), vI x_2] h8) fun x11 h10 =>
      some (some (vI x11), h10)))
      (some (some (vI (-1 : Int32)), h2)) := (evs_xpd _ tx_X_fair [9] 55 _).trans rfl
set_option maxRecDepth 100000 in
theorem e_X_fair (d : Nat) (r_0 : Nat) (x_1 : Int32) (x_2 : Int32) (h : Hp) : evm (d + 1) 125 [vR 11 r_0, vI x_1, vI x_2] h =
    bI (evm d 136 [vI x_1] h) fun x2 h1 =>
    ifp (x2 = 0)
      (L_X_fair_9 d r_0 x_1 x_2 h1)
      (some (some (vI (-1 : Int32)), h1)) := (evs_xpd _ tx_X_fair [9] 55 _).trans rfl
noncomputable def L_X_climb_33 (d : Nat) (r_0 : Nat) (x_2 : Int32) (x_3 : Int32) (h : Hp) : Option Rs := evs (evm d) tx_X_climb (33, [some (vR 11 r_0), none, some (vI x_2), some (vI x_3), none], [], h)
noncomputable def L_X_climb_110 (d : Nat) (r_0 : Nat) (x_2 : Int32) (h : Hp) : Option Rs := evs (evm d) tx_X_climb (110, [some (vR 11 r_0), none, some (vI x_2), none, none], [], h)
set_option maxRecDepth 100000 in
theorem e_X_climb_33 (d : Nat) (r_0 : Nat) (x_2 : Int32) (x_3 : Int32) (h : Hp) : L_X_climb_33 d r_0 x_2 x_3 h =
    ifp (x_3 < (40 : Int32))
      (bR (hR h r_0 2) fun r1 =>
      bR (hR h r_0 11) fun r2 =>
      bR (hR h r_0 10) fun r3 =>
      bV (evm d 8 [vR 0 r1, vR 5 r2, vR 20 r3] h) fun h4 =>
      bR (hR h4 r_0 2) fun r5 =>
      bR (hR h4 r_0 11) fun r6 =>
      bR (hR h4 r_0 10) fun r7 =>
      bR (hR h4 r_0 10) fun r8 =>
      bI (evm d 9 [vR 0 r5, vR 5 r6, vR 20 r7, vR 20 r8] h4) fun x10 h9 =>
      ifp (0 < x10)
        (bR (hR h9 r_0 2) fun r11 =>
        bR (hR h9 r_0 11) fun r12 =>
        bI (evm d 132 [vR 11 r_0, vI x10] h9) fun x14 h13 =>
        bI (evm d 133 [vR 11 r_0, vI x14] h13) fun x16 h15 =>
        bV (evm d 5 [vR 0 r11, vR 5 r12, vI x16] h15) fun h17 =>
        L_X_climb_33 d r_0 x_2 (x_3 + (1 : Int32)) h17)
        (L_X_climb_110 d r_0 x_2 h9))
      (L_X_climb_110 d r_0 x_2 h) := (evs_xpd _ tx_X_climb [33, 110] 69 _).trans rfl
set_option maxRecDepth 100000 in
theorem e_X_climb_110 (d : Nat) (r_0 : Nat) (x_2 : Int32) (h : Hp) : L_X_climb_110 d r_0 x_2 h =
    ifp (x_2 = 0)
      (bR (hR h r_0 2) fun r2 =>
      some (some (vI (hI h r2 1)), h))
      (bR (hR h r_0 2) fun r1 =>
      some (some (vI (hI h r1 2)), h)) := (evs_xpd _ tx_X_climb [33, 110] 69 _).trans rfl
set_option maxRecDepth 100000 in
theorem e_X_climb (d : Nat) (r_0 : Nat) (x_1 : Int32) (x_2 : Int32) (h : Hp) : evm (d + 1) 126 [vR 11 r_0, vI x_1, vI x_2] h =
    bI (evm d 136 [vI x_1] h) fun x2 h1 =>
    ifp (x2 = 0)
      (ifp (x_2 < 0)
        (some (some (vI (-1 : Int32)), h1))
        (ifp ((1 : Int32) < x_2)
          (some (some (vI (-1 : Int32)), h1))
          (bR (hR (sL h1 r_0 13 x_1.toInt64) r_0 2) fun r3 =>
          bV (evm d 1 [vR 0 r3] (sL h1 r_0 13 x_1.toInt64)) fun h4 =>
          L_X_climb_33 d r_0 x_2 (0 : Int32) h4)))
      (some (some (vI (-1 : Int32)), h1)) := (evs_xpd _ tx_X_climb [33, 110] 69 _).trans rfl
noncomputable def L_X_mark_39 (d : Nat) (r_0 : Nat) (x_2 : Int32) (r_3 : Nat) (h : Hp) : Option Rs := evs (evm d) tx_X_mark (39, [some (vR 11 r_0), none, some (vI x_2), some (vR 1 r_3)], [], h)
set_option maxRecDepth 100000 in
theorem e_X_mark_39 (d : Nat) (r_0 : Nat) (x_2 : Int32) (r_3 : Nat) (h : Hp) : L_X_mark_39 d r_0 x_2 r_3 h =
    ifp (x_2 = 0)
      (bR (hR (sI h r_3 2 (1 : Int32)) r_3 0) fun r1 =>
      bR (hR (sI h r_3 2 (1 : Int32)) r_0 1) fun r2 =>
      bV (evm d 3 [vR 0 r1, vR 0 r2] (sI h r_3 2 (1 : Int32))) fun h3 =>
      bR (hR h3 r_0 9) fun r4 =>
      bR (hR h3 r_3 1) fun r5 =>
      bR (hR h3 r_0 9) fun r6 =>
      ifp (0 ≤ (nI (hN h3 r6)).toInt ∧ 0 ≤ (0 : Int32).toInt ∧ 0 ≤ (0 : Int32).toInt ∧ ix (0 : Int32) + ix (nI (hN h3 r6)) ≤ hN h3 r4 ∧ ix (0 : Int32) + ix (nI (hN h3 r6)) ≤ hN h3 r5) (
      some (some (vI (1 : Int32)), sCp h3 r4 (ix (0 : Int32)) r5 (ix (0 : Int32)) (ix (nI (hN h3 r6))))) none)
      (bR (hR h r_0 1) fun r7 =>
      bR (hR h r_3 0) fun r8 =>
      bV (evm d 3 [vR 0 r7, vR 0 r8] h) fun h9 =>
      bR (hR h9 r_3 1) fun r10 =>
      bR (hR h9 r_0 9) fun r11 =>
      bR (hR h9 r_0 9) fun r12 =>
      ifp (0 ≤ (nI (hN h9 r12)).toInt ∧ 0 ≤ (0 : Int32).toInt ∧ 0 ≤ (0 : Int32).toInt ∧ ix (0 : Int32) + ix (nI (hN h9 r12)) ≤ hN h9 r10 ∧ ix (0 : Int32) + ix (nI (hN h9 r12)) ≤ hN h9 r11) (
      some (some (vI (1 : Int32)), sCp h9 r10 (ix (0 : Int32)) r11 (ix (0 : Int32)) (ix (nI (hN h9 r12))))) none) := (evs_xpd _ tx_X_mark [39] 66 _).trans rfl
set_option maxRecDepth 100000 in
theorem e_X_mark (d : Nat) (r_0 : Nat) (x_1 : Int32) (x_2 : Int32) (h : Hp) : evm (d + 1) 127 [vR 11 r_0, vI x_1, vI x_2] h =
    ifp (x_1 < 0)
      (some (some (vI (0 : Int32)), h))
      (bR (hR h r_0 8) fun r1 =>
      ifp (x_1 < (nI (hN h r1)))
        (bR (hR h r_0 8) fun r2 =>
        ifp (inb x_1 (hN h r2) = true) (
        bR (hR h r2 (ix x_1)) fun r3 =>
        ifp (x_2 = 0)
          (L_X_mark_39 d r_0 x_2 r3 h)
          (ifp ((hI h r3 2) = 0)
            (some (some (vI (0 : Int32)), h))
            (L_X_mark_39 d r_0 x_2 r3 h))) none)
        (some (some (vI (0 : Int32)), h))) := (evs_xpd _ tx_X_mark [39] 66 _).trans rfl
set_option maxRecDepth 100000 in
theorem e_X_count (d : Nat) (r_0 : Nat) (x_1 : Int32) (h : Hp) : evm (d + 1) 128 [vR 11 r_0, vI x_1] h =
    ifp (x_1 = (0 : Int32))
      (bR (hR h r_0 11) fun r1 =>
      some (some (vI (hI h r1 7)), h))
      (ifp (x_1 = ((0 : Int32) + 1))
      (bR (hR h r_0 1) fun r2 =>
      some (some (vI (hI h r2 1)), h))
      (ifp (x_1 = (((0 : Int32) + 1) + 1))
      (bR (hR h r_0 1) fun r3 =>
      some (some (vI (hI h r3 2)), h))
      (ifp (x_1 = ((((0 : Int32) + 1) + 1) + 1))
      (bR (hR h r_0 1) fun r4 =>
      some (some (vI (hI h r4 4)), h))
      (ifp (x_1 = (((((0 : Int32) + 1) + 1) + 1) + 1))
      (bR (hR h r_0 1) fun r5 =>
      some (some (vI (hI h r5 5)), h))
      (ifp (x_1 = ((((((0 : Int32) + 1) + 1) + 1) + 1) + 1))
      (bR (hR h r_0 11) fun r6 =>
      some (some (vI (hI h r6 8)), h))
      (ifp (x_1 = (((((((0 : Int32) + 1) + 1) + 1) + 1) + 1) + 1))
      (bR (hR h r_0 11) fun r7 =>
      some (some (vI (hI h r7 11)), h))
      (ifp (x_1 = ((((((((0 : Int32) + 1) + 1) + 1) + 1) + 1) + 1) + 1))
      (bR (hR h r_0 0) fun r8 =>
      bR (hR h r8 0) fun r9 =>
      some (some (vI (hI h r9 1)), h))
      (
      some (some (vI (-1 : Int32)), h))))))))) := (evs_xpd _ tx_X_count [] 42 _).trans rfl
noncomputable def L_X_beginAnew_23 (d : Nat) (r_0 : Nat) (x_1 : Int32) (h : Hp) : Option Rs := evs (evm d) tx_X_beginAnew (23, [some (vR 11 r_0), some (vI x_1), none], [], h)
noncomputable def L_X_beginAnew_47 (d : Nat) (r_0 : Nat) (x_1 : Int32) (h : Hp) : Option Rs := evs (evm d) tx_X_beginAnew (47, [some (vR 11 r_0), some (vI x_1), none], [], h)
set_option maxRecDepth 100000 in
theorem e_X_beginAnew_23 (d : Nat) (r_0 : Nat) (x_1 : Int32) (h : Hp) : L_X_beginAnew_23 d r_0 x_1 h =
    bR (hR h r_0 9) fun r1 =>
    ifp (x_1 < (nI (hN h r1)))
      (bR (hR h r_0 9) fun r2 =>
      ifp (inb x_1 (hN h r2) = true) (
      L_X_beginAnew_23 d r_0 (x_1 + (1 : Int32)) (sI h r2 (ix x_1) (0 : Int32))) none)
      (L_X_beginAnew_47 d r_0 (0 : Int32) h) := (evs_xpd _ tx_X_beginAnew [23, 47] 48 _).trans rfl
set_option maxRecDepth 100000 in
theorem e_X_beginAnew_47 (d : Nat) (r_0 : Nat) (x_1 : Int32) (h : Hp) : L_X_beginAnew_47 d r_0 x_1 h =
    bR (hR h r_0 8) fun r1 =>
    ifp (x_1 < (nI (hN h r1)))
      (bR (hR h r_0 8) fun r2 =>
      ifp (inb x_1 (hN h r2) = true) (
      bR (hR h r2 (ix x_1)) fun r3 =>
      L_X_beginAnew_47 d r_0 (x_1 + (1 : Int32)) (sI h r3 2 (0 : Int32))) none)
      (some (none, h)) := (evs_xpd _ tx_X_beginAnew [23, 47] 48 _).trans rfl
set_option maxRecDepth 100000 in
theorem e_X_beginAnew (d : Nat) (r_0 : Nat) (h : Hp) : evm (d + 1) 129 [vR 11 r_0] h =
    bR (hR h r_0 1) fun r1 =>
    bV (evm d 1 [vR 0 r1] h) fun h2 =>
    bR (hR h2 r_0 3) fun r3 =>
    bV (evm d 85 [vR 10 r3] h2) fun h4 =>
    bR (hR h4 r_0 4) fun r5 =>
    bV (evm d 77 [vR 9 r5] h4) fun h6 =>
    L_X_beginAnew_23 d r_0 (0 : Int32) h6 := (evs_xpd _ tx_X_beginAnew [23, 47] 48 _).trans rfl
set_option maxRecDepth 100000 in
theorem e_X_manyFrom (d : Nat) (r_0 : Nat) (r_1 : Nat) (h : Hp) : evm (d + 1) 130 [vR 11 r_0, vR 0 r_1] h =
    bR (hR h r_0 3) fun r1 =>
    bR (hR h r_0 11) fun r2 =>
    bV (evm d 86 [vR 10 r1, vR 5 r2] h) fun h3 =>
    bR (hR h3 r_0 2) fun r4 =>
    bV (evm d 3 [vR 0 r4, vR 0 r_1] h3) fun h5 =>
    bR (hR h5 r_0 3) fun r6 =>
    bR (hR h5 r_0 11) fun r7 =>
    bR (hR h5 r_0 2) fun r8 =>
    bL (evm d 90 [vR 10 r6, vR 5 r7, vR 0 r8, vI (0 : Int32)] h5) fun y10 h9 =>
    some (some (vL y10), h9) := (evs_xpd _ tx_X_manyFrom [] 23 _).trans rfl
set_option maxRecDepth 100000 in
theorem e_X_strideOf (d : Nat) (r_0 : Nat) (y_1 : Int64) (x_3 : Int32) (h : Hp) : evm (d + 1) 131 [vR 11 r_0, vL y_1, vI x_3] h =
    bR (hR h r_0 3) fun r1 =>
    bR (hR h r_0 11) fun r2 =>
    bV (evm d 86 [vR 10 r1, vR 5 r2] h) fun h3 =>
    ifp (x_3 < 0)
      (some (some (vI (-1 : Int32)), h3))
      (ifp ((lg_cmp y_1 (0 : Int64)) < 0)
        (some (some (vI (-1 : Int32)), h3))
        (bR (hR h3 r_0 3) fun r4 =>
        bR (hR h3 r_0 11) fun r5 =>
        bR (hR h3 r_0 2) fun r6 =>
        bL (evm d 90 [vR 10 r4, vR 5 r5, vR 0 r6, vI (0 : Int32)] h3) fun y8 h7 =>
        ifp ((lg_cmp y_1 y8) < 0)
          (bR (hR h7 r_0 3) fun r9 =>
          bR (hR h7 r_0 11) fun r10 =>
          bR (hR h7 r_0 2) fun r11 =>
          bI (evm d 93 [vR 10 r9, vR 5 r10, vR 0 r11, vL y_1, vI x_3] h7) fun x13 h12 =>
          some (some (vI x13), h12))
          (some (some (vI (-1 : Int32)), h7)))) := (evs_xpd _ tx_X_strideOf [] 39 _).trans rfl
set_option maxRecDepth 100000 in
theorem e_X_drawBelow (d : Nat) (r_0 : Nat) (x_1 : Int32) (h : Hp) : evm (d + 1) 132 [vR 11 r_0, vI x_1] h =
    ifp (0 < x_1)
      (ifp ((65536 : Int64) = 0) none (
      ifp (x_1.toInt64 = 0) none (
      some (some (vI ((lrem ((hL (sL h r_0 13 ((((hL h r_0 13) * (1103515245 : Int64)) + (12345 : Int64)) &&& (2147483647 : Int64))) r_0 13) / (65536 : Int64)) x_1.toInt64).toInt32)), sL h r_0 13 ((((hL h r_0 13) * (1103515245 : Int64)) + (12345 : Int64)) &&& (2147483647 : Int64))))))
      (some (some (vI (0 : Int32)), sL h r_0 13 ((((hL h r_0 13) * (1103515245 : Int64)) + (12345 : Int64)) &&& (2147483647 : Int64)))) := (evs_xpd _ tx_X_drawBelow [] 28 _).trans rfl
noncomputable def L_X_strideWeighing_4 (d : Nat) (r_0 : Nat) (x_1 : Int32) (x_2 : Int32) (x_3 : Int32) (h : Hp) : Option Rs := evs (evm d) tx_X_strideWeighing (4, [some (vR 11 r_0), some (vI x_1), some (vI x_2), some (vI x_3)], [], h)
set_option maxRecDepth 100000 in
theorem e_X_strideWeighing_4 (d : Nat) (r_0 : Nat) (x_1 : Int32) (x_2 : Int32) (x_3 : Int32) (h : Hp) : L_X_strideWeighing_4 d r_0 x_1 x_2 x_3 h =
    bR (hR h r_0 11) fun r1 =>
    ifp (x_3 < (hI h r1 8))
      (bR (hR h r_0 10) fun r2 =>
      ifp (x_3 < (nI (hN h r2)))
        (bR (hR h r_0 10) fun r3 =>
        ifp (inb x_3 (hN h r3) = true) (
        ifp (x_1 < (x_2 + (hI h r3 (ix x_3))))
          (bR (hR h r_0 11) fun r4 =>
          bR (hR h r4 0) fun r5 =>
          ifp (inb x_3 (hN h r5) = true) (
          some (some (vI (hI h r5 (ix x_3))), h)) none)
          (L_X_strideWeighing_4 d r_0 x_1 (x_2 + (hI h r3 (ix x_3))) (x_3 + (1 : Int32)) h)) none)
        (some (some (vI (-1 : Int32)), h)))
      (some (some (vI (-1 : Int32)), h)) := (evs_xpd _ tx_X_strideWeighing [4] 39 _).trans rfl
set_option maxRecDepth 100000 in
theorem e_X_strideWeighing (d : Nat) (r_0 : Nat) (x_1 : Int32) (h : Hp) : evm (d + 1) 133 [vR 11 r_0, vI x_1] h =
    L_X_strideWeighing_4 d r_0 x_1 (0 : Int32) (0 : Int32) h := (evs_xpd _ tx_X_strideWeighing [4] 39 _).trans rfl
set_option maxRecDepth 100000 in
theorem e_X_isNoCrowd (d : Nat) (y_0 : Int64) (h : Hp) : evm (d + 1) 134 [vL y_0] h =
    ifp ((lg_cmp y_0 (1 : Int64)) < 0)
      (some (some (vI (1 : Int32)), h))
      (ifp (0 < (lg_cmp y_0 (1000000000000 : Int64)))
        (some (some (vI (1 : Int32)), h))
        (some (some (vI (0 : Int32)), h))) := (evs_xpd _ tx_X_isNoCrowd [] 17 _).trans rfl
set_option maxRecDepth 100000 in
theorem e_X_isNoStill (d : Nat) (x_0 : Int32) (h : Hp) : evm (d + 1) 135 [vI x_0] h =
    ifp (x_0 < (1 : Int32))
      (some (some (vI (1 : Int32)), h))
      (ifp ((999 : Int32) < x_0)
        (some (some (vI (1 : Int32)), h))
        (some (some (vI (0 : Int32)), h))) := (evs_xpd _ tx_X_isNoStill [] 15 _).trans rfl
set_option maxRecDepth 100000 in
theorem e_X_isNoSeed (d : Nat) (x_0 : Int32) (h : Hp) : evm (d + 1) 136 [vI x_0] h =
    ifp (x_0 < 0)
      (some (some (vI (1 : Int32)), h))
      (ifp ((9999 : Int32) < x_0)
        (some (some (vI (1 : Int32)), h))
        (some (some (vI (0 : Int32)), h))) := (evs_xpd _ tx_X_isNoSeed [] 14 _).trans rfl
noncomputable def L_X_commonDivisor_7 (d : Nat) (x_2 : Int32) (x_3 : Int32) (x_4 : Int32) (h : Hp) : Option Rs := evs (evm d) tx_X_commonDivisor (7, [none, none, some (vI x_2), some (vI x_3), some (vI x_4), none], [], h)
set_option maxRecDepth 100000 in
theorem e_X_commonDivisor_7 (d : Nat) (x_2 : Int32) (x_3 : Int32) (x_4 : Int32) (h : Hp) : L_X_commonDivisor_7 d x_2 x_3 x_4 h =
    ifp (x_4 < (64 : Int32))
      (ifp (x_3 = 0)
        (ifp (0 < x_2)
          (some (some (vI x_2), h))
          (some (some (vI (1 : Int32)), h)))
        (ifp (x_3 = 0) none (
        L_X_commonDivisor_7 d x_3 (irem x_2 x_3) (x_4 + (1 : Int32)) h)))
      (ifp (0 < x_2)
        (some (some (vI x_2), h))
        (some (some (vI (1 : Int32)), h))) := (evs_xpd _ tx_X_commonDivisor [7] 32 _).trans rfl
set_option maxRecDepth 100000 in
theorem e_X_commonDivisor (d : Nat) (x_0 : Int32) (x_1 : Int32) (h : Hp) : evm (d + 1) 137 [vI x_0, vI x_1] h =
    L_X_commonDivisor_7 d x_0 x_1 (0 : Int32) h := (evs_xpd _ tx_X_commonDivisor [7] 32 _).trans rfl
set_option maxRecDepth 100000 in
theorem e_JMath_max (d : Nat) (x_0 : Int32) (x_1 : Int32) (h : Hp) : evm (d + 1) 240 [vI x_0, vI x_1] h =
    ifp (x_0 < x_1)
      (some (some (vI x_1), h))
      (some (some (vI x_0), h)) := (evs_xpd _ tx_JMath_max [] 12 _).trans rfl
set_option maxRecDepth 100000 in
theorem e_JMath_min (d : Nat) (x_0 : Int32) (x_1 : Int32) (h : Hp) : evm (d + 1) 241 [vI x_0, vI x_1] h =
    ifp (x_1 < x_0)
      (some (some (vI x_1), h))
      (some (some (vI x_0), h)) := (evs_xpd _ tx_JMath_min [] 12 _).trans rfl
set_option maxRecDepth 100000 in
theorem e_JStr_length (d : Nat) (r_0 : Nat) (h : Hp) : evm (d + 1) 242 [vR 40 r_0] h =
    bI (evm d 243 [vR 40 r_0] h) fun x2 h1 =>
    some (some (vI ((nI (slen r_0)) >>> (x2 &&& 31))), h1) := (evs_xpd _ tx_JStr_length [] 12 _).trans rfl
set_option maxRecDepth 100000 in
theorem e_JStr_coder (d : Nat) (r_0 : Nat) (h : Hp) : evm (d + 1) 243 [vR 40 r_0] h =
    ifp ((1 : Int32) = 0)
      (bif isBy (1 : Int32) then some (some (vI (1 : Int32)), h) else none)
      (bif isBy (0 : Int32) then some (some (vI (0 : Int32)), h) else none) := (evs_xpd _ tx_JStr_coder [] 12 _).trans rfl
set_option maxRecDepth 100000 in
theorem e_JStr_isLatin1 (d : Nat) (r_0 : Nat) (h : Hp) : evm (d + 1) 244 [vR 40 r_0] h =
    ifp ((1 : Int32) = 0)
      (some (some (vI (0 : Int32)), h))
      (ifp ((0 : Int32) = 0)
        (some (some (vI (1 : Int32)), h))
        (some (some (vI (0 : Int32)), h))) := (evs_xpd _ tx_JStr_isLatin1 [] 14 _).trans rfl
set_option maxRecDepth 100000 in
theorem e_JStr_charAt (d : Nat) (r_0 : Nat) (x_1 : Int32) (h : Hp) : evm (d + 1) 245 [vR 40 r_0, vI x_1] h =
    bI (evm d 244 [vR 40 r_0] h) fun x2 h1 =>
    ifp (x2 = 0)
      (none)
      (bI (evm d 249 [vR 41 r_0, vI x_1] h1) fun x4 h3 =>
      bif isCh x4 then some (some (vI x4), h3) else none) := (evs_xpd _ tx_JStr_charAt [] 18 _).trans rfl
set_option maxRecDepth 100000 in
theorem e_JStr_indexOf (d : Nat) (r_0 : Nat) (x_1 : Int32) (h : Hp) : evm (d + 1) 246 [vR 40 r_0, vI x_1] h =
    bI (evm d 247 [vR 40 r_0, vI x_1, vI (0 : Int32)] h) fun x2 h1 =>
    some (some (vI x2), h1) := (evs_xpd _ tx_JStr_indexOf [] 10 _).trans rfl
set_option maxRecDepth 100000 in
theorem e_JStr_indexOf3 (d : Nat) (r_0 : Nat) (x_1 : Int32) (x_2 : Int32) (h : Hp) : evm (d + 1) 247 [vR 40 r_0, vI x_1, vI x_2] h =
    bI (evm d 244 [vR 40 r_0] h) fun x2 h1 =>
    ifp (x2 = 0)
      (bI (evm d 242 [vR 40 r_0] h1) fun x4 h3 =>
      none)
      (bI (evm d 242 [vR 40 r_0] h1) fun x6 h5 =>
      bI (evm d 251 [vR 41 r_0, vI x_1, vI x_2, vI x6] h5) fun x8 h7 =>
      some (some (vI x8), h7)) := (evs_xpd _ tx_JStr_indexOf3 [] 24 _).trans rfl
set_option maxRecDepth 100000 in
theorem e_JStr_checkIndex (d : Nat) (x_0 : Int32) (x_1 : Int32) (h : Hp) : evm (d + 1) 248 [vI x_0, vI x_1] h =
    bI (evm d 253 [vI x_0, vI x_1, vR 43 0] h) fun x2 h1 =>
    some (none, h1) := (evs_xpd _ tx_JStr_checkIndex [] 11 _).trans rfl
set_option maxRecDepth 100000 in
theorem e_JLat_charAt (d : Nat) (r_0 : Nat) (x_1 : Int32) (h : Hp) : evm (d + 1) 249 [vR 41 r_0, vI x_1] h =
    bV (evm d 248 [vI x_1, vI (nI (slen r_0))] h) fun h1 =>
    ifp (inb x_1 (slen r_0) = true) (
    bif isCh (chr ((sby r_0 (ix x_1)) &&& (255 : Int32))) then some (some (vI (chr ((sby r_0 (ix x_1)) &&& (255 : Int32)))), h1) else none) none := (evs_xpd _ tx_JLat_charAt [] 16 _).trans rfl
set_option maxRecDepth 100000 in
theorem e_JLat_canEncode (d : Nat) (x_0 : Int32) (h : Hp) : evm (d + 1) 250 [vI x_0] h =
    ifp (x_0 < 0)
      (some (some (vI (0 : Int32)), h))
      (ifp ((255 : Int32) < x_0)
        (some (some (vI (0 : Int32)), h))
        (some (some (vI (1 : Int32)), h))) := (evs_xpd _ tx_JLat_canEncode [] 14 _).trans rfl
set_option maxRecDepth 100000 in
theorem e_JLat_indexOf (d : Nat) (r_0 : Nat) (x_1 : Int32) (x_2 : Int32) (x_3 : Int32) (h : Hp) : evm (d + 1) 251 [vR 41 r_0, vI x_1, vI x_2, vI x_3] h =
    bI (evm d 250 [vI x_1] h) fun x2 h1 =>
    ifp (x2 = 0)
      (some (some (vI (-1 : Int32)), h1))
      (bI (evm d 240 [vI x_2, vI (0 : Int32)] h1) fun x4 h3 =>
      bI (evm d 241 [vI x_3, vI (nI (slen r_0))] h3) fun x6 h5 =>
      ifp (x4 < x6)
        (bI (evm d 252 [vR 41 r_0, vI x_1, vI x4, vI x6] h5) fun x8 h7 =>
        some (some (vI x8), h7))
        (some (some (vI (-1 : Int32)), h5))) := (evs_xpd _ tx_JLat_indexOf [] 30 _).trans rfl
noncomputable def L_JLat_indexOfChar_7 (d : Nat) (r_0 : Nat) (x_3 : Int32) (x_4 : Int32) (x_5 : Int32) (h : Hp) : Option Rs := evs (evm d) tx_JLat_indexOfChar (7, [some (vR 41 r_0), none, none, some (vI x_3), some (vI x_4), some (vI x_5)], [], h)
set_option maxRecDepth 100000 in
theorem e_JLat_indexOfChar_7 (d : Nat) (r_0 : Nat) (x_3 : Int32) (x_4 : Int32) (x_5 : Int32) (h : Hp) : L_JLat_indexOfChar_7 d r_0 x_3 x_4 x_5 h =
    ifp (x_5 < x_3)
      (ifp (inb x_5 (slen r_0) = true) (
      ifp ((sby r_0 (ix x_5)) = x_4)
        (some (some (vI x_5), h))
        (L_JLat_indexOfChar_7 d r_0 x_3 x_4 (x_5 + (1 : Int32)) h)) none)
      (some (some (vI (-1 : Int32)), h)) := (evs_xpd _ tx_JLat_indexOfChar [7] 24 _).trans rfl
set_option maxRecDepth 100000 in
theorem e_JLat_indexOfChar (d : Nat) (r_0 : Nat) (x_1 : Int32) (x_2 : Int32) (x_3 : Int32) (h : Hp) : evm (d + 1) 252 [vR 41 r_0, vI x_1, vI x_2, vI x_3] h =
    L_JLat_indexOfChar_7 d r_0 x_3 x_1.toInt8.toInt32 x_2 h := (evs_xpd _ tx_JLat_indexOfChar [7] 24 _).trans rfl
set_option maxRecDepth 100000 in
theorem e_JPre_checkIndex (d : Nat) (x_0 : Int32) (x_1 : Int32) (r_2 : Nat) (h : Hp) : evm (d + 1) 253 [vI x_0, vI x_1, vR 43 r_2] h =
    ifp (x_0 < 0)
      (none)
      (ifp (x_0 < x_1)
        (some (some (vI x_0), h))
        (none)) := (evs_xpd _ tx_JPre_checkIndex [] 17 _).trans rfl
