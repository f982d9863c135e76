set_option maxRecDepth 100000 in
theorem e_M_thrown (d : Nat) (r_0 : Nat) (h : Hp) : evm (d + 1) 138 [vR 12 r_0] h =
    some (some (vI (hI h r_0 0)), h) := (evs_xpd _ tx_M_thrown [] 8 _).trans rfl
set_option maxRecDepth 100000 in
theorem e_M_feed (d : Nat) (r_0 : Nat) (y_1 : Int64) (y_3 : Int64) (y_5 : Int64) (h : Hp) : evm (d + 1) 139 [vR 12 r_0, vL y_1, vL y_3, vL y_5] h =
    bV (evm d 140 [vR 12 r_0, vL y_1] (sI h r_0 0 (0 : Int32))) fun h1 =>
    bV (evm d 140 [vR 12 r_0, vL y_3] h1) fun h2 =>
    bV (evm d 140 [vR 12 r_0, vL y_5] h2) fun h3 =>
    some (some (vI (hI h3 r_0 2)), h3) := (evs_xpd _ tx_M_feed [] 20 _).trans rfl
noncomputable def L_M_lay_3 (d : Nat) (r_0 : Nat) (y_1 : Int64) (x_3 : Int32) (h : Hp) : Option Rs := evs (evm d) tx_M_lay (3, [some (vR 12 r_0), some (vL y_1), none, some (vI x_3), none], [], h)
noncomputable def L_M_lay_38 (d : Nat) (r_0 : Nat) (y_1 : Int64) (x_3 : Int32) (x_4 : Int32) (h : Hp) : Option Rs := evs (evm d) tx_M_lay (38, [some (vR 12 r_0), some (vL y_1), none, some (vI x_3), some (vI x_4)], [], h)
set_option maxRecDepth 100000 in
theorem e_M_lay_3 (d : Nat) (r_0 : Nat) (y_1 : Int64) (x_3 : Int32) (h : Hp) : L_M_lay_3 d r_0 y_1 x_3 h =
    ifp (x_3 < 0)
      (some (none, h))
      (ifp (((y_1 >>> (x_3.toInt64 &&& 63)).toInt32 &&& (255 : Int32)) = (10 : Int32))
        (L_M_lay_38 d r_0 y_1 x_3 ((y_1 >>> (x_3.toInt64 &&& 63)).toInt32 &&& (255 : Int32)) h)
        (ifp (((y_1 >>> (x_3.toInt64 &&& 63)).toInt32 &&& (255 : Int32)) < (32 : Int32))
          (L_M_lay_3 d r_0 y_1 (x_3 + (-8 : Int32)) h)
          (ifp ((126 : Int32) < ((y_1 >>> (x_3.toInt64 &&& 63)).toInt32 &&& (255 : Int32)))
            (L_M_lay_3 d r_0 y_1 (x_3 + (-8 : Int32)) h)
            (L_M_lay_38 d r_0 y_1 x_3 ((y_1 >>> (x_3.toInt64 &&& 63)).toInt32 &&& (255 : Int32)) h)))) := (evs_xpd _ tx_M_lay [3, 38] 44 _).trans rfl
set_option maxRecDepth 100000 in
theorem e_M_lay_38 (d : Nat) (r_0 : Nat) (y_1 : Int64) (x_3 : Int32) (x_4 : Int32) (h : Hp) : L_M_lay_38 d r_0 y_1 x_3 x_4 h =
    ifp ((hI h r_0 2) < (1000 : Int32))
      (bR (hR h r_0 1) fun r1 =>
      ifp (inb (hI h r_0 2) (hN h r1) = true) (
      L_M_lay_3 d r_0 y_1 (x_3 + (-8 : Int32)) (sI (sI h r1 (ix (hI h r_0 2)) x_4) r_0 2 ((hI (sI h r1 (ix (hI h r_0 2)) x_4) r_0 2) + (1 : Int32)))) none)
      (L_M_lay_3 d r_0 y_1 (x_3 + (-8 : Int32)) h) := (evs_xpd _ tx_M_lay [3, 38] 44 _).trans rfl
set_option maxRecDepth 100000 in
theorem e_M_lay (d : Nat) (r_0 : Nat) (y_1 : Int64) (h : Hp) : evm (d + 1) 140 [vR 12 r_0, vL y_1] h =
    L_M_lay_3 d r_0 y_1 (56 : Int32) h := (evs_xpd _ tx_M_lay [3, 38] 44 _).trans rfl
noncomputable def L_M_new_196 (d : Nat) (r_0 : Nat) (h : Hp) : Option Rs := evs (evm d) tx_M_new (196, [some (vR 12 r_0)], [], h)
noncomputable def L_M_new_239 (d : Nat) (r_0 : Nat) (h : Hp) : Option Rs := evs (evm d) tx_M_new (239, [some (vR 12 r_0)], [], h)
noncomputable def L_M_new_281 (d : Nat) (r_0 : Nat) (h : Hp) : Option Rs := evs (evm d) tx_M_new (281, [some (vR 12 r_0)], [], h)
noncomputable def L_M_new_324 (d : Nat) (r_0 : Nat) (h : Hp) : Option Rs := evs (evm d) tx_M_new (324, [some (vR 12 r_0)], [], h)
noncomputable def L_M_new_361 (d : Nat) (r_0 : Nat) (h : Hp) : Option Rs := evs (evm d) tx_M_new (361, [some (vR 12 r_0)], [], h)
set_option maxRecDepth 100000 in
theorem e_M_new_196 (d : Nat) (r_0 : Nat) (h : Hp) : L_M_new_196 d r_0 h =
    ifp (inb (140 : Int32) 1000000 = true) (
    alc h fun q1 =>
    ifp (inb (2200 : Int32) 1000000 = true) (
    alc (sR (sN h 20 (ix (140 : Int32)) (ix (140 : Int32))) r_0 10 q1) fun q2 =>
    ifp (inb (2200 : Int32) 1000000 = true) (
    alc (sR (sN (sR (sN h 20 (ix (140 : Int32)) (ix (140 : Int32))) r_0 10 q1) 20 (ix (2200 : Int32)) (ix (2200 : Int32))) r_0 11 q2) fun q3 =>
    ifp (inb (4 : Int32) 1000000 = true) (
    alc (sR (sN (sR (sN (sR (sN h 20 (ix (140 : Int32)) (ix (140 : Int32))) r_0 10 q1) 20 (ix (2200 : Int32)) (ix (2200 : Int32))) r_0 11 q2) 20 (ix (2200 : Int32)) (ix (2200 : Int32))) r_0 12 q3) fun q4 =>
    ifp (inb (1100 : Int32) 1000000 = true) (
    alc (sR (sN (sR (sN (sR (sN (sR (sN h 20 (ix (140 : Int32)) (ix (140 : Int32))) r_0 10 q1) 20 (ix (2200 : Int32)) (ix (2200 : Int32))) r_0 11 q2) 20 (ix (2200 : Int32)) (ix (2200 : Int32))) r_0 12 q3) 20 (ix (4 : Int32)) (ix (4 : Int32))) r_0 15 q4) fun q5 =>
    L_M_new_239 d r_0 (sR (sN (sR (sN (sR (sN (sR (sN (sR (sN h 20 (ix (140 : Int32)) (ix (140 : Int32))) r_0 10 q1) 20 (ix (2200 : Int32)) (ix (2200 : Int32))) r_0 11 q2) 20 (ix (2200 : Int32)) (ix (2200 : Int32))) r_0 12 q3) 20 (ix (4 : Int32)) (ix (4 : Int32))) r_0 15 q4) 20 (ix (1100 : Int32)) (ix (1100 : Int32))) r_0 16 q5)) none) none) none) none) none := (evs_xpd _ tx_M_new [196, 239, 281, 324, 361] 211 _).trans rfl
set_option maxRecDepth 100000 in
theorem e_M_new_239 (d : Nat) (r_0 : Nat) (h : Hp) : L_M_new_239 d r_0 h =
    ifp (inb (420 : Int32) 1000000 = true) (
    alc h fun q1 =>
    ifp (inb (4 : Int32) 1000000 = true) (
    alc (sR (sN h 20 (ix (420 : Int32)) (ix (420 : Int32))) r_0 17 q1) fun q2 =>
    ifp (inb (294175 : Int32) 1000000 = true) (
    alc (sR (sN (sR (sN h 20 (ix (420 : Int32)) (ix (420 : Int32))) r_0 17 q1) 23 (ix (4 : Int32)) (ix (4 : Int32))) r_0 18 q2) fun q3 =>
    ifp (inb (144 : Int32) 1000000 = true) (
    alc (sR (sN (sR (sN (sR (sN h 20 (ix (420 : Int32)) (ix (420 : Int32))) r_0 17 q1) 23 (ix (4 : Int32)) (ix (4 : Int32))) r_0 18 q2) 21 (ix (294175 : Int32)) (ix (294175 : Int32))) r_0 23 q3) fun q4 =>
    ifp (inb (144 : Int32) 1000000 = true) (
    alc (sR (sN (sR (sN (sR (sN (sR (sN h 20 (ix (420 : Int32)) (ix (420 : Int32))) r_0 17 q1) 23 (ix (4 : Int32)) (ix (4 : Int32))) r_0 18 q2) 21 (ix (294175 : Int32)) (ix (294175 : Int32))) r_0 23 q3) 21 (ix (144 : Int32)) (ix (144 : Int32))) r_0 25 q4) fun q5 =>
    L_M_new_281 d r_0 (sR (sN (sR (sN (sR (sN (sR (sN (sR (sN h 20 (ix (420 : Int32)) (ix (420 : Int32))) r_0 17 q1) 23 (ix (4 : Int32)) (ix (4 : Int32))) r_0 18 q2) 21 (ix (294175 : Int32)) (ix (294175 : Int32))) r_0 23 q3) 21 (ix (144 : Int32)) (ix (144 : Int32))) r_0 25 q4) 21 (ix (144 : Int32)) (ix (144 : Int32))) r_0 26 q5)) none) none) none) none) none := (evs_xpd _ tx_M_new [196, 239, 281, 324, 361] 211 _).trans rfl
set_option maxRecDepth 100000 in
theorem e_M_new_281 (d : Nat) (r_0 : Nat) (h : Hp) : L_M_new_281 d r_0 h =
    ifp (inb (144 : Int32) 1000000 = true) (
    alc h fun q1 =>
    ifp (inb (144 : Int32) 1000000 = true) (
    alc (sR (sN h 21 (ix (144 : Int32)) (ix (144 : Int32))) r_0 27 q1) fun q2 =>
    ifp (inb (41 : Int32) 1000000 = true) (
    alc (sR (sN (sR (sN h 21 (ix (144 : Int32)) (ix (144 : Int32))) r_0 27 q1) 21 (ix (144 : Int32)) (ix (144 : Int32))) r_0 28 q2) fun q3 =>
    ifp (inb (625 : Int32) 1000000 = true) (
    alc (sR (sN (sR (sN (sR (sN h 21 (ix (144 : Int32)) (ix (144 : Int32))) r_0 27 q1) 21 (ix (144 : Int32)) (ix (144 : Int32))) r_0 28 q2) 21 (ix (41 : Int32)) (ix (41 : Int32))) r_0 29 q3) fun q4 =>
    ifp (inb (41 : Int32) 1000000 = true) (
    alc (sR (sN (sR (sN (sR (sN (sR (sN h 21 (ix (144 : Int32)) (ix (144 : Int32))) r_0 27 q1) 21 (ix (144 : Int32)) (ix (144 : Int32))) r_0 28 q2) 21 (ix (41 : Int32)) (ix (41 : Int32))) r_0 29 q3) 21 (ix (625 : Int32)) (ix (625 : Int32))) r_0 31 q4) fun q5 =>
    L_M_new_324 d r_0 (sR (sN (sR (sN (sR (sN (sR (sN (sR (sN h 21 (ix (144 : Int32)) (ix (144 : Int32))) r_0 27 q1) 21 (ix (144 : Int32)) (ix (144 : Int32))) r_0 28 q2) 21 (ix (41 : Int32)) (ix (41 : Int32))) r_0 29 q3) 21 (ix (625 : Int32)) (ix (625 : Int32))) r_0 31 q4) 20 (ix (41 : Int32)) (ix (41 : Int32))) r_0 32 q5)) none) none) none) none) none := (evs_xpd _ tx_M_new [196, 239, 281, 324, 361] 211 _).trans rfl
set_option maxRecDepth 100000 in
theorem e_M_new_324 (d : Nat) (r_0 : Nat) (h : Hp) : L_M_new_324 d r_0 h =
    ifp (inb (1681 : Int32) 1000000 = true) (
    alc h fun q1 =>
    ifp (inb (41 : Int32) 1000000 = true) (
    alc (sR (sN h 23 (ix (1681 : Int32)) (ix (1681 : Int32))) r_0 33 q1) fun q2 =>
    ifp (inb (41 : Int32) 1000000 = true) (
    alc (sR (sN (sR (sN h 23 (ix (1681 : Int32)) (ix (1681 : Int32))) r_0 33 q1) 20 (ix (41 : Int32)) (ix (41 : Int32))) r_0 34 q2) fun q3 =>
    bV (evm d 155 [vR 12 r_0, vI (0 : Int32)] (sR (sN (sR (sN (sR (sN h 23 (ix (1681 : Int32)) (ix (1681 : Int32))) r_0 33 q1) 20 (ix (41 : Int32)) (ix (41 : Int32))) r_0 34 q2) 23 (ix (41 : Int32)) (ix (41 : Int32))) r_0 35 q3)) fun h4 =>
    bR (hR h4 r_0 10) fun r5 =>
    ifp (inb (0 : Int32) (hN h4 r5) = true) (
    L_M_new_361 d r_0 (sI h4 r5 (ix (0 : Int32)) (1 : Int32))) none) none) none) none := (evs_xpd _ tx_M_new [196, 239, 281, 324, 361] 211 _).trans rfl
set_option maxRecDepth 100000 in
theorem e_M_new_361 (d : Nat) (r_0 : Nat) (h : Hp) : L_M_new_361 d r_0 h =
    bR (hR h r_0 10) fun r1 =>
    ifp (inb (8 : Int32) (hN h r1) = true) (
    bR (hR (sI h r1 (ix (8 : Int32)) (2 : Int32)) r_0 10) fun r2 =>
    ifp (inb (9 : Int32) (hN (sI h r1 (ix (8 : Int32)) (2 : Int32)) r2) = true) (
    bR (hR (sI (sI h r1 (ix (8 : Int32)) (2 : Int32)) r2 (ix (9 : Int32)) (1 : Int32)) r_0 10) fun r3 =>
    ifp (inb (10 : Int32) (hN (sI (sI h r1 (ix (8 : Int32)) (2 : Int32)) r2 (ix (9 : Int32)) (1 : Int32)) r3) = true) (
    some (none, sI (sI (sI h r1 (ix (8 : Int32)) (2 : Int32)) r2 (ix (9 : Int32)) (1 : Int32)) r3 (ix (10 : Int32)) (2 : Int32))) none) none) none := (evs_xpd _ tx_M_new [196, 239, 281, 324, 361] 211 _).trans rfl
set_option maxRecDepth 100000 in
theorem e_M_new (d : Nat) (r_0 : Nat) (h : Hp) : evm (d + 1) 141 [vR 12 r_0] h =
    ifp (inb (1000 : Int32) 1000000 = true) (
    alc h fun q1 =>
    ifp (inb (1002 : Int32) 1000000 = true) (
    alc (sR (sN h 20 (ix (1000 : Int32)) (ix (1000 : Int32))) r_0 1 q1) fun q2 =>
    ifp (inb (1002 : Int32) 1000000 = true) (
    alc (sR (sN (sR (sN h 20 (ix (1000 : Int32)) (ix (1000 : Int32))) r_0 1 q1) 20 (ix (1002 : Int32)) (ix (1002 : Int32))) r_0 4 q2) fun q3 =>
    ifp (inb (1002 : Int32) 1000000 = true) (
    alc (sR (sN (sR (sN (sR (sN h 20 (ix (1000 : Int32)) (ix (1000 : Int32))) r_0 1 q1) 20 (ix (1002 : Int32)) (ix (1002 : Int32))) r_0 4 q2) 20 (ix (1002 : Int32)) (ix (1002 : Int32))) r_0 5 q3) fun q4 =>
    ifp (inb (22 : Int32) 1000000 = true) (
    alc (sR (sN (sR (sN (sR (sN (sR (sN h 20 (ix (1000 : Int32)) (ix (1000 : Int32))) r_0 1 q1) 20 (ix (1002 : Int32)) (ix (1002 : Int32))) r_0 4 q2) 20 (ix (1002 : Int32)) (ix (1002 : Int32))) r_0 5 q3) 21 (ix (1002 : Int32)) (ix (1002 : Int32))) r_0 6 q4) fun q5 =>
    ifp (inb (0 : Int32) (hN (sN (sR (sN (sR (sN (sR (sN (sR (sN h 20 (ix (1000 : Int32)) (ix (1000 : Int32))) r_0 1 q1) 20 (ix (1002 : Int32)) (ix (1002 : Int32))) r_0 4 q2) 20 (ix (1002 : Int32)) (ix (1002 : Int32))) r_0 5 q3) 21 (ix (1002 : Int32)) (ix (1002 : Int32))) r_0 6 q4) 21 (ix (22 : Int32)) (ix (22 : Int32))) q5) = true) (
    ifp (inb (1 : Int32) (hN (sL (sN (sR (sN (sR (sN (sR (sN (sR (sN h 20 (ix (1000 : Int32)) (ix (1000 : Int32))) r_0 1 q1) 20 (ix (1002 : Int32)) (ix (1002 : Int32))) r_0 4 q2) 20 (ix (1002 : Int32)) (ix (1002 : Int32))) r_0 5 q3) 21 (ix (1002 : Int32)) (ix (1002 : Int32))) r_0 6 q4) 21 (ix (22 : Int32)) (ix (22 : Int32))) q5 (ix (0 : Int32)) (36623839 : Int64)) q5) = true) (
    ifp (inb (2 : Int32) (hN (sL (sL (sN (sR (sN (sR (sN (sR (sN (sR (sN h 20 (ix (1000 : Int32)) (ix (1000 : Int32))) r_0 1 q1) 20 (ix (1002 : Int32)) (ix (1002 : Int32))) r_0 4 q2) 20 (ix (1002 : Int32)) (ix (1002 : Int32))) r_0 5 q3) 21 (ix (1002 : Int32)) (ix (1002 : Int32))) r_0 6 q4) 21 (ix (22 : Int32)) (ix (22 : Int32))) q5 (ix (0 : Int32)) (36623839 : Int64)) q5 (ix (1 : Int32)) (50169877366 : Int64)) q5) = true) (
    ifp (inb (3 : Int32) (hN (sL (sL (sL (sN (sR (sN (sR (sN (sR (sN (sR (sN h 20 (ix (1000 : Int32)) (ix (1000 : Int32))) r_0 1 q1) 20 (ix (1002 : Int32)) (ix (1002 : Int32))) r_0 4 q2) 20 (ix (1002 : Int32)) (ix (1002 : Int32))) r_0 5 q3) 21 (ix (1002 : Int32)) (ix (1002 : Int32))) r_0 6 q4) 21 (ix (22 : Int32)) (ix (22 : Int32))) q5 (ix (0 : Int32)) (36623839 : Int64)) q5 (ix (1 : Int32)) (50169877366 : Int64)) q5 (ix (2 : Int32)) (173197865 : Int64)) q5) = true) (
    ifp (inb (4 : Int32) (hN (sL (sL (sL (sL (sN (sR (sN (sR (sN (sR (sN (sR (sN h 20 (ix (1000 : Int32)) (ix (1000 : Int32))) r_0 1 q1) 20 (ix (1002 : Int32)) (ix (1002 : Int32))) r_0 4 q2) 20 (ix (1002 : Int32)) (ix (1002 : Int32))) r_0 5 q3) 21 (ix (1002 : Int32)) (ix (1002 : Int32))) r_0 6 q4) 21 (ix (22 : Int32)) (ix (22 : Int32))) q5 (ix (0 : Int32)) (36623839 : Int64)) q5 (ix (1 : Int32)) (50169877366 : Int64)) q5 (ix (2 : Int32)) (173197865 : Int64)) q5 (ix (3 : Int32)) (6541130 : Int64)) q5) = true) (
    ifp (inb (5 : Int32) (hN (sL (sL (sL (sL (sL (sN (sR (sN (sR (sN (sR (sN (sR (sN h 20 (ix (1000 : Int32)) (ix (1000 : Int32))) r_0 1 q1) 20 (ix (1002 : Int32)) (ix (1002 : Int32))) r_0 4 q2) 20 (ix (1002 : Int32)) (ix (1002 : Int32))) r_0 5 q3) 21 (ix (1002 : Int32)) (ix (1002 : Int32))) r_0 6 q4) 21 (ix (22 : Int32)) (ix (22 : Int32))) q5 (ix (0 : Int32)) (36623839 : Int64)) q5 (ix (1 : Int32)) (50169877366 : Int64)) q5 (ix (2 : Int32)) (173197865 : Int64)) q5 (ix (3 : Int32)) (6541130 : Int64)) q5 (ix (4 : Int32)) (242021829 : Int64)) q5) = true) (
    ifp (inb (6 : Int32) (hN (sL (sL (sL (sL (sL (sL (sN (sR (sN (sR (sN (sR (sN (sR (sN h 20 (ix (1000 : Int32)) (ix (1000 : Int32))) r_0 1 q1) 20 (ix (1002 : Int32)) (ix (1002 : Int32))) r_0 4 q2) 20 (ix (1002 : Int32)) (ix (1002 : Int32))) r_0 5 q3) 21 (ix (1002 : Int32)) (ix (1002 : Int32))) r_0 6 q4) 21 (ix (22 : Int32)) (ix (22 : Int32))) q5 (ix (0 : Int32)) (36623839 : Int64)) q5 (ix (1 : Int32)) (50169877366 : Int64)) q5 (ix (2 : Int32)) (173197865 : Int64)) q5 (ix (3 : Int32)) (6541130 : Int64)) q5 (ix (4 : Int32)) (242021829 : Int64)) q5 (ix (5 : Int32)) (30884514577 : Int64)) q5) = true) (
    ifp (inb (7 : Int32) (hN (sL (sL (sL (sL (sL (sL (sL (sN (sR (sN (sR (sN (sR (sN (sR (sN h 20 (ix (1000 : Int32)) (ix (1000 : Int32))) r_0 1 q1) 20 (ix (1002 : Int32)) (ix (1002 : Int32))) r_0 4 q2) 20 (ix (1002 : Int32)) (ix (1002 : Int32))) r_0 5 q3) 21 (ix (1002 : Int32)) (ix (1002 : Int32))) r_0 6 q4) 21 (ix (22 : Int32)) (ix (22 : Int32))) q5 (ix (0 : Int32)) (36623839 : Int64)) q5 (ix (1 : Int32)) (50169877366 : Int64)) q5 (ix (2 : Int32)) (173197865 : Int64)) q5 (ix (3 : Int32)) (6541130 : Int64)) q5 (ix (4 : Int32)) (242021829 : Int64)) q5 (ix (5 : Int32)) (30884514577 : Int64)) q5 (ix (6 : Int32)) (2793 : Int64)) q5) = true) (
    ifp (inb (8 : Int32) (hN (sL (sL (sL (sL (sL (sL (sL (sL (sN (sR (sN (sR (sN (sR (sN (sR (sN h 20 (ix (1000 : Int32)) (ix (1000 : Int32))) r_0 1 q1) 20 (ix (1002 : Int32)) (ix (1002 : Int32))) r_0 4 q2) 20 (ix (1002 : Int32)) (ix (1002 : Int32))) r_0 5 q3) 21 (ix (1002 : Int32)) (ix (1002 : Int32))) r_0 6 q4) 21 (ix (22 : Int32)) (ix (22 : Int32))) q5 (ix (0 : Int32)) (36623839 : Int64)) q5 (ix (1 : Int32)) (50169877366 : Int64)) q5 (ix (2 : Int32)) (173197865 : Int64)) q5 (ix (3 : Int32)) (6541130 : Int64)) q5 (ix (4 : Int32)) (242021829 : Int64)) q5 (ix (5 : Int32)) (30884514577 : Int64)) q5 (ix (6 : Int32)) (2793 : Int64)) q5 (ix (7 : Int32)) (325028 : Int64)) q5) = true) (
    ifp (inb (9 : Int32) (hN (sL (sL (sL (sL (sL (sL (sL (sL (sL (sN (sR (sN (sR (sN (sR (sN (sR (sN h 20 (ix (1000 : Int32)) (ix (1000 : Int32))) r_0 1 q1) 20 (ix (1002 : Int32)) (ix (1002 : Int32))) r_0 4 q2) 20 (ix (1002 : Int32)) (ix (1002 : Int32))) r_0 5 q3) 21 (ix (1002 : Int32)) (ix (1002 : Int32))) r_0 6 q4) 21 (ix (22 : Int32)) (ix (22 : Int32))) q5 (ix (0 : Int32)) (36623839 : Int64)) q5 (ix (1 : Int32)) (50169877366 : Int64)) q5 (ix (2 : Int32)) (173197865 : Int64)) q5 (ix (3 : Int32)) (6541130 : Int64)) q5 (ix (4 : Int32)) (242021829 : Int64)) q5 (ix (5 : Int32)) (30884514577 : Int64)) q5 (ix (6 : Int32)) (2793 : Int64)) q5 (ix (7 : Int32)) (325028 : Int64)) q5 (ix (8 : Int32)) (614923 : Int64)) q5) = true) (
    ifp (inb (10 : Int32) (hN (sL (sL (sL (sL (sL (sL (sL (sL (sL (sL (sN (sR (sN (sR (sN (sR (sN (sR (sN h 20 (ix (1000 : Int32)) (ix (1000 : Int32))) r_0 1 q1) 20 (ix (1002 : Int32)) (ix (1002 : Int32))) r_0 4 q2) 20 (ix (1002 : Int32)) (ix (1002 : Int32))) r_0 5 q3) 21 (ix (1002 : Int32)) (ix (1002 : Int32))) r_0 6 q4) 21 (ix (22 : Int32)) (ix (22 : Int32))) q5 (ix (0 : Int32)) (36623839 : Int64)) q5 (ix (1 : Int32)) (50169877366 : Int64)) q5 (ix (2 : Int32)) (173197865 : Int64)) q5 (ix (3 : Int32)) (6541130 : Int64)) q5 (ix (4 : Int32)) (242021829 : Int64)) q5 (ix (5 : Int32)) (30884514577 : Int64)) q5 (ix (6 : Int32)) (2793 : Int64)) q5 (ix (7 : Int32)) (325028 : Int64)) q5 (ix (8 : Int32)) (614923 : Int64)) q5 (ix (9 : Int32)) (34200674 : Int64)) q5) = true) (
    ifp (inb (11 : Int32) (hN (sL (sL (sL (sL (sL (sL (sL (sL (sL (sL (sL (sN (sR (sN (sR (sN (sR (sN (sR (sN h 20 (ix (1000 : Int32)) (ix (1000 : Int32))) r_0 1 q1) 20 (ix (1002 : Int32)) (ix (1002 : Int32))) r_0 4 q2) 20 (ix (1002 : Int32)) (ix (1002 : Int32))) r_0 5 q3) 21 (ix (1002 : Int32)) (ix (1002 : Int32))) r_0 6 q4) 21 (ix (22 : Int32)) (ix (22 : Int32))) q5 (ix (0 : Int32)) (36623839 : Int64)) q5 (ix (1 : Int32)) (50169877366 : Int64)) q5 (ix (2 : Int32)) (173197865 : Int64)) q5 (ix (3 : Int32)) (6541130 : Int64)) q5 (ix (4 : Int32)) (242021829 : Int64)) q5 (ix (5 : Int32)) (30884514577 : Int64)) q5 (ix (6 : Int32)) (2793 : Int64)) q5 (ix (7 : Int32)) (325028 : Int64)) q5 (ix (8 : Int32)) (614923 : Int64)) q5 (ix (9 : Int32)) (34200674 : Int64)) q5 (ix (10 : Int32)) (6411565 : Int64)) q5) = true) (
    ifp (inb (12 : Int32) (hN (sL (sL (sL (sL (sL (sL (sL (sL (sL (sL (sL (sL (sN (sR (sN (sR (sN (sR (sN (sR (sN h 20 (ix (1000 : Int32)) (ix (1000 : Int32))) r_0 1 q1) 20 (ix (1002 : Int32)) (ix (1002 : Int32))) r_0 4 q2) 20 (ix (1002 : Int32)) (ix (1002 : Int32))) r_0 5 q3) 21 (ix (1002 : Int32)) (ix (1002 : Int32))) r_0 6 q4) 21 (ix (22 : Int32)) (ix (22 : Int32))) q5 (ix (0 : Int32)) (36623839 : Int64)) q5 (ix (1 : Int32)) (50169877366 : Int64)) q5 (ix (2 : Int32)) (173197865 : Int64)) q5 (ix (3 : Int32)) (6541130 : Int64)) q5 (ix (4 : Int32)) (242021829 : Int64)) q5 (ix (5 : Int32)) (30884514577 : Int64)) q5 (ix (6 : Int32)) (2793 : Int64)) q5 (ix (7 : Int32)) (325028 : Int64)) q5 (ix (8 : Int32)) (614923 : Int64)) q5 (ix (9 : Int32)) (34200674 : Int64)) q5 (ix (10 : Int32)) (6411565 : Int64)) q5 (ix (11 : Int32)) (755 : Int64)) q5) = true) (
    ifp (inb (13 : Int32) (hN (sL (sL (sL (sL (sL (sL (sL (sL (sL (sL (sL (sL (sL (sN (sR (sN (sR (sN (sR (sN (sR (sN h 20 (ix (1000 : Int32)) (ix (1000 : Int32))) r_0 1 q1) 20 (ix (1002 : Int32)) (ix (1002 : Int32))) r_0 4 q2) 20 (ix (1002 : Int32)) (ix (1002 : Int32))) r_0 5 q3) 21 (ix (1002 : Int32)) (ix (1002 : Int32))) r_0 6 q4) 21 (ix (22 : Int32)) (ix (22 : Int32))) q5 (ix (0 : Int32)) (36623839 : Int64)) q5 (ix (1 : Int32)) (50169877366 : Int64)) q5 (ix (2 : Int32)) (173197865 : Int64)) q5 (ix (3 : Int32)) (6541130 : Int64)) q5 (ix (4 : Int32)) (242021829 : Int64)) q5 (ix (5 : Int32)) (30884514577 : Int64)) q5 (ix (6 : Int32)) (2793 : Int64)) q5 (ix (7 : Int32)) (325028 : Int64)) q5 (ix (8 : Int32)) (614923 : Int64)) q5 (ix (9 : Int32)) (34200674 : Int64)) q5 (ix (10 : Int32)) (6411565 : Int64)) q5 (ix (11 : Int32)) (755 : Int64)) q5 (ix (12 : Int32)) (14037783 : Int64)) q5) = true) (
    ifp (inb (14 : Int32) (hN (sL (sL (sL (sL (sL (sL (sL (sL (sL (sL (sL (sL (sL (sL (sN (sR (sN (sR (sN (sR (sN (sR (sN h 20 (ix (1000 : Int32)) (ix (1000 : Int32))) r_0 1 q1) 20 (ix (1002 : Int32)) (ix (1002 : Int32))) r_0 4 q2) 20 (ix (1002 : Int32)) (ix (1002 : Int32))) r_0 5 q3) 21 (ix (1002 : Int32)) (ix (1002 : Int32))) r_0 6 q4) 21 (ix (22 : Int32)) (ix (22 : Int32))) q5 (ix (0 : Int32)) (36623839 : Int64)) q5 (ix (1 : Int32)) (50169877366 : Int64)) q5 (ix (2 : Int32)) (173197865 : Int64)) q5 (ix (3 : Int32)) (6541130 : Int64)) q5 (ix (4 : Int32)) (242021829 : Int64)) q5 (ix (5 : Int32)) (30884514577 : Int64)) q5 (ix (6 : Int32)) (2793 : Int64)) q5 (ix (7 : Int32)) (325028 : Int64)) q5 (ix (8 : Int32)) (614923 : Int64)) q5 (ix (9 : Int32)) (34200674 : Int64)) q5 (ix (10 : Int32)) (6411565 : Int64)) q5 (ix (11 : Int32)) (755 : Int64)) q5 (ix (12 : Int32)) (14037783 : Int64)) q5 (ix (13 : Int32)) (37957098 : Int64)) q5) = true) (
    ifp (inb (15 : Int32) (hN (sL (sL (sL (sL (sL (sL (sL (sL (sL (sL (sL (sL (sL (sL (sL (sN (sR (sN (sR (sN (sR (sN (sR (sN h 20 (ix (1000 : Int32)) (ix (1000 : Int32))) r_0 1 q1) 20 (ix (1002 : Int32)) (ix (1002 : Int32))) r_0 4 q2) 20 (ix (1002 : Int32)) (ix (1002 : Int32))) r_0 5 q3) 21 (ix (1002 : Int32)) (ix (1002 : Int32))) r_0 6 q4) 21 (ix (22 : Int32)) (ix (22 : Int32))) q5 (ix (0 : Int32)) (36623839 : Int64)) q5 (ix (1 : Int32)) (50169877366 : Int64)) q5 (ix (2 : Int32)) (173197865 : Int64)) q5 (ix (3 : Int32)) (6541130 : Int64)) q5 (ix (4 : Int32)) (242021829 : Int64)) q5 (ix (5 : Int32)) (30884514577 : Int64)) q5 (ix (6 : Int32)) (2793 : Int64)) q5 (ix (7 : Int32)) (325028 : Int64)) q5 (ix (8 : Int32)) (614923 : Int64)) q5 (ix (9 : Int32)) (34200674 : Int64)) q5 (ix (10 : Int32)) (6411565 : Int64)) q5 (ix (11 : Int32)) (755 : Int64)) q5 (ix (12 : Int32)) (14037783 : Int64)) q5 (ix (13 : Int32)) (37957098 : Int64)) q5 (ix (14 : Int32)) (679583 : Int64)) q5) = true) (
    ifp (inb (16 : Int32) (hN (sL (sL (sL (sL (sL (sL (sL (sL (sL (sL (sL (sL (sL (sL (sL (sL (sN (sR (sN (sR (sN (sR (sN (sR (sN h 20 (ix (1000 : Int32)) (ix (1000 : Int32))) r_0 1 q1) 20 (ix (1002 : Int32)) (ix (1002 : Int32))) r_0 4 q2) 20 (ix (1002 : Int32)) (ix (1002 : Int32))) r_0 5 q3) 21 (ix (1002 : Int32)) (ix (1002 : Int32))) r_0 6 q4) 21 (ix (22 : Int32)) (ix (22 : Int32))) q5 (ix (0 : Int32)) (36623839 : Int64)) q5 (ix (1 : Int32)) (50169877366 : Int64)) q5 (ix (2 : Int32)) (173197865 : Int64)) q5 (ix (3 : Int32)) (6541130 : Int64)) q5 (ix (4 : Int32)) (242021829 : Int64)) q5 (ix (5 : Int32)) (30884514577 : Int64)) q5 (ix (6 : Int32)) (2793 : Int64)) q5 (ix (7 : Int32)) (325028 : Int64)) q5 (ix (8 : Int32)) (614923 : Int64)) q5 (ix (9 : Int32)) (34200674 : Int64)) q5 (ix (10 : Int32)) (6411565 : Int64)) q5 (ix (11 : Int32)) (755 : Int64)) q5 (ix (12 : Int32)) (14037783 : Int64)) q5 (ix (13 : Int32)) (37957098 : Int64)) q5 (ix (14 : Int32)) (679583 : Int64)) q5 (ix (15 : Int32)) (19741 : Int64)) q5) = true) (
    ifp (inb (17 : Int32) (hN (sL (sL (sL (sL (sL (sL (sL (sL (sL (sL (sL (sL (sL (sL (sL (sL (sL (sN (sR (sN (sR (sN (sR (sN (sR (sN h 20 (ix (1000 : Int32)) (ix (1000 : Int32))) r_0 1 q1) 20 (ix (1002 : Int32)) (ix (1002 : Int32))) r_0 4 q2) 20 (ix (1002 : Int32)) (ix (1002 : Int32))) r_0 5 q3) 21 (ix (1002 : Int32)) (ix (1002 : Int32))) r_0 6 q4) 21 (ix (22 : Int32)) (ix (22 : Int32))) q5 (ix (0 : Int32)) (36623839 : Int64)) q5 (ix (1 : Int32)) (50169877366 : Int64)) q5 (ix (2 : Int32)) (173197865 : Int64)) q5 (ix (3 : Int32)) (6541130 : Int64)) q5 (ix (4 : Int32)) (242021829 : Int64)) q5 (ix (5 : Int32)) (30884514577 : Int64)) q5 (ix (6 : Int32)) (2793 : Int64)) q5 (ix (7 : Int32)) (325028 : Int64)) q5 (ix (8 : Int32)) (614923 : Int64)) q5 (ix (9 : Int32)) (34200674 : Int64)) q5 (ix (10 : Int32)) (6411565 : Int64)) q5 (ix (11 : Int32)) (755 : Int64)) q5 (ix (12 : Int32)) (14037783 : Int64)) q5 (ix (13 : Int32)) (37957098 : Int64)) q5 (ix (14 : Int32)) (679583 : Int64)) q5 (ix (15 : Int32)) (19741 : Int64)) q5 (ix (16 : Int32)) (1891 : Int64)) q5) = true) (
    ifp (inb (18 : Int32) (hN (sL (sL (sL (sL (sL (sL (sL (sL (sL (sL (sL (sL (sL (sL (sL (sL (sL (sL (sN (sR (sN (sR (sN (sR (sN (sR (sN h 20 (ix (1000 : Int32)) (ix (1000 : Int32))) r_0 1 q1) 20 (ix (1002 : Int32)) (ix (1002 : Int32))) r_0 4 q2) 20 (ix (1002 : Int32)) (ix (1002 : Int32))) r_0 5 q3) 21 (ix (1002 : Int32)) (ix (1002 : Int32))) r_0 6 q4) 21 (ix (22 : Int32)) (ix (22 : Int32))) q5 (ix (0 : Int32)) (36623839 : Int64)) q5 (ix (1 : Int32)) (50169877366 : Int64)) q5 (ix (2 : Int32)) (173197865 : Int64)) q5 (ix (3 : Int32)) (6541130 : Int64)) q5 (ix (4 : Int32)) (242021829 : Int64)) q5 (ix (5 : Int32)) (30884514577 : Int64)) q5 (ix (6 : Int32)) (2793 : Int64)) q5 (ix (7 : Int32)) (325028 : Int64)) q5 (ix (8 : Int32)) (614923 : Int64)) q5 (ix (9 : Int32)) (34200674 : Int64)) q5 (ix (10 : Int32)) (6411565 : Int64)) q5 (ix (11 : Int32)) (755 : Int64)) q5 (ix (12 : Int32)) (14037783 : Int64)) q5 (ix (13 : Int32)) (37957098 : Int64)) q5 (ix (14 : Int32)) (679583 : Int64)) q5 (ix (15 : Int32)) (19741 : Int64)) q5 (ix (16 : Int32)) (1891 : Int64)) q5 (ix (17 : Int32)) (573 : Int64)) q5) = true) (
    ifp (inb (19 : Int32) (hN (sL (sL (sL (sL (sL (sL (sL (sL (sL (sL (sL (sL (sL (sL (sL (sL (sL (sL (sL (sN (sR (sN (sR (sN (sR (sN (sR (sN h 20 (ix (1000 : Int32)) (ix (1000 : Int32))) r_0 1 q1) 20 (ix (1002 : Int32)) (ix (1002 : Int32))) r_0 4 q2) 20 (ix (1002 : Int32)) (ix (1002 : Int32))) r_0 5 q3) 21 (ix (1002 : Int32)) (ix (1002 : Int32))) r_0 6 q4) 21 (ix (22 : Int32)) (ix (22 : Int32))) q5 (ix (0 : Int32)) (36623839 : Int64)) q5 (ix (1 : Int32)) (50169877366 : Int64)) q5 (ix (2 : Int32)) (173197865 : Int64)) q5 (ix (3 : Int32)) (6541130 : Int64)) q5 (ix (4 : Int32)) (242021829 : Int64)) q5 (ix (5 : Int32)) (30884514577 : Int64)) q5 (ix (6 : Int32)) (2793 : Int64)) q5 (ix (7 : Int32)) (325028 : Int64)) q5 (ix (8 : Int32)) (614923 : Int64)) q5 (ix (9 : Int32)) (34200674 : Int64)) q5 (ix (10 : Int32)) (6411565 : Int64)) q5 (ix (11 : Int32)) (755 : Int64)) q5 (ix (12 : Int32)) (14037783 : Int64)) q5 (ix (13 : Int32)) (37957098 : Int64)) q5 (ix (14 : Int32)) (679583 : Int64)) q5 (ix (15 : Int32)) (19741 : Int64)) q5 (ix (16 : Int32)) (1891 : Int64)) q5 (ix (17 : Int32)) (573 : Int64)) q5 (ix (18 : Int32)) (1355942631 : Int64)) q5) = true) (
    ifp (inb (20 : Int32) (hN (sL (sL (sL (sL (sL (sL (sL (sL (sL (sL (sL (sL (sL (sL (sL (sL (sL (sL (sL (sL (sN (sR (sN (sR (sN (sR (sN (sR (sN h 20 (ix (1000 : Int32)) (ix (1000 : Int32))) r_0 1 q1) 20 (ix (1002 : Int32)) (ix (1002 : Int32))) r_0 4 q2) 20 (ix (1002 : Int32)) (ix (1002 : Int32))) r_0 5 q3) 21 (ix (1002 : Int32)) (ix (1002 : Int32))) r_0 6 q4) 21 (ix (22 : Int32)) (ix (22 : Int32))) q5 (ix (0 : Int32)) (36623839 : Int64)) q5 (ix (1 : Int32)) (50169877366 : Int64)) q5 (ix (2 : Int32)) (173197865 : Int64)) q5 (ix (3 : Int32)) (6541130 : Int64)) q5 (ix (4 : Int32)) (242021829 : Int64)) q5 (ix (5 : Int32)) (30884514577 : Int64)) q5 (ix (6 : Int32)) (2793 : Int64)) q5 (ix (7 : Int32)) (325028 : Int64)) q5 (ix (8 : Int32)) (614923 : Int64)) q5 (ix (9 : Int32)) (34200674 : Int64)) q5 (ix (10 : Int32)) (6411565 : Int64)) q5 (ix (11 : Int32)) (755 : Int64)) q5 (ix (12 : Int32)) (14037783 : Int64)) q5 (ix (13 : Int32)) (37957098 : Int64)) q5 (ix (14 : Int32)) (679583 : Int64)) q5 (ix (15 : Int32)) (19741 : Int64)) q5 (ix (16 : Int32)) (1891 : Int64)) q5 (ix (17 : Int32)) (573 : Int64)) q5 (ix (18 : Int32)) (1355942631 : Int64)) q5 (ix (19 : Int32)) (609928 : Int64)) q5) = true) (
    ifp (inb (21 : Int32) (hN (sL (sL (sL (sL (sL (sL (sL (sL (sL (sL (sL (sL (sL (sL (sL (sL (sL (sL (sL (sL (sL (sN (sR (sN (sR (sN (sR (sN (sR (sN h 20 (ix (1000 : Int32)) (ix (1000 : Int32))) r_0 1 q1) 20 (ix (1002 : Int32)) (ix (1002 : Int32))) r_0 4 q2) 20 (ix (1002 : Int32)) (ix (1002 : Int32))) r_0 5 q3) 21 (ix (1002 : Int32)) (ix (1002 : Int32))) r_0 6 q4) 21 (ix (22 : Int32)) (ix (22 : Int32))) q5 (ix (0 : Int32)) (36623839 : Int64)) q5 (ix (1 : Int32)) (50169877366 : Int64)) q5 (ix (2 : Int32)) (173197865 : Int64)) q5 (ix (3 : Int32)) (6541130 : Int64)) q5 (ix (4 : Int32)) (242021829 : Int64)) q5 (ix (5 : Int32)) (30884514577 : Int64)) q5 (ix (6 : Int32)) (2793 : Int64)) q5 (ix (7 : Int32)) (325028 : Int64)) q5 (ix (8 : Int32)) (614923 : Int64)) q5 (ix (9 : Int32)) (34200674 : Int64)) q5 (ix (10 : Int32)) (6411565 : Int64)) q5 (ix (11 : Int32)) (755 : Int64)) q5 (ix (12 : Int32)) (14037783 : Int64)) q5 (ix (13 : Int32)) (37957098 : Int64)) q5 (ix (14 : Int32)) (679583 : Int64)) q5 (ix (15 : Int32)) (19741 : Int64)) q5 (ix (16 : Int32)) (1891 : Int64)) q5 (ix (17 : Int32)) (573 : Int64)) q5 (ix (18 : Int32)) (1355942631 : Int64)) q5 (ix (19 : Int32)) (609928 : Int64)) q5 (ix (20 : Int32)) (989988 : Int64)) q5) = true) (
    L_M_new_196 d r_0 (sR (sL (sL (sL (sL (sL (sL (sL (sL (sL (sL (sL (sL (sL (sL (sL (sL (sL (sL (sL (sL (sL (sL (sN (sR (sN (sR (sN (sR (sN (sR (sN h 20 (ix (1000 : Int32)) (ix (1000 : Int32))) r_0 1 q1) 20 (ix (1002 : Int32)) (ix (1002 : Int32))) r_0 4 q2) 20 (ix (1002 : Int32)) (ix (1002 : Int32))) r_0 5 q3) 21 (ix (1002 : Int32)) (ix (1002 : Int32))) r_0 6 q4) 21 (ix (22 : Int32)) (ix (22 : Int32))) q5 (ix (0 : Int32)) (36623839 : Int64)) q5 (ix (1 : Int32)) (50169877366 : Int64)) q5 (ix (2 : Int32)) (173197865 : Int64)) q5 (ix (3 : Int32)) (6541130 : Int64)) q5 (ix (4 : Int32)) (242021829 : Int64)) q5 (ix (5 : Int32)) (30884514577 : Int64)) q5 (ix (6 : Int32)) (2793 : Int64)) q5 (ix (7 : Int32)) (325028 : Int64)) q5 (ix (8 : Int32)) (614923 : Int64)) q5 (ix (9 : Int32)) (34200674 : Int64)) q5 (ix (10 : Int32)) (6411565 : Int64)) q5 (ix (11 : Int32)) (755 : Int64)) q5 (ix (12 : Int32)) (14037783 : Int64)) q5 (ix (13 : Int32)) (37957098 : Int64)) q5 (ix (14 : Int32)) (679583 : Int64)) q5 (ix (15 : Int32)) (19741 : Int64)) q5 (ix (16 : Int32)) (1891 : Int64)) q5 (ix (17 : Int32)) (573 : Int64)) q5 (ix (18 : Int32)) (1355942631 : Int64)) q5 (ix (19 : Int32)) (609928 : Int64)) q5 (ix (20 : Int32)) (989988 : Int64)) q5 (ix (21 : Int32)) (37549131 : Int64)) r_0 9 q5)) none) none) none) none) none) none) none) none) none) none) none) none) none) none) none) none) none) none) none) none) none) none) none) none) none) none) none := (evs_xpd _ tx_M_new [196, 239, 281, 324, 361] 211 _).trans rfl
set_option maxRecDepth 100000 in
theorem e_M_isLetter (d : Nat) (x_0 : Int32) (h : Hp) : evm (d + 1) 142 [vI x_0] h =
    ifp (x_0 < (97 : Int32))
      (some (some (vI (0 : Int32)), h))
      (ifp ((122 : Int32) < x_0)
        (some (some (vI (0 : Int32)), h))
        (some (some (vI (1 : Int32)), h))) := (evs_xpd _ tx_M_isLetter [] 15 _).trans rfl
set_option maxRecDepth 100000 in
theorem e_M_isDigit (d : Nat) (x_0 : Int32) (h : Hp) : evm (d + 1) 143 [vI x_0] h =
    ifp (x_0 < (48 : Int32))
      (some (some (vI (0 : Int32)), h))
      (ifp ((57 : Int32) < x_0)
        (some (some (vI (0 : Int32)), h))
        (some (some (vI (1 : Int32)), h))) := (evs_xpd _ tx_M_isDigit [] 15 _).trans rfl
set_option maxRecDepth 100000 in
theorem e_M_rank (d : Nat) (x_0 : Int32) (h : Hp) : evm (d + 1) 144 [vI x_0] h =
    bI (evm d 142 [vI x_0] h) fun x2 h1 =>
    ifp (x2 = 0)
      (some (some (vI (x_0 - (21 : Int32))), h1))
      (some (some (vI (x_0 - (96 : Int32))), h1)) := (evs_xpd _ tx_M_rank [] 16 _).trans rfl
noncomputable def L_M_isSignOf_6 (d : Nat) (x_0 : Int32) (h : Hp) : Option Rs := evs (evm d) tx_M_isSignOf (6, [some (vI x_0)], [], h)
set_option maxRecDepth 100000 in
theorem e_M_isSignOf_6 (d : Nat) (x_0 : Int32) (h : Hp) : L_M_isSignOf_6 d x_0 h =
    ifp (x_0 = (41 : Int32))
      (some (some (vI (1 : Int32)), h))
      (ifp (x_0 = (59 : Int32))
        (some (some (vI (1 : Int32)), h))
        (ifp (x_0 = (61 : Int32))
          (some (some (vI (1 : Int32)), h))
          (ifp (x_0 = (60 : Int32))
            (some (some (vI (1 : Int32)), h))
            (ifp (x_0 = (43 : Int32))
              (some (some (vI (1 : Int32)), h))
              (ifp (x_0 = (45 : Int32))
                (some (some (vI (1 : Int32)), h))
                (ifp (x_0 = (42 : Int32))
                  (some (some (vI (1 : Int32)), h))
                  (some (some (vI (0 : Int32)), h)))))))) := (evs_xpd _ tx_M_isSignOf [6] 33 _).trans rfl
set_option maxRecDepth 100000 in
theorem e_M_isSignOf (d : Nat) (x_0 : Int32) (h : Hp) : evm (d + 1) 145 [vI x_0] h =
    ifp (x_0 = (40 : Int32))
      (some (some (vI (1 : Int32)), h))
      (L_M_isSignOf_6 d x_0 h) := (evs_xpd _ tx_M_isSignOf [6] 33 _).trans rfl
noncomputable def L_M_cutAll_17 (d : Nat) (r_0 : Nat) (x_1 : Int32) (x_2 : Int32) (h : Hp) : Option Rs := evs (evm d) tx_M_cutAll (17, [some (vR 12 r_0), some (vI x_1), some (vI x_2), none, none, none, none], [], h)
noncomputable def L_M_cutAll_25 (d : Nat) (r_0 : Nat) (x_1 : Int32) (x_2 : Int32) (h : Hp) : Option Rs := evs (evm d) tx_M_cutAll (25, [some (vR 12 r_0), some (vI x_1), some (vI x_2), none, none, none, none], [], h)
noncomputable def L_M_cutAll_70 (d : Nat) (r_0 : Nat) (x_1 : Int32) (x_2 : Int32) (x_4 : Int32) (y_5 : Int64) (h : Hp) : Option Rs := evs (evm d) tx_M_cutAll (70, [some (vR 12 r_0), some (vI x_1), some (vI x_2), none, some (vI x_4), some (vL y_5), none], [], h)
noncomputable def L_M_cutAll_129 (d : Nat) (r_0 : Nat) (x_1 : Int32) (x_2 : Int32) (x_4 : Int32) (y_5 : Int64) (h : Hp) : Option Rs := evs (evm d) tx_M_cutAll (129, [some (vR 12 r_0), some (vI x_1), some (vI x_2), none, some (vI x_4), some (vL y_5), none], [], h)
noncomputable def L_M_cutAll_148 (d : Nat) (r_0 : Nat) (x_1 : Int32) (x_2 : Int32) (y_5 : Int64) (xs0 : Int32) (xs1 : Int32) (rs2 : Nat) (h : Hp) : Option Rs := evs (evm d) tx_M_cutAll (148, [some (vR 12 r_0), some (vI x_1), some (vI x_2), none, none, some (vL y_5), none], [vI xs0, vI xs1, vR 20 rs2], h)
noncomputable def L_M_cutAll_159 (d : Nat) (r_0 : Nat) (x_1 : Int32) (x_2 : Int32) (x_4 : Int32) (y_5 : Int64) (h : Hp) : Option Rs := evs (evm d) tx_M_cutAll (159, [some (vR 12 r_0), some (vI x_1), some (vI x_2), none, some (vI x_4), some (vL y_5), none], [], h)
noncomputable def L_M_cutAll_218 (d : Nat) (r_0 : Nat) (x_1 : Int32) (x_2 : Int32) (x_4 : Int32) (y_5 : Int64) (h : Hp) : Option Rs := evs (evm d) tx_M_cutAll (218, [some (vR 12 r_0), some (vI x_1), some (vI x_2), none, some (vI x_4), some (vL y_5), none], [], h)
noncomputable def L_M_cutAll_236 (d : Nat) (r_0 : Nat) (x_1 : Int32) (x_2 : Int32) (y_5 : Int64) (xs0 : Int32) (xs1 : Int32) (rs2 : Nat) (h : Hp) : Option Rs := evs (evm d) tx_M_cutAll (236, [some (vR 12 r_0), some (vI x_1), some (vI x_2), none, none, some (vL y_5), none], [vI xs0, vI xs1, vR 20 rs2], h)
noncomputable def L_M_cutAll_261 (d : Nat) (r_0 : Nat) (x_1 : Int32) (x_2 : Int32) (y_5 : Int64) (xs0 : Int32) (xs1 : Int32) (rs2 : Nat) (h : Hp) : Option Rs := evs (evm d) tx_M_cutAll (261, [some (vR 12 r_0), some (vI x_1), some (vI x_2), none, none, some (vL y_5), none], [vI xs0, vI xs1, vR 20 rs2], h)
set_option maxRecDepth 100000 in
theorem e_M_cutAll_17 (d : Nat) (r_0 : Nat) (x_1 : Int32) (x_2 : Int32) (h : Hp) : L_M_cutAll_17 d r_0 x_1 x_2 h =
    ifp (x_2 < (hI h r_0 3))
      (L_M_cutAll_25 d r_0 x_1 x_2 h)
      (bR (hR h r_0 4) fun r1 =>
      ifp (inb x_1 (hN h r1) = true) (
      bR (hR (sI h r1 (ix x_1) (0 : Int32)) r_0 5) fun r2 =>
      ifp (inb x_1 (hN (sI h r1 (ix x_1) (0 : Int32)) r2) = true) (
      some (none, sI (sI (sI (sI h r1 (ix x_1) (0 : Int32)) r2 (ix x_1) (hI (sI h r1 (ix x_1) (0 : Int32)) r_0 3)) r_0 7 (0 : Int32)) r_0 8 (0 : Int32))) none) none) := (evs_xpd _ tx_M_cutAll [17, 25, 70, 129, 148, 159, 218, 236, 261] 174 _).trans rfl
set_option maxRecDepth 100000 in
theorem e_M_cutAll_25 (d : Nat) (r_0 : Nat) (x_1 : Int32) (x_2 : Int32) (h : Hp) : L_M_cutAll_25 d r_0 x_1 x_2 h =
    bR (hR h r_0 1) fun r1 =>
    ifp (inb x_2 (hN h r1) = true) (
    ifp ((hI h r1 (ix x_2)) = (10 : Int32))
      (L_M_cutAll_17 d r_0 x_1 (x_2 + (1 : Int32)) h)
      (ifp ((hI h r1 (ix x_2)) = (32 : Int32))
        (L_M_cutAll_17 d r_0 x_1 (x_2 + (1 : Int32)) h)
        (bR (hR h r_0 5) fun r2 =>
        ifp (inb x_1 (hN h r2) = true) (
        bI (evm d 142 [vI (hI h r1 (ix x_2))] (sI h r2 (ix x_1) x_2)) fun x4 h3 =>
        ifp (x4 = 0)
          (bI (evm d 143 [vI (hI h r1 (ix x_2))] h3) fun x6 h5 =>
          ifp (x6 = 0)
            (bR (hR h5 r_0 4) fun r7 =>
            bI (evm d 145 [vI (hI h r1 (ix x_2))] h5) fun x9 h8 =>
            ifp (x9 = 0)
              (L_M_cutAll_261 d r_0 x_1 x_2 ((hI h r1 (ix x_2)).toInt64) (4 : Int32) x_1 r7 h8)
              (L_M_cutAll_261 d r_0 x_1 x_2 ((hI h r1 (ix x_2)).toInt64) (3 : Int32) x_1 r7 h8))
            (L_M_cutAll_159 d r_0 x_1 x_2 x_2 (0 : Int64) h5))
          (L_M_cutAll_70 d r_0 x_1 x_2 x_2 (0 : Int64) h3)) none))) none := (evs_xpd _ tx_M_cutAll [17, 25, 70, 129, 148, 159, 218, 236, 261] 174 _).trans rfl
set_option maxRecDepth 100000 in
theorem e_M_cutAll_70 (d : Nat) (r_0 : Nat) (x_1 : Int32) (x_2 : Int32) (x_4 : Int32) (y_5 : Int64) (h : Hp) : L_M_cutAll_70 d r_0 x_1 x_2 x_4 y_5 h =
    ifp (x_2 < (hI h r_0 3))
      (bR (hR h r_0 1) fun r1 =>
      ifp (inb x_2 (hN h r1) = true) (
      bI (evm d 142 [vI (hI h r1 (ix x_2))] h) fun x3 h2 =>
      ifp (x3 = 0)
        (L_M_cutAll_129 d r_0 x_1 x_2 x_4 y_5 h2)
        (ifp ((x_2 - x_4) < (8 : Int32))
          (bR (hR h2 r_0 1) fun r4 =>
          ifp (inb x_2 (hN h2 r4) = true) (
          bI (evm d 144 [vI (hI h2 r4 (ix x_2))] h2) fun x6 h5 =>
          L_M_cutAll_70 d r_0 x_1 (x_2 + (1 : Int32)) x_4 (((37 : Int64) * y_5) + x6.toInt64) h5) none)
          (L_M_cutAll_70 d r_0 x_1 (x_2 + (1 : Int32)) x_4 y_5 h2))) none)
      (L_M_cutAll_129 d r_0 x_1 x_2 x_4 y_5 h) := (evs_xpd _ tx_M_cutAll [17, 25, 70, 129, 148, 159, 218, 236, 261] 174 _).trans rfl
set_option maxRecDepth 100000 in
theorem e_M_cutAll_129 (d : Nat) (r_0 : Nat) (x_1 : Int32) (x_2 : Int32) (x_4 : Int32) (y_5 : Int64) (h : Hp) : L_M_cutAll_129 d r_0 x_1 x_2 x_4 y_5 h =
    bR (hR h r_0 4) fun r1 =>
    ifp ((8 : Int32) < (x_2 - x_4))
      (L_M_cutAll_148 d r_0 x_1 x_2 y_5 (4 : Int32) x_1 r1 h)
      (L_M_cutAll_148 d r_0 x_1 x_2 y_5 (1 : Int32) x_1 r1 h) := (evs_xpd _ tx_M_cutAll [17, 25, 70, 129, 148, 159, 218, 236, 261] 174 _).trans rfl
set_option maxRecDepth 100000 in
theorem e_M_cutAll_148 (d : Nat) (r_0 : Nat) (x_1 : Int32) (x_2 : Int32) (y_5 : Int64) (xs0 : Int32) (xs1 : Int32) (rs2 : Nat) (h : Hp) : L_M_cutAll_148 d r_0 x_1 x_2 y_5 xs0 xs1 rs2 h =
    ifp (inb xs1 (hN h rs2) = true) (
    bR (hR (sI h rs2 (ix xs1) xs0) r_0 6) fun r1 =>
    ifp (inb x_1 (hN (sI h rs2 (ix xs1) xs0) r1) = true) (
    L_M_cutAll_17 d r_0 (x_1 + (1 : Int32)) x_2 (sL (sI h rs2 (ix xs1) xs0) r1 (ix x_1) y_5)) none) none := (evs_xpd _ tx_M_cutAll [17, 25, 70, 129, 148, 159, 218, 236, 261] 174 _).trans rfl
set_option maxRecDepth 100000 in
theorem e_M_cutAll_159 (d : Nat) (r_0 : Nat) (x_1 : Int32) (x_2 : Int32) (x_4 : Int32) (y_5 : Int64) (h : Hp) : L_M_cutAll_159 d r_0 x_1 x_2 x_4 y_5 h =
    ifp (x_2 < (hI h r_0 3))
      (bR (hR h r_0 1) fun r1 =>
      ifp (inb x_2 (hN h r1) = true) (
      bI (evm d 143 [vI (hI h r1 (ix x_2))] h) fun x3 h2 =>
      ifp (x3 = 0)
        (L_M_cutAll_218 d r_0 x_1 x_2 x_4 y_5 h2)
        (ifp ((x_2 - x_4) < (4 : Int32))
          (bR (hR h2 r_0 1) fun r4 =>
          ifp (inb x_2 (hN h2 r4) = true) (
          L_M_cutAll_159 d r_0 x_1 (x_2 + (1 : Int32)) x_4 ((((10 : Int64) * y_5) + (hI h2 r4 (ix x_2)).toInt64) - (48 : Int64)) h2) none)
          (L_M_cutAll_159 d r_0 x_1 (x_2 + (1 : Int32)) x_4 y_5 h2))) none)
      (L_M_cutAll_218 d r_0 x_1 x_2 x_4 y_5 h) := (evs_xpd _ tx_M_cutAll [17, 25, 70, 129, 148, 159, 218, 236, 261] 174 _).trans rfl
set_option maxRecDepth 100000 in
theorem e_M_cutAll_218 (d : Nat) (r_0 : Nat) (x_1 : Int32) (x_2 : Int32) (x_4 : Int32) (y_5 : Int64) (h : Hp) : L_M_cutAll_218 d r_0 x_1 x_2 x_4 y_5 h =
    bR (hR h r_0 4) fun r1 =>
    ifp ((4 : Int32) < (x_2 - x_4))
      (L_M_cutAll_236 d r_0 x_1 x_2 y_5 (4 : Int32) x_1 r1 h)
      (L_M_cutAll_236 d r_0 x_1 x_2 y_5 (2 : Int32) x_1 r1 h) := (evs_xpd _ tx_M_cutAll [17, 25, 70, 129, 148, 159, 218, 236, 261] 174 _).trans rfl
set_option maxRecDepth 100000 in
theorem e_M_cutAll_236 (d : Nat) (r_0 : Nat) (x_1 : Int32) (x_2 : Int32) (y_5 : Int64) (xs0 : Int32) (xs1 : Int32) (rs2 : Nat) (h : Hp) : L_M_cutAll_236 d r_0 x_1 x_2 y_5 xs0 xs1 rs2 h =
    ifp (inb xs1 (hN h rs2) = true) (
    bR (hR (sI h rs2 (ix xs1) xs0) r_0 6) fun r1 =>
    ifp (inb x_1 (hN (sI h rs2 (ix xs1) xs0) r1) = true) (
    L_M_cutAll_17 d r_0 (x_1 + (1 : Int32)) x_2 (sL (sI h rs2 (ix xs1) xs0) r1 (ix x_1) y_5)) none) none := (evs_xpd _ tx_M_cutAll [17, 25, 70, 129, 148, 159, 218, 236, 261] 174 _).trans rfl
set_option maxRecDepth 100000 in
theorem e_M_cutAll_261 (d : Nat) (r_0 : Nat) (x_1 : Int32) (x_2 : Int32) (y_5 : Int64) (xs0 : Int32) (xs1 : Int32) (rs2 : Nat) (h : Hp) : L_M_cutAll_261 d r_0 x_1 x_2 y_5 xs0 xs1 rs2 h =
    ifp (inb xs1 (hN h rs2) = true) (
    bR (hR (sI h rs2 (ix xs1) xs0) r_0 6) fun r1 =>
    ifp (inb x_1 (hN (sI h rs2 (ix xs1) xs0) r1) = true) (
    L_M_cutAll_17 d r_0 (x_1 + (1 : Int32)) (x_2 + (1 : Int32)) (sL (sI h rs2 (ix xs1) xs0) r1 (ix x_1) y_5)) none) none := (evs_xpd _ tx_M_cutAll [17, 25, 70, 129, 148, 159, 218, 236, 261] 174 _).trans rfl
set_option maxRecDepth 100000 in
theorem e_M_cutAll (d : Nat) (r_0 : Nat) (h : Hp) : evm (d + 1) 146 [vR 12 r_0] h =
    L_M_cutAll_17 d r_0 (0 : Int32) (0 : Int32) (sI (sI h r_0 3 (hI h r_0 2)) r_0 2 (0 : Int32)) := (evs_xpd _ tx_M_cutAll [17, 25, 70, 129, 148, 159, 218, 236, 261] 174 _).trans rfl
set_option maxRecDepth 100000 in
theorem e_M_wrong (d : Nat) (r_0 : Nat) (x_1 : Int32) (h : Hp) : evm (d + 1) 147 [vR 12 r_0, vI x_1] h =
    ifp ((hI h r_0 8) = 0)
      (bR (hR h r_0 5) fun r1 =>
      ifp (inb (hI h r_0 7) (hN h r1) = true) (
      some (none, sI h r_0 8 (x_1 + ((16 : Int32) * (hI h r1 (ix (hI h r_0 7))))))) none)
      (some (none, h)) := (evs_xpd _ tx_M_wrong [] 20 _).trans rfl
set_option maxRecDepth 100000 in
theorem e_M_isSign (d : Nat) (r_0 : Nat) (x_1 : Int32) (h : Hp) : evm (d + 1) 148 [vR 12 r_0, vI x_1] h =
    ifp ((hI h r_0 8) = 0)
      (bR (hR h r_0 4) fun r1 =>
      ifp (inb (hI h r_0 7) (hN h r1) = true) (
      ifp ((hI h r1 (ix (hI h r_0 7))) = (3 : Int32))
        (bR (hR h r_0 6) fun r2 =>
        ifp (inb (hI h r_0 7) (hN h r2) = true) (
        ifp ((lg_cmp (hL h r2 (ix (hI h r_0 7))) x_1.toInt64) = 0)
          (some (some (vI (1 : Int32)), h))
          (some (some (vI (0 : Int32)), h))) none)
        (some (some (vI (0 : Int32)), h))) none)
      (some (some (vI (0 : Int32)), h)) := (evs_xpd _ tx_M_isSign [] 28 _).trans rfl
set_option maxRecDepth 100000 in
theorem e_M_isWord (d : Nat) (r_0 : Nat) (x_1 : Int32) (h : Hp) : evm (d + 1) 149 [vR 12 r_0, vI x_1] h =
    ifp ((hI h r_0 8) = 0)
      (bR (hR h r_0 4) fun r1 =>
      ifp (inb (hI h r_0 7) (hN h r1) = true) (
      ifp ((hI h r1 (ix (hI h r_0 7))) = (1 : Int32))
        (bR (hR h r_0 6) fun r2 =>
        ifp (inb (hI h r_0 7) (hN h r2) = true) (
        bR (hR h r_0 9) fun r3 =>
        ifp (inb x_1 (hN h r3) = true) (
        ifp ((lg_cmp (hL h r2 (ix (hI h r_0 7))) (hL h r3 (ix x_1))) = 0)
          (some (some (vI (1 : Int32)), h))
          (some (some (vI (0 : Int32)), h))) none) none)
        (some (some (vI (0 : Int32)), h))) none)
      (some (some (vI (0 : Int32)), h)) := (evs_xpd _ tx_M_isWord [] 30 _).trans rfl
set_option maxRecDepth 100000 in
theorem e_M_takeSign (d : Nat) (r_0 : Nat) (x_1 : Int32) (h : Hp) : evm (d + 1) 150 [vR 12 r_0, vI x_1] h =
    bI (evm d 148 [vR 12 r_0, vI x_1] h) fun x2 h1 =>
    ifp (x2 = 0)
      (bV (evm d 147 [vR 12 r_0, vI (1 : Int32)] h1) fun h3 =>
      some (none, h3))
      (some (none, sI h1 r_0 7 ((hI h1 r_0 7) + (1 : Int32)))) := (evs_xpd _ tx_M_takeSign [] 20 _).trans rfl
set_option maxRecDepth 100000 in
theorem e_M_hasSign (d : Nat) (r_0 : Nat) (x_1 : Int32) (h : Hp) : evm (d + 1) 151 [vR 12 r_0, vI x_1] h =
    bI (evm d 148 [vR 12 r_0, vI x_1] h) fun x2 h1 =>
    ifp (x2 = 0)
      (bif isB x2 then some (some (vI x2), sI h1 r_0 7 ((hI h1 r_0 7) + (0 : Int32))) else none)
      (bif isB x2 then some (some (vI x2), sI h1 r_0 7 ((hI h1 r_0 7) + (1 : Int32))) else none) := (evs_xpd _ tx_M_hasSign [] 21 _).trans rfl
set_option maxRecDepth 100000 in
theorem e_M_hasWord (d : Nat) (r_0 : Nat) (x_1 : Int32) (h : Hp) : evm (d + 1) 152 [vR 12 r_0, vI x_1] h =
    bI (evm d 149 [vR 12 r_0, vI x_1] h) fun x2 h1 =>
    ifp (x2 = 0)
      (bif isB x2 then some (some (vI x2), sI h1 r_0 7 ((hI h1 r_0 7) + (0 : Int32))) else none)
      (bif isB x2 then some (some (vI x2), sI h1 r_0 7 ((hI h1 r_0 7) + (1 : Int32))) else none) := (evs_xpd _ tx_M_hasWord [] 21 _).trans rfl
set_option maxRecDepth 100000 in
theorem e_M_takeWord (d : Nat) (r_0 : Nat) (x_1 : Int32) (h : Hp) : evm (d + 1) 153 [vR 12 r_0, vI x_1] h =
    bI (evm d 152 [vR 12 r_0, vI x_1] h) fun x2 h1 =>
    ifp (x2 = 0)
      (bV (evm d 147 [vR 12 r_0, vI (1 : Int32)] h1) fun h3 =>
      some (none, h3))
      (some (none, h1)) := (evs_xpd _ tx_M_takeWord [] 13 _).trans rfl
set_option maxRecDepth 100000 in
theorem e_M_within (d : Nat) (x_0 : Int32) (x_1 : Int32) (x_2 : Int32) (h : Hp) : evm (d + 1) 154 [vI x_0, vI x_1, vI x_2] h =
    ifp (x_0 < x_1)
      (some (some (vI (0 : Int32)), h))
      (ifp (x_2 < x_0)
        (some (some (vI (0 : Int32)), h))
        (some (some (vI (1 : Int32)), h))) := (evs_xpd _ tx_M_within [] 15 _).trans rfl
noncomputable def L_M_standsAsAlways_2 (d : Nat) (r_0 : Nat) (x_1 : Int32) (x_2 : Int32) (h : Hp) : Option Rs := evs (evm d) tx_M_standsAsAlways (2, [some (vR 12 r_0), some (vI x_1), some (vI x_2)], [], h)
noncomputable def L_M_standsAsAlways_23 (d : Nat) (r_0 : Nat) (x_1 : Int32) (h : Hp) : Option Rs := evs (evm d) tx_M_standsAsAlways (23, [some (vR 12 r_0), some (vI x_1), none], [], h)
set_option maxRecDepth 100000 in
theorem e_M_standsAsAlways_2 (d : Nat) (r_0 : Nat) (x_1 : Int32) (x_2 : Int32) (h : Hp) : L_M_standsAsAlways_2 d r_0 x_1 x_2 h =
    ifp (x_2 < (70 : Int32))
      (bR (hR h r_0 10) fun r1 =>
      ifp (inb (x_1 + x_2) (hN h r1) = true) (
      L_M_standsAsAlways_2 d r_0 x_1 (x_2 + (1 : Int32)) (sI h r1 (ix (x_1 + x_2)) (0 : Int32))) none)
      (L_M_standsAsAlways_23 d r_0 x_1 h) := (evs_xpd _ tx_M_standsAsAlways [2, 23] 55 _).trans rfl
set_option maxRecDepth 100000 in
theorem e_M_standsAsAlways_23 (d : Nat) (r_0 : Nat) (x_1 : Int32) (h : Hp) : L_M_standsAsAlways_23 d r_0 x_1 h =
    bR (hR h r_0 10) fun r1 =>
    ifp (inb (x_1 + (1 : Int32)) (hN h r1) = true) (
    bR (hR (sI h r1 (ix (x_1 + (1 : Int32))) (-1 : Int32)) r_0 10) fun r2 =>
    ifp (inb (x_1 + (2 : Int32)) (hN (sI h r1 (ix (x_1 + (1 : Int32))) (-1 : Int32)) r2) = true) (
    bR (hR (sI (sI h r1 (ix (x_1 + (1 : Int32))) (-1 : Int32)) r2 (ix (x_1 + (2 : Int32))) (-1 : Int32)) r_0 10) fun r3 =>
    ifp (inb (x_1 + (4 : Int32)) (hN (sI (sI h r1 (ix (x_1 + (1 : Int32))) (-1 : Int32)) r2 (ix (x_1 + (2 : Int32))) (-1 : Int32)) r3) = true) (
    bR (hR (sI (sI (sI h r1 (ix (x_1 + (1 : Int32))) (-1 : Int32)) r2 (ix (x_1 + (2 : Int32))) (-1 : Int32)) r3 (ix (x_1 + (4 : Int32))) (40 : Int32)) r_0 10) fun r4 =>
    ifp (inb (x_1 + (5 : Int32)) (hN (sI (sI (sI h r1 (ix (x_1 + (1 : Int32))) (-1 : Int32)) r2 (ix (x_1 + (2 : Int32))) (-1 : Int32)) r3 (ix (x_1 + (4 : Int32))) (40 : Int32)) r4) = true) (
    bR (hR (sI (sI (sI (sI h r1 (ix (x_1 + (1 : Int32))) (-1 : Int32)) r2 (ix (x_1 + (2 : Int32))) (-1 : Int32)) r3 (ix (x_1 + (4 : Int32))) (40 : Int32)) r4 (ix (x_1 + (5 : Int32))) (-1 : Int32)) r_0 10) fun r5 =>
    ifp (inb (x_1 + (7 : Int32)) (hN (sI (sI (sI (sI h r1 (ix (x_1 + (1 : Int32))) (-1 : Int32)) r2 (ix (x_1 + (2 : Int32))) (-1 : Int32)) r3 (ix (x_1 + (4 : Int32))) (40 : Int32)) r4 (ix (x_1 + (5 : Int32))) (-1 : Int32)) r5) = true) (
    some (none, sI (sI (sI (sI (sI h r1 (ix (x_1 + (1 : Int32))) (-1 : Int32)) r2 (ix (x_1 + (2 : Int32))) (-1 : Int32)) r3 (ix (x_1 + (4 : Int32))) (40 : Int32)) r4 (ix (x_1 + (5 : Int32))) (-1 : Int32)) r5 (ix (x_1 + (7 : Int32))) (-1 : Int32))) none) none) none) none) none := (evs_xpd _ tx_M_standsAsAlways [2, 23] 55 _).trans rfl
set_option maxRecDepth 100000 in
theorem e_M_standsAsAlways (d : Nat) (r_0 : Nat) (x_1 : Int32) (h : Hp) : evm (d + 1) 155 [vR 12 r_0, vI x_1] h =
    L_M_standsAsAlways_2 d r_0 x_1 (0 : Int32) h := (evs_xpd _ tx_M_standsAsAlways [2, 23] 55 _).trans rfl
noncomputable def L_M_takeNumber_28 (d : Nat) (r_0 : Nat) (x_1 : Int32) (x_2 : Int32) (h : Hp) : Option Rs := evs (evm d) tx_M_takeNumber (28, [some (vR 12 r_0), some (vI x_1), some (vI x_2)], [], h)
noncomputable def L_M_takeNumber_70 (d : Nat) (r_0 : Nat) (h : Hp) : Option Rs := evs (evm d) tx_M_takeNumber (70, [some (vR 12 r_0), none, none], [], h)
set_option maxRecDepth 100000 in
theorem e_M_takeNumber_28 (d : Nat) (r_0 : Nat) (x_1 : Int32) (x_2 : Int32) (h : Hp) : L_M_takeNumber_28 d r_0 x_1 x_2 h =
    ifp ((hI h r_0 8) = 0)
      (bR (hR h r_0 6) fun r1 =>
      ifp (inb (hI h r_0 7) (hN h r1) = true) (
      ifp ((lg_cmp (hL h r1 (ix (hI h r_0 7))) x_1.toInt64) < 0)
        (bV (evm d 147 [vR 12 r_0, vI (4 : Int32)] h) fun h2 =>
        L_M_takeNumber_70 d r_0 h2)
        (bR (hR h r_0 6) fun r3 =>
        ifp (inb (hI h r_0 7) (hN h r3) = true) (
        ifp (0 < (lg_cmp (hL h r3 (ix (hI h r_0 7))) x_2.toInt64))
          (bV (evm d 147 [vR 12 r_0, vI (4 : Int32)] h) fun h4 =>
          L_M_takeNumber_70 d r_0 h4)
          (L_M_takeNumber_70 d r_0 h)) none)) none)
      (L_M_takeNumber_70 d r_0 h) := (evs_xpd _ tx_M_takeNumber [28, 70] 63 _).trans rfl
set_option maxRecDepth 100000 in
theorem e_M_takeNumber_70 (d : Nat) (r_0 : Nat) (h : Hp) : L_M_takeNumber_70 d r_0 h =
    ifp (0 < (hI h r_0 8))
      (some (some (vI (0 : Int32)), h))
      (bR (hR (sI h r_0 7 ((hI h r_0 7) + (1 : Int32))) r_0 6) fun r1 =>
      ifp (inb ((hI (sI h r_0 7 ((hI h r_0 7) + (1 : Int32))) r_0 7) - (1 : Int32)) (hN (sI h r_0 7 ((hI h r_0 7) + (1 : Int32))) r1) = true) (
      some (some (vI ((hL (sI h r_0 7 ((hI h r_0 7) + (1 : Int32))) r1 (ix ((hI (sI h r_0 7 ((hI h r_0 7) + (1 : Int32))) r_0 7) - (1 : Int32)))).toInt32)), sI h r_0 7 ((hI h r_0 7) + (1 : Int32)))) none) := (evs_xpd _ tx_M_takeNumber [28, 70] 63 _).trans rfl
set_option maxRecDepth 100000 in
theorem e_M_takeNumber (d : Nat) (r_0 : Nat) (x_1 : Int32) (x_2 : Int32) (h : Hp) : evm (d + 1) 156 [vR 12 r_0, vI x_1, vI x_2] h =
    ifp ((hI h r_0 8) = 0)
      (bR (hR h r_0 4) fun r1 =>
      ifp (inb (hI h r_0 7) (hN h r1) = true) (
      ifp ((hI h r1 (ix (hI h r_0 7))) = (2 : Int32))
        (L_M_takeNumber_28 d r_0 x_1 x_2 h)
        (bV (evm d 147 [vR 12 r_0, vI (1 : Int32)] h) fun h2 =>
        L_M_takeNumber_70 d r_0 h2)) none)
      (L_M_takeNumber_28 d r_0 x_1 x_2 h) := (evs_xpd _ tx_M_takeNumber [28, 70] 63 _).trans rfl
set_option maxRecDepth 100000 in
theorem e_M_takeAfter (d : Nat) (r_0 : Nat) (x_1 : Int32) (x_2 : Int32) (x_3 : Int32) (h : Hp) : evm (d + 1) 157 [vR 12 r_0, vI x_1, vI x_2, vI x_3] h =
    bV (evm d 153 [vR 12 r_0, vI x_1] h) fun h1 =>
    bI (evm d 156 [vR 12 r_0, vI x_2, vI x_3] h1) fun x3 h2 =>
    some (some (vI x3), h2) := (evs_xpd _ tx_M_takeAfter [] 13 _).trans rfl
noncomputable def L_M_stair_50 (d : Nat) (r_0 : Nat) (h : Hp) : Option Rs := evs (evm d) tx_M_stair (50, [some (vR 12 r_0), none], [], h)
noncomputable def L_M_stair_82 (d : Nat) (r_0 : Nat) (h : Hp) : Option Rs := evs (evm d) tx_M_stair (82, [some (vR 12 r_0), none], [], h)
noncomputable def L_M_stair_130 (d : Nat) (r_0 : Nat) (x_1 : Int32) (h : Hp) : Option Rs := evs (evm d) tx_M_stair (130, [some (vR 12 r_0), some (vI x_1)], [], h)
noncomputable def L_M_stair_163 (d : Nat) (r_0 : Nat) (x_1 : Int32) (h : Hp) : Option Rs := evs (evm d) tx_M_stair (163, [some (vR 12 r_0), some (vI x_1)], [], h)
noncomputable def L_M_stair_211 (d : Nat) (r_0 : Nat) (x_1 : Int32) (h : Hp) : Option Rs := evs (evm d) tx_M_stair (211, [some (vR 12 r_0), some (vI x_1)], [], h)
noncomputable def L_M_stair_232 (d : Nat) (r_0 : Nat) (x_1 : Int32) (h : Hp) : Option Rs := evs (evm d) tx_M_stair (232, [some (vR 12 r_0), some (vI x_1)], [], h)
set_option maxRecDepth 100000 in
theorem e_M_stair_50 (d : Nat) (r_0 : Nat) (h : Hp) : L_M_stair_50 d r_0 h =
    ifp ((hI h r_0 8) = 0)
      (bR (hR h r_0 4) fun r1 =>
      ifp (inb (hI h r_0 7) (hN h r1) = true) (
      ifp ((hI h r1 (ix (hI h r_0 7))) = 0)
        (L_M_stair_82 d r_0 h)
        (bV (evm d 161 [vR 12 r_0] h) fun h2 =>
        bV (evm d 150 [vR 12 r_0, vI (59 : Int32)] h2) fun h3 =>
        L_M_stair_50 d r_0 h3)) none)
      (L_M_stair_82 d r_0 h) := (evs_xpd _ tx_M_stair [50, 82, 130, 163, 211, 232] 147 _).trans rfl
set_option maxRecDepth 100000 in
theorem e_M_stair_82 (d : Nat) (r_0 : Nat) (h : Hp) : L_M_stair_82 d r_0 h =
    ifp (0 < (hI h r_0 8))
      (some (some (vI (hI h r_0 8)), h))
      (bR (hR h r_0 10) fun r1 =>
      ifp (inb (78 : Int32) (hN h r1) = true) (
      ifp ((hI h r1 (ix (78 : Int32))) = 0)
        (bR (hR h r_0 10) fun r2 =>
        ifp (inb (78 : Int32) (hN h r2) = true) (
        bR (hR (sI h r2 (ix (78 : Int32)) (2 : Int32)) r_0 10) fun r3 =>
        ifp (inb (79 : Int32) (hN (sI h r2 (ix (78 : Int32)) (2 : Int32)) r3) = true) (
        bR (hR (sI (sI h r2 (ix (78 : Int32)) (2 : Int32)) r3 (ix (79 : Int32)) (1 : Int32)) r_0 10) fun r4 =>
        ifp (inb (80 : Int32) (hN (sI (sI h r2 (ix (78 : Int32)) (2 : Int32)) r3 (ix (79 : Int32)) (1 : Int32)) r4) = true) (
        L_M_stair_130 d r_0 (0 : Int32) (sI (sI (sI h r2 (ix (78 : Int32)) (2 : Int32)) r3 (ix (79 : Int32)) (1 : Int32)) r4 (ix (80 : Int32)) (2 : Int32))) none) none) none)
        (L_M_stair_130 d r_0 (0 : Int32) h)) none) := (evs_xpd _ tx_M_stair [50, 82, 130, 163, 211, 232] 147 _).trans rfl
set_option maxRecDepth 100000 in
theorem e_M_stair_130 (d : Nat) (r_0 : Nat) (x_1 : Int32) (h : Hp) : L_M_stair_130 d r_0 x_1 h =
    ifp (x_1 < (70 : Int32))
      (bR (hR h r_0 10) fun r2 =>
      bR (hR h r_0 10) fun r3 =>
      ifp (inb ((70 : Int32) + x_1) (hN h r3) = true) (
      ifp (inb x_1 (hN h r2) = true) (
      L_M_stair_130 d r_0 (x_1 + (1 : Int32)) (sI h r2 (ix x_1) (hI h r3 (ix ((70 : Int32) + x_1))))) none) none)
      (bV (evm d 159 [vR 12 r_0] h) fun h1 =>
      L_M_stair_163 d r_0 (0 : Int32) h1) := (evs_xpd _ tx_M_stair [50, 82, 130, 163, 211, 232] 147 _).trans rfl
set_option maxRecDepth 100000 in
theorem e_M_stair_163 (d : Nat) (r_0 : Nat) (x_1 : Int32) (h : Hp) : L_M_stair_163 d r_0 x_1 h =
    ifp (x_1 < (hI h r_0 13))
      (bR (hR h r_0 11) fun r1 =>
      bR (hR h r_0 11) fun r2 =>
      ifp (inb ((1100 : Int32) + x_1) (hN h r2) = true) (
      ifp (inb x_1 (hN h r1) = true) (
      bR (hR (sI h r1 (ix x_1) (hI h r2 (ix ((1100 : Int32) + x_1)))) r_0 12) fun r3 =>
      bR (hR (sI h r1 (ix x_1) (hI h r2 (ix ((1100 : Int32) + x_1)))) r_0 12) fun r4 =>
      ifp (inb ((1100 : Int32) + x_1) (hN (sI h r1 (ix x_1) (hI h r2 (ix ((1100 : Int32) + x_1)))) r4) = true) (
      ifp (inb x_1 (hN (sI h r1 (ix x_1) (hI h r2 (ix ((1100 : Int32) + x_1)))) r3) = true) (
      L_M_stair_163 d r_0 (x_1 + (1 : Int32)) (sI (sI h r1 (ix x_1) (hI h r2 (ix ((1100 : Int32) + x_1)))) r3 (ix x_1) (hI (sI h r1 (ix x_1) (hI h r2 (ix ((1100 : Int32) + x_1)))) r4 (ix ((1100 : Int32) + x_1))))) none) none) none) none)
      (L_M_stair_211 d r_0 (0 : Int32) h) := (evs_xpd _ tx_M_stair [50, 82, 130, 163, 211, 232] 147 _).trans rfl
set_option maxRecDepth 100000 in
theorem e_M_stair_211 (d : Nat) (r_0 : Nat) (x_1 : Int32) (h : Hp) : L_M_stair_211 d r_0 x_1 h =
    ifp (x_1 < (84 : Int32))
      (bR (hR h r_0 17) fun r1 =>
      ifp (inb x_1 (hN h r1) = true) (
      L_M_stair_211 d r_0 (x_1 + (1 : Int32)) (sI h r1 (ix x_1) (0 : Int32))) none)
      (L_M_stair_232 d r_0 (0 : Int32) h) := (evs_xpd _ tx_M_stair [50, 82, 130, 163, 211, 232] 147 _).trans rfl
set_option maxRecDepth 100000 in
theorem e_M_stair_232 (d : Nat) (r_0 : Nat) (x_1 : Int32) (h : Hp) : L_M_stair_232 d r_0 x_1 h =
    ifp (x_1 < (4 : Int32))
      (bR (hR h r_0 18) fun r1 =>
      ifp (inb x_1 (hN h r1) = true) (
      L_M_stair_232 d r_0 (x_1 + (1 : Int32)) (sI h r1 (ix x_1) (0 : Int32))) none)
      (some (some (vI (0 : Int32)), h)) := (evs_xpd _ tx_M_stair [50, 82, 130, 163, 211, 232] 147 _).trans rfl
set_option maxRecDepth 100000 in
theorem e_M_stair (d : Nat) (r_0 : Nat) (h : Hp) : evm (d + 1) 158 [vR 12 r_0] h =
    bV (evm d 146 [vR 12 r_0] (sI h r_0 0 (0 : Int32))) fun h1 =>
    bV (evm d 155 [vR 12 r_0, vI (70 : Int32)] (sI (sI h1 r_0 13 (0 : Int32)) r_0 14 (0 : Int32))) fun h2 =>
    bV (evm d 153 [vR 12 r_0, vI (0 : Int32)] h2) fun h3 =>
    bR (hR h3 r_0 10) fun r4 =>
    bI (evm d 156 [vR 12 r_0, vI (1 : Int32), vI (40 : Int32)] h3) fun x6 h5 =>
    ifp (inb (70 : Int32) (hN h5 r4) = true) (
    bV (evm d 150 [vR 12 r_0, vI (59 : Int32)] (sI h5 r4 (ix (70 : Int32)) x6)) fun h7 =>
    L_M_stair_50 d r_0 h7) none := (evs_xpd _ tx_M_stair [50, 82, 130, 163, 211, 232] 147 _).trans rfl
noncomputable def L_M_sorts_2 (d : Nat) (r_0 : Nat) (x_1 : Int32) (h : Hp) : Option Rs := evs (evm d) tx_M_sorts (2, [some (vR 12 r_0), some (vI x_1), none, none, none], [], h)
noncomputable def L_M_sorts_12 (d : Nat) (r_0 : Nat) (x_1 : Int32) (x_2 : Int32) (h : Hp) : Option Rs := evs (evm d) tx_M_sorts (12, [some (vR 12 r_0), some (vI x_1), some (vI x_2), none, none], [], h)
noncomputable def L_M_sorts_58 (d : Nat) (r_0 : Nat) (x_1 : Int32) (x_2 : Int32) (x_3 : Int32) (x_4 : Int32) (xs0 : Int32) (xs1 : Int32) (rs2 : Nat) (h : Hp) : Option Rs := evs (evm d) tx_M_sorts (58, [some (vR 12 r_0), some (vI x_1), some (vI x_2), some (vI x_3), some (vI x_4)], [vI xs0, vI xs1, vR 20 rs2], h)
set_option maxRecDepth 100000 in
theorem e_M_sorts_2 (d : Nat) (r_0 : Nat) (x_1 : Int32) (h : Hp) : L_M_sorts_2 d r_0 x_1 h =
    bI (evm d 177 [vR 12 r_0] h) fun x2 h1 =>
    ifp (x_1 < x2)
      (L_M_sorts_12 d r_0 x_1 (0 : Int32) h1)
      (some (none, h1)) := (evs_xpd _ tx_M_sorts [2, 12, 58] 59 _).trans rfl
set_option maxRecDepth 100000 in
theorem e_M_sorts_12 (d : Nat) (r_0 : Nat) (x_1 : Int32) (x_2 : Int32) (h : Hp) : L_M_sorts_12 d r_0 x_1 x_2 h =
    ifp (x_2 < x_1)
      (bR (hR h r_0 10) fun r1 =>
      ifp (inb ((9 : Int32) + x_2) (hN h r1) = true) (
      bR (hR h r_0 10) fun r2 =>
      ifp (inb ((9 : Int32) + x_1) (hN h r2) = true) (
      bR (hR h r_0 10) fun r3 =>
      ifp ((hI h r1 (ix ((9 : Int32) + x_2))) < (hI h r2 (ix ((9 : Int32) + x_1))))
        (L_M_sorts_58 d r_0 x_1 x_2 (hI h r1 (ix ((9 : Int32) + x_2))) (hI h r2 (ix ((9 : Int32) + x_1))) (hI h r1 (ix ((9 : Int32) + x_2))) ((9 : Int32) + x_2) r3 h)
        (L_M_sorts_58 d r_0 x_1 x_2 (hI h r1 (ix ((9 : Int32) + x_2))) (hI h r2 (ix ((9 : Int32) + x_1))) (hI h r2 (ix ((9 : Int32) + x_1))) ((9 : Int32) + x_2) r3 h)) none) none)
      (L_M_sorts_2 d r_0 (x_1 + (1 : Int32)) h) := (evs_xpd _ tx_M_sorts [2, 12, 58] 59 _).trans rfl
set_option maxRecDepth 100000 in
theorem e_M_sorts_58 (d : Nat) (r_0 : Nat) (x_1 : Int32) (x_2 : Int32) (x_3 : Int32) (x_4 : Int32) (xs0 : Int32) (xs1 : Int32) (rs2 : Nat) (h : Hp) : L_M_sorts_58 d r_0 x_1 x_2 x_3 x_4 xs0 xs1 rs2 h =
    ifp (inb xs1 (hN h rs2) = true) (
    bR (hR (sI h rs2 (ix xs1) xs0) r_0 10) fun r1 =>
    ifp (x_3 < x_4)
      (ifp (inb ((9 : Int32) + x_1) (hN (sI h rs2 (ix xs1) xs0) r1) = true) (
      L_M_sorts_12 d r_0 x_1 (x_2 + (1 : Int32)) (sI (sI h rs2 (ix xs1) xs0) r1 (ix ((9 : Int32) + x_1)) x_4)) none)
      (ifp (inb ((9 : Int32) + x_1) (hN (sI h rs2 (ix xs1) xs0) r1) = true) (
      L_M_sorts_12 d r_0 x_1 (x_2 + (1 : Int32)) (sI (sI h rs2 (ix xs1) xs0) r1 (ix ((9 : Int32) + x_1)) x_3)) none)) none := (evs_xpd _ tx_M_sorts [2, 12, 58] 59 _).trans rfl
set_option maxRecDepth 100000 in
theorem e_M_sorts (d : Nat) (r_0 : Nat) (h : Hp) : evm (d + 1) 159 [vR 12 r_0] h =
    L_M_sorts_2 d r_0 (0 : Int32) h := (evs_xpd _ tx_M_sorts [2, 12, 58] 59 _).trans rfl
noncomputable def L_M_isOnce_17 (d : Nat) (r_0 : Nat) (x_1 : Int32) (h : Hp) : Option Rs := evs (evm d) tx_M_isOnce (17, [some (vR 12 r_0), some (vI x_1)], [], h)
noncomputable def L_M_isOnce_46 (d : Nat) (r_0 : Nat) (xs0 : Int32) (xs1 : Int32) (rs2 : Nat) (h : Hp) : Option Rs := evs (evm d) tx_M_isOnce (46, [some (vR 12 r_0), none], [vI xs0, vI xs1, vR 12 rs2], h)
set_option maxRecDepth 100000 in
theorem e_M_isOnce_17 (d : Nat) (r_0 : Nat) (x_1 : Int32) (h : Hp) : L_M_isOnce_17 d r_0 x_1 h =
    ifp (0 < (hI (sI h r_0 14 ((hI h r_0 14) ||| ((1 : Int32) <<< (x_1 &&& 31)))) r_0 8))
      (L_M_isOnce_46 d r_0 (0 : Int32) (hI (sI h r_0 14 ((hI h r_0 14) ||| ((1 : Int32) <<< (x_1 &&& 31)))) r_0 7) r_0 (sI h r_0 14 ((hI h r_0 14) ||| ((1 : Int32) <<< (x_1 &&& 31)))))
      (L_M_isOnce_46 d r_0 (1 : Int32) (hI (sI h r_0 14 ((hI h r_0 14) ||| ((1 : Int32) <<< (x_1 &&& 31)))) r_0 7) r_0 (sI h r_0 14 ((hI h r_0 14) ||| ((1 : Int32) <<< (x_1 &&& 31))))) := (evs_xpd _ tx_M_isOnce [17, 46] 42 _).trans rfl
set_option maxRecDepth 100000 in
theorem e_M_isOnce_46 (d : Nat) (r_0 : Nat) (xs0 : Int32) (xs1 : Int32) (rs2 : Nat) (h : Hp) : L_M_isOnce_46 d r_0 xs0 xs1 rs2 h =
    ifp ((hI (sI h rs2 7 (xs1 + xs0)) r_0 8) = 0)
      (some (some (vI (1 : Int32)), sI h rs2 7 (xs1 + xs0)))
      (some (some (vI (0 : Int32)), sI h rs2 7 (xs1 + xs0))) := (evs_xpd _ tx_M_isOnce [17, 46] 42 _).trans rfl
set_option maxRecDepth 100000 in
theorem e_M_isOnce (d : Nat) (r_0 : Nat) (x_1 : Int32) (h : Hp) : evm (d + 1) 160 [vR 12 r_0, vI x_1] h =
    ifp ((((hI h r_0 14) >>> (x_1 &&& 31)) &&& (1 : Int32)) = (1 : Int32))
      (bV (evm d 147 [vR 12 r_0, vI (3 : Int32)] h) fun h1 =>
      L_M_isOnce_17 d r_0 x_1 h1)
      (L_M_isOnce_17 d r_0 x_1 h) := (evs_xpd _ tx_M_isOnce [17, 46] 42 _).trans rfl
noncomputable def L_M_readLine_16 (d : Nat) (r_0 : Nat) (h : Hp) : Option Rs := evs (evm d) tx_M_readLine (16, [some (vR 12 r_0)], [], h)
noncomputable def L_M_readLine_94 (d : Nat) (r_0 : Nat) (h : Hp) : Option Rs := evs (evm d) tx_M_readLine (94, [some (vR 12 r_0)], [], h)
noncomputable def L_M_readLine_166 (d : Nat) (r_0 : Nat) (h : Hp) : Option Rs := evs (evm d) tx_M_readLine (166, [some (vR 12 r_0)], [], h)
noncomputable def L_M_readLine_215 (d : Nat) (r_0 : Nat) (h : Hp) : Option Rs := evs (evm d) tx_M_readLine (215, [some (vR 12 r_0)], [], h)
set_option maxRecDepth 100000 in
theorem e_M_readLine_16 (d : Nat) (r_0 : Nat) (h : Hp) : L_M_readLine_16 d r_0 h =
    bI (evm d 149 [vR 12 r_0, vI (5 : Int32)] h) fun x2 h1 =>
    ifp (x2 = 0)
      (bI (evm d 149 [vR 12 r_0, vI (6 : Int32)] h1) fun x4 h3 =>
      ifp (x4 = 0)
        (bI (evm d 149 [vR 12 r_0, vI (1 : Int32)] h3) fun x6 h5 =>
        ifp (x6 = 0)
          (bI (evm d 149 [vR 12 r_0, vI (4 : Int32)] h5) fun x8 h7 =>
          ifp (x8 = 0)
            (L_M_readLine_94 d r_0 h7)
            (bI (evm d 160 [vR 12 r_0, vI (1 : Int32)] h7) fun x10 h9 =>
            ifp (x10 = 0)
              (some (none, h9))
              (bR (hR h9 r_0 10) fun r11 =>
              bI (evm d 156 [vR 12 r_0, vI (0 : Int32), vI (4 : Int32)] h9) fun x13 h12 =>
              ifp (inb (71 : Int32) (hN h12 r11) = true) (
              some (none, sI h12 r11 (ix (71 : Int32)) x13)) none)))
          (bV (evm d 165 [vR 12 r_0] h5) fun h14 =>
          some (none, h14)))
        (bV (evm d 163 [vR 12 r_0] h3) fun h15 =>
        some (none, h15)))
      (bV (evm d 162 [vR 12 r_0] h1) fun h16 =>
      some (none, h16)) := (evs_xpd _ tx_M_readLine [16, 94, 166, 215] 139 _).trans rfl
set_option maxRecDepth 100000 in
theorem e_M_readLine_94 (d : Nat) (r_0 : Nat) (h : Hp) : L_M_readLine_94 d r_0 h =
    bI (evm d 149 [vR 12 r_0, vI (7 : Int32)] h) fun x2 h1 =>
    ifp (x2 = 0)
      (bI (evm d 149 [vR 12 r_0, vI (10 : Int32)] h1) fun x4 h3 =>
      ifp (x4 = 0)
        (L_M_readLine_166 d r_0 h3)
        (bI (evm d 160 [vR 12 r_0, vI (3 : Int32)] h3) fun x6 h5 =>
        ifp (x6 = 0)
          (some (none, h5))
          (bR (hR h5 r_0 10) fun r7 =>
          bI (evm d 156 [vR 12 r_0, vI (0 : Int32), vI (40 : Int32)] h5) fun x9 h8 =>
          ifp (inb (73 : Int32) (hN h8 r7) = true) (
          bR (hR (sI h8 r7 (ix (73 : Int32)) x9) r_0 10) fun r10 =>
          bR (hR (sI h8 r7 (ix (73 : Int32)) x9) r_0 10) fun r11 =>
          ifp (inb (73 : Int32) (hN (sI h8 r7 (ix (73 : Int32)) x9) r11) = true) (
          bI (evm d 157 [vR 12 r_0, vI (11 : Int32), vI (hI (sI h8 r7 (ix (73 : Int32)) x9) r11 (ix (73 : Int32))), vI (40 : Int32)] (sI h8 r7 (ix (73 : Int32)) x9)) fun x13 h12 =>
          ifp (inb (74 : Int32) (hN h12 r10) = true) (
          some (none, sI h12 r10 (ix (74 : Int32)) x13)) none) none) none)))
      (bV (evm d 167 [vR 12 r_0] h1) fun h14 =>
      some (none, h14)) := (evs_xpd _ tx_M_readLine [16, 94, 166, 215] 139 _).trans rfl
set_option maxRecDepth 100000 in
theorem e_M_readLine_166 (d : Nat) (r_0 : Nat) (h : Hp) : L_M_readLine_166 d r_0 h =
    bI (evm d 149 [vR 12 r_0, vI (12 : Int32)] h) fun x2 h1 =>
    ifp (x2 = 0)
      (L_M_readLine_215 d r_0 h1)
      (bI (evm d 160 [vR 12 r_0, vI (4 : Int32)] h1) fun x4 h3 =>
      ifp (x4 = 0)
        (some (none, h3))
        (bR (hR h3 r_0 10) fun r5 =>
        bI (evm d 156 [vR 12 r_0, vI (1 : Int32), vI (12 : Int32)] h3) fun x7 h6 =>
        ifp (inb (75 : Int32) (hN h6 r5) = true) (
        bR (hR (sI h6 r5 (ix (75 : Int32)) x7) r_0 10) fun r8 =>
        bI (evm d 157 [vR 12 r_0, vI (13 : Int32), vI (0 : Int32), vI (4 : Int32)] (sI h6 r5 (ix (75 : Int32)) x7)) fun x10 h9 =>
        ifp (inb (76 : Int32) (hN h9 r8) = true) (
        some (none, sI h9 r8 (ix (76 : Int32)) x10)) none) none)) := (evs_xpd _ tx_M_readLine [16, 94, 166, 215] 139 _).trans rfl
set_option maxRecDepth 100000 in
theorem e_M_readLine_215 (d : Nat) (r_0 : Nat) (h : Hp) : L_M_readLine_215 d r_0 h =
    bI (evm d 149 [vR 12 r_0, vI (14 : Int32)] h) fun x2 h1 =>
    ifp (x2 = 0)
      (bV (evm d 147 [vR 12 r_0, vI (1 : Int32)] h1) fun h3 =>
      some (none, h3))
      (bI (evm d 160 [vR 12 r_0, vI (5 : Int32)] h1) fun x5 h4 =>
      ifp (x5 = 0)
        (some (none, h4))
        (bR (hR h4 r_0 10) fun r6 =>
        ifp (inb (77 : Int32) (hN h4 r6) = true) (
        bV (evm d 169 [vR 12 r_0, vI (0 : Int32)] (sI h4 r6 (ix (77 : Int32)) (hI h4 r_0 13))) fun h7 =>
        bV (evm d 168 [vR 12 r_0, vI (0 : Int32), vI (0 : Int32)] h7) fun h8 =>
        some (none, h8)) none)) := (evs_xpd _ tx_M_readLine [16, 94, 166, 215] 139 _).trans rfl
set_option maxRecDepth 100000 in
theorem e_M_readLine (d : Nat) (r_0 : Nat) (h : Hp) : evm (d + 1) 161 [vR 12 r_0] h =
    bI (evm d 149 [vR 12 r_0, vI (2 : Int32)] h) fun x2 h1 =>
    ifp (x2 = 0)
      (bI (evm d 149 [vR 12 r_0, vI (3 : Int32)] h1) fun x5 h4 =>
      ifp (x5 = 0)
        (L_M_readLine_16 d r_0 h4)
        (bV (evm d 162 [vR 12 r_0] h4) fun h6 =>
        some (none, h6)))
      (bV (evm d 162 [vR 12 r_0] h1) fun h3 =>
      some (none, h3)) := (evs_xpd _ tx_M_readLine [16, 94, 166, 215] 139 _).trans rfl
noncomputable def L_M_readStep_25 (d : Nat) (r_0 : Nat) (xs0 : Int32) (h : Hp) : Option Rs := evs (evm d) tx_M_readStep (25, [some (vR 12 r_0), none, none], [vI xs0], h)
noncomputable def L_M_readStep_85 (d : Nat) (r_0 : Nat) (x_1 : Int32) (x_2 : Int32) (h : Hp) : Option Rs := evs (evm d) tx_M_readStep (85, [some (vR 12 r_0), some (vI x_1), some (vI x_2)], [], h)
set_option maxRecDepth 100000 in
theorem e_M_readStep_25 (d : Nat) (r_0 : Nat) (xs0 : Int32) (h : Hp) : L_M_readStep_25 d r_0 xs0 h =
    bR (hR (sI h r_0 7 ((hI h r_0 7) + (1 : Int32))) r_0 10) fun r1 =>
    ifp (inb (70 : Int32) (hN (sI h r_0 7 ((hI h r_0 7) + (1 : Int32))) r1) = true) (
    bI (evm d 156 [vR 12 r_0, vI (1 : Int32), vI ((hI (sI h r_0 7 ((hI h r_0 7) + (1 : Int32))) r1 (ix (70 : Int32))) - (1 : Int32))] (sI h r_0 7 ((hI h r_0 7) + (1 : Int32)))) fun x3 h2 =>
    ifp ((hI h2 r_0 8) = 0)
      (bR (hR h2 r_0 10) fun r4 =>
      ifp (inb ((96 : Int32) + x3) (hN h2 r4) = true) (
      ifp (0 < (hI h2 r4 (ix ((96 : Int32) + x3))))
        (bV (evm d 147 [vR 12 r_0, vI (3 : Int32)] (sI h2 r_0 7 ((hI h2 r_0 7) - (1 : Int32)))) fun h5 =>
        L_M_readStep_85 d r_0 xs0 x3 h5)
        (L_M_readStep_85 d r_0 xs0 x3 h2)) none)
      (L_M_readStep_85 d r_0 xs0 x3 h2)) none := (evs_xpd _ tx_M_readStep [25, 85] 65 _).trans rfl
set_option maxRecDepth 100000 in
theorem e_M_readStep_85 (d : Nat) (r_0 : Nat) (x_1 : Int32) (x_2 : Int32) (h : Hp) : L_M_readStep_85 d r_0 x_1 x_2 h =
    ifp ((hI h r_0 8) = 0)
      (bR (hR h r_0 10) fun r1 =>
      ifp (inb ((96 : Int32) + x_2) (hN h r1) = true) (
      some (none, sI h r1 (ix ((96 : Int32) + x_2)) x_1)) none)
      (some (none, h)) := (evs_xpd _ tx_M_readStep [25, 85] 65 _).trans rfl
set_option maxRecDepth 100000 in
theorem e_M_readStep (d : Nat) (r_0 : Nat) (h : Hp) : evm (d + 1) 162 [vR 12 r_0] h =
    bI (evm d 149 [vR 12 r_0, vI (2 : Int32)] h) fun x2 h1 =>
    ifp (x2 = 0)
      (bI (evm d 149 [vR 12 r_0, vI (3 : Int32)] h1) fun x4 h3 =>
      ifp (x4 = 0)
        (L_M_readStep_25 d r_0 (3 : Int32) h3)
        (L_M_readStep_25 d r_0 (2 : Int32) h3))
      (L_M_readStep_25 d r_0 (1 : Int32) h1) := (evs_xpd _ tx_M_readStep [25, 85] 65 _).trans rfl
noncomputable def L_M_readBar_79 (d : Nat) (r_0 : Nat) (x_1 : Int32) (x_2 : Int32) (x_3 : Int32) (h : Hp) : Option Rs := evs (evm d) tx_M_readBar (79, [some (vR 12 r_0), some (vI x_1), some (vI x_2), some (vI x_3)], [], h)
set_option maxRecDepth 100000 in
theorem e_M_readBar_79 (d : Nat) (r_0 : Nat) (x_1 : Int32) (x_2 : Int32) (x_3 : Int32) (h : Hp) : L_M_readBar_79 d r_0 x_1 x_2 x_3 h =
    ifp ((hI h r_0 8) = 0)
      (bR (hR h r_0 10) fun r1 =>
      ifp (inb ((86 : Int32) + x_1) (hN h r1) = true) (
      bR (hR (sI h r1 (ix ((86 : Int32) + x_1)) (((16 : Int32) * x_2) + x_3)) r_0 10) fun r2 =>
      ifp (inb (85 : Int32) (hN (sI h r1 (ix ((86 : Int32) + x_1)) (((16 : Int32) * x_2) + x_3)) r2) = true) (
      ifp (inb (85 : Int32) (hN (sI h r1 (ix ((86 : Int32) + x_1)) (((16 : Int32) * x_2) + x_3)) r2) = true) (
      some (none, sI (sI h r1 (ix ((86 : Int32) + x_1)) (((16 : Int32) * x_2) + x_3)) r2 (ix (85 : Int32)) ((hI (sI h r1 (ix ((86 : Int32) + x_1)) (((16 : Int32) * x_2) + x_3)) r2 (ix (85 : Int32))) + (1 : Int32)))) none) none) none)
      (some (none, h)) := (evs_xpd _ tx_M_readBar [79] 74 _).trans rfl
set_option maxRecDepth 100000 in
theorem e_M_readBar (d : Nat) (r_0 : Nat) (h : Hp) : evm (d + 1) 163 [vR 12 r_0] h =
    bR (hR h r_0 10) fun r1 =>
    ifp (inb (85 : Int32) (hN h r1) = true) (
    ifp ((hI h r1 (ix (85 : Int32))) = (8 : Int32))
      (bV (evm d 147 [vR 12 r_0, vI (5 : Int32)] h) fun h9 =>
      some (none, h9))
      (bI (evm d 156 [vR 12 r_0, vI (1 : Int32), vI (12 : Int32)] (sI h r_0 7 ((hI h r_0 7) + (1 : Int32)))) fun x3 h2 =>
      bI (evm d 156 [vR 12 r_0, vI (1 : Int32), vI (12 : Int32)] h2) fun x5 h4 =>
      ifp ((hI h4 r_0 8) = 0)
        (bI (evm d 164 [vR 12 r_0, vI (70 : Int32), vI x3, vI x5] h4) fun x7 h6 =>
        ifp (x7 = 0)
          (L_M_readBar_79 d r_0 (hI h r1 (ix (85 : Int32))) x3 x5 h6)
          (bV (evm d 147 [vR 12 r_0, vI (3 : Int32)] (sI h6 r_0 7 ((hI h6 r_0 7) - (1 : Int32)))) fun h8 =>
          L_M_readBar_79 d r_0 (hI h r1 (ix (85 : Int32))) x3 x5 h8))
        (L_M_readBar_79 d r_0 (hI h r1 (ix (85 : Int32))) x3 x5 h4))) none := (evs_xpd _ tx_M_readBar [79] 74 _).trans rfl
noncomputable def L_M_isBarred_6 (d : Nat) (r_0 : Nat) (x_1 : Int32) (x_2 : Int32) (x_3 : Int32) (x_4 : Int32) (x_5 : Int32) (h : Hp) : Option Rs := evs (evm d) tx_M_isBarred (6, [some (vR 12 r_0), some (vI x_1), some (vI x_2), some (vI x_3), some (vI x_4), some (vI x_5)], [], h)
set_option maxRecDepth 100000 in
theorem e_M_isBarred_6 (d : Nat) (r_0 : Nat) (x_1 : Int32) (x_2 : Int32) (x_3 : Int32) (x_4 : Int32) (x_5 : Int32) (h : Hp) : L_M_isBarred_6 d r_0 x_1 x_2 x_3 x_4 x_5 h =
    bR (hR h r_0 10) fun r1 =>
    ifp (inb (x_1 + (15 : Int32)) (hN h r1) = true) (
    ifp (x_5 < (hI h r1 (ix (x_1 + (15 : Int32)))))
      (ifp (x_4 = 0)
        (bR (hR h r_0 10) fun r2 =>
        ifp (inb ((x_1 + (16 : Int32)) + x_5) (hN h r2) = true) (
        ifp ((hI h r2 (ix ((x_1 + (16 : Int32)) + x_5))) = (((16 : Int32) * x_2) + x_3))
          (L_M_isBarred_6 d r_0 x_1 x_2 x_3 (1 : Int32) (x_5 + (1 : Int32)) h)
          (L_M_isBarred_6 d r_0 x_1 x_2 x_3 (0 : Int32) (x_5 + (1 : Int32)) h)) none)
        (L_M_isBarred_6 d r_0 x_1 x_2 x_3 (1 : Int32) (x_5 + (1 : Int32)) h))
      (bif isB x_4 then some (some (vI x_4), h) else none)) none := (evs_xpd _ tx_M_isBarred [6] 41 _).trans rfl
set_option maxRecDepth 100000 in
theorem e_M_isBarred (d : Nat) (r_0 : Nat) (x_1 : Int32) (x_2 : Int32) (x_3 : Int32) (h : Hp) : evm (d + 1) 164 [vR 12 r_0, vI x_1, vI x_2, vI x_3] h =
    L_M_isBarred_6 d r_0 x_1 x_2 x_3 (0 : Int32) (0 : Int32) h := (evs_xpd _ tx_M_isBarred [6] 41 _).trans rfl
noncomputable def L_M_readStrides_13 (d : Nat) (r_0 : Nat) (h : Hp) : Option Rs := evs (evm d) tx_M_readStrides (13, [some (vR 12 r_0)], [], h)
set_option maxRecDepth 100000 in
theorem e_M_readStrides_13 (d : Nat) (r_0 : Nat) (h : Hp) : L_M_readStrides_13 d r_0 h =
    ifp ((hI h r_0 8) = 0)
      (bR (hR h r_0 4) fun r1 =>
      ifp (inb (hI h r_0 7) (hN h r1) = true) (
      ifp ((hI h r1 (ix (hI h r_0 7))) = (2 : Int32))
        (bV (evm d 166 [vR 12 r_0] h) fun h2 =>
        L_M_readStrides_13 d r_0 h2)
        (some (none, h))) none)
      (some (none, h)) := (evs_xpd _ tx_M_readStrides [13] 26 _).trans rfl
set_option maxRecDepth 100000 in
theorem e_M_readStrides (d : Nat) (r_0 : Nat) (h : Hp) : evm (d + 1) 165 [vR 12 r_0] h =
    bI (evm d 160 [vR 12 r_0, vI (0 : Int32)] h) fun x2 h1 =>
    ifp (x2 = 0)
      (some (none, h1))
      (bV (evm d 166 [vR 12 r_0] h1) fun h3 =>
      L_M_readStrides_13 d r_0 h3) := (evs_xpd _ tx_M_readStrides [13] 26 _).trans rfl
noncomputable def L_M_readStride_39 (d : Nat) (r_0 : Nat) (x_1 : Int32) (x_2 : Int32) (x_3 : Int32) (h : Hp) : Option Rs := evs (evm d) tx_M_readStride (39, [some (vR 12 r_0), some (vI x_1), some (vI x_2), some (vI x_3)], [], h)
noncomputable def L_M_readStride_86 (d : Nat) (r_0 : Nat) (x_1 : Int32) (x_2 : Int32) (h : Hp) : Option Rs := evs (evm d) tx_M_readStride (86, [some (vR 12 r_0), some (vI x_1), some (vI x_2), none], [], h)
set_option maxRecDepth 100000 in
theorem e_M_readStride_39 (d : Nat) (r_0 : Nat) (x_1 : Int32) (x_2 : Int32) (x_3 : Int32) (h : Hp) : L_M_readStride_39 d r_0 x_1 x_2 x_3 h =
    ifp (x_3 < x_1)
      (ifp ((hI h r_0 8) = 0)
        (bR (hR h r_0 10) fun r3 =>
        ifp (inb ((79 : Int32) + x_3) (hN h r3) = true) (
        ifp ((hI h r3 (ix ((79 : Int32) + x_3))) = x_2)
          (bV (evm d 147 [vR 12 r_0, vI (3 : Int32)] h) fun h4 =>
          L_M_readStride_39 d r_0 x_1 x_2 (x_3 + (1 : Int32)) h4)
          (L_M_readStride_39 d r_0 x_1 x_2 (x_3 + (1 : Int32)) h)) none)
        (ifp (x_1 = (6 : Int32))
          (bV (evm d 147 [vR 12 r_0, vI (5 : Int32)] h) fun h2 =>
          L_M_readStride_86 d r_0 x_1 x_2 h2)
          (L_M_readStride_86 d r_0 x_1 x_2 h)))
      (ifp (x_1 = (6 : Int32))
        (bV (evm d 147 [vR 12 r_0, vI (5 : Int32)] h) fun h1 =>
        L_M_readStride_86 d r_0 x_1 x_2 h1)
        (L_M_readStride_86 d r_0 x_1 x_2 h)) := (evs_xpd _ tx_M_readStride [39, 86] 78 _).trans rfl
set_option maxRecDepth 100000 in
theorem e_M_readStride_86 (d : Nat) (r_0 : Nat) (x_1 : Int32) (x_2 : Int32) (h : Hp) : L_M_readStride_86 d r_0 x_1 x_2 h =
    ifp ((hI h r_0 8) = 0)
      (bR (hR (sI h r_0 7 ((hI h r_0 7) + (1 : Int32))) r_0 10) fun r1 =>
      ifp (inb ((79 : Int32) + x_1) (hN (sI h r_0 7 ((hI h r_0 7) + (1 : Int32))) r1) = true) (
      bR (hR (sI (sI h r_0 7 ((hI h r_0 7) + (1 : Int32))) r1 (ix ((79 : Int32) + x_1)) x_2) r_0 10) fun r2 =>
      ifp (inb (78 : Int32) (hN (sI (sI h r_0 7 ((hI h r_0 7) + (1 : Int32))) r1 (ix ((79 : Int32) + x_1)) x_2) r2) = true) (
      ifp (inb (78 : Int32) (hN (sI (sI h r_0 7 ((hI h r_0 7) + (1 : Int32))) r1 (ix ((79 : Int32) + x_1)) x_2) r2) = true) (
      some (none, sI (sI (sI h r_0 7 ((hI h r_0 7) + (1 : Int32))) r1 (ix ((79 : Int32) + x_1)) x_2) r2 (ix (78 : Int32)) ((hI (sI (sI h r_0 7 ((hI h r_0 7) + (1 : Int32))) r1 (ix ((79 : Int32) + x_1)) x_2) r2 (ix (78 : Int32))) + (1 : Int32)))) none) none) none)
      (some (none, h)) := (evs_xpd _ tx_M_readStride [39, 86] 78 _).trans rfl
set_option maxRecDepth 100000 in
theorem e_M_readStride (d : Nat) (r_0 : Nat) (h : Hp) : evm (d + 1) 166 [vR 12 r_0] h =
    bR (hR h r_0 10) fun r1 =>
    ifp (inb (78 : Int32) (hN h r1) = true) (
    bI (evm d 156 [vR 12 r_0, vI (1 : Int32), vI (12 : Int32)] h) fun x3 h2 =>
    ifp (0 < (hI h2 r_0 8))
      (L_M_readStride_39 d r_0 (hI h r1 (ix (78 : Int32))) x3 (0 : Int32) (sI h2 r_0 7 ((hI h2 r_0 7) - (0 : Int32))))
      (L_M_readStride_39 d r_0 (hI h r1 (ix (78 : Int32))) x3 (0 : Int32) (sI h2 r_0 7 ((hI h2 r_0 7) - (1 : Int32))))) none := (evs_xpd _ tx_M_readStride [39, 86] 78 _).trans rfl
noncomputable def L_M_readFoot_33 (d : Nat) (r_0 : Nat) (h : Hp) : Option Rs := evs (evm d) tx_M_readFoot (33, [some (vR 12 r_0)], [], h)
noncomputable def L_M_readFoot_53 (d : Nat) (r_0 : Nat) (xs0 : Int32) (xs1 : Int32) (rs2 : Nat) (h : Hp) : Option Rs := evs (evm d) tx_M_readFoot (53, [some (vR 12 r_0)], [vI xs0, vI xs1, vR 20 rs2], h)
set_option maxRecDepth 100000 in
theorem e_M_readFoot_33 (d : Nat) (r_0 : Nat) (h : Hp) : L_M_readFoot_33 d r_0 h =
    bR (hR h r_0 10) fun r1 =>
    bI (evm d 149 [vR 12 r_0, vI (8 : Int32)] h) fun x3 h2 =>
    ifp (x3 = 0)
      (L_M_readFoot_53 d r_0 (1 : Int32) (72 : Int32) r1 h2)
      (L_M_readFoot_53 d r_0 (0 : Int32) (72 : Int32) r1 h2) := (evs_xpd _ tx_M_readFoot [33, 53] 40 _).trans rfl
set_option maxRecDepth 100000 in
theorem e_M_readFoot_53 (d : Nat) (r_0 : Nat) (xs0 : Int32) (xs1 : Int32) (rs2 : Nat) (h : Hp) : L_M_readFoot_53 d r_0 xs0 xs1 rs2 h =
    ifp (inb xs1 (hN h rs2) = true) (
    some (none, sI (sI h rs2 (ix xs1) xs0) r_0 7 ((hI (sI h rs2 (ix xs1) xs0) r_0 7) + (1 : Int32)))) none := (evs_xpd _ tx_M_readFoot [33, 53] 40 _).trans rfl
set_option maxRecDepth 100000 in
theorem e_M_readFoot (d : Nat) (r_0 : Nat) (h : Hp) : evm (d + 1) 167 [vR 12 r_0] h =
    bI (evm d 160 [vR 12 r_0, vI (2 : Int32)] h) fun x2 h1 =>
    ifp (x2 = 0)
      (some (none, h1))
      (bI (evm d 149 [vR 12 r_0, vI (8 : Int32)] h1) fun x4 h3 =>
      ifp (x4 = 0)
        (bI (evm d 149 [vR 12 r_0, vI (9 : Int32)] h3) fun x6 h5 =>
        ifp (x6 = 0)
          (bV (evm d 147 [vR 12 r_0, vI (1 : Int32)] h5) fun h7 =>
          some (none, h7))
          (L_M_readFoot_33 d r_0 h5))
        (L_M_readFoot_33 d r_0 h3)) := (evs_xpd _ tx_M_readFoot [33, 53] 40 _).trans rfl
set_option maxRecDepth 100000 in
theorem e_M_emit (d : Nat) (r_0 : Nat) (x_1 : Int32) (x_2 : Int32) (h : Hp) : evm (d + 1) 168 [vR 12 r_0, vI x_1, vI x_2] h =
    bR (hR h r_0 11) fun r1 =>
    ifp (inb ((1100 : Int32) + (hI h r_0 13)) (hN h r1) = true) (
    bR (hR (sI h r1 (ix ((1100 : Int32) + (hI h r_0 13))) x_1) r_0 12) fun r2 =>
    ifp (inb ((1100 : Int32) + (hI (sI h r1 (ix ((1100 : Int32) + (hI h r_0 13))) x_1) r_0 13)) (hN (sI h r1 (ix ((1100 : Int32) + (hI h r_0 13))) x_1) r2) = true) (
    some (none, sI (sI (sI h r1 (ix ((1100 : Int32) + (hI h r_0 13))) x_1) r2 (ix ((1100 : Int32) + (hI (sI h r1 (ix ((1100 : Int32) + (hI h r_0 13))) x_1) r_0 13))) x_2) r_0 13 ((hI (sI (sI h r1 (ix ((1100 : Int32) + (hI h r_0 13))) x_1) r2 (ix ((1100 : Int32) + (hI (sI h r1 (ix ((1100 : Int32) + (hI h r_0 13))) x_1) r_0 13))) x_2) r_0 13) + (1 : Int32)))) none) none := (evs_xpd _ tx_M_emit [] 28 _).trans rfl
noncomputable def L_M_all_5 (d : Nat) (r_0 : Nat) (x_1 : Int32) (h : Hp) : Option Rs := evs (evm d) tx_M_all (5, [some (vR 12 r_0), some (vI x_1), none], [], h)
noncomputable def L_M_all_23 (d : Nat) (r_0 : Nat) (x_1 : Int32) (h : Hp) : Option Rs := evs (evm d) tx_M_all (23, [some (vR 12 r_0), some (vI x_1), none], [], h)
set_option maxRecDepth 100000 in
theorem e_M_all_5 (d : Nat) (r_0 : Nat) (x_1 : Int32) (h : Hp) : L_M_all_5 d r_0 x_1 h =
    bI (evm d 149 [vR 12 r_0, vI (16 : Int32)] h) fun x2 h1 =>
    ifp (x2 = 0)
      (bI (evm d 149 [vR 12 r_0, vI (17 : Int32)] h1) fun x4 h3 =>
      ifp (x4 = 0)
        (some (none, h3))
        (L_M_all_23 d r_0 x_1 h3))
      (L_M_all_23 d r_0 x_1 h1) := (evs_xpd _ tx_M_all [5, 23] 39 _).trans rfl
set_option maxRecDepth 100000 in
theorem e_M_all_23 (d : Nat) (r_0 : Nat) (x_1 : Int32) (h : Hp) : L_M_all_23 d r_0 x_1 h =
    bI (evm d 149 [vR 12 r_0, vI (16 : Int32)] h) fun x2 h1 =>
    bV (evm d 170 [vR 12 r_0, vI x_1] (sI h1 r_0 7 ((hI h1 r_0 7) + (1 : Int32)))) fun h3 =>
    ifp (x2 = 0)
      (bV (evm d 168 [vR 12 r_0, vI (10 : Int32), vI (0 : Int32)] h3) fun h4 =>
      L_M_all_5 d r_0 x_1 h4)
      (bV (evm d 168 [vR 12 r_0, vI (9 : Int32), vI (0 : Int32)] h3) fun h5 =>
      L_M_all_5 d r_0 x_1 h5) := (evs_xpd _ tx_M_all [5, 23] 39 _).trans rfl
set_option maxRecDepth 100000 in
theorem e_M_all (d : Nat) (r_0 : Nat) (x_1 : Int32) (h : Hp) : evm (d + 1) 169 [vR 12 r_0, vI x_1] h =
    bV (evm d 170 [vR 12 r_0, vI x_1] h) fun h1 =>
    L_M_all_5 d r_0 x_1 h1 := (evs_xpd _ tx_M_all [5, 23] 39 _).trans rfl
noncomputable def L_M_test_30 (d : Nat) (r_0 : Nat) (x_1 : Int32) (x_2 : Int32) (h : Hp) : Option Rs := evs (evm d) tx_M_test (30, [some (vR 12 r_0), some (vI x_1), some (vI x_2)], [], h)
set_option maxRecDepth 100000 in
theorem e_M_test_30 (d : Nat) (r_0 : Nat) (x_1 : Int32) (x_2 : Int32) (h : Hp) : L_M_test_30 d r_0 x_1 x_2 h =
    bV (evm d 171 [vR 12 r_0, vI x_1] h) fun h1 =>
    ifp (x_2 = 0)
      (bV (evm d 168 [vR 12 r_0, vI (8 : Int32), vI (0 : Int32)] h1) fun h2 =>
      some (none, h2))
      (bV (evm d 168 [vR 12 r_0, vI (7 : Int32), vI (0 : Int32)] h1) fun h3 =>
      some (none, h3)) := (evs_xpd _ tx_M_test [30] 32 _).trans rfl
set_option maxRecDepth 100000 in
theorem e_M_test (d : Nat) (r_0 : Nat) (x_1 : Int32) (h : Hp) : evm (d + 1) 170 [vR 12 r_0, vI x_1] h =
    bV (evm d 171 [vR 12 r_0, vI x_1] h) fun h1 =>
    bI (evm d 148 [vR 12 r_0, vI (60 : Int32)] h1) fun x3 h2 =>
    bI (evm d 151 [vR 12 r_0, vI (60 : Int32)] h2) fun x5 h4 =>
    ifp (x5 = 0)
      (bI (evm d 151 [vR 12 r_0, vI (61 : Int32)] h4) fun x7 h6 =>
      ifp (x7 = 0)
        (some (none, h6))
        (L_M_test_30 d r_0 x_1 x3 h6))
      (L_M_test_30 d r_0 x_1 x3 h4) := (evs_xpd _ tx_M_test [30] 32 _).trans rfl
noncomputable def L_M_sums_5 (d : Nat) (r_0 : Nat) (x_1 : Int32) (h : Hp) : Option Rs := evs (evm d) tx_M_sums (5, [some (vR 12 r_0), some (vI x_1), none], [], h)
noncomputable def L_M_sums_23 (d : Nat) (r_0 : Nat) (x_1 : Int32) (h : Hp) : Option Rs := evs (evm d) tx_M_sums (23, [some (vR 12 r_0), some (vI x_1), none], [], h)
set_option maxRecDepth 100000 in
theorem e_M_sums_5 (d : Nat) (r_0 : Nat) (x_1 : Int32) (h : Hp) : L_M_sums_5 d r_0 x_1 h =
    bI (evm d 148 [vR 12 r_0, vI (43 : Int32)] h) fun x2 h1 =>
    ifp (x2 = 0)
      (bI (evm d 148 [vR 12 r_0, vI (45 : Int32)] h1) fun x4 h3 =>
      ifp (x4 = 0)
        (some (none, h3))
        (L_M_sums_23 d r_0 x_1 h3))
      (L_M_sums_23 d r_0 x_1 h1) := (evs_xpd _ tx_M_sums [5, 23] 39 _).trans rfl
set_option maxRecDepth 100000 in
theorem e_M_sums_23 (d : Nat) (r_0 : Nat) (x_1 : Int32) (h : Hp) : L_M_sums_23 d r_0 x_1 h =
    bI (evm d 148 [vR 12 r_0, vI (43 : Int32)] h) fun x2 h1 =>
    bV (evm d 172 [vR 12 r_0, vI x_1] (sI h1 r_0 7 ((hI h1 r_0 7) + (1 : Int32)))) fun h3 =>
    ifp (x2 = 0)
      (bV (evm d 168 [vR 12 r_0, vI (5 : Int32), vI (0 : Int32)] h3) fun h4 =>
      L_M_sums_5 d r_0 x_1 h4)
      (bV (evm d 168 [vR 12 r_0, vI (4 : Int32), vI (0 : Int32)] h3) fun h5 =>
      L_M_sums_5 d r_0 x_1 h5) := (evs_xpd _ tx_M_sums [5, 23] 39 _).trans rfl
set_option maxRecDepth 100000 in
theorem e_M_sums (d : Nat) (r_0 : Nat) (x_1 : Int32) (h : Hp) : evm (d + 1) 171 [vR 12 r_0, vI x_1] h =
    bV (evm d 172 [vR 12 r_0, vI x_1] h) fun h1 =>
    L_M_sums_5 d r_0 x_1 h1 := (evs_xpd _ tx_M_sums [5, 23] 39 _).trans rfl
noncomputable def L_M_products_5 (d : Nat) (r_0 : Nat) (x_1 : Int32) (h : Hp) : Option Rs := evs (evm d) tx_M_products (5, [some (vR 12 r_0), some (vI x_1)], [], h)
set_option maxRecDepth 100000 in
theorem e_M_products_5 (d : Nat) (r_0 : Nat) (x_1 : Int32) (h : Hp) : L_M_products_5 d r_0 x_1 h =
    bI (evm d 151 [vR 12 r_0, vI (42 : Int32)] h) fun x2 h1 =>
    ifp (x2 = 0)
      (some (none, h1))
      (bV (evm d 173 [vR 12 r_0, vI x_1] h1) fun h3 =>
      bV (evm d 168 [vR 12 r_0, vI (6 : Int32), vI (0 : Int32)] h3) fun h4 =>
      L_M_products_5 d r_0 x_1 h4) := (evs_xpd _ tx_M_products [5] 21 _).trans rfl
set_option maxRecDepth 100000 in
theorem e_M_products (d : Nat) (r_0 : Nat) (x_1 : Int32) (h : Hp) : evm (d + 1) 172 [vR 12 r_0, vI x_1] h =
    bV (evm d 173 [vR 12 r_0, vI x_1] h) fun h1 =>
    L_M_products_5 d r_0 x_1 h1 := (evs_xpd _ tx_M_products [5] 21 _).trans rfl
noncomputable def L_M_takePart_32 (d : Nat) (r_0 : Nat) (x_1 : Int32) (x_2 : Int32) (x_3 : Int32) (x_4 : Int32) (h : Hp) : Option Rs := evs (evm d) tx_M_takePart (32, [some (vR 12 r_0), some (vI x_1), some (vI x_2), some (vI x_3), some (vI x_4)], [], h)
noncomputable def L_M_takePart_63 (d : Nat) (r_0 : Nat) (x_1 : Int32) (x_2 : Int32) (x_3 : Int32) (h : Hp) : Option Rs := evs (evm d) tx_M_takePart (63, [some (vR 12 r_0), some (vI x_1), some (vI x_2), some (vI x_3), none], [], h)
noncomputable def L_M_takePart_107 (d : Nat) (r_0 : Nat) (x_1 : Int32) (x_2 : Int32) (x_3 : Int32) (h : Hp) : Option Rs := evs (evm d) tx_M_takePart (107, [some (vR 12 r_0), some (vI x_1), some (vI x_2), some (vI x_3), none], [], h)
noncomputable def L_M_takePart_175 (d : Nat) (r_0 : Nat) (x_2 : Int32) (x_3 : Int32) (xs0 : Int32) (rs1 : Nat) (h : Hp) : Option Rs := evs (evm d) tx_M_takePart (175, [some (vR 12 r_0), none, some (vI x_2), some (vI x_3), none], [vI xs0, vR 12 rs1], h)
noncomputable def L_M_takePart_193 (d : Nat) (r_0 : Nat) (xs0 : Int32) (xs1 : Int32) (rs2 : Nat) (h : Hp) : Option Rs := evs (evm d) tx_M_takePart (193, [some (vR 12 r_0), none, none, none, none], [vI xs0, vI xs1, vR 12 rs2], h)
set_option maxRecDepth 100000 in
theorem e_M_takePart_32 (d : Nat) (r_0 : Nat) (x_1 : Int32) (x_2 : Int32) (x_3 : Int32) (x_4 : Int32) (h : Hp) : L_M_takePart_32 d r_0 x_1 x_2 x_3 x_4 h =
    ifp (x_4 < (4 : Int32))
      (bI (evm d 149 [vR 12 r_0, vI ((18 : Int32) + x_4)] h) fun x2 h1 =>
      ifp (x2 = 0)
        (L_M_takePart_32 d r_0 x_1 x_2 x_3 (x_4 + (1 : Int32)) h1)
        (L_M_takePart_32 d r_0 x_1 x_2 x_4 (x_4 + (1 : Int32)) h1))
      (L_M_takePart_63 d r_0 x_1 x_2 x_3 h) := (evs_xpd _ tx_M_takePart [32, 63, 107, 175, 193] 116 _).trans rfl
set_option maxRecDepth 100000 in
theorem e_M_takePart_63 (d : Nat) (r_0 : Nat) (x_1 : Int32) (x_2 : Int32) (x_3 : Int32) (h : Hp) : L_M_takePart_63 d r_0 x_1 x_2 x_3 h =
    ifp (x_3 < 0)
      (ifp (x_2 = 0)
        (bI (evm d 148 [vR 12 r_0, vI (40 : Int32)] h) fun x4 h3 =>
        ifp (x4 = 0)
          (bI (evm d 149 [vR 12 r_0, vI (15 : Int32)] h3) fun x7 h6 =>
          ifp (x7 = 0)
            (bV (evm d 147 [vR 12 r_0, vI (1 : Int32)] h6) fun h9 =>
            L_M_takePart_107 d r_0 x_1 x_2 x_3 h9)
            (ifp (x_1 = (5 : Int32))
              (bV (evm d 147 [vR 12 r_0, vI (5 : Int32)] h6) fun h8 =>
              L_M_takePart_107 d r_0 x_1 x_2 x_3 h8)
              (L_M_takePart_107 d r_0 x_1 x_2 x_3 h6)))
          (ifp (x_1 = (5 : Int32))
            (bV (evm d 147 [vR 12 r_0, vI (5 : Int32)] h3) fun h5 =>
            L_M_takePart_107 d r_0 x_1 x_2 x_3 h5)
            (L_M_takePart_107 d r_0 x_1 x_2 x_3 h3)))
        (ifp (x_1 = (5 : Int32))
          (bV (evm d 147 [vR 12 r_0, vI (5 : Int32)] h) fun h2 =>
          L_M_takePart_107 d r_0 x_1 x_2 x_3 h2)
          (L_M_takePart_107 d r_0 x_1 x_2 x_3 h)))
      (ifp (x_1 = (5 : Int32))
        (bV (evm d 147 [vR 12 r_0, vI (5 : Int32)] h) fun h1 =>
        L_M_takePart_107 d r_0 x_1 x_2 x_3 h1)
        (L_M_takePart_107 d r_0 x_1 x_2 x_3 h)) := (evs_xpd _ tx_M_takePart [32, 63, 107, 175, 193] 116 _).trans rfl
set_option maxRecDepth 100000 in
theorem e_M_takePart_107 (d : Nat) (r_0 : Nat) (x_1 : Int32) (x_2 : Int32) (x_3 : Int32) (h : Hp) : L_M_takePart_107 d r_0 x_1 x_2 x_3 h =
    ifp (0 < (hI h r_0 8))
      (some (none, h))
      (bI (evm d 152 [vR 12 r_0, vI (15 : Int32)] h) fun x2 h1 =>
      ifp (x2 = 0)
        (bI (evm d 151 [vR 12 r_0, vI (40 : Int32)] h1) fun x4 h3 =>
        ifp (x4 = 0)
          (ifp (x_2 = 0)
            (L_M_takePart_175 d r_0 x_2 x_3 (2 : Int32) r_0 h3)
            (L_M_takePart_175 d r_0 x_2 x_3 (1 : Int32) r_0 h3))
          (bV (evm d 169 [vR 12 r_0, vI (x_1 + (1 : Int32))] h3) fun h5 =>
          bV (evm d 150 [vR 12 r_0, vI (41 : Int32)] h5) fun h6 =>
          some (none, h6)))
        (bV (evm d 173 [vR 12 r_0, vI (x_1 + (1 : Int32))] h1) fun h7 =>
        bV (evm d 168 [vR 12 r_0, vI (3 : Int32), vI (0 : Int32)] h7) fun h8 =>
        some (none, h8))) := (evs_xpd _ tx_M_takePart [32, 63, 107, 175, 193] 116 _).trans rfl
set_option maxRecDepth 100000 in
theorem e_M_takePart_175 (d : Nat) (r_0 : Nat) (x_2 : Int32) (x_3 : Int32) (xs0 : Int32) (rs1 : Nat) (h : Hp) : L_M_takePart_175 d r_0 x_2 x_3 xs0 rs1 h =
    ifp (x_2 = 0)
      (L_M_takePart_193 d r_0 x_3 xs0 rs1 h)
      (bR (hR h r_0 6) fun r1 =>
      ifp (inb (hI h r_0 7) (hN h r1) = true) (
      L_M_takePart_193 d r_0 ((hL h r1 (ix (hI h r_0 7))).toInt32) xs0 rs1 h) none) := (evs_xpd _ tx_M_takePart [32, 63, 107, 175, 193] 116 _).trans rfl
set_option maxRecDepth 100000 in
theorem e_M_takePart_193 (d : Nat) (r_0 : Nat) (xs0 : Int32) (xs1 : Int32) (rs2 : Nat) (h : Hp) : L_M_takePart_193 d r_0 xs0 xs1 rs2 h =
    bV (evm d 168 [vR 12 rs2, vI xs1, vI xs0] h) fun h1 =>
    some (none, sI h1 r_0 7 ((hI h1 r_0 7) + (1 : Int32))) := (evs_xpd _ tx_M_takePart [32, 63, 107, 175, 193] 116 _).trans rfl
set_option maxRecDepth 100000 in
theorem e_M_takePart (d : Nat) (r_0 : Nat) (x_1 : Int32) (h : Hp) : evm (d + 1) 173 [vR 12 r_0, vI x_1] h =
    ifp (0 < (hI h r_0 8))
      (some (none, h))
      (bR (hR h r_0 4) fun r1 =>
      ifp (inb (hI h r_0 7) (hN h r1) = true) (
      ifp ((hI h r1 (ix (hI h r_0 7))) = (2 : Int32))
        (L_M_takePart_32 d r_0 x_1 (1 : Int32) (-1 : Int32) (0 : Int32) h)
        (L_M_takePart_32 d r_0 x_1 (0 : Int32) (-1 : Int32) (0 : Int32) h)) none) := (evs_xpd _ tx_M_takePart [32, 63, 107, 175, 193] 116 _).trans rfl
noncomputable def L_M_worthAt_4 (d : Nat) (r_0 : Nat) (x_2 : Int32) (x_3 : Int32) (h : Hp) : Option Rs := evs (evm d) tx_M_worthAt (4, [some (vR 12 r_0), none, some (vI x_2), some (vI x_3), none], [], h)
noncomputable def L_M_worthAt_33 (d : Nat) (r_0 : Nat) (x_2 : Int32) (x_3 : Int32) (x_4 : Int32) (h : Hp) : Option Rs := evs (evm d) tx_M_worthAt (33, [some (vR 12 r_0), none, some (vI x_2), some (vI x_3), some (vI x_4)], [], h)
noncomputable def L_M_worthAt_71 (d : Nat) (r_0 : Nat) (x_2 : Int32) (x_3 : Int32) (x_4 : Int32) (h : Hp) : Option Rs := evs (evm d) tx_M_worthAt (71, [some (vR 12 r_0), none, some (vI x_2), some (vI x_3), some (vI x_4)], [], h)
set_option maxRecDepth 100000 in
theorem e_M_worthAt_4 (d : Nat) (r_0 : Nat) (x_2 : Int32) (x_3 : Int32) (h : Hp) : L_M_worthAt_4 d r_0 x_2 x_3 h =
    bR (hR h r_0 11) fun r1 =>
    ifp (inb x_3 (hN h r1) = true) (
    ifp ((hI h r1 (ix x_3)) = 0)
      (bR (hR h r_0 16) fun r2 =>
      ifp (inb (0 : Int32) (hN h r2) = true) (
      some (some (vI (hI h r2 (ix (0 : Int32)))), h)) none)
      (bR (hR h r_0 11) fun r3 =>
      ifp (inb x_3 (hN h r3) = true) (
      ifp ((hI h r3 (ix x_3)) = (1 : Int32))
        (L_M_worthAt_33 d r_0 x_2 x_3 (hI h r3 (ix x_3)) h)
        (ifp ((hI h r3 (ix x_3)) = (2 : Int32))
          (L_M_worthAt_33 d r_0 x_2 x_3 (hI h r3 (ix x_3)) h)
          (L_M_worthAt_71 d r_0 x_2 x_3 (hI h r3 (ix x_3)) h))) none)) none := (evs_xpd _ tx_M_worthAt [4, 33, 71] 92 _).trans rfl
set_option maxRecDepth 100000 in
theorem e_M_worthAt_33 (d : Nat) (r_0 : Nat) (x_2 : Int32) (x_3 : Int32) (x_4 : Int32) (h : Hp) : L_M_worthAt_33 d r_0 x_2 x_3 x_4 h =
    bR (hR h r_0 16) fun r1 =>
    ifp (x_4 = (1 : Int32))
      (bR (hR h r_0 12) fun r4 =>
      ifp (inb x_3 (hN h r4) = true) (
      ifp (inb x_2 (hN h r1) = true) (
      L_M_worthAt_4 d r_0 (x_2 + (1 : Int32)) (x_3 + (1 : Int32)) (sI h r1 (ix x_2) (hI h r4 (ix x_3)))) none) none)
      (bR (hR h r_0 15) fun r2 =>
      bR (hR h r_0 12) fun r3 =>
      ifp (inb x_3 (hN h r3) = true) (
      ifp (inb (hI h r3 (ix x_3)) (hN h r2) = true) (
      ifp (inb x_2 (hN h r1) = true) (
      L_M_worthAt_4 d r_0 (x_2 + (1 : Int32)) (x_3 + (1 : Int32)) (sI h r1 (ix x_2) (hI h r2 (ix (hI h r3 (ix x_3)))))) none) none) none) := (evs_xpd _ tx_M_worthAt [4, 33, 71] 92 _).trans rfl
set_option maxRecDepth 100000 in
theorem e_M_worthAt_71 (d : Nat) (r_0 : Nat) (x_2 : Int32) (x_3 : Int32) (x_4 : Int32) (h : Hp) : L_M_worthAt_71 d r_0 x_2 x_3 x_4 h =
    ifp (x_4 = (3 : Int32))
      (bR (hR h r_0 16) fun r6 =>
      bR (hR h r_0 16) fun r7 =>
      ifp (inb (x_2 - (1 : Int32)) (hN h r7) = true) (
      ifp ((hI h r7 (ix (x_2 - (1 : Int32)))) = 0)
        (ifp (inb (x_2 - (1 : Int32)) (hN h r6) = true) (
        L_M_worthAt_4 d r_0 x_2 (x_3 + (1 : Int32)) (sI h r6 (ix (x_2 - (1 : Int32))) (1 : Int32))) none)
        (ifp (inb (x_2 - (1 : Int32)) (hN h r6) = true) (
        L_M_worthAt_4 d r_0 x_2 (x_3 + (1 : Int32)) (sI h r6 (ix (x_2 - (1 : Int32))) (0 : Int32))) none)) none)
      (bR (hR h r_0 16) fun r1 =>
      bR (hR h r_0 16) fun r2 =>
      ifp (inb ((x_2 + (-1 : Int32)) - (1 : Int32)) (hN h r2) = true) (
      bR (hR h r_0 16) fun r3 =>
      ifp (inb (x_2 + (-1 : Int32)) (hN h r3) = true) (
      bI (evm d 175 [vI x_4, vI (hI h r2 (ix ((x_2 + (-1 : Int32)) - (1 : Int32)))), vI (hI h r3 (ix (x_2 + (-1 : Int32))))] h) fun x5 h4 =>
      ifp (inb ((x_2 + (-1 : Int32)) - (1 : Int32)) (hN h4 r1) = true) (
      L_M_worthAt_4 d r_0 (x_2 + (-1 : Int32)) (x_3 + (1 : Int32)) (sI h4 r1 (ix ((x_2 + (-1 : Int32)) - (1 : Int32))) x5)) none) none) none) := (evs_xpd _ tx_M_worthAt [4, 33, 71] 92 _).trans rfl
set_option maxRecDepth 100000 in
theorem e_M_worthAt (d : Nat) (r_0 : Nat) (x_1 : Int32) (h : Hp) : evm (d + 1) 174 [vR 12 r_0, vI x_1] h =
    L_M_worthAt_4 d r_0 (0 : Int32) x_1 h := (evs_xpd _ tx_M_worthAt [4, 33, 71] 92 _).trans rfl
noncomputable def L_M_both_74 (d : Nat) (x_1 : Int32) (x_2 : Int32) (h : Hp) : Option Rs := evs (evm d) tx_M_both (74, [none, some (vI x_1), some (vI x_2)], [], h)
noncomputable def L_M_both_88 (d : Nat) (x_1 : Int32) (x_2 : Int32) (h : Hp) : Option Rs := evs (evm d) tx_M_both (88, [none, some (vI x_1), some (vI x_2)], [], h)
set_option maxRecDepth 100000 in
theorem e_M_both_74 (d : Nat) (x_1 : Int32) (x_2 : Int32) (h : Hp) : L_M_both_74 d x_1 x_2 h =
    ifp (x_1 = 0)
      (some (some (vI (0 : Int32)), h))
      (ifp (x_2 = 0)
        (some (some (vI (0 : Int32)), h))
        (some (some (vI (1 : Int32)), h))) := (evs_xpd _ tx_M_both [74, 88] 49 _).trans rfl
set_option maxRecDepth 100000 in
theorem e_M_both_88 (d : Nat) (x_1 : Int32) (x_2 : Int32) (h : Hp) : L_M_both_88 d x_1 x_2 h =
    ifp (x_1 = 0)
      (ifp (x_2 = 0)
        (some (some (vI (0 : Int32)), h))
        (some (some (vI (1 : Int32)), h)))
      (some (some (vI (1 : Int32)), h)) := (evs_xpd _ tx_M_both [74, 88] 49 _).trans rfl
set_option maxRecDepth 100000 in
theorem e_M_both (d : Nat) (x_0 : Int32) (x_1 : Int32) (x_2 : Int32) (h : Hp) : evm (d + 1) 175 [vI x_0, vI x_1, vI x_2] h =
    ifp (x_0 = (4 : Int32))
      (some (some (vI (x_1 + x_2)), h))
      (ifp (x_0 = ((4 : Int32) + 1))
      (some (some (vI (x_1 - x_2)), h))
      (ifp (x_0 = (((4 : Int32) + 1) + 1))
      (some (some (vI (x_1 * x_2)), h))
      (ifp (x_0 = ((((4 : Int32) + 1) + 1) + 1))
      (ifp (x_1 < x_2)
        (some (some (vI (1 : Int32)), h))
        (some (some (vI (0 : Int32)), h)))
      (ifp (x_0 = (((((4 : Int32) + 1) + 1) + 1) + 1))
      (ifp (x_1 = x_2)
        (some (some (vI (1 : Int32)), h))
        (some (some (vI (0 : Int32)), h)))
      (ifp (x_0 = ((((((4 : Int32) + 1) + 1) + 1) + 1) + 1))
      (L_M_both_74 d x_1 x_2 h)
      (
      L_M_both_88 d x_1 x_2 h)))))) := (evs_xpd _ tx_M_both [74, 88] 49 _).trans rfl
set_option maxRecDepth 100000 in
theorem e_M_steps (d : Nat) (r_0 : Nat) (h : Hp) : evm (d + 1) 176 [vR 12 r_0] h =
    bR (hR h r_0 10) fun r1 =>
    ifp (inb (0 : Int32) (hN h r1) = true) (
    some (some (vI (hI h r1 (ix (0 : Int32)))), h)) none := (evs_xpd _ tx_M_steps [] 10 _).trans rfl
set_option maxRecDepth 100000 in
theorem e_M_strides (d : Nat) (r_0 : Nat) (h : Hp) : evm (d + 1) 177 [vR 12 r_0] h =
    bR (hR h r_0 10) fun r1 =>
    ifp (inb (8 : Int32) (hN h r1) = true) (
    some (some (vI (hI h r1 (ix (8 : Int32)))), h)) none := (evs_xpd _ tx_M_strides [] 10 _).trans rfl
set_option maxRecDepth 100000 in
theorem e_M_strideOf (d : Nat) (r_0 : Nat) (x_1 : Int32) (h : Hp) : evm (d + 1) 178 [vR 12 r_0, vI x_1] h =
    bR (hR h r_0 10) fun r1 =>
    ifp (inb ((9 : Int32) + x_1) (hN h r1) = true) (
    some (some (vI (hI h r1 (ix ((9 : Int32) + x_1)))), h)) none := (evs_xpd _ tx_M_strideOf [] 12 _).trans rfl
set_option maxRecDepth 100000 in
theorem e_M_kindOf (d : Nat) (r_0 : Nat) (x_1 : Int32) (h : Hp) : evm (d + 1) 179 [vR 12 r_0, vI x_1] h =
    bR (hR h r_0 10) fun r1 =>
    ifp (inb ((26 : Int32) + x_1) (hN h r1) = true) (
    some (some (vI (hI h r1 (ix ((26 : Int32) + x_1)))), h)) none := (evs_xpd _ tx_M_kindOf [] 12 _).trans rfl
set_option maxRecDepth 100000 in
theorem e_M_takenMany (d : Nat) (r_0 : Nat) (h : Hp) : evm (d + 1) 180 [vR 12 r_0] h =
    bR (hR h r_0 17) fun r1 =>
    ifp (inb (0 : Int32) (hN h r1) = true) (
    some (some (vI (hI h r1 (ix (0 : Int32)))), h)) none := (evs_xpd _ tx_M_takenMany [] 10 _).trans rfl
noncomputable def L_M_indexOf_4 (d : Nat) (r_0 : Nat) (x_1 : Int32) (x_2 : Int32) (x_3 : Int32) (h : Hp) : Option Rs := evs (evm d) tx_M_indexOf (4, [some (vR 12 r_0), some (vI x_1), some (vI x_2), some (vI x_3)], [], h)
set_option maxRecDepth 100000 in
theorem e_M_indexOf_4 (d : Nat) (r_0 : Nat) (x_1 : Int32) (x_2 : Int32) (x_3 : Int32) (h : Hp) : L_M_indexOf_4 d r_0 x_1 x_2 x_3 h =
    bI (evm d 177 [vR 12 r_0] h) fun x2 h1 =>
    ifp (x_3 < x2)
      (bI (evm d 178 [vR 12 r_0, vI x_3] h1) fun x4 h3 =>
      ifp (x4 = x_1)
        (L_M_indexOf_4 d r_0 x_1 x_3 (x_3 + (1 : Int32)) h3)
        (L_M_indexOf_4 d r_0 x_1 x_2 (x_3 + (1 : Int32)) h3))
      (some (some (vI x_2), h1)) := (evs_xpd _ tx_M_indexOf [4] 26 _).trans rfl
set_option maxRecDepth 100000 in
theorem e_M_indexOf (d : Nat) (r_0 : Nat) (x_1 : Int32) (h : Hp) : evm (d + 1) 181 [vR 12 r_0, vI x_1] h =
    L_M_indexOf_4 d r_0 x_1 (-1 : Int32) (0 : Int32) h := (evs_xpd _ tx_M_indexOf [4] 26 _).trans rfl
set_option maxRecDepth 100000 in
theorem e_M_isGreat (d : Nat) (r_0 : Nat) (x_1 : Int32) (h : Hp) : evm (d + 1) 182 [vR 12 r_0, vI x_1] h =
    bR (hR h r_0 10) fun r1 =>
    ifp (inb (5 : Int32) (hN h r1) = true) (
    ifp ((hI h r1 (ix (5 : Int32))) < 0)
      (some (some (vI (0 : Int32)), h))
      (bR (hR h r_0 10) fun r2 =>
      ifp (inb (5 : Int32) (hN h r2) = true) (
      ifp (x_1 < (hI h r2 (ix (5 : Int32))))
        (some (some (vI (0 : Int32)), h))
        (some (some (vI (1 : Int32)), h))) none)) none := (evs_xpd _ tx_M_isGreat [] 20 _).trans rfl
noncomputable def L_M_findNow_22 (d : Nat) (r_0 : Nat) (x_1 : Int32) (h : Hp) : Option Rs := evs (evm d) tx_M_findNow (22, [some (vR 12 r_0), some (vI x_1), none], [], h)
noncomputable def L_M_findNow_82 (d : Nat) (r_0 : Nat) (x_1 : Int32) (x_2 : Int32) (xs0 : Int32) (xs1 : Int32) (rs2 : Nat) (h : Hp) : Option Rs := evs (evm d) tx_M_findNow (82, [some (vR 12 r_0), some (vI x_1), some (vI x_2)], [vI xs0, vI xs1, vR 12 rs2], h)
set_option maxRecDepth 100000 in
theorem e_M_findNow_22 (d : Nat) (r_0 : Nat) (x_1 : Int32) (h : Hp) : L_M_findNow_22 d r_0 x_1 h =
    bI (evm d 180 [vR 12 r_0] h) fun x2 h1 =>
    ifp (x_1 < x2)
      (bR (hR h1 r_0 17) fun r3 =>
      ifp (inb ((1 : Int32) + x_1) (hN h1 r3) = true) (
      bI (evm d 181 [vR 12 r_0, vI (hI h1 r3 (ix ((1 : Int32) + x_1)))] (sI h1 r_0 19 ((hI h1 r_0 19) + (hI h1 r3 (ix ((1 : Int32) + x_1)))))) fun x5 h4 =>
      bI (evm d 179 [vR 12 r_0, vI (hI (sI h4 r_0 20 ((1 : Int32) + x5)) r_0 19)] (sI h4 r_0 20 ((1 : Int32) + x5))) fun x7 h6 =>
      ifp (x7 = (2 : Int32))
        (L_M_findNow_82 d r_0 x_1 (hI h1 r3 (ix ((1 : Int32) + x_1))) (1 : Int32) (hI (sI h4 r_0 20 ((1 : Int32) + x5)) r_0 21) r_0 h6)
        (L_M_findNow_82 d r_0 x_1 (hI h1 r3 (ix ((1 : Int32) + x_1))) (0 : Int32) (hI (sI h4 r_0 20 ((1 : Int32) + x5)) r_0 21) r_0 h6)) none)
      (some (none, h1)) := (evs_xpd _ tx_M_findNow [22, 82] 72 _).trans rfl
set_option maxRecDepth 100000 in
theorem e_M_findNow_82 (d : Nat) (r_0 : Nat) (x_1 : Int32) (x_2 : Int32) (xs0 : Int32) (xs1 : Int32) (rs2 : Nat) (h : Hp) : L_M_findNow_82 d r_0 x_1 x_2 xs0 xs1 rs2 h =
    bI (evm d 182 [vR 12 r_0, vI x_2] (sI h rs2 21 (xs1 + xs0))) fun x2 h1 =>
    ifp (x2 = 0)
      (L_M_findNow_22 d r_0 (x_1 + (1 : Int32)) (sI h1 r_0 22 ((hI (sI h rs2 21 (xs1 + xs0)) r_0 22) + (0 : Int32))))
      (L_M_findNow_22 d r_0 (x_1 + (1 : Int32)) (sI h1 r_0 22 ((hI (sI h rs2 21 (xs1 + xs0)) r_0 22) + (1 : Int32)))) := (evs_xpd _ tx_M_findNow [22, 82] 72 _).trans rfl
set_option maxRecDepth 100000 in
theorem e_M_findNow (d : Nat) (r_0 : Nat) (h : Hp) : evm (d + 1) 183 [vR 12 r_0] h =
    L_M_findNow_22 d r_0 (0 : Int32) (sI (sI (sI (sI h r_0 19 (0 : Int32)) r_0 20 (0 : Int32)) r_0 21 (0 : Int32)) r_0 22 (0 : Int32)) := (evs_xpd _ tx_M_findNow [22, 82] 72 _).trans rfl
set_option maxRecDepth 100000 in
theorem e_M_placeOf (d : Nat) (x_0 : Int32) (x_1 : Int32) (x_2 : Int32) (x_3 : Int32) (x_4 : Int32) (h : Hp) : evm (d + 1) 184 [vI x_0, vI x_1, vI x_2, vI x_3, vI x_4] h =
    some (some (vI ((((((((x_0 * (7 : Int32)) + x_1) * (5 : Int32)) + x_2) * (5 : Int32)) + x_3) * (41 : Int32)) + x_4)), h) := (evs_xpd _ tx_M_placeOf [] 23 _).trans rfl
set_option maxRecDepth 100000 in
theorem e_M_creakOf (d : Nat) (r_0 : Nat) (x_1 : Int32) (h : Hp) : evm (d + 1) 185 [vR 12 r_0, vI x_1] h =
    bR (hR h r_0 10) fun r1 =>
    ifp (inb (1 : Int32) (hN h r1) = true) (
    ifp ((hI h r1 (ix (1 : Int32))) < 0)
      (some (some (vI (0 : Int32)), h))
      (some (some (vI x_1), h))) none := (evs_xpd _ tx_M_creakOf [] 14 _).trans rfl
