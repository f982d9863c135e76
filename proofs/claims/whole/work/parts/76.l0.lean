/-! the class: draws, picks, copies, ways ahead -/
theorem x_draw (d : Nat) {h : Hp} {g m : Int} (hg : hL h 0 13 = jZ g) (gb : 0 ≤ g ∧ g < 2147483648) (mb : 1 ≤ m ∧ m ≤ 1000000) : evm (d + 1) 132 [vR 11 0, vI (iZ m)] h = some (some (vI (iZ (nG g / 65536 % m))), sL h 0 13 (jZ (nG g))) := by
  have nb := nG_b g
  have e1 : (iZ m).toInt64 = jZ m := iz_l (by omega)
  obtain ⟨n, hn⟩ : ∃ n : Nat, g * 1103515245 + 12345 = (n : Int) := ⟨(g * 1103515245 + 12345).toNat, by omega⟩
  have e0 : (jZ g * jZ 1103515245 + jZ 12345) &&& jZ 2147483647 = jZ (nG g) := by
    rw [jz_mul, jz_add, hn, show (2147483647 : Int) = ((2 ^ 31 - 1 : Nat) : Int) from rfl, w_and, Nat.and_two_pow_sub_one_eq_mod]
    refine congrArg jZ ?_
    unfold nG
    rw [hn]
    omega
  rw [e_X_drawBelow, hg, e1]
  simp only [lit32, litJ]
  rw [e0]
  have e2 : hL (sL h 0 13 (jZ (nG g))) 0 13 = jZ (nG g) := by rw [sL_w, wL_L, up_e]
  have eb : 0 ≤ nG g / 65536 % m ∧ nG g / 65536 % m < m := ⟨Int.emod_nonneg _ (by omega), Int.emod_lt_of_pos _ (by omega)⟩
  rw [ifp_t ((iz_lt (by omega)).mpr (by omega)), ifp_f (show ¬ jZ 65536 = jZ 0 from fun y => by have := (jz_eq (by omega)).mp y; omega), ifp_f (show ¬ jZ m = jZ 0 from fun y => by have := (jz_eq (by omega)).mp y; omega), e2, jz_div (by omega), lrem_jz (by omega), jz_n (by omega)]
theorem x_weigh (d : Nat) {h : Hp} (X : SX h) {o : Nat} (t : TO o) (ho : hR h 0 11 = some o) {q : Int → Int} (R : SR h o q) (V : VS q) {w : Int → Int} (hw : ∀ k : Int, 0 ≤ k → k < q 8 → hI h 47 k.toNat = iZ (w k) ∧ 0 ≤ w k ∧ w k ≤ 100) {x : Int} (h0 : 0 ≤ x) (h1 : x < sZ w (q 8)) : evm (d + 1) 133 [vR 11 0, vI (iZ x)] h = some (some (vI (iZ (q (9 + xpk w (q 8) x)))), h) := by
  have vn := V.n
  have sb : ∀ k, 0 ≤ k → k ≤ q 8 → 0 ≤ sZ w k ∧ sZ w k ≤ 100 * k := by
    refine upZ ?_ (fun k hk ih hb => ?_)
    · intro _; rw [sZ_0 _ (Int.le_refl 0)]; omega
    · rw [sZ_s _ hk]
      have := ih (by omega)
      have := hw k hk (by omega)
      omega
  have loop : ∀ k : Int, (0 ≤ k ∧ k ≤ q 8) → sZ w k ≤ x → L_X_strideWeighing_4 d 0 (iZ x) (iZ (sZ w k)) (iZ k) h = some (some (vI (iZ (q (9 + xpk w (q 8) x)))), h) := by
    refine lpZ (q 8) (fun k hk hkb hx => ?_) (fun k hk ih hkb hx => ?_)
    · rw [show k = q 8 by omega] at hx; omega
    · have wk := hw k hkb.1 hk
      have s1 := sb k hkb.1 (by omega)
      have s2 := sZ_s w hkb.1
      rw [e_X_strideWeighing_4]
      have b8 := sb (q 8) (by omega) (by omega)
      simp (disch := omega) only [lit32, litJ, iz_add, iz_sub, iz_mul, iz_neg, nI_iz, ix_iz, inb_iz, ifp_t, ifp_f, ifp_T, ifp_F, iz_eq, iz_lt, bI_s, bL_s, bV_s, bR_s, ho, R.n, X.r 0 10 47, X.n 47 6, wk.1, X.o0 t, X.n1 t, R.str hkb.1 hk]
      by_cases c : x < sZ w k + w k
      · rw [ifp_t c, xpk_e (k := k) (fun k k1 k2 => (hw k k1 k2).2.1) ⟨hkb.1, hk, hx, by omega⟩]
      · rw [ifp_f c, ← s2]
        exact ih (by omega) (by omega)
  have := loop 0 (by omega) (by rw [sZ_0 _ (Int.le_refl 0)]; exact h0)
  rw [sZ_0 _ (Int.le_refl 0)] at this
  rw [e_X_strideWeighing]
  simp only [lit32]
  exact this
/-- one row's first cells out of another -/
def cpy (n : Nat) (f g : Nat → Int32) : Nat → Int32 := fun j => if j < n then f j else g j
theorem sCp_w {h : Hp} {a b n : Nat} : sCp h a 0 b 0 n = wI h b (cpy n (hI h a) (hI h b)) := by
  unfold sCp wI cpy
  refine Prod.ext ?_ rfl
  funext r k
  dsimp only
  by_cases e : r = b
  · subst e
    rw [if_pos rfl]
    by_cases k1 : k < n
    · rw [if_pos k1, if_pos ⟨rfl, by omega⟩, Nat.zero_add, Nat.sub_zero]; rfl
    · rw [if_neg k1, if_neg (by omega)]; rfl
  · rw [if_neg e, if_neg (fun y => e y.1)]
theorem x_follow (d : Nat) {h : Hp} {c c' : Nat} (hcc : c ≠ c' ∧ c + 1 ≠ c' ∧ c' + 1 ≠ c ∧ c' + 1 ≠ c + 1) (c0 : hR h c 0 = some (c + 1)) (c1 : hN h (c + 1) = 40) (d0 : hR h c' 0 = some (c' + 1)) (d1 : hN h (c' + 1) = 40) {s b la cr g s' b' la' cr' g' : Int} {S : Nat → Int32} (hc' : hI h c' = cFw s' b' la' cr' g') : evm (d + 2) 3 [vR 0 c, vR 0 c'] (CH h c s b la cr g S) = some (none, CH h c s' b' la' cr' g' (cpy 40 (hI h (c' + 1)) S)) := by
  have e : hI (CH h c s b la cr g S) c' = cFw s' b' la' cr' g' := by rw [CH_n (by omega)]; exact hc'
  rw [e_Climber_follow, e, cFw_1, cFw_2, cFw_3, cFw_4, cFw_5, x_put, bV_s]
  simp only [CH_R, CH_N, c0, d0, bR_s, c1, d1]
  rw [ifp_t (by decide), show ix (0 : Int32) = 0 from rfl, show ix (nI 40) = 40 from rfl, sCp_w, CH_S, CH_n (by omega)]
  unfold CH
  rw [wI_wI]
theorem x_ahead {h : Hp} (X : SX h) {o : Nat} (t : TO o) {q v : Int → Int} (R : SR h o q) (V : VS q) {pu le : Int} (W : WB h q v False pu le (q 4)) {e : Int → Prop} {A : Nat} {pm fm : Prop} (F : ∀ m : Nat, FrP h o q v False e pm fm A m) (d : Nat) {s l cr g b k0 : Int} {S : Nat → Int32} {T : Nat → Int64} (n : Nr q s l (crC q cr) g b) (hcr : 0 ≤ cr ∧ cr ≤ b) (hS : 0 < b → S (b - 1).toNat = iZ (stv q l)) (hl : b = 0 → l = 0) (M : Mem q pm fm (Wy q v False e) T) (hk : 0 ≤ k0 ∧ k0 < q 8) :
    ∃ T' S', evm (d + 87) 92 [vR 10 8, vR 5 o, vR 0 6, vI (iZ (q (9 + k0)))] (CH (wL h A T) 6 s b (stv q l) cr g S) = some (some (vL (jZ (sZ (Wk q v False e s l (crC q cr) g b) k0))), CH (wL h A T') 6 s b (stv q l) cr g S') ∧ Mem q pm fm (Wy q v False e) T' ∧ ∀ j, j < b.toNat → S' j = S j := by
  have vn := V.n
  have v1 := V.top
  have n0 := n.1.1
  have RX : ∀ {T S}, SR (CH (wL h A T) 6 s b (stv q l) cr g S) o q := fun {T S} => SR.ch (h := wL h A T) R t (by decide)
  have XX : ∀ {T S}, SX (CH (wL h A T) 6 s b (stv q l) cr g S) := fun {_ _} => X
  have wk : ∀ k, pif (May q v False s l (crC q cr) g b k ∧ b < q 4) (Wy q v False e (s + q (9 + k)) (k + 1) (nxC q s (crC q cr) k) (nxG q g k) (b + 1)) 0 = Wk q v False e s l (crC q cr) g b k := fun k => by
    unfold Wk
    exact pif_i ⟨fun y => y.1, fun y => ⟨y, by have := y.2.2.2.2.1; omega⟩⟩
  have s0 := V.str hk.1 hk.2
  have loop : ∀ k : Int, (0 ≤ k ∧ k ≤ k0) → ∀ (T : Nat → Int64) (S : Nat → Int32), (0 < b → S (b - 1).toNat = iZ (stv q l)) → Mem q pm fm (Wy q v False e) T → ∃ T' S', L_Ways_ahead_6 (d + 86) 8 o 6 (iZ (q (9 + k0))) (jZ (sZ (Wk q v False e s l (crC q cr) g b) k)) (iZ k) (CH (wL h A T) 6 s b (stv q l) cr g S) = some (some (vL (jZ (sZ (Wk q v False e s l (crC q cr) g b) k0))), CH (wL h A T') 6 s b (stv q l) cr g S') ∧ Mem q pm fm (Wy q v False e) T' ∧ ∀ j, j < b.toNat → S' j = S j := by
    refine lpZ k0 (fun k hk' hkb T S hS M => ?_) (fun k hk' ih hkb T S hS M => ?_)
    · have ek : k = k0 := by omega
      refine ⟨T, S, ?_, M, fun _ _ => rfl⟩
      rw [ek, e_Ways_ahead_6, RX.n]
      simp (disch := omega) only [lit32, litJ, iz_add, iz_sub, iz_mul, iz_neg, nI_iz, ix_iz, inb_iz, ifp_t, ifp_f, ifp_T, ifp_F, iz_eq, iz_lt, bI_s, bL_s, bV_s, bR_s, XX.o0 t, XX.n1 t, RX.str hk.1 hk.2]
    · have st := V.str hkb.1 (show k < q 8 by omega)
      have inc := V.inc hkb.1 hk' hk.2
      obtain ⟨T1, S1, g1, g2, g3⟩ := x_behind X t R V W (F 40) d (dp := 0) (k := k) (by omega) n hcr (by omega) hS hl M (by omega)
      rw [wk k, show 2 * 40 + d + 6 = d + 86 by omega] at g1
      obtain ⟨T', S', i1, i2, i3⟩ := ih (by omega) T1 S1 (fun y => by rw [g3 _ (by omega)]; exact hS y) g2
      refine ⟨T', S', ?_, i2, fun j hj => by rw [i3 j hj, g3 j hj]⟩
      rw [← i1, e_Ways_ahead_6, RX.n]
      simp (disch := omega) only [lit32, litJ, iz_add, iz_sub, iz_mul, iz_neg, nI_iz, ix_iz, inb_iz, ifp_t, ifp_f, ifp_T, ifp_F, iz_eq, iz_lt, bI_s, bL_s, bV_s, bR_s, XX.o0 t, XX.n1 t, RX.str hkb.1 (show k < q 8 by omega), g1, jz_add]
      rw [sZ_s _ hkb.1]
  obtain ⟨T', S', g1, g2, g3⟩ := loop 0 (by omega) T S hS M
  refine ⟨T', S', ?_, g2, g3⟩
  rw [sZ_0 _ (Int.le_refl 0)] at g1
  rw [show d + 87 = (d + 86) + 1 from rfl, e_Ways_ahead]
  simp only [lit32, litJ]
  exact g1
