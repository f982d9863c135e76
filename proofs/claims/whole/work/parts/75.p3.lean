/-! plain, the class's side: squares and the rest -/
def RwR (L : Nat → Int64) (od N : Int) (p : Int → Int) : Prop := ∀ i : Int, 0 ≤ i → i < od → L i.toNat = jZ (p i) ∧ 0 ≤ p i ∧ p i < N
theorem x_sq (d : Nat) {h : Hp} (X : SX h) {o : Nat} (t : TO o) {q : Int → Int} (R : SR h o q) (V : VS q) {N : Int} (hN' : 1 ≤ N ∧ N ≤ 9999) {od : Int} (hod : od = q (9 + (q 8 - 1))) {p : Int → Int} (HP : RwR (hL h 27) od N p) {n s : Int} (hn : 0 ≤ n) (hs : 0 ≤ s ∧ s ≤ 1) (RP : RpP q N od p n) :
    ∃ W P p', evm (d + 2) 23 [vR 4 25, vR 5 o, vI (iZ N), vI (iZ s)] h = some (none, wL (wL h 28 W) 27 P) ∧ RwR P od N p' ∧ RpP q N od p' (2 * n + s) := by
  have vn := V.n
  have ob := V.str (k := q 8 - 1) (by omega) (by omega)
  rw [← hod] at ob
  have sto : ∀ k, 0 ≤ k → k < q 8 → 1 ≤ q (9 + k) ∧ q (9 + k) ≤ od := by
    intro k k1 k2
    have a := V.str k1 k2
    by_cases e : k = q 8 - 1
    · rw [e, ← hod]; omega
    · have := V.inc k1 (show k < q 8 - 1 by omega) (by omega)
      rw [← hod] at this
      omega
  have XX : ∀ {L}, SX (wL h 28 L) := fun {_} => X
  have RX : ∀ {L}, SR (wL h 28 L) o q := fun {_} => R
  have l27 : ∀ {L}, hL (wL h 28 L) 27 = hL h 27 := fun {L} => wL_n h L (by decide)
  have eN : (iZ N).toInt64 = jZ N := iz_l (by omega)
  have eN0 : ¬ jZ N = jZ 0 := fun y => by have := (jz_eq (by omega)).mp y; omega
  have mb : ∀ z : Int, 0 ≤ z % N ∧ z % N < N := fun z => ⟨Int.emod_nonneg _ (by omega), Int.emod_lt_of_pos _ (by omega)⟩
  obtain ⟨Fn, hFn⟩ : ∃ Fn : Option Rs → Prop, ∀ v, Fn v ↔ ∃ W P p', v = some (none, wL (wL h 28 W) 27 P) ∧ RwR P od N p' ∧ RpP q N od p' (2 * n + s) := ⟨_, fun _ => Iff.rfl⟩
  -- the end
  have l191 : ∀ i : Int, (0 ≤ i ∧ i ≤ od) → ∀ (W P : Nat → Int64) (w : Int → Int), (∀ u : Int, 0 ≤ u → u < 24 → W u.toNat = jZ (w u) ∧ 0 ≤ w u ∧ w u ≤ 20000000000) → (∀ m, 0 ≤ m → Cgr N (sZ (fun u => w u * Anq q (m + u)) od) (Anq q (m + (2 * n + s)))) → (∀ u : Int, 0 ≤ u → u < i → P u.toNat = jZ (w u % N)) → Fn (L_Rests_square_191 (d + 1) 25 (iZ N) (iZ od) (iZ i) (wL (wL h 28 W) 27 P)) := by
    refine lpZ od (fun i hi hib W P w HW HC H => ?_) (fun i hi ih hib W P w HW HC H => ?_)
    · rw [e_Rests_square_191]
      simp (disch := omega) only [lit32, litJ, iz_add, iz_sub, iz_mul, iz_neg, nI_iz, ix_iz, inb_iz, ifp_t, ifp_f, ifp_T, ifp_F, iz_eq, iz_lt, bI_s, bL_s, bV_s, bR_s]
      refine (hFn _).mpr ⟨W, P, fun u => w u % N, rfl, fun u u1 u2 => ⟨H u u1 (by omega), mb _⟩, fun m hm => ?_⟩
      exact (Cgr.su (fun u _ _ => (Cgr.md _ _).mu (Cgr.rf _ _))).tr (HC m hm)
    · have X2 : SX (wL (wL h 28 W) 27 P) := X
      have l28 : hL (wL (wL h 28 W) 27 P) 28 = W := by rw [wL_n _ _ (by decide), wL_L]
      have hw := HW i (by omega) (by omega)
      rw [e_Rests_square_191]
      simp (disch := omega) only [lit32, litJ, iz_add, iz_sub, iz_mul, iz_neg, nI_iz, ix_iz, inb_iz, ifp_t, ifp_f, ifp_T, ifp_F, iz_eq, iz_lt, bI_s, bL_s, bV_s, bR_s, X2.r 25 1 27, X2.r 25 2 28, X2.n 27 12, X2.n 28 24, l28, hw.1, eN, lrem_jz, sL_wL]
      refine ih (by omega) W _ w HW HC (fun u u1 u2 => ?_)
      by_cases e : u = i
      · rw [e, up_e]
      · rw [up_n _ _ (by omega)]; exact H u u1 (by omega)
  -- from the top down
  have l125 : ∀ j : Int, 0 ≤ j → j ≤ od → ∀ (W : Nat → Int64) (w : Int → Int), (∀ u : Int, 0 ≤ u → u < 24 → W u.toNat = jZ (w u) ∧ 0 ≤ w u ∧ w u ≤ 15000000000 + (12 - j) * 100000) → (∀ m, 0 ≤ m → Cgr N (sZ (fun u => w u * Anq q (m + u)) (od + j)) (Anq q (m + (2 * n + s)))) → Fn (L_Rests_square_125 (d + 1) 25 o (iZ N) (iZ od) (iZ (od + j - 1)) (wL h 28 W)) := by
    refine upZ ?_ (fun j hj ih hjb W w HW HC => ?_)
    · intro _ W w HW HC
      rw [e_Rests_square_125]
      simp (disch := omega) only [lit32, litJ, iz_add, iz_sub, iz_mul, iz_neg, nI_iz, ix_iz, inb_iz, ifp_t, ifp_f, ifp_T, ifp_F, iz_eq, iz_lt, bI_s, bL_s, bV_s, bR_s]
      have := l191 0 (by omega) W (hL h 27) w (fun u u1 u2 => by have := HW u u1 u2; exact ⟨this.1, this.2.1, by omega⟩) (fun m hm => by have := HC m hm; rw [Int.add_zero] at this; exact this) (fun u u1 u2 => by omega)
      have e0 : wL (wL h 28 W) 27 (hL h 27) = wL h 28 W := by
        have := wL_self (wL h 28 W) 27
        rw [l27] at this
        exact this
      rw [e0] at this
      exact this
    · have hw := HW (od + j) (by omega) (by omega)
      obtain ⟨ov, hov⟩ : ∃ ov, ov = w (od + j) % N := ⟨_, rfl⟩
      have ovb := mb (w (od + j))
      rw [← hov] at ovb
      have l147 : ∀ k : Int, (0 ≤ k ∧ k ≤ q 8) → ∀ (W : Nat → Int64) (w' : Int → Int), (∀ u : Int, 0 ≤ u → u < 24 → W u.toNat = jZ (w' u) ∧ 0 ≤ w' u ∧ w' u ≤ 15000000000 + (12 - (j + 1)) * 100000 + k * 10000) → (∀ m, 0 ≤ m → sZ (fun u => w' u * Anq q (m + u)) (od + j) = sZ (fun u => w u * Anq q (m + u)) (od + j) + ov * sZ (fun k => Anq q (m + (od + j) - q (9 + k))) k) → Fn (L_Rests_square_147 (d + 1) 25 o (iZ N) (iZ od) (iZ (od + j)) (jZ ov) (iZ k) (wL h 28 W)) := by
        refine lpZ (q 8) (fun k hk hkb W w' HW' HS => ?_) (fun k hk ihk hkb W w' HW' HS => ?_)
        · have ek : k = q 8 := by omega
          rw [ek] at HS
          rw [e_Rests_square_147, RX.n, ek]
          simp (disch := omega) only [lit32, litJ, iz_add, iz_sub, iz_mul, iz_neg, nI_iz, ix_iz, inb_iz, ifp_t, ifp_f, ifp_T, ifp_F, iz_eq, iz_lt, bI_s, bL_s, bV_s, bR_s]
          rw [show od + j + -1 = od + j - 1 by omega]
          refine ih (by omega) W w' (fun u u1 u2 => by have := HW' u u1 u2; exact ⟨this.1, this.2.1, by omega⟩) (fun m hm => ?_)
          rw [HS m hm, ← Anq_s V (z := m + (od + j)) (by omega)]
          have := HC m hm
          rw [show od + (j + 1) = od + j + 1 by omega, sZ_s _ (by omega)] at this
          refine Cgr.tr ?_ this
          refine (Cgr.rf _ _).ad ?_
          rw [hov]
          exact (Cgr.md _ _).mu (Cgr.rf _ _)
        · have st := sto k hkb.1 hk
          have rs := RX (L := W).str hkb.1 hk
          have hx := HW' (od + j - q (9 + k)) (by omega) (by omega)
          rw [e_Rests_square_147, RX.n]
          simp (disch := omega) only [lit32, litJ, iz_add, iz_sub, iz_mul, iz_neg, nI_iz, ix_iz, inb_iz, ifp_t, ifp_f, ifp_T, ifp_F, iz_eq, iz_lt, bI_s, bL_s, bV_s, bR_s, XX.r 25 2 28, XX.n 28 24, XX.o0 t, XX.n1 t, rs, wL_L, hx.1, jz_add, sL_wL]
          refine ihk (by omega) _ (upv w' (od + j - q (9 + k)) (w' (od + j - q (9 + k)) + ov)) (fun u u1 u2 => ?_) (fun m hm => ?_)
          · have hu := HW' u u1 u2
            by_cases e : u = od + j - q (9 + k)
            · rw [e, up_e, upv_e]
              exact ⟨rfl, by omega, by omega⟩
            · rw [up_n _ _ (by omega), upv_n _ _ e]
              exact ⟨hu.1, hu.2.1, by omega⟩
          · rw [sZ_up (f := fun u => w' u * Anq q (m + u)) (i := od + j - q (9 + k)) (x := ov * Anq q (m + (od + j) - q (9 + k))) (by omega) (by
              rw [upv_e, Int.add_mul, show m + (od + j - q (9 + k)) = m + (od + j) - q (9 + k) by omega]) (fun u u1 u2 u3 => by
              rw [upv_n _ _ u3]), HS m hm, sZ_s _ hkb.1, Int.mul_add, Int.add_assoc]
      rw [show od + (j + 1) - 1 = od + j by omega, e_Rests_square_125]
      simp (disch := omega) only [lit32, litJ, iz_add, iz_sub, iz_mul, iz_neg, nI_iz, ix_iz, inb_iz, ifp_t, ifp_f, ifp_T, ifp_F, iz_eq, iz_lt, bI_s, bL_s, bV_s, bR_s, XX.r 25 2 28, XX.n 28 24, wL_L, hw.1, eN, lrem_jz]
      rw [← hov]
      refine l147 0 (by omega) W w (fun u u1 u2 => by have := HW u u1 u2; exact ⟨this.1, this.2.1, by omega⟩) (fun m hm => ?_)
      rw [sZ_0 _ (Int.le_refl 0), Int.mul_zero, Int.add_zero]
  -- the products
  have l58 : ∀ i : Int, (0 ≤ i ∧ i ≤ od) → ∀ (W : Nat → Int64) (w : Int → Int), (∀ u : Int, 0 ≤ u → u < 24 → W u.toNat = jZ (w u) ∧ 0 ≤ w u ∧ w u ≤ (12 * i) * 100000000) → (∀ f : Int → Int, sZ (fun u => w u * f u) (2 * od) = sZ (fun i => sZ (fun k => p i * p k * f (i + k + s)) od) i) → Fn (L_Rests_square_58 (d + 1) 25 o (iZ N) (iZ s) (iZ od) (iZ i) (wL h 28 W)) := by
    refine lpZ od (fun i hi hib W w HW HS => ?_) (fun i hi ih hib W w HW HS => ?_)
    · have ei : i = od := by omega
      rw [ei] at HS
      rw [e_Rests_square_58]
      simp (disch := omega) only [lit32, litJ, iz_add, iz_sub, iz_mul, iz_neg, nI_iz, ix_iz, inb_iz, ifp_t, ifp_f, ifp_T, ifp_F, iz_eq, iz_lt, bI_s, bL_s, bV_s, bR_s]
      rw [show 2 * od - 1 = od + od - 1 by omega]
      refine l125 od (by omega) (by omega) W w (fun u u1 u2 => by have := HW u u1 u2; exact ⟨this.1, this.2.1, by omega⟩) (fun m hm => ?_)
      have := HS (fun u => Anq q (m + u))
      rw [show od + od = 2 * od by omega, this]
      exact RP.sq hn hs.1 hm
    · have l68 : ∀ k : Int, (0 ≤ k ∧ k ≤ od) → ∀ (W : Nat → Int64) (w : Int → Int), (∀ u : Int, 0 ≤ u → u < 24 → W u.toNat = jZ (w u) ∧ 0 ≤ w u ∧ w u ≤ (12 * i + k) * 100000000) → (∀ f : Int → Int, sZ (fun u => w u * f u) (2 * od) = sZ (fun i => sZ (fun k => p i * p k * f (i + k + s)) od) i + sZ (fun k => p i * p k * f (i + k + s)) k) → Fn (L_Rests_square_68 (d + 1) 25 o (iZ N) (iZ s) (iZ od) (iZ i) (iZ k) (wL h 28 W)) := by
        refine lpZ od (fun k hk hkb W w HW HS => ?_) (fun k hk ihk hkb W w HW HS => ?_)
        · have ek : k = od := by omega
          rw [ek] at HS
          rw [e_Rests_square_68]
          simp (disch := omega) only [lit32, litJ, iz_add, iz_sub, iz_mul, iz_neg, nI_iz, ix_iz, inb_iz, ifp_t, ifp_f, ifp_T, ifp_F, iz_eq, iz_lt, bI_s, bL_s, bV_s, bR_s]
          refine ih (by omega) W w (fun u u1 u2 => by have := HW u u1 u2; exact ⟨this.1, this.2.1, by omega⟩) (fun f => ?_)
          rw [HS f, sZ_s _ hib.1]
        · have h1 := HP i hib.1 hi
          have h2 := HP k hkb.1 hk
          have pb := mul_b (a := p i) (b := p k) (by omega) (by omega)
          have hx := HW (i + k + s) (by omega) (by omega)
          rw [e_Rests_square_68]
          simp (disch := omega) only [lit32, litJ, iz_add, iz_sub, iz_mul, iz_neg, nI_iz, ix_iz, inb_iz, ifp_t, ifp_f, ifp_T, ifp_F, iz_eq, iz_lt, bI_s, bL_s, bV_s, bR_s, XX.r 25 2 28, XX.r 25 1 27, XX.n 28 24, XX.n 27 12, l27, h1.1, h2.1, wL_L, hx.1, jz_mul, jz_add, sL_wL]
          refine ihk (by omega) _ (upv w (i + k + s) (w (i + k + s) + p i * p k)) (fun u u1 u2 => ?_) (fun f => ?_)
          · have hu := HW u u1 u2
            by_cases e : u = i + k + s
            · rw [e, up_e, upv_e]
              exact ⟨rfl, by omega, by omega⟩
            · rw [up_n _ _ (by omega), upv_n _ _ e]
              exact ⟨hu.1, hu.2.1, by omega⟩
          · rw [sZ_up (f := fun u => w u * f u) (i := i + k + s) (x := p i * p k * f (i + k + s)) (by omega) (by
              rw [upv_e, Int.add_mul]) (fun u u1 u2 u3 => by
              rw [upv_n _ _ u3]), HS f, sZ_s _ hkb.1, Int.add_assoc]
      rw [e_Rests_square_58]
      simp (disch := omega) only [lit32, litJ, iz_add, iz_sub, iz_mul, iz_neg, nI_iz, ix_iz, inb_iz, ifp_t, ifp_f, ifp_T, ifp_F, iz_eq, iz_lt, bI_s, bL_s, bV_s, bR_s]
      refine l68 0 (by omega) W w (fun u u1 u2 => by have := HW u u1 u2; exact ⟨this.1, this.2.1, by omega⟩) (fun f => ?_)
      rw [HS f, sZ_0 (fun k => p i * p k * f (i + k + s)) (Int.le_refl 0), Int.add_zero]
  have l31 : ∀ x : Int, (0 ≤ x ∧ x ≤ 24) → ∀ (W : Nat → Int64), (∀ u : Int, 0 ≤ u → u < x → W u.toNat = jZ 0) → Fn (L_Rests_square_31 (d + 1) 25 o (iZ N) (iZ s) (iZ od) (iZ x) (wL h 28 W)) := by
    refine lpZ 24 (fun x hx hxb W H => ?_) (fun x hx ih hxb W H => ?_)
    · rw [e_Rests_square_31]
      simp (disch := omega) only [lit32, litJ, iz_add, iz_sub, iz_mul, iz_neg, nI_iz, ix_iz, inb_iz, ifp_t, ifp_f, ifp_T, ifp_F, iz_eq, iz_lt, bI_s, bL_s, bV_s, bR_s, XX.r 25 2 28, XX.n 28 24]
      refine l58 0 (by omega) W (fun _ => 0) (fun u u1 u2 => ⟨H u u1 (by omega), by omega, by omega⟩) (fun f => ?_)
      rw [sZ_0 _ (Int.le_refl 0)]
      exact sZ_z (fun k _ _ => Int.zero_mul _)
    · rw [e_Rests_square_31]
      simp (disch := omega) only [lit32, litJ, iz_add, iz_sub, iz_mul, iz_neg, nI_iz, ix_iz, inb_iz, ifp_t, ifp_f, ifp_T, ifp_F, iz_eq, iz_lt, bI_s, bL_s, bV_s, bR_s, XX.r 25 2 28, XX.n 28 24, sL_wL]
      refine ih (by omega) _ (fun u u1 u2 => ?_)
      by_cases e : u = x
      · rw [e, up_e]
      · rw [up_n _ _ (by omega)]; exact H u u1 (by omega)
  have := l31 0 (by omega) (hL h 28) (fun u u1 u2 => by omega)
  rw [wL_self] at this
  refine (hFn _).mp ?_
  rw [e_Rests_square, x_longest d X t R V, bI_s, ← hod]
  simp (disch := omega) only [lit32, litJ, iz_add, iz_sub, iz_mul, iz_neg, nI_iz, ix_iz, inb_iz, ifp_t, ifp_f, ifp_T, ifp_F, iz_eq, iz_lt, bI_s, bL_s, bV_s, bR_s]
  exact this
theorem x_rest (d : Nat) {h : Hp} (X : SX h) {o : Nat} (t : TO o) {q : Int → Int} (R : SR h o q) (V : VS q) {x N : Int} (hp : PlO x N) :
    ∃ A B C, evm (d + 4) 21 [vR 4 25, vR 5 o, vI (iZ x), vI (iZ N)] h = some (some (vI (iZ (Anq q x % N))), wL (wL (wL h 26 A) 28 B) 27 C) := by
  unfold PlO at hp
  obtain ⟨hx, hN'⟩ := hp
  have vn := V.n
  obtain ⟨od, hod⟩ : ∃ od, od = q (9 + (q 8 - 1)) := ⟨_, rfl⟩
  have ob := V.str (k := q 8 - 1) (by omega) (by omega)
  rw [← hod] at ob
  have eN : (iZ N).toInt64 = jZ N := iz_l (by omega)
  have eN0 : ¬ jZ N = jZ 0 := fun y => by have := (jz_eq (by omega)).mp y; omega
  have mb : ∀ z : Int, 0 ≤ z % N ∧ z % N < N := fun z => ⟨Int.emod_nonneg _ (by omega), Int.emod_lt_of_pos _ (by omega)⟩
  have ei : (iZ (1 % N)).toInt64 = jZ (1 % N) := iz_l (by have := mb 1; omega)
  obtain ⟨A, a1, a2⟩ := x_first (d + 2) X t R V hN'
  have XX : ∀ {B C}, SX (wL (wL (wL h 26 A) 28 B) 27 C) := fun {_ _} => X
  have RX : ∀ {B C}, SR (wL (wL (wL h 26 A) 28 B) 27 C) o q := fun {_ _} => R
  have l26 : ∀ {B C}, hL (wL (wL (wL h 26 A) 28 B) 27 C) 26 = A := fun {_ _} => by rw [wL_n _ _ (by decide), wL_n _ _ (by decide), wL_L]
  have w8 : ∀ {B C : Nat → Int64} (Y Z : Nat → Int64), wL (wL (wL (wL (wL h 26 A) 28 B) 27 C) 28 Y) 27 Z = wL (wL (wL h 26 A) 28 Y) 27 Z := fun {_ _} Y Z => by
    rw [wL_c _ _ _ (show (27 : Nat) ≠ 28 by decide), wL_wL, wL_wL]
  -- the sum
  have l85 : ∀ i : Int, (0 ≤ i ∧ i ≤ od) → ∀ (B C : Nat → Int64) (p : Int → Int), RwR C od N p → RpP q N od p x → L_Rests_rest_85 (d + 3) 25 o (iZ N) (jZ (sZ (fun i => p i * (Anq q i % N)) i)) (iZ i) (wL (wL (wL h 26 A) 28 B) 27 C) = some (some (vI (iZ (Anq q x % N))), wL (wL (wL h 26 A) 28 B) 27 C) := by
    refine lpZ od (fun i hi hib B C p HP RP => ?_) (fun i hi ih hib B C p HP RP => ?_)
    · have e : i = od := by omega
      have sb := sum_b (f := fun i => p i * (Anq q i % N)) (n := od) (by omega) (fun k k1 k2 => mul_b (by have := HP k k1 k2; omega) (by have := mb (Anq q k); omega))
      have fb := mb (Anq q x)
      rw [e_Rests_rest_85, x_longest (d + 2) XX t RX V, bI_s, ← hod, e]
      simp (disch := omega) only [lit32, litJ, iz_add, iz_sub, iz_mul, iz_neg, nI_iz, ix_iz, inb_iz, ifp_t, ifp_f, ifp_T, ifp_F, iz_eq, iz_lt, bI_s, bL_s, bV_s, bR_s, eN, lrem_jz]
      rw [RP.fin (f := fun i => Anq q i % N) (fun _ _ _ => rfl), jz_n (by omega)]
    · have h1 := HP i hib.1 hi
      rw [← ih (by omega) B C p HP RP, e_Rests_rest_85, x_longest (d + 2) XX t RX V, bI_s, ← hod]
      simp (disch := omega) only [lit32, litJ, iz_add, iz_sub, iz_mul, iz_neg, nI_iz, ix_iz, inb_iz, ifp_t, ifp_f, ifp_T, ifp_F, iz_eq, iz_lt, bI_s, bL_s, bV_s, bR_s, XX.r 25 1 27, XX.n 27 12, XX.r 25 0 26, XX.n 26 12, wL_L, l26, h1.1, a2 i (by omega) (by omega), jz_mul, jz_add]
      rw [sZ_s _ hib.1]
  obtain ⟨xn, hxn⟩ : ∃ xn : Nat, x = (xn : Int) := ⟨x.toNat, by omega⟩
  -- the bits
  have l56 : ∀ b : Nat, b ≤ 30 → ∀ (B C : Nat → Int64) (p : Int → Int), RwR C od N p → RpP q N od p ((xn / 2 ^ b : Nat) : Int) → ∃ B' C', L_Rests_rest_56 (d + 3) 25 o (iZ x) (iZ N) (iZ ((b : Int) - 1)) (wL (wL (wL h 26 A) 28 B) 27 C) = some (some (vI (iZ (Anq q x % N))), wL (wL (wL h 26 A) 28 B') 27 C') := by
    intro b
    induction b with
    | zero =>
      intro _ B C p HP RP
      refine ⟨B, C, ?_⟩
      rw [Nat.pow_zero, Nat.div_one, ← hxn] at RP
      have := l85 0 (by omega) B C p HP RP
      rw [sZ_0 _ (Int.le_refl 0)] at this
      rw [e_Rests_rest_56]
      simp (disch := omega) only [lit32, litJ, iz_add, iz_sub, iz_mul, iz_neg, nI_iz, ix_iz, inb_iz, ifp_t, ifp_f, ifp_T, ifp_F, iz_eq, iz_lt, bI_s, bL_s, bV_s, bR_s]
      exact this
    | succ b ih =>
      intro hb B C p HP RP
      obtain ⟨s, hs⟩ : ∃ s : Nat, s = xn / 2 ^ b % 2 := ⟨_, rfl⟩
      obtain ⟨Y, Z, p', g1, g2, g3⟩ := x_sq (d + 1) (XX (B := B) (C := C)) t RX V hN' hod (p := p) (by rw [wL_L]; exact HP) (n := ((xn / 2 ^ (b + 1) : Nat) : Int)) (s := (s : Int)) (Int.natCast_nonneg _) (by omega) RP
      rw [w8] at g1
      have en : 2 * ((xn / 2 ^ (b + 1) : Nat) : Int) + (s : Int) = ((xn / 2 ^ b : Nat) : Int) := by
        rw [Nat.pow_succ, ← Nat.div_div_eq_div_mul]
        omega
      rw [en] at g3
      obtain ⟨B', C', i1⟩ := ih (by omega) Y Z p' g2 g3
      refine ⟨B', C', ?_⟩
      have eb : (iZ x >>> (iZ (((b + 1 : Nat) : Int) - 1) &&& iZ 31)) &&& iZ 1 = iZ (s : Int) := by
        rw [show (((b + 1 : Nat) : Int) - 1) = (b : Int) by omega, hxn, b_shr (by omega) (by omega), show (1 : Int) = ((1 : Nat) : Int) from rfl, b_and, Nat.and_one_is_mod, hs]
      rw [← i1, e_Rests_rest_56]
      simp only [lit32]
      rw [eb]
      simp (disch := omega) only [lit32, litJ, iz_add, iz_sub, iz_mul, iz_neg, nI_iz, ix_iz, inb_iz, ifp_t, ifp_f, ifp_T, ifp_F, iz_eq, iz_lt, bI_s, bL_s, bV_s, bR_s, g1]
      congr 2
      omega
  -- the start
  have l16 : ∀ i : Int, (0 ≤ i ∧ i ≤ 12) → ∀ (C : Nat → Int64), (∀ u : Int, 0 ≤ u → u < i → C u.toNat = jZ (pif (u = 0) (1 % N) 0)) → ∃ B' C', L_Rests_rest_16 (d + 3) 25 o (iZ x) (iZ N) (iZ i) (wL (wL (wL h 26 A) 28 (hL h 28)) 27 C) = some (some (vI (iZ (Anq q x % N))), wL (wL (wL h 26 A) 28 B') 27 C') := by
    refine lpZ 12 (fun i hi hib C H => ?_) (fun i hi ih hib C H => ?_)
    · obtain ⟨B', C', g⟩ := l56 30 (by omega) (hL h 28) C (fun u => pif (u = 0) (1 % N) 0) (fun u u1 u2 => ⟨H u u1 (by omega), pif_b ⟨by omega, mb 1⟩⟩) (by
        have e0 : xn / 2 ^ 30 = 0 := Nat.div_eq_of_lt (by omega)
        rw [e0]
        exact RpP.one q ob.1 (fun _ _ _ => rfl))
      refine ⟨B', C', ?_⟩
      rw [← g, e_Rests_rest_16]
      simp (disch := omega) only [lit32, litJ, iz_add, iz_sub, iz_mul, iz_neg, nI_iz, ix_iz, inb_iz, ifp_t, ifp_f, ifp_T, ifp_F, iz_eq, iz_lt, bI_s, bL_s, bV_s, bR_s, XX.r 25 1 27, XX.n 27 12]
      rfl
    · obtain ⟨B', C', g⟩ := ih (by omega) (up C i.toNat (jZ (pif (i = 0) (1 % N) 0))) (fun u u1 u2 => by
        by_cases e : u = i
        · rw [e, up_e]
        · rw [up_n _ _ (by omega)]; exact H u u1 (by omega))
      refine ⟨B', C', ?_⟩
      rw [← g, e_Rests_rest_16]
      by_cases e : i = 0
      · rw [pif_t e]
        simp (disch := omega) only [lit32, litJ, iz_add, iz_sub, iz_mul, iz_neg, nI_iz, ix_iz, inb_iz, ifp_t, ifp_f, ifp_T, ifp_F, iz_eq, iz_lt, bI_s, bL_s, bV_s, bR_s, XX.r 25 1 27, XX.n 27 12, irem_iz, ei, sL_wL]
      · rw [pif_f e]
        simp (disch := omega) only [lit32, litJ, iz_add, iz_sub, iz_mul, iz_neg, nI_iz, ix_iz, inb_iz, ifp_t, ifp_f, ifp_T, ifp_F, iz_eq, iz_lt, bI_s, bL_s, bV_s, bR_s, XX.r 25 1 27, XX.n 27 12, sL_wL]
  obtain ⟨B', C', g⟩ := l16 0 (by omega) (hL h 27) (fun u u1 u2 => by omega)
  refine ⟨A, B', C', ?_⟩
  have e0 : wL (wL (wL h 26 A) 28 (hL h 28)) 27 (hL h 27) = wL h 26 A := by
    have h1 := wL_self (wL h 26 A) 28
    rw [wL_n _ _ (by decide)] at h1
    have h2 := wL_self (wL h 26 A) 27
    rw [wL_n _ _ (by decide)] at h2
    rw [h1, h2]
  rw [e0] at g
  rw [e_Rests_rest]
  simp (disch := omega) only [lit32, litJ, iz_add, iz_sub, iz_mul, iz_neg, nI_iz, ix_iz, inb_iz, ifp_t, ifp_f, ifp_T, ifp_F, iz_eq, iz_lt, bI_s, bL_s, bV_s, bR_s]
  rw [a1, bV_s]
  exact g
