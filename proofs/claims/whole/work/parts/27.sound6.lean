/-! an instruction, a run, a method -/
def ilen (i : Instr) : Nat := match i with
  | .iload _ => 2 | .lload _ => 2 | .aload _ => 2 | .istore _ => 2 | .lstore _ => 2 | .astore _ => 2 | .bipush _ => 2 | .ldc _ => 2 | .newarray _ => 2
  | .sipush _ => 3 | .ldc_w _ => 3 | .ldc2_w _ => 3 | .iinc _ _ => 3 | .if_icmp _ _ => 3 | .ifCond _ _ => 3 | .goto _ => 3 | .ifnull _ => 3 | .getfield _ => 3 | .putfield _ => 3 | .getstatic _ => 3 | .new _ => 3 | .anewarray _ => 3 | .invokevirtual _ => 3 | .invokestatic _ => 3 | .invokespecial _ => 3
  | _ => 1
def isTs (i : Instr) : Bool := match i with
  | .tableswitch .. => true
  | _ => false
/-- an entry says what the code says -/
def enOk (mi pc : Nat) (e : En) : Bool := match decode (mCd mi) pc with
  | .ok (i, len) => chk mi pc i e && e.2.1 == pc + len && (isTs i || len == ilen i)
  | _ => false
section Snd6
variable {g : GG} {L : Nat} {xs : Nat → Int32} {p : Program} {l : Launch} {e : Env} {R : Room} {s : State} {m : MethodId} {args : Array Value} {below : List Frame} {meth : Method} {c : Code} {mi c0 s0 d : Nat} {Q : State → Prop} {rv : Option AV} {hf : Hp}
variable {kn : St → Option Rs} {kc : Nat → List AV → Hp → Option Rs} {pc pc' : Nat} {lo lo' : Lo} {st st' : List AV} {h : Hp} {op nx a b c9 : Nat} {ci : Int32} {cl : Int64} {tg : List Nat}
set_option maxHeartbeats 4000000 in
theorem step_ok (C : Pk g L xs p l e R s m args below meth c mi c0 s0 d Q rv hf kn) (K : KcOk g L xs l d kc) (rt : Cx g L xs p R s m args meth c mi c0 s0 d hf → RetOk g p l e R s m args below meth c mi c0 s0 Q rv hf) {e9 : En} (hen : enOk mi pc e9 = true) (wt : wtS L xs c0 s0 (pc, lo, st, h)) (H : o_op kn kc e9 lo st h = some (rv, hf)) : Gd g L xs p l e R s m args below meth c mi c0 s0 d Q rv hf (pc, lo, st, h) := by
  unfold enOk at hen
  split at hen
  · rename_i i len hd
    obtain ⟨hen, hlen⟩ := Bool.and_eq_true_iff.mp hen
    obtain ⟨hc, hn⟩ := Bool.and_eq_true_iff.mp hen
    obtain ⟨op, nx, a, b, c9, ci, cl, tg⟩ := e9
    have hn : nx = pc + len := by simpa using hn
    subst hn
    cases i

    case iconst => (have e1 : len = 1 := by simpa [isTs, ilen] using hlen); subst e1; exact s_iconst C hd hc wt H
    case bipush => (have e1 : len = 2 := by simpa [isTs, ilen] using hlen); subst e1; exact s_bipush C hd hc wt H
    case sipush => (have e1 : len = 3 := by simpa [isTs, ilen] using hlen); subst e1; exact s_sipush C hd hc wt H
    case ldc => (have e1 : len = 2 := by simpa [isTs, ilen] using hlen); subst e1; exact s_ldc C hd hc wt H
    case ldc_w => (have e1 : len = 3 := by simpa [isTs, ilen] using hlen); subst e1; exact s_ldc_w C hd hc wt H
    case ldc2_w => (have e1 : len = 3 := by simpa [isTs, ilen] using hlen); subst e1; exact s_ldc2 C hd hc wt H
    case lconst => (have e1 : len = 1 := by simpa [isTs, ilen] using hlen); subst e1; exact s_lconst C hd hc wt H
    case iload => (have e1 : len = 2 := by simpa [isTs, ilen] using hlen); subst e1; exact s_iload C hd hc wt H
    case iload_n => (have e1 : len = 1 := by simpa [isTs, ilen] using hlen); subst e1; exact s_iload_n C hd hc wt H
    case lload => (have e1 : len = 2 := by simpa [isTs, ilen] using hlen); subst e1; exact s_lload C hd hc wt H
    case lload_n => (have e1 : len = 1 := by simpa [isTs, ilen] using hlen); subst e1; exact s_lload_n C hd hc wt H
    case aload => (have e1 : len = 2 := by simpa [isTs, ilen] using hlen); subst e1; exact s_aload C hd hc wt H
    case aload_n => (have e1 : len = 1 := by simpa [isTs, ilen] using hlen); subst e1; exact s_aload_n C hd hc wt H
    case istore => (have e1 : len = 2 := by simpa [isTs, ilen] using hlen); subst e1; exact s_istore C hd hc wt H
    case istore_n => (have e1 : len = 1 := by simpa [isTs, ilen] using hlen); subst e1; exact s_istore_n C hd hc wt H
    case lstore => (have e1 : len = 2 := by simpa [isTs, ilen] using hlen); subst e1; exact s_lstore C hd hc wt H
    case lstore_n => (have e1 : len = 1 := by simpa [isTs, ilen] using hlen); subst e1; exact s_lstore_n C hd hc wt H
    case astore => (have e1 : len = 2 := by simpa [isTs, ilen] using hlen); subst e1; exact s_astore C hd hc wt H
    case astore_n => (have e1 : len = 1 := by simpa [isTs, ilen] using hlen); subst e1; exact s_astore_n C hd hc wt H
    case iinc => (have e1 : len = 3 := by simpa [isTs, ilen] using hlen); subst e1; exact s_iinc C hd hc wt H
    case iadd => (have e1 : len = 1 := by simpa [isTs, ilen] using hlen); subst e1; exact s_iadd C hd hc wt H
    case isub => (have e1 : len = 1 := by simpa [isTs, ilen] using hlen); subst e1; exact s_isub C hd hc wt H
    case imul => (have e1 : len = 1 := by simpa [isTs, ilen] using hlen); subst e1; exact s_imul C hd hc wt H
    case iand => (have e1 : len = 1 := by simpa [isTs, ilen] using hlen); subst e1; exact s_iand C hd hc wt H
    case ior => (have e1 : len = 1 := by simpa [isTs, ilen] using hlen); subst e1; exact s_ior C hd hc wt H
    case ixor => (have e1 : len = 1 := by simpa [isTs, ilen] using hlen); subst e1; exact s_ixor C hd hc wt H
    case ishl => (have e1 : len = 1 := by simpa [isTs, ilen] using hlen); subst e1; exact s_ishl C hd hc wt H
    case ishr => (have e1 : len = 1 := by simpa [isTs, ilen] using hlen); subst e1; exact s_ishr C hd hc wt H
    case idiv => (have e1 : len = 1 := by simpa [isTs, ilen] using hlen); subst e1; exact s_idiv C hd hc wt H
    case irem => (have e1 : len = 1 := by simpa [isTs, ilen] using hlen); subst e1; exact s_irem C hd hc wt H
    case ineg => (have e1 : len = 1 := by simpa [isTs, ilen] using hlen); subst e1; exact s_ineg C hd hc wt H
    case ladd => (have e1 : len = 1 := by simpa [isTs, ilen] using hlen); subst e1; exact s_ladd C hd hc wt H
    case lsub => (have e1 : len = 1 := by simpa [isTs, ilen] using hlen); subst e1; exact s_lsub C hd hc wt H
    case lmul => (have e1 : len = 1 := by simpa [isTs, ilen] using hlen); subst e1; exact s_lmul C hd hc wt H
    case land => (have e1 : len = 1 := by simpa [isTs, ilen] using hlen); subst e1; exact s_land C hd hc wt H
    case lor => (have e1 : len = 1 := by simpa [isTs, ilen] using hlen); subst e1; exact s_lor C hd hc wt H
    case lshl => (have e1 : len = 1 := by simpa [isTs, ilen] using hlen); subst e1; exact s_lshl C hd hc wt H
    case lshr => (have e1 : len = 1 := by simpa [isTs, ilen] using hlen); subst e1; exact s_lshr C hd hc wt H
    case ldiv => (have e1 : len = 1 := by simpa [isTs, ilen] using hlen); subst e1; exact s_ldiv C hd hc wt H
    case lrem => (have e1 : len = 1 := by simpa [isTs, ilen] using hlen); subst e1; exact s_lrem C hd hc wt H
    case i2l => (have e1 : len = 1 := by simpa [isTs, ilen] using hlen); subst e1; exact s_i2l C hd hc wt H
    case l2i => (have e1 : len = 1 := by simpa [isTs, ilen] using hlen); subst e1; exact s_l2i C hd hc wt H
    case i2c => (have e1 : len = 1 := by simpa [isTs, ilen] using hlen); subst e1; exact s_i2c C hd hc wt H
    case i2b => (have e1 : len = 1 := by simpa [isTs, ilen] using hlen); subst e1; exact s_i2b C hd hc wt H
    case lcmp => (have e1 : len = 1 := by simpa [isTs, ilen] using hlen); subst e1; exact s_lcmp C hd hc wt H
    case dup => (have e1 : len = 1 := by simpa [isTs, ilen] using hlen); subst e1; exact s_dup C hd hc wt H
    case dup2 => (have e1 : len = 1 := by simpa [isTs, ilen] using hlen); subst e1; exact s_dup2 C hd hc wt H
    case pop => (have e1 : len = 1 := by simpa [isTs, ilen] using hlen); subst e1; exact s_pop C hd hc wt H
    case goto => (have e1 : len = 3 := by simpa [isTs, ilen] using hlen); subst e1; exact s_goto C hd hc wt H
    case ifnull => (have e1 : len = 3 := by simpa [isTs, ilen] using hlen); subst e1; exact s_ifnull C hd hc wt H
    case getfield => (have e1 : len = 3 := by simpa [isTs, ilen] using hlen); subst e1; exact s_getfield C hd hc wt H
    case putfield => (have e1 : len = 3 := by simpa [isTs, ilen] using hlen); subst e1; exact s_putfield C hd hc wt H
    case getstatic => (have e1 : len = 3 := by simpa [isTs, ilen] using hlen); subst e1; exact s_getstatic C hd hc wt H
    case iaload => (have e1 : len = 1 := by simpa [isTs, ilen] using hlen); subst e1; exact s_iaload C hd hc wt H
    case laload => (have e1 : len = 1 := by simpa [isTs, ilen] using hlen); subst e1; exact s_laload C hd hc wt H
    case caload => (have e1 : len = 1 := by simpa [isTs, ilen] using hlen); subst e1; exact s_caload C hd hc wt H
    case baload => (have e1 : len = 1 := by simpa [isTs, ilen] using hlen); subst e1; exact s_baload C hd hc wt H
    case aaload => (have e1 : len = 1 := by simpa [isTs, ilen] using hlen); subst e1; exact s_aaload C hd hc wt H
    case iastore => (have e1 : len = 1 := by simpa [isTs, ilen] using hlen); subst e1; exact s_iastore C hd hc wt H
    case lastore => (have e1 : len = 1 := by simpa [isTs, ilen] using hlen); subst e1; exact s_lastore C hd hc wt H
    case castore => (have e1 : len = 1 := by simpa [isTs, ilen] using hlen); subst e1; exact s_castore C hd hc wt H
    case bastore => (have e1 : len = 1 := by simpa [isTs, ilen] using hlen); subst e1; exact s_bastore C hd hc wt H
    case aastore => (have e1 : len = 1 := by simpa [isTs, ilen] using hlen); subst e1; exact s_aastore C hd hc wt H
    case new => (have e1 : len = 3 := by simpa [isTs, ilen] using hlen); subst e1; exact s_new C hd hc wt H
    case newarray => (have e1 : len = 2 := by simpa [isTs, ilen] using hlen); subst e1; exact s_newarray C hd hc wt H
    case anewarray => (have e1 : len = 3 := by simpa [isTs, ilen] using hlen); subst e1; exact s_anewarray C hd hc wt H
    case if_icmp => (have e1 : len = 3 := by simpa [isTs, ilen] using hlen); subst e1; exact s_icmp C hd hc wt H
    case ifCond => (have e1 : len = 3 := by simpa [isTs, ilen] using hlen); subst e1; exact s_ifc C hd hc wt H
    case arraylength => (have e1 : len = 1 := by simpa [isTs, ilen] using hlen); subst e1; exact s_alen C hd hc wt H
    case invokevirtual => (have e1 : len = 3 := by simpa [isTs, ilen] using hlen); subst e1; exact s_virt C K hd hc wt H
    case invokestatic => (have e1 : len = 3 := by simpa [isTs, ilen] using hlen); subst e1; exact s_stat C K hd hc wt H
    case invokespecial => (have e1 : len = 3 := by simpa [isTs, ilen] using hlen); subst e1; exact s_spec C K hd hc wt H
    case ireturn => (have e1 : len = 1 := by simpa [isTs, ilen] using hlen); subst e1; exact s_ireturn rt hd hc wt H
    case lreturn => (have e1 : len = 1 := by simpa [isTs, ilen] using hlen); subst e1; exact s_lreturn rt hd hc wt H
    case return_ => (have e1 : len = 1 := by simpa [isTs, ilen] using hlen); subst e1; exact s_return rt hd hc wt H
    case tableswitch => exact s_tsw C hd hc wt H
    all_goals
      have h63 : op = 63 := by simpa [chk] using hc
      subst h63
      have : (none : Option Rs) = some (rv, hf) := H
      cases this
  · cases hen
theorem kil_wt {t : Tx} {S : St} (w : wtS L xs c0 s0 S) : wtS L xs c0 s0 (kil t S) := by
  obtain ⟨pc, lo, st, h⟩ := S
  unfold kil
  simp only
  split
  · rw [frc_eq]
    exact ⟨w.1, w.2.1, fun k v hv => w.2.2.1 k v (lkill_sub _ _ _ _ hv), w.2.2.2⟩
  · exact w
theorem kil_gd {t : Tx} {S : St} (G : Gd g L xs p l e R s m args below meth c mi c0 s0 d Q rv hf (kil t S)) : Gd g L xs p l e R s m args below meth c mi c0 s0 d Q rv hf S := by
  obtain ⟨pc, lo, st, h⟩ := S
  unfold kil at G
  simp only at G
  split at G
  · rw [frc_eq] at G
    exact ⟨G.1, fun hC9 H locs ls hH hS9 hl => G.2 hC9 H locs ls hH hS9 (hl.mono (lkill_len _ _) (fun k v hv => lkill_sub _ _ _ _ hv))⟩
  · exact G
/-- a run from any state: kx may see to entries that say otherwise -/
theorem run_ok {t : Tx} (K : KcOk g L xs l d kc) (rt : Cx g L xs p R s m args meth c mi c0 s0 d hf → RetOk g p l e R s m args below meth c mi c0 s0 Q rv hf)
    (tok : ∀ pc e9, lk t.1 pc = some e9 → enOk mi pc e9 = true ∨ (∀ (kn : St → Option Rs) (lo : Lo) (st : List AV) (h : Hp), Pk g L xs p l e R s m args below meth c mi c0 s0 d Q rv hf kn → wtS L xs c0 s0 (pc, lo, st, h) → o_op kn kc e9 lo st h = some (rv, hf) → Gd g L xs p l e R s m args below meth c mi c0 s0 d Q rv hf (pc, lo, st, h))) :
    ∀ (n : Nat) (S : St), run kc t n S = some (rv, hf) → wtS L xs c0 s0 S → Gd g L xs p l e R s m args below meth c mi c0 s0 d Q rv hf S := by
  intro n
  induction n with
  | zero => intro S h; cases h
  | succ n ih =>
    intro S hr w
    obtain ⟨pc, lo, st, h⟩ := S
    rw [run] at hr
    split at hr
    · rename_i e9 he
      have C : Pk g L xs p l e R s m args below meth c mi c0 s0 d Q rv hf (fun S' => run kc t n (kil t S')) := fun S h1 w1 => kil_gd (ih _ h1 (kil_wt w1))
      rcases tok pc e9 he with q | q
      · exact step_ok C K rt q w hr
      · exact q _ lo st h C w hr
    · cases hr
end Snd6
theorem lk_mem {α : Type} : ∀ {l : List (Nat × α)} {k : Nat} {x : α}, lk l k = some x → (k, x) ∈ l
  | [], _, _, h => by cases h
  | (k', y) :: l, k, x, h => by
    unfold lk at h
    cases hk : Nat.beq k' k
    · rw [hk] at h
      exact List.mem_cons_of_mem _ (lk_mem h)
    · rw [hk] at h
      have := beq_t hk
      subst this
      cases h
      exact List.mem_cons_self
/-! a method's start -/
theorem ael_len {g : GG} (hF : (gF g).category = 1) : ∀ ar : List AV, (lg_sl (ar.map (cv g))).length = (ael ar).length
  | [] => rfl
  | v :: vs => by
    have ih := ael_len hF vs
    unfold lg_sl at ih ⊢
    rw [List.map_cons, List.flatMap_cons, List.length_append, ih]
    rcases v with x | x | ⟨k, r⟩
    · show 1 + (ael vs).length = (ael vs).length + 1
      omega
    · show 2 + (ael vs).length = (ael vs).length + 1 + 1
      omega
    · have := cat1 (g := g) hF (v := vR k r) (fun x q => by cases q)
      rw [if_neg (by rw [this]; decide)]
      show 1 + (ael vs).length = (ael vs).length + 1
      omega
theorem pad_len : ∀ (n : Nat) (lo : Lo), (pad lo n).length = lo.length + n
  | 0, _ => rfl
  | n + 1, lo => by rw [pad, pad_len n]; simp; omega
theorem pad_sub : ∀ (n : Nat) (lo : Lo) (k : Nat) (v : AV), (pad lo n)[k]? = some (some v) → lo[k]? = some (some v)
  | 0, _, _, _, h => h
  | n + 1, lo, k, v, h => by
    have h1 := pad_sub n _ k v h
    rw [List.getElem?_append] at h1
    split at h1
    · exact h1
    · rw [List.getElem?_singleton] at h1
      split at h1 <;> cases h1
theorem ael_args {g : GG} (hF : (gF g).category = 1) : ∀ (ar : List AV) (i k : Nat) (v : AV), (ael ar)[k]? = some (some v) → (i + k, cv g v) ∈ lv_args i (ar.map (cv g))
  | [], _, _, _, h => by cases h
  | w :: ws, i, k, v, h => by
    have hc : ∀ (w : AV), (∀ x, w ≠ vL x) → (ael (w :: ws)) = some w :: ael ws := by
      intro w hw
      rcases w with x | x | ⟨k, r⟩
      · rfl
      · exact absurd rfl (hw x)
      · rfl
    have one : ∀ (w : AV), (∀ x, w ≠ vL x) → (ael (w :: ws))[k]? = some (some v) → (i + k, cv g v) ∈ lv_args i ((w :: ws).map (cv g)) := by
      intro w hw h
      rw [hc w hw] at h
      have hc2 := cat1 hF hw
      rw [List.map_cons, lv_args, if_neg (by rw [hc2]; decide)]
      cases k with
      | zero =>
        have : w = v := by simpa using h
        subst this
        exact List.mem_cons_self
      | succ k =>
        have h : (ael ws)[k]? = some (some v) := by simpa using h
        refine List.mem_cons_of_mem _ ?_
        rw [show i + (k + 1) = (i + 1) + k by omega]
        exact ael_args hF ws (i + 1) k v h
    rcases w with x | x | ⟨k9, r⟩
    · exact one (vI x) (fun y q => by cases q) h
    · have h : (some (vL x) :: none :: ael ws : Lo)[k]? = some (some v) := h
      rw [List.map_cons, lv_args, if_pos (by rfl)]
      rcases k with _ | _ | k
      · have : vL x = v := by simpa using h
        subst this
        exact List.mem_cons_self
      · simp at h
      · have h : (ael ws)[k]? = some (some v) := by simpa using h
        refine List.mem_cons_of_mem _ ?_
        rw [show i + (k + 1 + 1) = (i + 2) + k by omega]
        exact ael_args hF ws (i + 2) k v h
    · exact one (vR k9 r) (fun y q => by cases q) h
theorem entry_lh {g : GG} (hF : (gF g).category = 1) {ar : List AV} {n : Nat} (hn : (ael ar).length ≤ n) : lh g (pad (ael ar) (n - (ael ar).length)) n ((lg_sl (ar.map (cv g)) ++ List.replicate (n - (lg_sl (ar.map (cv g))).length) Slot.unset).toArray) := by
  have h0 := lv_entry (ar.map (cv g)) (n := n) (by rw [ael_len hF]; exact hn)
  refine ⟨by rw [pad_len]; omega, h0.1, h0.2.1, fun q hq => ?_⟩
  obtain ⟨v, -, h2, h3⟩ := lvp_mem.mp (show (q.1, q.2) ∈ lvp g 0 _ from hq)
  rw [Nat.sub_zero] at h2
  refine h0.2.2 q ?_
  have := ael_args hF ar 0 q.1 v (pad_sub _ _ _ _ h2)
  rw [Nat.zero_add, ← h3] at this
  exact this
theorem ael_vok {h : Hp} : ∀ (ar : List AV), (∀ v ∈ ar, vok h v) → ∀ (k : Nat) (v : AV), (ael ar)[k]? = some (some v) → vok h v := by
  intro ar hv k v hk
  have : v ∈ ar := by
    induction ar generalizing k with
    | nil => cases hk
    | cons w ws ih =>
      rcases w with x | x | ⟨k9, r⟩
      · have hk : (some (vI x) :: ael ws : Lo)[k]? = some (some v) := hk
        cases k with
        | zero => have : vI x = v := by simpa using hk
                  subst this; exact List.mem_cons_self
        | succ k => exact List.mem_cons_of_mem _ (ih (fun v h => hv v (List.mem_cons_of_mem _ h)) k (by simpa using hk))
      · have hk : (some (vL x) :: none :: ael ws : Lo)[k]? = some (some v) := hk
        rcases k with _ | _ | k
        · have : vL x = v := by simpa using hk
          subst this; exact List.mem_cons_self
        · simp at hk
        · exact List.mem_cons_of_mem _ (ih (fun v h => hv v (List.mem_cons_of_mem _ h)) k (by simpa using hk))
      · have hk : (some (vR k9 r) :: ael ws : Lo)[k]? = some (some v) := hk
        cases k with
        | zero => have : vR k9 r = v := by simpa using hk
                  subst this; exact List.mem_cons_self
        | succ k => exact List.mem_cons_of_mem _ (ih (fun v h => hv v (List.mem_cons_of_mem _ h)) k (by simpa using hk))
  exact hv v this
theorem Met_ofWF {l : Launch} {y : MethodName} {ws ws' : List Cond} {rm : Room} {Pc : Array Value → State → Prop} {Qc : Array Value → State → Outcome → State → Prop} {mc ms : Nat} {free : Addr → Prop} {cc : ByteArray} {maxL : Nat} {ret : Option FieldType}
    (hy : plainFor y = true) (hw : ws = Cond.code y cc maxL ret :: ws')
    (body : ∀ p e s m args below meth c s₁, BodyLoose p l y (headSpec ws rm) cc maxL ret e s m args below meth c s₁ → c.maxLocals = maxL → Pc args s →
      W p l e (headSpec ws rm).room s m args below meth c s.heap [] 0 0 (MQ below Qc args s mc ms free) (entryFrame m args maxL)) : Met l y ws rm Pc Qc mc ms free := by
  refine MetFree.of_bodySF (code := cc) (maxLocals := maxL) (ret := ret) hy ?_ ?_
  · intro args s m h hn
    obtain ⟨meth, c, h1, h2, h3, h4, h5, h6, -, -⟩ := Cond.code_spec hn (atoms_spec (ws := ws) h _ (by rw [hw]; exact List.mem_cons_self))
    exact ⟨meth, c, h1, h2, h3, h4, h5, h6⟩
  · intro p e s m args below meth c s₁ B hml hP _
    have hh0 : s₁.heap = s.heap := by rw [B.state]; rfl
    obtain ⟨t, a1, o, b1, b2, b3⟩ := body p e s m args below meth c s₁ B hml hP s₁ hh0 (Stand.of_body B)
    exact ⟨t, o, a1, b1, b2, ⟨b3.1, b3.2⟩⟩
