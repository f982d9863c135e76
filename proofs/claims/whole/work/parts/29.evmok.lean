/-! every method of the program: the JVM does what evm says -/
theorem lk_nM : ∀ (mi : Nat) (t : Tx) (n : Nat), mi < nM → lk pgm mi = some (t, n) → t.1.all (fun z => enOk mi z.1 z.2) = true ∧ n = mMx mi
  | 0, _, _, _, h => by cases h; exact ⟨tk_0, rfl⟩
  | 1, _, _, _, h => by cases h; exact ⟨tk_1, rfl⟩
  | 2, _, _, _, h => by cases h; exact ⟨tk_2, rfl⟩
  | 3, _, _, _, h => by cases h; exact ⟨tk_3, rfl⟩
  | 4, _, _, _, h => by cases h; exact ⟨tk_4, rfl⟩
  | 5, _, _, _, h => by cases h; exact ⟨tk_5, rfl⟩
  | 6, _, _, _, h => by cases h; exact ⟨tk_6, rfl⟩
  | 7, _, _, _, h => by cases h; exact ⟨tk_7, rfl⟩
  | 8, _, _, _, h => by cases h; exact ⟨tk_8, rfl⟩
  | 9, _, _, _, h => by cases h; exact ⟨tk_9, rfl⟩
  | 10, _, _, _, h => by cases h; exact ⟨tk_10, rfl⟩
  | 11, _, _, _, h => by cases h; exact ⟨tk_11, rfl⟩
  | 12, _, _, _, h => by cases h; exact ⟨tk_12, rfl⟩
  | 13, _, _, _, h => by cases h; exact ⟨tk_13, rfl⟩
  | 14, _, _, _, h => by cases h; exact ⟨tk_14, rfl⟩
  | 15, _, _, _, h => by cases h; exact ⟨tk_15, rfl⟩
  | 16, _, _, _, h => by cases h; exact ⟨tk_16, rfl⟩
  | 17, _, _, _, h => by cases h; exact ⟨tk_17, rfl⟩
  | 18, _, _, _, h => by cases h; exact ⟨tk_18, rfl⟩
  | 19, _, _, _, h => by cases h; exact ⟨tk_19, rfl⟩
  | 20, _, _, _, h => by cases h; exact ⟨tk_20, rfl⟩
  | 21, _, _, _, h => by cases h; exact ⟨tk_21, rfl⟩
  | 22, _, _, _, h => by cases h; exact ⟨tk_22, rfl⟩
  | 23, _, _, _, h => by cases h; exact ⟨tk_23, rfl⟩
  | 24, _, _, _, h => by cases h; exact ⟨tk_24, rfl⟩
  | 25, _, _, _, h => by cases h; exact ⟨tk_25, rfl⟩
  | 26, _, _, _, h => by cases h; exact ⟨tk_26, rfl⟩
  | 27, _, _, _, h => by cases h; exact ⟨tk_27, rfl⟩
  | 28, _, _, _, h => by cases h; exact ⟨tk_28, rfl⟩
  | 29, _, _, _, h => by cases h; exact ⟨tk_29, rfl⟩
  | 30, _, _, _, h => by cases h; exact ⟨tk_30, rfl⟩
  | 31, _, _, _, h => by cases h; exact ⟨tk_31, rfl⟩
  | 32, _, _, _, h => by cases h; exact ⟨tk_32, rfl⟩
  | 33, _, _, _, h => by cases h; exact ⟨tk_33, rfl⟩
  | 34, _, _, _, h => by cases h; exact ⟨tk_34, rfl⟩
  | 35, _, _, _, h => by cases h; exact ⟨tk_35, rfl⟩
  | 36, _, _, _, h => by cases h; exact ⟨tk_36, rfl⟩
  | 37, _, _, _, h => by cases h; exact ⟨tk_37, rfl⟩
  | 38, _, _, _, h => by cases h; exact ⟨tk_38, rfl⟩
  | 39, _, _, _, h => by cases h; exact ⟨tk_39, rfl⟩
  | 40, _, _, _, h => by cases h; exact ⟨tk_40, rfl⟩
  | 41, _, _, _, h => by cases h; exact ⟨tk_41, rfl⟩
  | 42, _, _, _, h => by cases h; exact ⟨tk_42, rfl⟩
  | 43, _, _, _, h => by cases h; exact ⟨tk_43, rfl⟩
  | 44, _, _, _, h => by cases h; exact ⟨tk_44, rfl⟩
  | 45, _, _, _, h => by cases h; exact ⟨tk_45, rfl⟩
  | 46, _, _, _, h => by cases h; exact ⟨tk_46, rfl⟩
  | 47, _, _, _, h => by cases h; exact ⟨tk_47, rfl⟩
  | 48, _, _, _, h => by cases h; exact ⟨tk_48, rfl⟩
  | 49, _, _, _, h => by cases h; exact ⟨tk_49, rfl⟩
  | 50, _, _, _, h => by cases h; exact ⟨tk_50, rfl⟩
  | 51, _, _, _, h => by cases h; exact ⟨tk_51, rfl⟩
  | 52, _, _, _, h => by cases h; exact ⟨tk_52, rfl⟩
  | 53, _, _, _, h => by cases h; exact ⟨tk_53, rfl⟩
  | 54, _, _, _, h => by cases h; exact ⟨tk_54, rfl⟩
  | 55, _, _, _, h => by cases h; exact ⟨tk_55, rfl⟩
  | 56, _, _, _, h => by cases h; exact ⟨tk_56, rfl⟩
  | 57, _, _, _, h => by cases h; exact ⟨tk_57, rfl⟩
  | 58, _, _, _, h => by cases h; exact ⟨tk_58, rfl⟩
  | 59, _, _, _, h => by cases h; exact ⟨tk_59, rfl⟩
  | 60, _, _, _, h => by cases h; exact ⟨tk_60, rfl⟩
  | 61, _, _, _, h => by cases h; exact ⟨tk_61, rfl⟩
  | 62, _, _, _, h => by cases h; exact ⟨tk_62, rfl⟩
  | 63, _, _, _, h => by cases h; exact ⟨tk_63, rfl⟩
  | 64, _, _, _, h => by cases h; exact ⟨tk_64, rfl⟩
  | 65, _, _, _, h => by cases h; exact ⟨tk_65, rfl⟩
  | 66, _, _, _, h => by cases h; exact ⟨tk_66, rfl⟩
  | 67, _, _, _, h => by cases h; exact ⟨tk_67, rfl⟩
  | 68, _, _, _, h => by cases h; exact ⟨tk_68, rfl⟩
  | 69, _, _, _, h => by cases h; exact ⟨tk_69, rfl⟩
  | 70, _, _, _, h => by cases h; exact ⟨tk_70, rfl⟩
  | 71, _, _, _, h => by cases h; exact ⟨tk_71, rfl⟩
  | 72, _, _, _, h => by cases h; exact ⟨tk_72, rfl⟩
  | 73, _, _, _, h => by cases h; exact ⟨tk_73, rfl⟩
  | 74, _, _, _, h => by cases h; exact ⟨tk_74, rfl⟩
  | 75, _, _, _, h => by cases h; exact ⟨tk_75, rfl⟩
  | 76, _, _, _, h => by cases h; exact ⟨tk_76, rfl⟩
  | 77, _, _, _, h => by cases h; exact ⟨tk_77, rfl⟩
  | 78, _, _, _, h => by cases h; exact ⟨tk_78, rfl⟩
  | 79, _, _, _, h => by cases h; exact ⟨tk_79, rfl⟩
  | 80, _, _, _, h => by cases h; exact ⟨tk_80, rfl⟩
  | 81, _, _, _, h => by cases h; exact ⟨tk_81, rfl⟩
  | 82, _, _, _, h => by cases h; exact ⟨tk_82, rfl⟩
  | 83, _, _, _, h => by cases h; exact ⟨tk_83, rfl⟩
  | 84, _, _, _, h => by cases h; exact ⟨tk_84, rfl⟩
  | 85, _, _, _, h => by cases h; exact ⟨tk_85, rfl⟩
  | 86, _, _, _, h => by cases h; exact ⟨tk_86, rfl⟩
  | 87, _, _, _, h => by cases h; exact ⟨tk_87, rfl⟩
  | 88, _, _, _, h => by cases h; exact ⟨tk_88, rfl⟩
  | 89, _, _, _, h => by cases h; exact ⟨tk_89, rfl⟩
  | 90, _, _, _, h => by cases h; exact ⟨tk_90, rfl⟩
  | 91, _, _, _, h => by cases h; exact ⟨tk_91, rfl⟩
  | 92, _, _, _, h => by cases h; exact ⟨tk_92, rfl⟩
  | 93, _, _, _, h => by cases h; exact ⟨tk_93, rfl⟩
  | 94, _, _, _, h => by cases h; exact ⟨tk_94, rfl⟩
  | 95, _, _, _, h => by cases h; exact ⟨tk_95, rfl⟩
  | 96, _, _, _, h => by cases h; exact ⟨tk_96, rfl⟩
  | 97, _, _, _, h => by cases h; exact ⟨tk_97, rfl⟩
  | 98, _, _, _, h => by cases h; exact ⟨tk_98, rfl⟩
  | 99, _, _, _, h => by cases h; exact ⟨tk_99, rfl⟩
  | 100, _, _, _, h => by cases h; exact ⟨tk_100, rfl⟩
  | 101, _, _, _, h => by cases h; exact ⟨tk_101, rfl⟩
  | 102, _, _, _, h => by cases h; exact ⟨tk_102, rfl⟩
  | 103, _, _, _, h => by cases h; exact ⟨tk_103, rfl⟩
  | 104, _, _, _, h => by cases h; exact ⟨tk_104, rfl⟩
  | 105, _, _, _, h => by cases h; exact ⟨tk_105, rfl⟩
  | 106, _, _, _, h => by cases h; exact ⟨tk_106, rfl⟩
  | 107, _, _, _, h => by cases h; exact ⟨tk_107, rfl⟩
  | 108, _, _, _, h => by cases h; exact ⟨tk_108, rfl⟩
  | 109, _, _, _, h => by cases h; exact ⟨tk_109, rfl⟩
  | 110, _, _, _, h => by cases h; exact ⟨tk_110, rfl⟩
  | 111, _, _, _, h => by cases h; exact ⟨tk_111, rfl⟩
  | 112, _, _, _, h => by cases h; exact ⟨tk_112, rfl⟩
  | 113, _, _, _, h => by cases h; exact ⟨tk_113, rfl⟩
  | 114, _, _, _, h => by cases h; exact ⟨tk_114, rfl⟩
  | 115, _, _, _, h => by cases h; exact ⟨tk_115, rfl⟩
  | 116, _, _, _, h => by cases h; exact ⟨tk_116, rfl⟩
  | 117, _, _, _, h => by cases h; exact ⟨tk_117, rfl⟩
  | 118, _, _, _, h => by cases h; exact ⟨tk_118, rfl⟩
  | 119, _, _, _, h => by cases h; exact ⟨tk_119, rfl⟩
  | 120, _, _, _, h => by cases h; exact ⟨tk_120, rfl⟩
  | 121, _, _, _, h => by cases h; exact ⟨tk_121, rfl⟩
  | 122, _, _, _, h => by cases h; exact ⟨tk_122, rfl⟩
  | 123, _, _, _, h => by cases h; exact ⟨tk_123, rfl⟩
  | 124, _, _, _, h => by cases h; exact ⟨tk_124, rfl⟩
  | 125, _, _, _, h => by cases h; exact ⟨tk_125, rfl⟩
  | 126, _, _, _, h => by cases h; exact ⟨tk_126, rfl⟩
  | 127, _, _, _, h => by cases h; exact ⟨tk_127, rfl⟩
  | 128, _, _, _, h => by cases h; exact ⟨tk_128, rfl⟩
  | 129, _, _, _, h => by cases h; exact ⟨tk_129, rfl⟩
  | 130, _, _, _, h => by cases h; exact ⟨tk_130, rfl⟩
  | 131, _, _, _, h => by cases h; exact ⟨tk_131, rfl⟩
  | 132, _, _, _, h => by cases h; exact ⟨tk_132, rfl⟩
  | 133, _, _, _, h => by cases h; exact ⟨tk_133, rfl⟩
  | 134, _, _, _, h => by cases h; exact ⟨tk_134, rfl⟩
  | 135, _, _, _, h => by cases h; exact ⟨tk_135, rfl⟩
  | 136, _, _, _, h => by cases h; exact ⟨tk_136, rfl⟩
  | 137, _, _, _, h => by cases h; exact ⟨tk_137, rfl⟩
  | 138, _, _, _, h => by cases h; exact ⟨tk_138, rfl⟩
  | 139, _, _, _, h => by cases h; exact ⟨tk_139, rfl⟩
  | 140, _, _, _, h => by cases h; exact ⟨tk_140, rfl⟩
  | 141, _, _, _, h => by cases h; exact ⟨tk_141, rfl⟩
  | 142, _, _, _, h => by cases h; exact ⟨tk_142, rfl⟩
  | 143, _, _, _, h => by cases h; exact ⟨tk_143, rfl⟩
  | 144, _, _, _, h => by cases h; exact ⟨tk_144, rfl⟩
  | 145, _, _, _, h => by cases h; exact ⟨tk_145, rfl⟩
  | 146, _, _, _, h => by cases h; exact ⟨tk_146, rfl⟩
  | 147, _, _, _, h => by cases h; exact ⟨tk_147, rfl⟩
  | 148, _, _, _, h => by cases h; exact ⟨tk_148, rfl⟩
  | 149, _, _, _, h => by cases h; exact ⟨tk_149, rfl⟩
  | 150, _, _, _, h => by cases h; exact ⟨tk_150, rfl⟩
  | 151, _, _, _, h => by cases h; exact ⟨tk_151, rfl⟩
  | 152, _, _, _, h => by cases h; exact ⟨tk_152, rfl⟩
  | 153, _, _, _, h => by cases h; exact ⟨tk_153, rfl⟩
  | 154, _, _, _, h => by cases h; exact ⟨tk_154, rfl⟩
  | 155, _, _, _, h => by cases h; exact ⟨tk_155, rfl⟩
  | 156, _, _, _, h => by cases h; exact ⟨tk_156, rfl⟩
  | 157, _, _, _, h => by cases h; exact ⟨tk_157, rfl⟩
  | 158, _, _, _, h => by cases h; exact ⟨tk_158, rfl⟩
  | 159, _, _, _, h => by cases h; exact ⟨tk_159, rfl⟩
  | 160, _, _, _, h => by cases h; exact ⟨tk_160, rfl⟩
  | 161, _, _, _, h => by cases h; exact ⟨tk_161, rfl⟩
  | 162, _, _, _, h => by cases h; exact ⟨tk_162, rfl⟩
  | 163, _, _, _, h => by cases h; exact ⟨tk_163, rfl⟩
  | 164, _, _, _, h => by cases h; exact ⟨tk_164, rfl⟩
  | 165, _, _, _, h => by cases h; exact ⟨tk_165, rfl⟩
  | 166, _, _, _, h => by cases h; exact ⟨tk_166, rfl⟩
  | 167, _, _, _, h => by cases h; exact ⟨tk_167, rfl⟩
  | 168, _, _, _, h => by cases h; exact ⟨tk_168, rfl⟩
  | 169, _, _, _, h => by cases h; exact ⟨tk_169, rfl⟩
  | 170, _, _, _, h => by cases h; exact ⟨tk_170, rfl⟩
  | 171, _, _, _, h => by cases h; exact ⟨tk_171, rfl⟩
  | 172, _, _, _, h => by cases h; exact ⟨tk_172, rfl⟩
  | 173, _, _, _, h => by cases h; exact ⟨tk_173, rfl⟩
  | 174, _, _, _, h => by cases h; exact ⟨tk_174, rfl⟩
  | 175, _, _, _, h => by cases h; exact ⟨tk_175, rfl⟩
  | 176, _, _, _, h => by cases h; exact ⟨tk_176, rfl⟩
  | 177, _, _, _, h => by cases h; exact ⟨tk_177, rfl⟩
  | 178, _, _, _, h => by cases h; exact ⟨tk_178, rfl⟩
  | 179, _, _, _, h => by cases h; exact ⟨tk_179, rfl⟩
  | 180, _, _, _, h => by cases h; exact ⟨tk_180, rfl⟩
  | 181, _, _, _, h => by cases h; exact ⟨tk_181, rfl⟩
  | 182, _, _, _, h => by cases h; exact ⟨tk_182, rfl⟩
  | 183, _, _, _, h => by cases h; exact ⟨tk_183, rfl⟩
  | 184, _, _, _, h => by cases h; exact ⟨tk_184, rfl⟩
  | 185, _, _, _, h => by cases h; exact ⟨tk_185, rfl⟩
  | 186, _, _, _, h => by cases h; exact ⟨tk_186, rfl⟩
  | 187, _, _, _, h => by cases h; exact ⟨tk_187, rfl⟩
  | 188, _, _, _, h => by cases h; exact ⟨tk_188, rfl⟩
  | 189, _, _, _, h => by cases h; exact ⟨tk_189, rfl⟩
  | 190, _, _, _, h => by cases h; exact ⟨tk_190, rfl⟩
  | 191, _, _, _, h => by cases h; exact ⟨tk_191, rfl⟩
  | 192, _, _, _, h => by cases h; exact ⟨tk_192, rfl⟩
  | 193, _, _, _, h => by cases h; exact ⟨tk_193, rfl⟩
  | 194, _, _, _, h => by cases h; exact ⟨tk_194, rfl⟩
  | 195, _, _, _, h => by cases h; exact ⟨tk_195, rfl⟩
  | 196, _, _, _, h => by cases h; exact ⟨tk_196, rfl⟩
  | 197, _, _, _, h => by cases h; exact ⟨tk_197, rfl⟩
  | 198, _, _, _, h => by cases h; exact ⟨tk_198, rfl⟩
  | 199, _, _, _, h => by cases h; exact ⟨tk_199, rfl⟩
  | 200, _, _, _, h => by cases h; exact ⟨tk_200, rfl⟩
  | 201, _, _, _, h => by cases h; exact ⟨tk_201, rfl⟩
  | 202, _, _, _, h => by cases h; exact ⟨tk_202, rfl⟩
  | 203, _, _, _, h => by cases h; exact ⟨tk_203, rfl⟩
  | 204, _, _, _, h => by cases h; exact ⟨tk_204, rfl⟩
  | 205, _, _, _, h => by cases h; exact ⟨tk_205, rfl⟩
  | 206, _, _, _, h => by cases h; exact ⟨tk_206, rfl⟩
  | 207, _, _, _, h => by cases h; exact ⟨tk_207, rfl⟩
  | 208, _, _, _, h => by cases h; exact ⟨tk_208, rfl⟩
  | 209, _, _, _, h => by cases h; exact ⟨tk_209, rfl⟩
  | 210, _, _, _, h => by cases h; exact ⟨tk_210, rfl⟩
  | 211, _, _, _, h => by cases h; exact ⟨tk_211, rfl⟩
  | 212, _, _, _, h => by cases h; exact ⟨tk_212, rfl⟩
  | 213, _, _, _, h => by cases h; exact ⟨tk_213, rfl⟩
  | 214, _, _, _, h => by cases h; exact ⟨tk_214, rfl⟩
  | 215, _, _, _, h => by cases h; exact ⟨tk_215, rfl⟩
  | 216, _, _, _, h => by cases h; exact ⟨tk_216, rfl⟩
  | 217, _, _, _, h => by cases h; exact ⟨tk_217, rfl⟩
  | 218, _, _, _, h => by cases h; exact ⟨tk_218, rfl⟩
  | 219, _, _, _, h => by cases h; exact ⟨tk_219, rfl⟩
  | 220, _, _, _, h => by cases h; exact ⟨tk_220, rfl⟩
  | 221, _, _, _, h => by cases h; exact ⟨tk_221, rfl⟩
  | 222, _, _, _, h => by cases h; exact ⟨tk_222, rfl⟩
  | 223, _, _, _, h => by cases h; exact ⟨tk_223, rfl⟩
  | 224, _, _, _, h => by cases h; exact ⟨tk_224, rfl⟩
  | 225, _, _, _, h => by cases h; exact ⟨tk_225, rfl⟩
  | 226, _, _, _, h => by cases h; exact ⟨tk_226, rfl⟩
  | 227, _, _, _, h => by cases h; exact ⟨tk_227, rfl⟩
  | 228, _, _, _, h => by cases h; exact ⟨tk_228, rfl⟩
  | 229, _, _, _, h => by cases h; exact ⟨tk_229, rfl⟩
  | 230, _, _, _, h => by cases h; exact ⟨tk_230, rfl⟩
  | 231, _, _, _, h => by cases h; exact ⟨tk_231, rfl⟩
  | 232, _, _, _, h => by cases h; exact ⟨tk_232, rfl⟩
  | 233, _, _, _, h => by cases h; exact ⟨tk_233, rfl⟩
  | 234, _, _, _, h => by cases h; exact ⟨tk_234, rfl⟩
  | 235, _, _, _, h => by cases h; exact ⟨tk_235, rfl⟩
  | 236, _, _, _, h => by cases h; exact ⟨tk_236, rfl⟩
  | 237, _, _, _, h => by cases h; exact ⟨tk_237, rfl⟩
  | 238, _, _, _, h => by cases h; exact ⟨tk_238, rfl⟩
  | 239, _, _, _, h => by cases h; exact ⟨tk_239, rfl⟩
  | 240, _, _, _, h => by cases h; exact ⟨tk_240, rfl⟩
  | 241, _, _, _, h => by cases h; exact ⟨tk_241, rfl⟩
  | 242, _, _, _, h => by cases h; exact ⟨tk_242, rfl⟩
  | 243, _, _, _, h => by cases h; exact ⟨tk_243, rfl⟩
  | 244, _, _, _, h => by cases h; exact ⟨tk_244, rfl⟩
  | 245, _, _, _, h => by cases h; exact ⟨tk_245, rfl⟩
  | 246, _, _, _, h => by cases h; exact ⟨tk_246, rfl⟩
  | 247, _, _, _, h => by cases h; exact ⟨tk_247, rfl⟩
  | 248, _, _, _, h => by cases h; exact ⟨tk_248, rfl⟩
  | 249, _, _, _, h => by cases h; exact ⟨tk_249, rfl⟩
  | 250, _, _, _, h => by cases h; exact ⟨tk_250, rfl⟩
  | 251, _, _, _, h => by cases h; exact ⟨tk_251, rfl⟩
  | 252, _, _, _, h => by cases h; exact ⟨tk_252, rfl⟩
  | 253, _, _, _, h => by cases h; exact ⟨tk_253, rfl⟩
  | n + 254, _, _, h, _ => absurd h (by unfold nM; omega)
theorem pgm_lt : ∀ q ∈ pgm, q.1 < nM := by
  have h : (pgm.map (fun q => q.1)).all (fun k => decide (k < nM)) = true := by decide +kernel
  intro q hq
  exact of_decide_eq_true (List.all_eq_true.mp h q.1 (List.mem_map.mpr ⟨q, hq, rfl⟩))
section Evm
variable {g : GG} {L : Nat} {xs : Nat → Int32} {l : Launch}
/-- what the run of a method's text says of kinds; and that the method is met -/
theorem meth_ok (p0 : Program) (e0 : Env) (R0 : Room) (s9 : State) (m0 : MethodId) (args0 : Array Value) (below0 : List Frame) (meth0 : Method) (code0 : Code)
    {d : Nat} {kc : Nat → List AV → Hp → Option Rs} (K : KcOk g L xs l d kc) {a : Nat} (ha : a < nM) {t : Tx} {n : Nat} (hlk : lk pgm a = some (t, n)) {ar : List AV} {h : Hp} {r1 : Option AV} {h1 : Hp} (hn : (ael ar).length ≤ n) (hev : evs kc t (kil t (0, pad (ael ar) (n - (ael ar).length), [], h)) = some (r1, h1)) (hw : wtH L xs h) (hv : ∀ v ∈ ar, vok h v) :
    (gro h h1 ∧ wtH L xs h1 ∧ rok h1 r1) ∧ MA g L xs l (d + 1) a ar h r1 h1 := by
  obtain ⟨k, hk⟩ := evs_iff.mp hev
  obtain ⟨htok, hnm⟩ := lk_nM a t n ha hlk
  have wt0 : wtS L xs (hC h) (hS h) (0, pad (ael ar) (n - (ael ar).length), [], h) :=
    ⟨hw, fun v q => (by cases q), fun k v q => ael_vok ar hv k v (pad_sub _ _ _ _ q), Nat.le_refl _, Nat.le_refl _⟩
  have G : ∀ (p : Program) (e : Env) (R : Room) (s : State) (m : MethodId) (args : Array Value) (below : List Frame) (meth : Method) (c : Code) (Q : State → Prop),
      (Cx g L xs p R s m args meth c a (hC h) (hS h) d h1 → RetOk g p l e R s m args below meth c a (hC h) (hS h) Q r1 h1) → Gd g L xs p l e R s m args below meth c a (hC h) (hS h) d Q r1 h1 (0, pad (ael ar) (n - (ael ar).length), [], h) := by
    intro p e R s m args below meth c Q rt
    exact kil_gd (run_ok K rt (fun pc e9 he => Or.inl (List.all_eq_true.mp htok (pc, e9) (lk_mem he))) k _ hk (kil_wt wt0))
  refine ⟨?_, ?_⟩
  · have q := G p0 e0 R0 s9 m0 args0 below0 meth0 code0 (fun _ => True) ?_
    · exact q.1
    · intro hC9 pc ls H locs hH hS9 _ T hT X
      exact ⟨_, Steps.refl _, trivial⟩
  · refine Met_ofWF (cc := mCd a) (maxL := mMx a) (ret := mRt a) (tt_pf a ha) rfl ?_
    intro p e s m args below meth c s₁ B hml hv9
    obtain ⟨rfl, hH, hE⟩ := hv9
    have hts9 : ∀ w ∈ mws a, w.before _ s = true := atoms_spec (ws := mws a) B.pre
    have hlocks := B.notSynchronized
    have hC9 : Cx g L xs p (headSpec (mws a) (rmD (d + 1) h h1)).room s m ((ar.map (cv g)).toArray) meth c a (hC h) (hS h) d h1 :=
      ⟨B.exec, B.bytes, hml, findClass_of_methodNamed B.named, fun w hw9 => hts9 w (List.mem_cons_of_mem _ hw9), (name_of_methodNamed B.named B.method).1, hE, hH.2, ⟨Nat.le_refl _, Nat.le_refl _, Nat.le_refl _, Nat.le_refl _⟩⟩
    have q := (G p e (headSpec (mws a) (rmD (d + 1) h h1)).room s m ((ar.map (cv g)).toArray) below meth c (MQ below (Fn g r1 h1) ((ar.map (cv g)).toArray) s (hC h1 - hC h) (hS h1 - hS h) (gA g)) ?_).2 hC9 s.heap [] _ hH va_S.rf (by
        have := entry_lh (g := g) hE.2.2.2.2.2.2.2.2.2.2 (ar := ar) (n := n) hn
        rw [hnm] at this ⊢
        exact this)
    · rw [lg_entry_eq]
      have e1 : hC h - hC h = 0 := Nat.sub_self _
      have e2 : hS h - hS h = 0 := Nat.sub_self _
      simp only [e1, e2] at q
      exact q
    · intro _ pc ls H locs hH9 hS9 hcase
      have hfin : ∀ v, r1.map (cv g) = v → ∀ t : State, t.heap = H → s.WarmedH t.vm → Fn g r1 h1 ((ar.map (cv g)).toArray) s (.returned v) t := fun v hv9 t ht _ => ⟨by rw [hv9], by rw [ht]; exact hH9, hS9.F ht⟩
      rcases hcase with ⟨hd, x, ty, rfl, hty, hnar⟩ | ⟨hd, ⟨x, rfl⟩, hty⟩ | ⟨hd, rfl, hty⟩
      · exact W.zret B.exec B.bytes (B.returns.trans hty) hnar (hfin _ rfl) hS9.2.2 hd
      · exact W.lret B.exec B.bytes (B.returns.trans hty) (hfin _ rfl) hS9.2.2 hd
      · exact W.vret B.exec B.bytes (B.returns.trans hty) (hfin _ rfl) hS9.2.2 hd
theorem evm_succ (d mi : Nat) (ar : List AV) (h : Hp) : evm (d + 1) mi ar h = bif Nat.beq mi 255 then lawp (evm d) ar h else match lk pgm mi with
    | some (t, n) => bif Nat.ble (ael ar).length n then evs (evm d) t (kil t (0, pad (ael ar) (n - (ael ar).length), [], h)) else none
    | none => none := rfl
theorem lawp_ok {d : Nat} {kc : Nat → List AV → Hp → Option Rs} (K : KcOk g L xs l d kc) {ar : List AV} {h : Hp} {r1 : Option AV} {h1 : Hp} (hev : lawp kc ar h = some (r1, h1)) (hw : wtH L xs h) (hv : ∀ v ∈ ar, vok h v) : gro h h1 ∧ wtH L xs h1 ∧ rok h1 r1 := by
  unfold lawp at hev
  split at hev
  · rename_i k x p0 p1 k2 o9
    cases hk : (Nat.beq k 11 && Nat.beq k2 21)
    · rw [hk] at hev; cases hev
    · rw [hk, Bool.cond_true] at hev
      obtain ⟨hk1, hk2⟩ := Bool.and_eq_true_iff.mp hk
      have hk1 := beq_t hk1
      subst hk1
      by_cases hr : 0 ≤ p0 ∧ p0 ≤ 999999999 ∧ 1 ≤ p1 ∧ p1 ≤ 9999
      · rw [ifp_t hr] at hev
        obtain ⟨y, h2, e1, e2⟩ := bI_use hev
        obtain ⟨⟨q1, q2, q3⟩, -⟩ := K _ _ _ _ _ e1 hw (fun v hv9 => by
          rcases List.mem_cons.mp hv9 with q | q
          · subst q; exact hv _ List.mem_cons_self
          · rcases List.mem_cons.mp q with q | q
            · subst q; trivial
            · rcases List.mem_cons.mp q with q | q
              · subst q; trivial
              · cases q)
        by_cases hi : inb 0 (hN h2 o9) = true
        · rw [ifp_t hi] at e2
          cases e2
          exact ⟨q1, q2.pL, fun v q => by cases q; trivial⟩
        · rw [ifp_f hi] at e2; cases e2
      · rw [ifp_f hr] at hev
        unfold alc at hev
        by_cases hc : hC h < 1000000
        · rw [ifp_t hc] at hev
          cases hev
          exact ⟨gro.pN h 30 0 6, hw.pN hc (Or.inr (Or.inr rfl)), fun v q => by cases q; trivial⟩
        · rw [ifp_f hc] at hev; cases hev
  · cases hev
/-- every method -/
theorem evm_ok (p0 : Program) (e0 : Env) (R0 : Room) (s9 : State) (m0 : MethodId) (args0 : Array Value) (below0 : List Frame) (meth0 : Method) (code0 : Code) : ∀ d, KcOk g L xs l d (evm d) := by
  intro d
  induction d with
  | zero =>
    intro a ar h r1 h1 hev
    cases hev
  | succ d ih =>
    intro a ar h r1 h1 hev hw hv
    rw [evm_succ] at hev
    cases hb : Nat.beq a 255
    · rw [hb, Bool.cond_false] at hev
      split at hev
      · rename_i t n hlk
        cases hn : Nat.ble (ael ar).length n
        · rw [hn] at hev; cases hev
        · rw [hn, Bool.cond_true] at hev
          have ha : a < nM := pgm_lt _ (lk_mem hlk)
          have q := meth_ok p0 e0 R0 s9 m0 args0 below0 meth0 code0 ih ha hlk (Nat.le_of_ble_eq_true hn) hev hw hv
          exact ⟨q.1, fun _ => q.2⟩
      · cases hev
    · rw [hb, Bool.cond_true] at hev
      refine ⟨lawp_ok ih hev hw hv, fun q => ?_⟩
      have := beq_t hb
      unfold nM at q
      omega
end Evm
