theorem d_TR_readCommand_0 : decode y_TR_readCommand.2.1 0 = .ok (.aload_n 0, 1) := by decide +kernel
theorem d_TR_readCommand_1 : decode y_TR_readCommand.2.1 1 = .ok (.getfield 36, 3) := by decide +kernel
theorem d_TR_readCommand_4 : decode y_TR_readCommand.2.1 4 = .ok (.getfield 187, 3) := by decide +kernel
theorem d_TR_readCommand_7 : decode y_TR_readCommand.2.1 7 = .ok (.bipush 60, 2) := by decide +kernel
theorem d_TR_readCommand_9 : decode y_TR_readCommand.2.1 9 = .ok (.if_icmp .lt 18, 3) := by decide +kernel
theorem d_TR_readCommand_12 : decode y_TR_readCommand.2.1 12 = .ok (.aload_n 0, 1) := by decide +kernel
theorem d_TR_readCommand_13 : decode y_TR_readCommand.2.1 13 = .ok (.getfield 12, 3) := by decide +kernel
theorem d_TR_readCommand_16 : decode y_TR_readCommand.2.1 16 = .ok (.iconst 5, 1) := by decide +kernel
theorem d_TR_readCommand_17 : decode y_TR_readCommand.2.1 17 = .ok (.aload_n 0, 1) := by decide +kernel
theorem d_TR_readCommand_18 : decode y_TR_readCommand.2.1 18 = .ok (.getfield 12, 3) := by decide +kernel
theorem d_TR_readCommand_21 : decode y_TR_readCommand.2.1 21 = .ok (.invokevirtual 79, 3) := by decide +kernel
theorem d_TR_readCommand_24 : decode y_TR_readCommand.2.1 24 = .ok (.invokevirtual 95, 3) := by decide +kernel
theorem d_TR_readCommand_27 : decode y_TR_readCommand.2.1 27 = .ok (.aload_n 0, 1) := by decide +kernel
theorem d_TR_readCommand_28 : decode y_TR_readCommand.2.1 28 = .ok (.getfield 36, 3) := by decide +kernel
theorem d_TR_readCommand_31 : decode y_TR_readCommand.2.1 31 = .ok (.getfield 187, 3) := by decide +kernel
theorem d_TR_readCommand_34 : decode y_TR_readCommand.2.1 34 = .ok (.bipush 59, 2) := by decide +kernel
theorem d_TR_readCommand_36 : decode y_TR_readCommand.2.1 36 = .ok (.invokestatic 190, 3) := by decide +kernel
theorem d_TR_readCommand_39 : decode y_TR_readCommand.2.1 39 = .ok (.istore_n 2, 1) := by decide +kernel
theorem d_TR_readCommand_40 : decode y_TR_readCommand.2.1 40 = .ok (.aload_n 0, 1) := by decide +kernel
theorem d_TR_readCommand_41 : decode y_TR_readCommand.2.1 41 = .ok (.getfield 36, 3) := by decide +kernel
theorem d_TR_readCommand_44 : decode y_TR_readCommand.2.1 44 = .ok (.getfield 195, 3) := by decide +kernel
theorem d_TR_readCommand_47 : decode y_TR_readCommand.2.1 47 = .ok (.iload_n 2, 1) := by decide +kernel
theorem d_TR_readCommand_48 : decode y_TR_readCommand.2.1 48 = .ok (.iload_n 1, 1) := by decide +kernel
theorem d_TR_readCommand_49 : decode y_TR_readCommand.2.1 49 = .ok (.bipush 8, 2) := by decide +kernel
theorem d_TR_readCommand_51 : decode y_TR_readCommand.2.1 51 = .ok (.if_icmp .ne 7, 3) := by decide +kernel
theorem d_TR_readCommand_54 : decode y_TR_readCommand.2.1 54 = .ok (.iconst 1, 1) := by decide +kernel
theorem d_TR_readCommand_55 : decode y_TR_readCommand.2.1 55 = .ok (.goto 4, 3) := by decide +kernel
theorem d_TR_readCommand_58 : decode y_TR_readCommand.2.1 58 = .ok (.iconst 2, 1) := by decide +kernel
theorem d_TR_readCommand_59 : decode y_TR_readCommand.2.1 59 = .ok (.iastore, 1) := by decide +kernel
theorem d_TR_readCommand_60 : decode y_TR_readCommand.2.1 60 = .ok (.aload_n 0, 1) := by decide +kernel
theorem d_TR_readCommand_61 : decode y_TR_readCommand.2.1 61 = .ok (.getfield 36, 3) := by decide +kernel
theorem d_TR_readCommand_64 : decode y_TR_readCommand.2.1 64 = .ok (.getfield 198, 3) := by decide +kernel
theorem d_TR_readCommand_67 : decode y_TR_readCommand.2.1 67 = .ok (.iload_n 2, 1) := by decide +kernel
theorem d_TR_readCommand_68 : decode y_TR_readCommand.2.1 68 = .ok (.aload_n 0, 1) := by decide +kernel
theorem d_TR_readCommand_69 : decode y_TR_readCommand.2.1 69 = .ok (.getfield 12, 3) := by decide +kernel
theorem d_TR_readCommand_72 : decode y_TR_readCommand.2.1 72 = .ok (.invokevirtual 79, 3) := by decide +kernel
theorem d_TR_readCommand_75 : decode y_TR_readCommand.2.1 75 = .ok (.iastore, 1) := by decide +kernel
theorem d_TR_readCommand_76 : decode y_TR_readCommand.2.1 76 = .ok (.aload_n 0, 1) := by decide +kernel
theorem d_TR_readCommand_77 : decode y_TR_readCommand.2.1 77 = .ok (.getfield 12, 3) := by decide +kernel
theorem d_TR_readCommand_80 : decode y_TR_readCommand.2.1 80 = .ok (.dup, 1) := by decide +kernel
theorem d_TR_readCommand_81 : decode y_TR_readCommand.2.1 81 = .ok (.getfield 59, 3) := by decide +kernel
theorem d_TR_readCommand_84 : decode y_TR_readCommand.2.1 84 = .ok (.iconst 1, 1) := by decide +kernel
theorem d_TR_readCommand_85 : decode y_TR_readCommand.2.1 85 = .ok (.iadd, 1) := by decide +kernel
theorem d_TR_readCommand_86 : decode y_TR_readCommand.2.1 86 = .ok (.putfield 59, 3) := by decide +kernel
theorem d_TR_readCommand_89 : decode y_TR_readCommand.2.1 89 = .ok (.aload_n 0, 1) := by decide +kernel
theorem d_TR_readCommand_90 : decode y_TR_readCommand.2.1 90 = .ok (.getfield 12, 3) := by decide +kernel
theorem d_TR_readCommand_93 : decode y_TR_readCommand.2.1 93 = .ok (.iconst 0, 1) := by decide +kernel
theorem d_TR_readCommand_94 : decode y_TR_readCommand.2.1 94 = .ok (.putfield 125, 3) := by decide +kernel
theorem d_TR_readCommand_97 : decode y_TR_readCommand.2.1 97 = .ok (.aload_n 0, 1) := by decide +kernel
theorem d_TR_readCommand_98 : decode y_TR_readCommand.2.1 98 = .ok (.iconst 0, 1) := by decide +kernel
theorem d_TR_readCommand_99 : decode y_TR_readCommand.2.1 99 = .ok (.iconst 2, 1) := by decide +kernel
theorem d_TR_readCommand_100 : decode y_TR_readCommand.2.1 100 = .ok (.invokevirtual 136, 3) := by decide +kernel
theorem d_TR_readCommand_103 : decode y_TR_readCommand.2.1 103 = .ok (.ifCond .eq 15, 3) := by decide +kernel
theorem d_TR_readCommand_106 : decode y_TR_readCommand.2.1 106 = .ok (.aload_n 0, 1) := by decide +kernel
theorem d_TR_readCommand_107 : decode y_TR_readCommand.2.1 107 = .ok (.getfield 12, 3) := by decide +kernel
theorem d_TR_readCommand_110 : decode y_TR_readCommand.2.1 110 = .ok (.bipush 18, 2) := by decide +kernel
theorem d_TR_readCommand_118 : decode y_TR_readCommand.2.1 118 = .ok (.iconst 0, 1) := by decide +kernel
theorem d_TR_readCommand_119 : decode y_TR_readCommand.2.1 119 = .ok (.ireturn, 1) := by decide +kernel
theorem d_TR_readCommand_112 : decode y_TR_readCommand.2.1 112 = .ok (.invokevirtual 102, 3) := by decide +kernel
theorem d_TR_readCommand_115 : decode y_TR_readCommand.2.1 115 = .ok (.ifCond .ne 5, 3) := by decide +kernel
theorem d_TR_readCommand_120 : decode y_TR_readCommand.2.1 120 = .ok (.aload_n 0, 1) := by decide +kernel
theorem d_TR_readCommand_121 : decode y_TR_readCommand.2.1 121 = .ok (.getfield 36, 3) := by decide +kernel
theorem d_TR_readCommand_124 : decode y_TR_readCommand.2.1 124 = .ok (.getfield 201, 3) := by decide +kernel
theorem d_TR_readCommand_127 : decode y_TR_readCommand.2.1 127 = .ok (.iload_n 2, 1) := by decide +kernel
theorem d_TR_readCommand_128 : decode y_TR_readCommand.2.1 128 = .ok (.aload_n 0, 1) := by decide +kernel
theorem d_TR_readCommand_129 : decode y_TR_readCommand.2.1 129 = .ok (.getfield 25, 3) := by decide +kernel
theorem d_TR_readCommand_132 : decode y_TR_readCommand.2.1 132 = .ok (.iconst 0, 1) := by decide +kernel
theorem d_TR_readCommand_133 : decode y_TR_readCommand.2.1 133 = .ok (.iaload, 1) := by decide +kernel
theorem d_TR_readCommand_134 : decode y_TR_readCommand.2.1 134 = .ok (.iastore, 1) := by decide +kernel
theorem d_TR_readCommand_135 : decode y_TR_readCommand.2.1 135 = .ok (.aload_n 0, 1) := by decide +kernel
theorem d_TR_readCommand_136 : decode y_TR_readCommand.2.1 136 = .ok (.getfield 36, 3) := by decide +kernel
theorem d_TR_readCommand_139 : decode y_TR_readCommand.2.1 139 = .ok (.getfield 204, 3) := by decide +kernel
theorem d_TR_readCommand_142 : decode y_TR_readCommand.2.1 142 = .ok (.iload_n 2, 1) := by decide +kernel
theorem d_TR_readCommand_143 : decode y_TR_readCommand.2.1 143 = .ok (.iconst 1, 1) := by decide +kernel
theorem d_TR_readCommand_144 : decode y_TR_readCommand.2.1 144 = .ok (.iadd, 1) := by decide +kernel
theorem d_TR_readCommand_145 : decode y_TR_readCommand.2.1 145 = .ok (.aload_n 0, 1) := by decide +kernel
theorem d_TR_readCommand_146 : decode y_TR_readCommand.2.1 146 = .ok (.getfield 36, 3) := by decide +kernel
theorem d_TR_readCommand_149 : decode y_TR_readCommand.2.1 149 = .ok (.getfield 204, 3) := by decide +kernel
theorem d_TR_readCommand_152 : decode y_TR_readCommand.2.1 152 = .ok (.iload_n 2, 1) := by decide +kernel
theorem d_TR_readCommand_153 : decode y_TR_readCommand.2.1 153 = .ok (.iaload, 1) := by decide +kernel
theorem d_TR_readCommand_154 : decode y_TR_readCommand.2.1 154 = .ok (.iastore, 1) := by decide +kernel
theorem d_TR_readCommand_155 : decode y_TR_readCommand.2.1 155 = .ok (.iconst 1, 1) := by decide +kernel
theorem d_TR_readCommand_156 : decode y_TR_readCommand.2.1 156 = .ok (.istore_n 3, 1) := by decide +kernel
theorem d_TR_readCommand_157 : decode y_TR_readCommand.2.1 157 = .ok (.iconst 0, 1) := by decide +kernel
theorem d_TR_readCommand_158 : decode y_TR_readCommand.2.1 158 = .ok (.istore 4, 2) := by decide +kernel
theorem d_TR_readCommand_160 : decode y_TR_readCommand.2.1 160 = .ok (.iload 4, 2) := by decide +kernel
theorem d_TR_readCommand_162 : decode y_TR_readCommand.2.1 162 = .ok (.aload_n 0, 1) := by decide +kernel
theorem d_TR_readCommand_163 : decode y_TR_readCommand.2.1 163 = .ok (.getfield 12, 3) := by decide +kernel
theorem d_TR_readCommand_166 : decode y_TR_readCommand.2.1 166 = .ok (.getfield 109, 3) := by decide +kernel
theorem d_TR_readCommand_169 : decode y_TR_readCommand.2.1 169 = .ok (.getfield 40, 3) := by decide +kernel
theorem d_TR_readCommand_172 : decode y_TR_readCommand.2.1 172 = .ok (.if_icmp .ge 87, 3) := by decide +kernel
theorem d_TR_readCommand_175 : decode y_TR_readCommand.2.1 175 = .ok (.iload_n 3, 1) := by decide +kernel
theorem d_TR_readCommand_176 : decode y_TR_readCommand.2.1 176 = .ok (.ifCond .eq 83, 3) := by decide +kernel
theorem d_TR_readCommand_179 : decode y_TR_readCommand.2.1 179 = .ok (.iload 4, 2) := by decide +kernel
theorem d_TR_readCommand_181 : decode y_TR_readCommand.2.1 181 = .ok (.bipush 8, 2) := by decide +kernel
theorem d_TR_readCommand_183 : decode y_TR_readCommand.2.1 183 = .ok (.if_icmp .lt 18, 3) := by decide +kernel
theorem d_TR_readCommand_186 : decode y_TR_readCommand.2.1 186 = .ok (.aload_n 0, 1) := by decide +kernel
theorem d_TR_readCommand_187 : decode y_TR_readCommand.2.1 187 = .ok (.getfield 12, 3) := by decide +kernel
theorem d_TR_readCommand_190 : decode y_TR_readCommand.2.1 190 = .ok (.iconst 5, 1) := by decide +kernel
theorem d_TR_readCommand_191 : decode y_TR_readCommand.2.1 191 = .ok (.aload_n 0, 1) := by decide +kernel
theorem d_TR_readCommand_192 : decode y_TR_readCommand.2.1 192 = .ok (.getfield 12, 3) := by decide +kernel
theorem d_TR_readCommand_259 : decode y_TR_readCommand.2.1 259 = .ok (.aload_n 0, 1) := by decide +kernel
theorem d_TR_readCommand_260 : decode y_TR_readCommand.2.1 260 = .ok (.getfield 36, 3) := by decide +kernel
theorem d_TR_readCommand_263 : decode y_TR_readCommand.2.1 263 = .ok (.iload_n 2, 1) := by decide +kernel
theorem d_TR_readCommand_264 : decode y_TR_readCommand.2.1 264 = .ok (.iconst 1, 1) := by decide +kernel
theorem d_TR_readCommand_265 : decode y_TR_readCommand.2.1 265 = .ok (.iadd, 1) := by decide +kernel
theorem d_TR_readCommand_266 : decode y_TR_readCommand.2.1 266 = .ok (.putfield 187, 3) := by decide +kernel
theorem d_TR_readCommand_269 : decode y_TR_readCommand.2.1 269 = .ok (.aload_n 0, 1) := by decide +kernel
theorem d_TR_readCommand_270 : decode y_TR_readCommand.2.1 270 = .ok (.getfield 12, 3) := by decide +kernel
theorem d_TR_readCommand_273 : decode y_TR_readCommand.2.1 273 = .ok (.bipush 35, 2) := by decide +kernel
theorem d_TR_readCommand_275 : decode y_TR_readCommand.2.1 275 = .ok (.invokevirtual 102, 3) := by decide +kernel
theorem d_TR_readCommand_278 : decode y_TR_readCommand.2.1 278 = .ok (.ireturn, 1) := by decide +kernel
theorem d_TR_readCommand_195 : decode y_TR_readCommand.2.1 195 = .ok (.invokevirtual 79, 3) := by decide +kernel
theorem d_TR_readCommand_198 : decode y_TR_readCommand.2.1 198 = .ok (.invokevirtual 95, 3) := by decide +kernel
theorem d_TR_readCommand_201 : decode y_TR_readCommand.2.1 201 = .ok (.aload_n 0, 1) := by decide +kernel
theorem d_TR_readCommand_202 : decode y_TR_readCommand.2.1 202 = .ok (.iload_n 2, 1) := by decide +kernel
theorem d_TR_readCommand_203 : decode y_TR_readCommand.2.1 203 = .ok (.invokevirtual 207, 3) := by decide +kernel
theorem d_TR_readCommand_206 : decode y_TR_readCommand.2.1 206 = .ok (.ifCond .eq 10, 3) := by decide +kernel
theorem d_TR_readCommand_209 : decode y_TR_readCommand.2.1 209 = .ok (.aload_n 0, 1) := by decide +kernel
theorem d_TR_readCommand_216 : decode y_TR_readCommand.2.1 216 = .ok (.iconst 0, 1) := by decide +kernel
theorem d_TR_readCommand_217 : decode y_TR_readCommand.2.1 217 = .ok (.ireturn, 1) := by decide +kernel
theorem d_TR_readCommand_210 : decode y_TR_readCommand.2.1 210 = .ok (.invokevirtual 210, 3) := by decide +kernel
theorem d_TR_readCommand_213 : decode y_TR_readCommand.2.1 213 = .ok (.ifCond .ne 5, 3) := by decide +kernel
theorem d_TR_readCommand_218 : decode y_TR_readCommand.2.1 218 = .ok (.aload_n 0, 1) := by decide +kernel
theorem d_TR_readCommand_219 : decode y_TR_readCommand.2.1 219 = .ok (.getfield 12, 3) := by decide +kernel
theorem d_TR_readCommand_222 : decode y_TR_readCommand.2.1 222 = .ok (.getfield 76, 3) := by decide +kernel
theorem d_TR_readCommand_225 : decode y_TR_readCommand.2.1 225 = .ok (.ifCond .ne 18, 3) := by decide +kernel
theorem d_TR_readCommand_228 : decode y_TR_readCommand.2.1 228 = .ok (.aload_n 0, 1) := by decide +kernel
theorem d_TR_readCommand_229 : decode y_TR_readCommand.2.1 229 = .ok (.getfield 36, 3) := by decide +kernel
theorem d_TR_readCommand_232 : decode y_TR_readCommand.2.1 232 = .ok (.getfield 204, 3) := by decide +kernel
theorem d_TR_readCommand_235 : decode y_TR_readCommand.2.1 235 = .ok (.iload_n 2, 1) := by decide +kernel
theorem d_TR_readCommand_236 : decode y_TR_readCommand.2.1 236 = .ok (.iconst 1, 1) := by decide +kernel
theorem d_TR_readCommand_237 : decode y_TR_readCommand.2.1 237 = .ok (.iadd, 1) := by decide +kernel
theorem d_TR_readCommand_238 : decode y_TR_readCommand.2.1 238 = .ok (.dup2, 1) := by decide +kernel
theorem d_TR_readCommand_239 : decode y_TR_readCommand.2.1 239 = .ok (.iaload, 1) := by decide +kernel
theorem d_TR_readCommand_240 : decode y_TR_readCommand.2.1 240 = .ok (.iconst 1, 1) := by decide +kernel
theorem d_TR_readCommand_241 : decode y_TR_readCommand.2.1 241 = .ok (.iadd, 1) := by decide +kernel
theorem d_TR_readCommand_242 : decode y_TR_readCommand.2.1 242 = .ok (.iastore, 1) := by decide +kernel
theorem d_TR_readCommand_243 : decode y_TR_readCommand.2.1 243 = .ok (.aload_n 0, 1) := by decide +kernel
theorem d_TR_readCommand_244 : decode y_TR_readCommand.2.1 244 = .ok (.getfield 12, 3) := by decide +kernel
theorem d_TR_readCommand_247 : decode y_TR_readCommand.2.1 247 = .ok (.bipush 25, 2) := by decide +kernel
theorem d_TR_readCommand_249 : decode y_TR_readCommand.2.1 249 = .ok (.invokevirtual 102, 3) := by decide +kernel
theorem d_TR_readCommand_252 : decode y_TR_readCommand.2.1 252 = .ok (.istore_n 3, 1) := by decide +kernel
theorem d_TR_readCommand_253 : decode y_TR_readCommand.2.1 253 = .ok (.iinc 4 1, 3) := by decide +kernel
theorem d_TR_readCommand_256 : decode y_TR_readCommand.2.1 256 = .ok (.goto (-96), 3) := by decide +kernel
def h_TR_readCommand_27 (G : mG) (d : Nat) (a0 : Nat) (l1 : Int) (M : mM) (Q : Int → mM → Prop) : Prop := mWm G y_TR_readCommand (d + 1) 27 [vr a0, vi l1, vd, vd, vd] [] M (fun r9 M9 => ∃ x9, r9 = some (vi x9) ∧ Q x9 M9)
def h_TR_readCommand_160 (G : mG) (d : Nat) (a0 : Nat) (l2 : Int) (l3 : Int) (l4 : Int) (M : mM) (Q : Int → mM → Prop) : Prop := mWm G y_TR_readCommand (d + 1) 160 [vr a0, vd, vi l2, vi l3, vi l4] [] M (fun r9 M9 => ∃ x9, r9 = some (vi x9) ∧ Q x9 M9)
def h_TR_readCommand_201 (G : mG) (d : Nat) (a0 : Nat) (l2 : Int) (l4 : Int) (M : mM) (Q : Int → mM → Prop) : Prop := mWm G y_TR_readCommand (d + 1) 201 [vr a0, vd, vi l2, vd, vi l4] [] M (fun r9 M9 => ∃ x9, r9 = some (vi x9) ∧ Q x9 M9)
theorem k_TR_readCommand {G : mG} {d : Nat} {a0 : Nat} {l1 : Int} {M : mM} {Q : Int → mM → Prop} (hO : mOk M) (hi_l1 : i32 l1)
    (h : mK M a0 = 3 ∧ mK M (mR M a0 2) = 6 ∧ ((mI M (mR M a0 2) 12 < 60) → (h_TR_readCommand_27 G d a0 l1 M Q)) ∧ (¬ (mI M (mR M a0 2) 12 < 60) → (mK M (mR M a0 0) = 4 ∧ Ci G y_RR_here d [vr (mR M a0 0)] M (fun x7 M6 => i32 x7 ∧ mOk M6 ∧ (mK M6 (mR M a0 0) = 4 ∧ Cv G y_RR_note d [vr (mR M a0 0), vi 5, vi x7] M6 (fun M10 => mOk M10 ∧ (h_TR_readCommand_27 G d a0 l1 M10 Q))))))) :
    Ci G y_TR_readCommand (d + 1) [vr a0, vi l1] M Q := by
  refine wm_open (y := y_TR_readCommand) rfl (Nat.le_of_ble_eq_true rfl) (L := [vr a0, vi l1, vd, vd, vd]) rfl ?_
  obtain ⟨h1, h⟩ := h
  obtain ⟨h2, h⟩ := h
  refine wm_aload_n d_TR_readCommand_0 rfl rfl ?_
  refine gf_TR_36 rfl d_TR_readCommand_1 h1 ?_
  refine gf_TR_187 rfl d_TR_readCommand_4 h2 ?_
  refine wm_bipush d_TR_readCommand_7 (by decide) ?_
  refine wm_icmp_lt (tgt := 27) d_TR_readCommand_9 rfl (hO _ _).1 ⟨by decide, by decide⟩ (fun c4 => ?_) (fun c4 => ?_)
  · replace h := h.1 c4
    exact h
  · replace h := h.2 c4
    obtain ⟨h5, h⟩ := h
    refine wm_aload_n d_TR_readCommand_12 rfl rfl ?_
    refine gf_TR_12 rfl d_TR_readCommand_13 h1 ?_
    refine wm_iconst d_TR_readCommand_16 ?_
    refine wm_aload_n d_TR_readCommand_17 rfl rfl ?_
    refine gf_TR_12 rfl d_TR_readCommand_18 h1 ?_
    refine cf_TR_79 rfl d_TR_readCommand_21 h5 (Nat.le_of_ble_eq_true rfl) (Ci.mono h (fun x7 M6 h => ?_))
    obtain ⟨h8, hOM6, h⟩ := h
    obtain ⟨h9, h⟩ := h
    refine cf_TR_95 rfl d_TR_readCommand_24 h9 (Nat.le_of_ble_eq_true rfl) (Cv.mono h (fun M10 h => ?_))
    obtain ⟨hOM10, h⟩ := h
    exact h
theorem k_TR_readCommand_27 {G : mG} {d : Nat} {a0 : Nat} {l1 : Int} {M : mM} {Q : Int → mM → Prop} (hO : mOk M) (hi_l1 : i32 l1)
    (h : mK M a0 = 3 ∧ mK M (mR M a0 2) = 6 ∧ ∀ v16 : Int, v16 = (if (l1 = 8) then 1 else 2) → mK M (mR M (mR M a0 2) 13) = 30 ∧ ((0 : Int) ≤ (if 59 < mI M (mR M a0 2) 12 then 59 else mI M (mR M a0 2) 12) ∧ (if 59 < mI M (mR M a0 2) 12 then 59 else mI M (mR M a0 2) 12) < (mN M (mR M (mR M a0 2) 13) : Int)) ∧ ∀ M22, M22 = mUI M (mR M (mR M a0 2) 13) (Int.toNat (if 59 < mI M (mR M a0 2) 12 then 59 else mI M (mR M a0 2) 12)) v16 → mK M22 (mR M22 a0 2) = 6 ∧ mK M22 (mR M22 a0 0) = 4 ∧ Ci G y_RR_here d [vr (mR M22 a0 0)] M22 (fun x27 M26 => i32 x27 ∧ mOk M26 ∧ (mK M26 (mR M22 (mR M22 a0 2) 14) = 30 ∧ ((0 : Int) ≤ (if 59 < mI M (mR M a0 2) 12 then 59 else mI M (mR M a0 2) 12) ∧ (if 59 < mI M (mR M a0 2) 12 then 59 else mI M (mR M a0 2) 12) < (mN M26 (mR M22 (mR M22 a0 2) 14) : Int)) ∧ ∀ M31, M31 = mUI M26 (mR M22 (mR M22 a0 2) 14) (Int.toNat (if 59 < mI M (mR M a0 2) 12 then 59 else mI M (mR M a0 2) 12)) x27 → mK M31 a0 = 3 ∧ mK M31 (mR M31 a0 0) = 4 ∧ i32 ((mI M31 (mR M31 a0 0) 2) + 1) ∧ ∀ M36, M36 = mUI M31 (mR M31 a0 0) 2 ((mI M31 (mR M31 a0 0) 2) + 1) → mK M36 (mR M36 a0 0) = 4 ∧ ∀ M39, M39 = mUI M36 (mR M36 a0 0) 6 0 → Ci G y_TR_readItemRule d [vr a0, vi 0, vi 2] M39 (fun x42 M41 => i32 x42 ∧ mOk M41 ∧ (((x42 = 0) → (Q 0 M41)) ∧ (¬ (x42 = 0) → (mK M41 a0 = 3 ∧ mK M41 (mR M41 a0 0) = 4 ∧ Ci G y_RR_accept d [vr (mR M41 a0 0), vi 18] M41 (fun x49 M48 => i32 x49 ∧ mOk M48 ∧ (((x49 = 0) → (Q 0 M48)) ∧ (¬ (x49 = 0) → (mK M48 a0 = 3 ∧ mK M48 (mR M48 a0 2) = 6 ∧ mK M48 (mR M48 a0 5) = 30 ∧ ((0 : Int) ≤ 0 ∧ 0 < (mN M48 (mR M48 a0 5) : Int)) ∧ mK M48 (mR M48 (mR M48 a0 2) 15) = 30 ∧ ((0 : Int) ≤ (if 59 < mI M (mR M a0 2) 12 then 59 else mI M (mR M a0 2) 12) ∧ (if 59 < mI M (mR M a0 2) 12 then 59 else mI M (mR M a0 2) 12) < (mN M48 (mR M48 (mR M48 a0 2) 15) : Int)) ∧ ∀ M70, M70 = mUI M48 (mR M48 (mR M48 a0 2) 15) (Int.toNat (if 59 < mI M (mR M a0 2) 12 then 59 else mI M (mR M a0 2) 12)) (mI M48 (mR M48 a0 5) 0) → mK M70 (mR M70 a0 2) = 6 ∧ mK M70 (mR M70 (mR M70 a0 2) 16) = 30 ∧ ((0 : Int) ≤ (if 59 < mI M (mR M a0 2) 12 then 59 else mI M (mR M a0 2) 12) ∧ (if 59 < mI M (mR M a0 2) 12 then 59 else mI M (mR M a0 2) 12) < (mN M70 (mR M70 (mR M70 a0 2) 16) : Int)) ∧ ((0 : Int) ≤ (if 59 < mI M (mR M a0 2) 12 then 59 else mI M (mR M a0 2) 12) + 1 ∧ (if 59 < mI M (mR M a0 2) 12 then 59 else mI M (mR M a0 2) 12) + 1 < (mN M70 (mR M70 (mR M70 a0 2) 16) : Int)) ∧ ∀ M76, M76 = mUI M70 (mR M70 (mR M70 a0 2) 16) (Int.toNat ((if 59 < mI M (mR M a0 2) 12 then 59 else mI M (mR M a0 2) 12) + 1)) (mI M70 (mR M70 (mR M70 a0 2) 16) (Int.toNat (if 59 < mI M (mR M a0 2) 12 then 59 else mI M (mR M a0 2) 12))) → h_TR_readCommand_160 G d a0 (if 59 < mI M (mR M a0 2) 12 then 59 else mI M (mR M a0 2) 12) 1 0 M76 Q))))))))))) :
    h_TR_readCommand_27 G d a0 l1 M Q := by
  unfold h_TR_readCommand_27
  obtain ⟨h13, h⟩ := h
  obtain ⟨h14, h⟩ := h
  refine wm_aload_n d_TR_readCommand_27 rfl rfl ?_
  refine gf_TR_36 rfl d_TR_readCommand_28 h13 ?_
  refine gf_TR_187 rfl d_TR_readCommand_31 h14 ?_
  refine wm_bipush d_TR_readCommand_34 (by decide) ?_
  refine wm_mmin k5_3 (Nat.le_of_ble_eq_true rfl) (hO _ _).1 ⟨by decide, by decide⟩ d_TR_readCommand_36 ?_
  refine wm_istore_n d_TR_readCommand_39 rfl (by decide) (L' := [vr a0, vi l1, vi (if 59 < mI M (mR M a0 2) 12 then 59 else mI M (mR M a0 2) 12), vd, vd]) rfl ?_
  refine wm_aload_n d_TR_readCommand_40 rfl rfl ?_
  refine gf_TR_36 rfl d_TR_readCommand_41 h13 ?_
  refine gf_TR_195 rfl d_TR_readCommand_44 h14 ?_
  refine wm_iload_n d_TR_readCommand_47 rfl rfl ?_
  refine wm_iload_n d_TR_readCommand_48 rfl rfl ?_
  refine wm_bipush d_TR_readCommand_49 (by decide) ?_
  have hJ : ∀ v16 : Int, v16 = (if (l1 = 8) then 1 else 2) → mWm G y_TR_readCommand (d + 1) 59 [vr a0, vd, vi (if 59 < mI M (mR M a0 2) 12 then 59 else mI M (mR M a0 2) 12), vd, vd] [vi v16, vi (if 59 < mI M (mR M a0 2) 12 then 59 else mI M (mR M a0 2) 12), vr (mR M (mR M a0 2) 13)] M (fun r9 M9 => ∃ x9, r9 = some (vi x9) ∧ Q x9 M9) := by
    intro v16 e18
    have h := h v16 e18
    have h19 : i32 v16 := by rw [e18]; (repeat' split) <;> first | exact ⟨by decide, by decide⟩ | exact ⟨by decide, by decide⟩
    obtain ⟨h20, h⟩ := h
    obtain ⟨h21, h⟩ := h
    obtain ⟨M22, e23⟩ : ∃ M22, M22 = mUI M (mR M (mR M a0 2) 13) (Int.toNat (if 59 < mI M (mR M a0 2) 12 then 59 else mI M (mR M a0 2) 12)) v16 := ⟨_, rfl⟩
    replace h := h M22 e23
    obtain ⟨h24, h⟩ := h
    obtain ⟨h25, h⟩ := h
    have hOM22 : mOk M22 := by rw [e23]; exact mOk_UI hO h19
    refine wm_iastE d_TR_readCommand_59 h20 h21 h19 e23 ?_
    refine wm_aload_n d_TR_readCommand_60 rfl rfl ?_
    refine gf_TR_36 rfl d_TR_readCommand_61 (by rw [e23]; exact h13) ?_
    refine gf_TR_198 rfl d_TR_readCommand_64 h24 ?_
    refine wm_iload_n d_TR_readCommand_67 rfl rfl ?_
    refine wm_aload_n d_TR_readCommand_68 rfl rfl ?_
    refine gf_TR_12 rfl d_TR_readCommand_69 (by rw [e23]; exact h13) ?_
    refine cf_TR_79 rfl d_TR_readCommand_72 h25 (Nat.le_of_ble_eq_true rfl) (Ci.mono h (fun x27 M26 h => ?_))
    obtain ⟨h28, hOM26, h⟩ := h
    obtain ⟨h29, h⟩ := h
    obtain ⟨h30, h⟩ := h
    obtain ⟨M31, e32⟩ : ∃ M31, M31 = mUI M26 (mR M22 (mR M22 a0 2) 14) (Int.toNat (if 59 < mI M (mR M a0 2) 12 then 59 else mI M (mR M a0 2) 12)) x27 := ⟨_, rfl⟩
    replace h := h M31 e32
    obtain ⟨h33, h⟩ := h
    obtain ⟨h34, h⟩ := h
    obtain ⟨h35, h⟩ := h
    obtain ⟨M36, e37⟩ : ∃ M36, M36 = mUI M31 (mR M31 a0 0) 2 ((mI M31 (mR M31 a0 0) 2) + 1) := ⟨_, rfl⟩
    replace h := h M36 e37
    obtain ⟨h38, h⟩ := h
    obtain ⟨M39, e40⟩ : ∃ M39, M39 = mUI M36 (mR M36 a0 0) 6 0 := ⟨_, rfl⟩
    replace h := h M39 e40
    have hOM31 : mOk M31 := by rw [e32]; exact mOk_UI hOM26 h28
    refine wm_iastE d_TR_readCommand_75 h29 h30 h28 e32 ?_
    refine wm_aload_n d_TR_readCommand_76 rfl rfl ?_
    refine gf_TR_12 rfl d_TR_readCommand_77 h33 ?_
    refine wm_dup d_TR_readCommand_80 rfl ?_
    refine gf_TR_59 rfl d_TR_readCommand_81 h34 ?_
    refine wm_iconst d_TR_readCommand_84 ?_
    refine wm_iadd d_TR_readCommand_85 ?_
    have hOM36 : mOk M36 := by rw [e37]; exact mOk_UI hOM31 h35
    refine pf_TR_59 rfl d_TR_readCommand_86 h34 h35 e37 ?_
    refine wm_aload_n d_TR_readCommand_89 rfl rfl ?_
    refine gf_TR_12 rfl d_TR_readCommand_90 (by rw [e37]; exact h33) ?_
    refine wm_iconst d_TR_readCommand_93 ?_
    have hOM39 : mOk M39 := by rw [e40]; exact mOk_UI hOM36 (m_b32 (by decide))
    refine pf_TR_125 rfl d_TR_readCommand_94 h38 (by decide) e40 ?_
    refine wm_aload_n d_TR_readCommand_97 rfl rfl ?_
    refine wm_iconst d_TR_readCommand_98 ?_
    refine wm_iconst d_TR_readCommand_99 ?_
    refine cf_TR_136 rfl d_TR_readCommand_100 (by rw [e40, e37]; exact h33) (Nat.le_of_ble_eq_true rfl) (Ci.mono h (fun x42 M41 h => ?_))
    obtain ⟨h43, hOM41, h⟩ := h
    refine wm_if_eq (tgt := 118) d_TR_readCommand_103 rfl h43 (fun c45 => ?_) (fun c45 => ?_)
    · replace h := h.1 c45
      refine wm_iconst d_TR_readCommand_118 ?_
      refine wm_ireturn d_TR_readCommand_119 rfl (m_nb (by decide)) ?_
      exact ⟨_, rfl, h⟩
    · replace h := h.2 c45
      obtain ⟨h46, h⟩ := h
      obtain ⟨h47, h⟩ := h
      refine wm_aload_n d_TR_readCommand_106 rfl rfl ?_
      refine gf_TR_12 rfl d_TR_readCommand_107 h46 ?_
      refine wm_bipush d_TR_readCommand_110 (by decide) ?_
      refine cf_TR_102 rfl d_TR_readCommand_112 h47 (Nat.le_of_ble_eq_true rfl) (Ci.mono h (fun x49 M48 h => ?_))
      obtain ⟨h50, hOM48, h⟩ := h
      refine wm_if_ne (tgt := 120) d_TR_readCommand_115 rfl h50 (fun c63 => ?_) (fun c63 => ?_)
      · replace h := h.2 c63
        obtain ⟨h64, h⟩ := h
        obtain ⟨h65, h⟩ := h
        obtain ⟨h66, h⟩ := h
        obtain ⟨h67, h⟩ := h
        obtain ⟨h68, h⟩ := h
        obtain ⟨h69, h⟩ := h
        obtain ⟨M70, e71⟩ : ∃ M70, M70 = mUI M48 (mR M48 (mR M48 a0 2) 15) (Int.toNat (if 59 < mI M (mR M a0 2) 12 then 59 else mI M (mR M a0 2) 12)) (mI M48 (mR M48 a0 5) 0) := ⟨_, rfl⟩
        replace h := h M70 e71
        obtain ⟨h72, h⟩ := h
        obtain ⟨h73, h⟩ := h
        obtain ⟨h74, h⟩ := h
        obtain ⟨h75, h⟩ := h
        obtain ⟨M76, e77⟩ : ∃ M76, M76 = mUI M70 (mR M70 (mR M70 a0 2) 16) (Int.toNat ((if 59 < mI M (mR M a0 2) 12 then 59 else mI M (mR M a0 2) 12) + 1)) (mI M70 (mR M70 (mR M70 a0 2) 16) (Int.toNat (if 59 < mI M (mR M a0 2) 12 then 59 else mI M (mR M a0 2) 12))) := ⟨_, rfl⟩
        replace h := h M76 e77
        refine wm_aload_n d_TR_readCommand_120 rfl rfl ?_
        refine gf_TR_36 rfl d_TR_readCommand_121 h64 ?_
        refine gf_TR_201 rfl d_TR_readCommand_124 h65 ?_
        refine wm_iload_n d_TR_readCommand_127 rfl rfl ?_
        refine wm_aload_n d_TR_readCommand_128 rfl rfl ?_
        refine gf_TR_25 rfl d_TR_readCommand_129 h64 ?_
        refine wm_iconst d_TR_readCommand_132 ?_
        refine wm_iald d_TR_readCommand_133 h66 h67 ?_
        have hOM70 : mOk M70 := by rw [e71]; exact mOk_UI hOM48 (hOM48 _ _).1
        refine wm_iastE d_TR_readCommand_134 h68 h69 (hOM48 _ _).1 e71 ?_
        refine wm_aload_n d_TR_readCommand_135 rfl rfl ?_
        refine gf_TR_36 rfl d_TR_readCommand_136 (by rw [e71]; exact h64) ?_
        refine gf_TR_204 rfl d_TR_readCommand_139 h72 ?_
        refine wm_iload_n d_TR_readCommand_142 rfl rfl ?_
        refine wm_iconst d_TR_readCommand_143 ?_
        refine wm_iadd d_TR_readCommand_144 ?_
        refine wm_aload_n d_TR_readCommand_145 rfl rfl ?_
        refine gf_TR_36 rfl d_TR_readCommand_146 (by rw [e71]; exact h64) ?_
        refine gf_TR_204 rfl d_TR_readCommand_149 h72 ?_
        refine wm_iload_n d_TR_readCommand_152 rfl rfl ?_
        refine wm_iald d_TR_readCommand_153 h73 h74 ?_
        have hOM76 : mOk M76 := by rw [e77]; exact mOk_UI hOM70 (hOM70 _ _).1
        refine wm_iastE d_TR_readCommand_154 h73 h75 (hOM70 _ _).1 e77 ?_
        refine wm_iconst d_TR_readCommand_155 ?_
        refine wm_istore_n d_TR_readCommand_156 rfl (by decide) (L' := [vr a0, vd, vi (if 59 < mI M (mR M a0 2) 12 then 59 else mI M (mR M a0 2) 12), vi 1, vd]) rfl ?_
        refine wm_iconst d_TR_readCommand_157 ?_
        refine wm_istore d_TR_readCommand_158 (by decide) (L' := [vr a0, vd, vi (if 59 < mI M (mR M a0 2) 12 then 59 else mI M (mR M a0 2) 12), vi 1, vi 0]) rfl ?_
        exact h
      · replace c63 := Classical.not_not.mp c63
        replace h := h.1 c63
        refine wm_iconst d_TR_readCommand_118 ?_
        refine wm_ireturn d_TR_readCommand_119 rfl (m_nb (by decide)) ?_
        exact ⟨_, rfl, h⟩
  clear h
  refine wm_icmp_ne (tgt := 58) d_TR_readCommand_51 rfl hi_l1 ⟨by decide, by decide⟩ (fun c15 => ?_) (fun c15 => ?_)
  · refine wm_iconst d_TR_readCommand_58 ?_
    refine wm_less (L' := [vr a0, vd, vi (if 59 < mI M (mR M a0 2) 12 then 59 else mI M (mR M a0 2) 12), vd, vd]) ⟨Or.inr rfl, Or.inl rfl, Or.inr rfl, Or.inl rfl, Or.inl rfl, trivial⟩ ?_
    exact hJ 2 (if_neg c15).symm
  · replace c15 := Classical.not_not.mp c15
    refine wm_iconst d_TR_readCommand_54 ?_
    refine wm_goto (tgt := 59) d_TR_readCommand_55 rfl ?_
    refine wm_less (L' := [vr a0, vd, vi (if 59 < mI M (mR M a0 2) 12 then 59 else mI M (mR M a0 2) 12), vd, vd]) ⟨Or.inr rfl, Or.inl rfl, Or.inr rfl, Or.inl rfl, Or.inl rfl, trivial⟩ ?_
    exact hJ 1 (if_pos c15).symm
theorem k_TR_readCommand_160 {G : mG} {d : Nat} {a0 : Nat} {l2 : Int} {l3 : Int} {l4 : Int} {M : mM} {Q : Int → mM → Prop} (hO : mOk M) (hi_l2 : i32 l2) (hi_l3 : i32 l3) (hi_l4 : i32 l4)
    (h : mK M a0 = 3 ∧ mK M (mR M a0 0) = 4 ∧ mK M (mR M (mR M a0 0) 0) = 2 ∧ (((mI M (mR M (mR M a0 0) 0) 2 ≤ l4) ∨ (l3 = 0)) → (mK M (mR M a0 2) = 6 ∧ i32 (l2 + 1) ∧ ∀ M89, M89 = mUI M (mR M a0 2) 12 (l2 + 1) → mK M89 (mR M89 a0 0) = 4 ∧ Ci G y_RR_accept d [vr (mR M89 a0 0), vi 35] M89 (fun x93 M92 => i32 x93 ∧ mOk M92 ∧ ((x93 = 0 ∨ x93 = 1) ∧ Q x93 M92)))) ∧ (¬ ((mI M (mR M (mR M a0 0) 0) 2 ≤ l4) ∨ (l3 = 0)) → (((l4 < 8) → (h_TR_readCommand_201 G d a0 l2 l4 M Q)) ∧ (¬ (l4 < 8) → (Ci G y_RR_here d [vr (mR M a0 0)] M (fun x100 M99 => i32 x100 ∧ mOk M99 ∧ (mK M99 (mR M a0 0) = 4 ∧ Cv G y_RR_note d [vr (mR M a0 0), vi 5, vi x100] M99 (fun M103 => mOk M103 ∧ (h_TR_readCommand_201 G d a0 l2 l4 M103 Q))))))))) :
    h_TR_readCommand_160 G d a0 l2 l3 l4 M Q := by
  unfold h_TR_readCommand_160
  obtain ⟨h79, h⟩ := h
  obtain ⟨h80, h⟩ := h
  obtain ⟨h81, h⟩ := h
  refine wm_iload d_TR_readCommand_160 rfl ?_
  refine wm_aload_n d_TR_readCommand_162 rfl rfl ?_
  refine gf_TR_12 rfl d_TR_readCommand_163 h79 ?_
  refine gf_TR_109 rfl d_TR_readCommand_166 h80 ?_
  refine gf_TR_40 rfl d_TR_readCommand_169 h81 ?_
  have hE0 : ((mI M (mR M (mR M a0 0) 0) 2 ≤ l4) ∨ (l3 = 0)) → mWm G y_TR_readCommand (d + 1) 259 [vr a0, vd, vi l2, vi l3, vi l4] [] M (fun r9 M9 => ∃ x9, r9 = some (vi x9) ∧ Q x9 M9) := by
    intro q86
    have h := h.1 q86
    obtain ⟨h87, h⟩ := h
    obtain ⟨h88, h⟩ := h
    obtain ⟨M89, e90⟩ : ∃ M89, M89 = mUI M (mR M a0 2) 12 (l2 + 1) := ⟨_, rfl⟩
    replace h := h M89 e90
    obtain ⟨h91, h⟩ := h
    refine wm_aload_n d_TR_readCommand_259 rfl rfl ?_
    refine gf_TR_36 rfl d_TR_readCommand_260 h79 ?_
    refine wm_iload_n d_TR_readCommand_263 rfl rfl ?_
    refine wm_iconst d_TR_readCommand_264 ?_
    refine wm_iadd d_TR_readCommand_265 ?_
    have hOM89 : mOk M89 := by rw [e90]; exact mOk_UI hO h88
    refine pf_TR_187 rfl d_TR_readCommand_266 h87 h88 e90 ?_
    refine wm_aload_n d_TR_readCommand_269 rfl rfl ?_
    refine gf_TR_12 rfl d_TR_readCommand_270 (by rw [e90]; exact h79) ?_
    refine wm_bipush d_TR_readCommand_273 (by decide) ?_
    refine cf_TR_102 rfl d_TR_readCommand_275 h91 (Nat.le_of_ble_eq_true rfl) (Ci.mono h (fun x93 M92 h => ?_))
    obtain ⟨h94, hOM92, h⟩ := h
    obtain ⟨h95, h⟩ := h
    refine wm_ireturn d_TR_readCommand_278 rfl (m_nb h95) ?_
    exact ⟨_, rfl, h⟩
  have hE1 : ¬ ((mI M (mR M (mR M a0 0) 0) 2 ≤ l4) ∨ (l3 = 0)) → mWm G y_TR_readCommand (d + 1) 179 [vr a0, vd, vi l2, vi l3, vi l4] [] M (fun r9 M9 => ∃ x9, r9 = some (vi x9) ∧ Q x9 M9) := by
    intro q96
    have h := h.2 q96
    refine wm_iload d_TR_readCommand_179 rfl ?_
    refine wm_bipush d_TR_readCommand_181 (by decide) ?_
    refine wm_icmp_lt (tgt := 201) d_TR_readCommand_183 rfl hi_l4 ⟨by decide, by decide⟩ (fun c98 => ?_) (fun c98 => ?_)
    · replace h := h.1 c98
      refine wm_less (L' := [vr a0, vd, vi l2, vd, vi l4]) ⟨Or.inr rfl, Or.inl rfl, Or.inr rfl, Or.inl rfl, Or.inr rfl, trivial⟩ ?_
      exact h
    · replace h := h.2 c98
      refine wm_aload_n d_TR_readCommand_186 rfl rfl ?_
      refine gf_TR_12 rfl d_TR_readCommand_187 h79 ?_
      refine wm_iconst d_TR_readCommand_190 ?_
      refine wm_aload_n d_TR_readCommand_191 rfl rfl ?_
      refine gf_TR_12 rfl d_TR_readCommand_192 h79 ?_
      refine cf_TR_79 rfl d_TR_readCommand_195 h80 (Nat.le_of_ble_eq_true rfl) (Ci.mono h (fun x100 M99 h => ?_))
      obtain ⟨h101, hOM99, h⟩ := h
      obtain ⟨h102, h⟩ := h
      refine cf_TR_95 rfl d_TR_readCommand_198 h102 (Nat.le_of_ble_eq_true rfl) (Cv.mono h (fun M103 h => ?_))
      obtain ⟨hOM103, h⟩ := h
      refine wm_less (L' := [vr a0, vd, vi l2, vd, vi l4]) ⟨Or.inr rfl, Or.inl rfl, Or.inr rfl, Or.inl rfl, Or.inr rfl, trivial⟩ ?_
      exact h
  clear h
  refine wm_icmp_ge (tgt := 259) d_TR_readCommand_172 rfl hi_l4 (hO _ _).1 (fun c84 => ?_) (fun c84 => ?_)
  · exact hE0 (Or.inl c84)
  · refine wm_iload_n d_TR_readCommand_175 rfl rfl ?_
    refine wm_if_eq (tgt := 259) d_TR_readCommand_176 rfl hi_l3 (fun c83 => ?_) (fun c83 => ?_)
    · exact hE0 (Or.inr c83)
    · exact hE1 (fun z106 => Or.elim z106 c84 c83)
theorem k_TR_readCommand_201 {G : mG} {d : Nat} {a0 : Nat} {l2 : Int} {l4 : Int} {M : mM} {Q : Int → mM → Prop} (hO : mOk M) (hi_l2 : i32 l2) (hi_l4 : i32 l4)
    (h : mK M a0 = 3 ∧ Ci G y_TR_readChance d [vr a0, vi l2] M (fun x110 M109 => i32 x110 ∧ mOk M109 ∧ (((x110 = 0) → (Q 0 M109)) ∧ (¬ (x110 = 0) → (mK M109 a0 = 3 ∧ Ci G y_TR_readSets d [vr a0] M109 (fun x116 M115 => i32 x116 ∧ mOk M115 ∧ (((x116 = 0) → (Q 0 M115)) ∧ (¬ (x116 = 0) → (mK M115 a0 = 3 ∧ mK M115 (mR M115 a0 0) = 4 ∧ ((mI M115 (mR M115 a0 0) 3 = 0) → (mK M115 (mR M115 a0 2) = 6 ∧ mK M115 (mR M115 (mR M115 a0 2) 16) = 30 ∧ ((0 : Int) ≤ l2 + 1 ∧ l2 + 1 < (mN M115 (mR M115 (mR M115 a0 2) 16) : Int)) ∧ ((0 : Int) ≤ l2 + 1 ∧ l2 + 1 < (mN M115 (mR M115 (mR M115 a0 2) 16) : Int)) ∧ i32 ((mI M115 (mR M115 (mR M115 a0 2) 16) (Int.toNat (l2 + 1))) + 1))) ∧ ∀ M131 : mM, M131 = (if (mI M115 (mR M115 a0 0) 3 = 0) then (mUI M115 (mR M115 (mR M115 a0 2) 16) (Int.toNat (l2 + 1)) ((mI M115 (mR M115 (mR M115 a0 2) 16) (Int.toNat (l2 + 1))) + 1)) else M115) → mOk M131 ∧ mK M131 (mR M131 a0 0) = 4 ∧ Ci G y_RR_accept d [vr (mR M131 a0 0), vi 25] M131 (fun x137 M136 => i32 x137 ∧ mOk M136 ∧ (h_TR_readCommand_160 G d a0 l2 x137 (l4 + 1) M136 Q))))))))))) :
    h_TR_readCommand_201 G d a0 l2 l4 M Q := by
  unfold h_TR_readCommand_201
  obtain ⟨h108, h⟩ := h
  refine wm_aload_n d_TR_readCommand_201 rfl rfl ?_
  refine wm_iload_n d_TR_readCommand_202 rfl rfl ?_
  refine cf_TR_207 rfl d_TR_readCommand_203 h108 (Nat.le_of_ble_eq_true rfl) (Ci.mono h (fun x110 M109 h => ?_))
  obtain ⟨h111, hOM109, h⟩ := h
  refine wm_if_eq (tgt := 216) d_TR_readCommand_206 rfl h111 (fun c113 => ?_) (fun c113 => ?_)
  · replace h := h.1 c113
    refine wm_iconst d_TR_readCommand_216 ?_
    refine wm_ireturn d_TR_readCommand_217 rfl (m_nb (by decide)) ?_
    exact ⟨_, rfl, h⟩
  · replace h := h.2 c113
    obtain ⟨h114, h⟩ := h
    refine wm_aload_n d_TR_readCommand_209 rfl rfl ?_
    refine cf_TR_210 rfl d_TR_readCommand_210 h114 (Nat.le_of_ble_eq_true rfl) (Ci.mono h (fun x116 M115 h => ?_))
    obtain ⟨h117, hOM115, h⟩ := h
    refine wm_if_ne (tgt := 218) d_TR_readCommand_213 rfl h117 (fun c122 => ?_) (fun c122 => ?_)
    · replace h := h.2 c122
      obtain ⟨h123, h⟩ := h
      obtain ⟨h124, h⟩ := h
      refine wm_aload_n d_TR_readCommand_218 rfl rfl ?_
      refine gf_TR_12 rfl d_TR_readCommand_219 h123 ?_
      refine gf_TR_76 rfl d_TR_readCommand_222 h124 ?_
      obtain ⟨s132, h⟩ := h
      have hJ : ∀ M131 : mM, M131 = (if (mI M115 (mR M115 a0 0) 3 = 0) then (mUI M115 (mR M115 (mR M115 a0 2) 16) (Int.toNat (l2 + 1)) ((mI M115 (mR M115 (mR M115 a0 2) 16) (Int.toNat (l2 + 1))) + 1)) else M115) → mWm G y_TR_readCommand (d + 1) 243 [vr a0, vd, vi l2, vd, vi l4] [] M131 (fun r9 M9 => ∃ x9, r9 = some (vi x9) ∧ Q x9 M9) := by
        intro M131 e133
        have h := h M131 e133
        have h134 : mK M131 = mK M115 := by rw [e133]; (repeat' split) <;> rfl
        obtain ⟨hOM136, h⟩ := h
        obtain ⟨h135, h⟩ := h
        refine wm_aload_n d_TR_readCommand_243 rfl rfl ?_
        refine gf_TR_12 rfl d_TR_readCommand_244 (by rw [h134]; exact h123) ?_
        refine wm_bipush d_TR_readCommand_247 (by decide) ?_
        refine cf_TR_102 rfl d_TR_readCommand_249 h135 (Nat.le_of_ble_eq_true rfl) (Ci.mono h (fun x137 M136 h => ?_))
        obtain ⟨h138, hOM136, h⟩ := h
        refine wm_istore_n d_TR_readCommand_252 rfl (by decide) (L' := [vr a0, vd, vi l2, vi x137, vi l4]) rfl ?_
        refine wm_iinc d_TR_readCommand_253 (by decide) rfl (L' := [vr a0, vd, vi l2, vi x137, vi (l4 + 1)]) rfl ?_
        refine wm_goto (tgt := 160) d_TR_readCommand_256 rfl ?_
        exact h
      clear h
      have s139 := s132
      refine wm_if_ne (tgt := 243) d_TR_readCommand_225 rfl (hOM115 _ _).1 (fun c125 => ?_) (fun c125 => ?_)
      · exact hJ M115 (if_neg c125).symm
      · replace c125 := Classical.not_not.mp c125
        have s139 := s139 c125
        obtain ⟨h126, h127, h128, h129, h130⟩ := s139
        refine wm_aload_n d_TR_readCommand_228 rfl rfl ?_
        refine gf_TR_36 rfl d_TR_readCommand_229 h123 ?_
        refine gf_TR_204 rfl d_TR_readCommand_232 h126 ?_
        refine wm_iload_n d_TR_readCommand_235 rfl rfl ?_
        refine wm_iconst d_TR_readCommand_236 ?_
        refine wm_iadd d_TR_readCommand_237 ?_
        refine wm_dup2 d_TR_readCommand_238 rfl rfl ?_
        refine wm_iald d_TR_readCommand_239 h127 h128 ?_
        refine wm_iconst d_TR_readCommand_240 ?_
        refine wm_iadd d_TR_readCommand_241 ?_
        refine wm_iastE d_TR_readCommand_242 h127 h129 h130 rfl ?_
        exact hJ (mUI M115 (mR M115 (mR M115 a0 2) 16) (Int.toNat (l2 + 1)) ((mI M115 (mR M115 (mR M115 a0 2) 16) (Int.toNat (l2 + 1))) + 1)) (if_pos c125).symm
    · replace c122 := Classical.not_not.mp c122
      replace h := h.1 c122
      refine wm_iconst d_TR_readCommand_216 ?_
      refine wm_ireturn d_TR_readCommand_217 rfl (m_nb (by decide)) ?_
      exact ⟨_, rfl, h⟩
theorem d_TR_readChance_0 : decode y_TR_readChance.2.1 0 = .ok (.aload_n 0, 1) := by decide +kernel
theorem d_TR_readChance_1 : decode y_TR_readChance.2.1 1 = .ok (.getfield 12, 3) := by decide +kernel
theorem d_TR_readChance_4 : decode y_TR_readChance.2.1 4 = .ok (.invokevirtual 79, 3) := by decide +kernel
theorem d_TR_readChance_7 : decode y_TR_readChance.2.1 7 = .ok (.istore_n 2, 1) := by decide +kernel
theorem d_TR_readChance_8 : decode y_TR_readChance.2.1 8 = .ok (.aload_n 0, 1) := by decide +kernel
theorem d_TR_readChance_9 : decode y_TR_readChance.2.1 9 = .ok (.getfield 36, 3) := by decide +kernel
theorem d_TR_readChance_12 : decode y_TR_readChance.2.1 12 = .ok (.getfield 116, 3) := by decide +kernel
theorem d_TR_readChance_15 : decode y_TR_readChance.2.1 15 = .ok (.istore_n 3, 1) := by decide +kernel
theorem d_TR_readChance_16 : decode y_TR_readChance.2.1 16 = .ok (.aload_n 0, 1) := by decide +kernel
theorem d_TR_readChance_17 : decode y_TR_readChance.2.1 17 = .ok (.getfield 12, 3) := by decide +kernel
theorem d_TR_readChance_20 : decode y_TR_readChance.2.1 20 = .ok (.iconst 1, 1) := by decide +kernel
theorem d_TR_readChance_21 : decode y_TR_readChance.2.1 21 = .ok (.iconst 0, 1) := by decide +kernel
theorem d_TR_readChance_22 : decode y_TR_readChance.2.1 22 = .ok (.invokevirtual 117, 3) := by decide +kernel
theorem d_TR_readChance_25 : decode y_TR_readChance.2.1 25 = .ok (.ifCond .ne 5, 3) := by decide +kernel
theorem d_TR_readChance_28 : decode y_TR_readChance.2.1 28 = .ok (.iconst 0, 1) := by decide +kernel
theorem d_TR_readChance_29 : decode y_TR_readChance.2.1 29 = .ok (.ireturn, 1) := by decide +kernel
theorem d_TR_readChance_30 : decode y_TR_readChance.2.1 30 = .ok (.aload_n 0, 1) := by decide +kernel
theorem d_TR_readChance_31 : decode y_TR_readChance.2.1 31 = .ok (.getfield 36, 3) := by decide +kernel
theorem d_TR_readChance_34 : decode y_TR_readChance.2.1 34 = .ok (.iconst 0, 1) := by decide +kernel
theorem d_TR_readChance_35 : decode y_TR_readChance.2.1 35 = .ok (.iconst 0, 1) := by decide +kernel
theorem d_TR_readChance_36 : decode y_TR_readChance.2.1 36 = .ok (.invokevirtual 121, 3) := by decide +kernel
theorem d_TR_readChance_39 : decode y_TR_readChance.2.1 39 = .ok (.pop, 1) := by decide +kernel
theorem d_TR_readChance_40 : decode y_TR_readChance.2.1 40 = .ok (.aload_n 0, 1) := by decide +kernel
theorem d_TR_readChance_41 : decode y_TR_readChance.2.1 41 = .ok (.getfield 12, 3) := by decide +kernel
theorem d_TR_readChance_44 : decode y_TR_readChance.2.1 44 = .ok (.getfield 76, 3) := by decide +kernel
theorem d_TR_readChance_47 : decode y_TR_readChance.2.1 47 = .ok (.ifCond .ne 55, 3) := by decide +kernel
theorem d_TR_readChance_50 : decode y_TR_readChance.2.1 50 = .ok (.aload_n 0, 1) := by decide +kernel
theorem d_TR_readChance_51 : decode y_TR_readChance.2.1 51 = .ok (.getfield 36, 3) := by decide +kernel
theorem d_TR_readChance_54 : decode y_TR_readChance.2.1 54 = .ok (.getfield 204, 3) := by decide +kernel
theorem d_TR_readChance_57 : decode y_TR_readChance.2.1 57 = .ok (.iload_n 1, 1) := by decide +kernel
theorem d_TR_readChance_58 : decode y_TR_readChance.2.1 58 = .ok (.iconst 1, 1) := by decide +kernel
theorem d_TR_readChance_59 : decode y_TR_readChance.2.1 59 = .ok (.iadd, 1) := by decide +kernel
theorem d_TR_readChance_60 : decode y_TR_readChance.2.1 60 = .ok (.iaload, 1) := by decide +kernel
theorem d_TR_readChance_61 : decode y_TR_readChance.2.1 61 = .ok (.istore 4, 2) := by decide +kernel
theorem d_TR_readChance_63 : decode y_TR_readChance.2.1 63 = .ok (.aload_n 0, 1) := by decide +kernel
theorem d_TR_readChance_64 : decode y_TR_readChance.2.1 64 = .ok (.getfield 36, 3) := by decide +kernel
theorem d_TR_readChance_67 : decode y_TR_readChance.2.1 67 = .ok (.getfield 213, 3) := by decide +kernel
theorem d_TR_readChance_70 : decode y_TR_readChance.2.1 70 = .ok (.iload 4, 2) := by decide +kernel
theorem d_TR_readChance_72 : decode y_TR_readChance.2.1 72 = .ok (.iload_n 2, 1) := by decide +kernel
theorem d_TR_readChance_73 : decode y_TR_readChance.2.1 73 = .ok (.iastore, 1) := by decide +kernel
theorem d_TR_readChance_74 : decode y_TR_readChance.2.1 74 = .ok (.aload_n 0, 1) := by decide +kernel
theorem d_TR_readChance_75 : decode y_TR_readChance.2.1 75 = .ok (.getfield 36, 3) := by decide +kernel
theorem d_TR_readChance_78 : decode y_TR_readChance.2.1 78 = .ok (.getfield 216, 3) := by decide +kernel
theorem d_TR_readChance_81 : decode y_TR_readChance.2.1 81 = .ok (.iload 4, 2) := by decide +kernel
theorem d_TR_readChance_83 : decode y_TR_readChance.2.1 83 = .ok (.iload_n 3, 1) := by decide +kernel
theorem d_TR_readChance_84 : decode y_TR_readChance.2.1 84 = .ok (.iastore, 1) := by decide +kernel
theorem d_TR_readChance_85 : decode y_TR_readChance.2.1 85 = .ok (.aload_n 0, 1) := by decide +kernel
theorem d_TR_readChance_86 : decode y_TR_readChance.2.1 86 = .ok (.getfield 36, 3) := by decide +kernel
theorem d_TR_readChance_89 : decode y_TR_readChance.2.1 89 = .ok (.getfield 219, 3) := by decide +kernel
theorem d_TR_readChance_92 : decode y_TR_readChance.2.1 92 = .ok (.iload 4, 2) := by decide +kernel
theorem d_TR_readChance_94 : decode y_TR_readChance.2.1 94 = .ok (.aload_n 0, 1) := by decide +kernel
theorem d_TR_readChance_95 : decode y_TR_readChance.2.1 95 = .ok (.getfield 36, 3) := by decide +kernel
theorem d_TR_readChance_98 : decode y_TR_readChance.2.1 98 = .ok (.getfield 116, 3) := by decide +kernel
theorem d_TR_readChance_101 : decode y_TR_readChance.2.1 101 = .ok (.iastore, 1) := by decide +kernel
theorem d_TR_readChance_102 : decode y_TR_readChance.2.1 102 = .ok (.aload_n 0, 1) := by decide +kernel
theorem d_TR_readChance_103 : decode y_TR_readChance.2.1 103 = .ok (.getfield 12, 3) := by decide +kernel
theorem d_TR_readChance_106 : decode y_TR_readChance.2.1 106 = .ok (.bipush 34, 2) := by decide +kernel
theorem d_TR_readChance_108 : decode y_TR_readChance.2.1 108 = .ok (.invokevirtual 102, 3) := by decide +kernel
theorem d_TR_readChance_111 : decode y_TR_readChance.2.1 111 = .ok (.ireturn, 1) := by decide +kernel
theorem k_TR_readChance {G : mG} {d : Nat} {a0 : Nat} {l1 : Int} {M : mM} {Q : Int → mM → Prop} (hO : mOk M) (hi_l1 : i32 l1)
    (h : mK M a0 = 3 ∧ mK M (mR M a0 0) = 4 ∧ Ci G y_RR_here d [vr (mR M a0 0)] M (fun x4 M3 => i32 x4 ∧ mOk M3 ∧ (mK M3 a0 = 3 ∧ mK M3 (mR M3 a0 2) = 6 ∧ mK M3 (mR M3 a0 0) = 4 ∧ Ci G y_RR_readRule d [vr (mR M3 a0 0), vi 1, vi 0] M3 (fun x10 M9 => i32 x10 ∧ mOk M9 ∧ (((x10 = 0) → (Q 0 M9)) ∧ (¬ (x10 = 0) → (mK M9 a0 = 3 ∧ mK M9 (mR M9 a0 2) = 6 ∧ Ci G y_Pr_add d [vr (mR M9 a0 2), vi 0, vi 0] M9 (fun x17 M16 => i32 x17 ∧ mOk M16 ∧ (mK M16 a0 = 3 ∧ mK M16 (mR M16 a0 0) = 4 ∧ ((mI M16 (mR M16 a0 0) 3 = 0) → (mK M16 (mR M16 a0 2) = 6 ∧ mK M16 (mR M16 (mR M16 a0 2) 16) = 30 ∧ ((0 : Int) ≤ l1 + 1 ∧ l1 + 1 < (mN M16 (mR M16 (mR M16 a0 2) 16) : Int)) ∧ mK M16 (mR M16 (mR M16 a0 2) 17) = 30 ∧ ((0 : Int) ≤ mI M16 (mR M16 (mR M16 a0 2) 16) (Int.toNat (l1 + 1)) ∧ mI M16 (mR M16 (mR M16 a0 2) 16) (Int.toNat (l1 + 1)) < (mN M16 (mR M16 (mR M16 a0 2) 17) : Int)) ∧ mK (mUI M16 (mR M16 (mR M16 a0 2) 17) (Int.toNat (mI M16 (mR M16 (mR M16 a0 2) 16) (Int.toNat (l1 + 1)))) x4) (mR (mUI M16 (mR M16 (mR M16 a0 2) 17) (Int.toNat (mI M16 (mR M16 (mR M16 a0 2) 16) (Int.toNat (l1 + 1)))) x4) a0 2) = 6 ∧ mK (mUI M16 (mR M16 (mR M16 a0 2) 17) (Int.toNat (mI M16 (mR M16 (mR M16 a0 2) 16) (Int.toNat (l1 + 1)))) x4) (mR (mUI M16 (mR M16 (mR M16 a0 2) 17) (Int.toNat (mI M16 (mR M16 (mR M16 a0 2) 16) (Int.toNat (l1 + 1)))) x4) (mR (mUI M16 (mR M16 (mR M16 a0 2) 17) (Int.toNat (mI M16 (mR M16 (mR M16 a0 2) 16) (Int.toNat (l1 + 1)))) x4) a0 2) 18) = 30 ∧ ((0 : Int) ≤ mI M16 (mR M16 (mR M16 a0 2) 16) (Int.toNat (l1 + 1)) ∧ mI M16 (mR M16 (mR M16 a0 2) 16) (Int.toNat (l1 + 1)) < (mN (mUI M16 (mR M16 (mR M16 a0 2) 17) (Int.toNat (mI M16 (mR M16 (mR M16 a0 2) 16) (Int.toNat (l1 + 1)))) x4) (mR (mUI M16 (mR M16 (mR M16 a0 2) 17) (Int.toNat (mI M16 (mR M16 (mR M16 a0 2) 16) (Int.toNat (l1 + 1)))) x4) (mR (mUI M16 (mR M16 (mR M16 a0 2) 17) (Int.toNat (mI M16 (mR M16 (mR M16 a0 2) 16) (Int.toNat (l1 + 1)))) x4) a0 2) 18) : Int)) ∧ mK (mUI (mUI M16 (mR M16 (mR M16 a0 2) 17) (Int.toNat (mI M16 (mR M16 (mR M16 a0 2) 16) (Int.toNat (l1 + 1)))) x4) (mR (mUI M16 (mR M16 (mR M16 a0 2) 17) (Int.toNat (mI M16 (mR M16 (mR M16 a0 2) 16) (Int.toNat (l1 + 1)))) x4) (mR (mUI M16 (mR M16 (mR M16 a0 2) 17) (Int.toNat (mI M16 (mR M16 (mR M16 a0 2) 16) (Int.toNat (l1 + 1)))) x4) a0 2) 18) (Int.toNat (mI M16 (mR M16 (mR M16 a0 2) 16) (Int.toNat (l1 + 1)))) (mI M3 (mR M3 a0 2) 2)) (mR (mUI (mUI M16 (mR M16 (mR M16 a0 2) 17) (Int.toNat (mI M16 (mR M16 (mR M16 a0 2) 16) (Int.toNat (l1 + 1)))) x4) (mR (mUI M16 (mR M16 (mR M16 a0 2) 17) (Int.toNat (mI M16 (mR M16 (mR M16 a0 2) 16) (Int.toNat (l1 + 1)))) x4) (mR (mUI M16 (mR M16 (mR M16 a0 2) 17) (Int.toNat (mI M16 (mR M16 (mR M16 a0 2) 16) (Int.toNat (l1 + 1)))) x4) a0 2) 18) (Int.toNat (mI M16 (mR M16 (mR M16 a0 2) 16) (Int.toNat (l1 + 1)))) (mI M3 (mR M3 a0 2) 2)) a0 2) = 6 ∧ mK (mUI (mUI M16 (mR M16 (mR M16 a0 2) 17) (Int.toNat (mI M16 (mR M16 (mR M16 a0 2) 16) (Int.toNat (l1 + 1)))) x4) (mR (mUI M16 (mR M16 (mR M16 a0 2) 17) (Int.toNat (mI M16 (mR M16 (mR M16 a0 2) 16) (Int.toNat (l1 + 1)))) x4) (mR (mUI M16 (mR M16 (mR M16 a0 2) 17) (Int.toNat (mI M16 (mR M16 (mR M16 a0 2) 16) (Int.toNat (l1 + 1)))) x4) a0 2) 18) (Int.toNat (mI M16 (mR M16 (mR M16 a0 2) 16) (Int.toNat (l1 + 1)))) (mI M3 (mR M3 a0 2) 2)) (mR (mUI (mUI M16 (mR M16 (mR M16 a0 2) 17) (Int.toNat (mI M16 (mR M16 (mR M16 a0 2) 16) (Int.toNat (l1 + 1)))) x4) (mR (mUI M16 (mR M16 (mR M16 a0 2) 17) (Int.toNat (mI M16 (mR M16 (mR M16 a0 2) 16) (Int.toNat (l1 + 1)))) x4) (mR (mUI M16 (mR M16 (mR M16 a0 2) 17) (Int.toNat (mI M16 (mR M16 (mR M16 a0 2) 16) (Int.toNat (l1 + 1)))) x4) a0 2) 18) (Int.toNat (mI M16 (mR M16 (mR M16 a0 2) 16) (Int.toNat (l1 + 1)))) (mI M3 (mR M3 a0 2) 2)) (mR (mUI (mUI M16 (mR M16 (mR M16 a0 2) 17) (Int.toNat (mI M16 (mR M16 (mR M16 a0 2) 16) (Int.toNat (l1 + 1)))) x4) (mR (mUI M16 (mR M16 (mR M16 a0 2) 17) (Int.toNat (mI M16 (mR M16 (mR M16 a0 2) 16) (Int.toNat (l1 + 1)))) x4) (mR (mUI M16 (mR M16 (mR M16 a0 2) 17) (Int.toNat (mI M16 (mR M16 (mR M16 a0 2) 16) (Int.toNat (l1 + 1)))) x4) a0 2) 18) (Int.toNat (mI M16 (mR M16 (mR M16 a0 2) 16) (Int.toNat (l1 + 1)))) (mI M3 (mR M3 a0 2) 2)) a0 2) 19) = 30 ∧ ((0 : Int) ≤ mI M16 (mR M16 (mR M16 a0 2) 16) (Int.toNat (l1 + 1)) ∧ mI M16 (mR M16 (mR M16 a0 2) 16) (Int.toNat (l1 + 1)) < (mN (mUI (mUI M16 (mR M16 (mR M16 a0 2) 17) (Int.toNat (mI M16 (mR M16 (mR M16 a0 2) 16) (Int.toNat (l1 + 1)))) x4) (mR (mUI M16 (mR M16 (mR M16 a0 2) 17) (Int.toNat (mI M16 (mR M16 (mR M16 a0 2) 16) (Int.toNat (l1 + 1)))) x4) (mR (mUI M16 (mR M16 (mR M16 a0 2) 17) (Int.toNat (mI M16 (mR M16 (mR M16 a0 2) 16) (Int.toNat (l1 + 1)))) x4) a0 2) 18) (Int.toNat (mI M16 (mR M16 (mR M16 a0 2) 16) (Int.toNat (l1 + 1)))) (mI M3 (mR M3 a0 2) 2)) (mR (mUI (mUI M16 (mR M16 (mR M16 a0 2) 17) (Int.toNat (mI M16 (mR M16 (mR M16 a0 2) 16) (Int.toNat (l1 + 1)))) x4) (mR (mUI M16 (mR M16 (mR M16 a0 2) 17) (Int.toNat (mI M16 (mR M16 (mR M16 a0 2) 16) (Int.toNat (l1 + 1)))) x4) (mR (mUI M16 (mR M16 (mR M16 a0 2) 17) (Int.toNat (mI M16 (mR M16 (mR M16 a0 2) 16) (Int.toNat (l1 + 1)))) x4) a0 2) 18) (Int.toNat (mI M16 (mR M16 (mR M16 a0 2) 16) (Int.toNat (l1 + 1)))) (mI M3 (mR M3 a0 2) 2)) (mR (mUI (mUI M16 (mR M16 (mR M16 a0 2) 17) (Int.toNat (mI M16 (mR M16 (mR M16 a0 2) 16) (Int.toNat (l1 + 1)))) x4) (mR (mUI M16 (mR M16 (mR M16 a0 2) 17) (Int.toNat (mI M16 (mR M16 (mR M16 a0 2) 16) (Int.toNat (l1 + 1)))) x4) (mR (mUI M16 (mR M16 (mR M16 a0 2) 17) (Int.toNat (mI M16 (mR M16 (mR M16 a0 2) 16) (Int.toNat (l1 + 1)))) x4) a0 2) 18) (Int.toNat (mI M16 (mR M16 (mR M16 a0 2) 16) (Int.toNat (l1 + 1)))) (mI M3 (mR M3 a0 2) 2)) a0 2) 19) : Int)) ∧ i32 (mI (mUI (mUI M16 (mR M16 (mR M16 a0 2) 17) (Int.toNat (mI M16 (mR M16 (mR M16 a0 2) 16) (Int.toNat (l1 + 1)))) x4) (mR (mUI M16 (mR M16 (mR M16 a0 2) 17) (Int.toNat (mI M16 (mR M16 (mR M16 a0 2) 16) (Int.toNat (l1 + 1)))) x4) (mR (mUI M16 (mR M16 (mR M16 a0 2) 17) (Int.toNat (mI M16 (mR M16 (mR M16 a0 2) 16) (Int.toNat (l1 + 1)))) x4) a0 2) 18) (Int.toNat (mI M16 (mR M16 (mR M16 a0 2) 16) (Int.toNat (l1 + 1)))) (mI M3 (mR M3 a0 2) 2)) (mR (mUI (mUI M16 (mR M16 (mR M16 a0 2) 17) (Int.toNat (mI M16 (mR M16 (mR M16 a0 2) 16) (Int.toNat (l1 + 1)))) x4) (mR (mUI M16 (mR M16 (mR M16 a0 2) 17) (Int.toNat (mI M16 (mR M16 (mR M16 a0 2) 16) (Int.toNat (l1 + 1)))) x4) (mR (mUI M16 (mR M16 (mR M16 a0 2) 17) (Int.toNat (mI M16 (mR M16 (mR M16 a0 2) 16) (Int.toNat (l1 + 1)))) x4) a0 2) 18) (Int.toNat (mI M16 (mR M16 (mR M16 a0 2) 16) (Int.toNat (l1 + 1)))) (mI M3 (mR M3 a0 2) 2)) a0 2) 2))) ∧ ∀ M34 : mM, M34 = (if (mI M16 (mR M16 a0 0) 3 = 0) then (mUI (mUI (mUI M16 (mR M16 (mR M16 a0 2) 17) (Int.toNat (mI M16 (mR M16 (mR M16 a0 2) 16) (Int.toNat (l1 + 1)))) x4) (mR (mUI M16 (mR M16 (mR M16 a0 2) 17) (Int.toNat (mI M16 (mR M16 (mR M16 a0 2) 16) (Int.toNat (l1 + 1)))) x4) (mR (mUI M16 (mR M16 (mR M16 a0 2) 17) (Int.toNat (mI M16 (mR M16 (mR M16 a0 2) 16) (Int.toNat (l1 + 1)))) x4) a0 2) 18) (Int.toNat (mI M16 (mR M16 (mR M16 a0 2) 16) (Int.toNat (l1 + 1)))) (mI M3 (mR M3 a0 2) 2)) (mR (mUI (mUI M16 (mR M16 (mR M16 a0 2) 17) (Int.toNat (mI M16 (mR M16 (mR M16 a0 2) 16) (Int.toNat (l1 + 1)))) x4) (mR (mUI M16 (mR M16 (mR M16 a0 2) 17) (Int.toNat (mI M16 (mR M16 (mR M16 a0 2) 16) (Int.toNat (l1 + 1)))) x4) (mR (mUI M16 (mR M16 (mR M16 a0 2) 17) (Int.toNat (mI M16 (mR M16 (mR M16 a0 2) 16) (Int.toNat (l1 + 1)))) x4) a0 2) 18) (Int.toNat (mI M16 (mR M16 (mR M16 a0 2) 16) (Int.toNat (l1 + 1)))) (mI M3 (mR M3 a0 2) 2)) (mR (mUI (mUI M16 (mR M16 (mR M16 a0 2) 17) (Int.toNat (mI M16 (mR M16 (mR M16 a0 2) 16) (Int.toNat (l1 + 1)))) x4) (mR (mUI M16 (mR M16 (mR M16 a0 2) 17) (Int.toNat (mI M16 (mR M16 (mR M16 a0 2) 16) (Int.toNat (l1 + 1)))) x4) (mR (mUI M16 (mR M16 (mR M16 a0 2) 17) (Int.toNat (mI M16 (mR M16 (mR M16 a0 2) 16) (Int.toNat (l1 + 1)))) x4) a0 2) 18) (Int.toNat (mI M16 (mR M16 (mR M16 a0 2) 16) (Int.toNat (l1 + 1)))) (mI M3 (mR M3 a0 2) 2)) a0 2) 19) (Int.toNat (mI M16 (mR M16 (mR M16 a0 2) 16) (Int.toNat (l1 + 1)))) (mI (mUI (mUI M16 (mR M16 (mR M16 a0 2) 17) (Int.toNat (mI M16 (mR M16 (mR M16 a0 2) 16) (Int.toNat (l1 + 1)))) x4) (mR (mUI M16 (mR M16 (mR M16 a0 2) 17) (Int.toNat (mI M16 (mR M16 (mR M16 a0 2) 16) (Int.toNat (l1 + 1)))) x4) (mR (mUI M16 (mR M16 (mR M16 a0 2) 17) (Int.toNat (mI M16 (mR M16 (mR M16 a0 2) 16) (Int.toNat (l1 + 1)))) x4) a0 2) 18) (Int.toNat (mI M16 (mR M16 (mR M16 a0 2) 16) (Int.toNat (l1 + 1)))) (mI M3 (mR M3 a0 2) 2)) (mR (mUI (mUI M16 (mR M16 (mR M16 a0 2) 17) (Int.toNat (mI M16 (mR M16 (mR M16 a0 2) 16) (Int.toNat (l1 + 1)))) x4) (mR (mUI M16 (mR M16 (mR M16 a0 2) 17) (Int.toNat (mI M16 (mR M16 (mR M16 a0 2) 16) (Int.toNat (l1 + 1)))) x4) (mR (mUI M16 (mR M16 (mR M16 a0 2) 17) (Int.toNat (mI M16 (mR M16 (mR M16 a0 2) 16) (Int.toNat (l1 + 1)))) x4) a0 2) 18) (Int.toNat (mI M16 (mR M16 (mR M16 a0 2) 16) (Int.toNat (l1 + 1)))) (mI M3 (mR M3 a0 2) 2)) a0 2) 2)) else M16) → mOk M34 ∧ mK M34 (mR M34 a0 0) = 4 ∧ Ci G y_RR_accept d [vr (mR M34 a0 0), vi 34] M34 (fun x40 M39 => i32 x40 ∧ mOk M39 ∧ ((x40 = 0 ∨ x40 = 1) ∧ Q x40 M39))))))))))) :
    Ci G y_TR_readChance (d + 1) [vr a0, vi l1] M Q := by
  refine wm_open (y := y_TR_readChance) rfl (Nat.le_of_ble_eq_true rfl) (L := [vr a0, vi l1, vd, vd, vd]) rfl ?_
  obtain ⟨h1, h⟩ := h
  obtain ⟨h2, h⟩ := h
  refine wm_aload_n d_TR_readChance_0 rfl rfl ?_
  refine gf_TR_12 rfl d_TR_readChance_1 h1 ?_
  refine cf_TR_79 rfl d_TR_readChance_4 h2 (Nat.le_of_ble_eq_true rfl) (Ci.mono h (fun x4 M3 h => ?_))
  obtain ⟨h5, hOM3, h⟩ := h
  obtain ⟨h6, h⟩ := h
  obtain ⟨h7, h⟩ := h
  obtain ⟨h8, h⟩ := h
  refine wm_istore_n d_TR_readChance_7 rfl (by decide) (L' := [vr a0, vi l1, vi x4, vd, vd]) rfl ?_
  refine wm_aload_n d_TR_readChance_8 rfl rfl ?_
  refine gf_TR_36 rfl d_TR_readChance_9 h6 ?_
  refine gf_TR_116 rfl d_TR_readChance_12 h7 ?_
  refine wm_istore_n d_TR_readChance_15 rfl (by decide) (L' := [vr a0, vi l1, vi x4, vi (mI M3 (mR M3 a0 2) 2), vd]) rfl ?_
  refine wm_aload_n d_TR_readChance_16 rfl rfl ?_
  refine gf_TR_12 rfl d_TR_readChance_17 h6 ?_
  refine wm_iconst d_TR_readChance_20 ?_
  refine wm_iconst d_TR_readChance_21 ?_
  refine cf_TR_117 rfl d_TR_readChance_22 h8 (Nat.le_of_ble_eq_true rfl) (Ci.mono h (fun x10 M9 h => ?_))
  obtain ⟨h11, hOM9, h⟩ := h
  refine wm_if_ne (tgt := 30) d_TR_readChance_25 rfl h11 (fun c13 => ?_) (fun c13 => ?_)
  · replace h := h.2 c13
    obtain ⟨h14, h⟩ := h
    obtain ⟨h15, h⟩ := h
    refine wm_aload_n d_TR_readChance_30 rfl rfl ?_
    refine gf_TR_36 rfl d_TR_readChance_31 h14 ?_
    refine wm_iconst d_TR_readChance_34 ?_
    refine wm_iconst d_TR_readChance_35 ?_
    refine cf_TR_121 rfl d_TR_readChance_36 h15 (Nat.le_of_ble_eq_true rfl) (Ci.mono h (fun x17 M16 h => ?_))
    obtain ⟨h18, hOM16, h⟩ := h
    obtain ⟨h19, h⟩ := h
    obtain ⟨h20, h⟩ := h
    refine wm_pop d_TR_readChance_39 rfl ?_
    refine wm_aload_n d_TR_readChance_40 rfl rfl ?_
    refine gf_TR_12 rfl d_TR_readChance_41 h19 ?_
    refine gf_TR_76 rfl d_TR_readChance_44 h20 ?_
    obtain ⟨s35, h⟩ := h
    have hJ : ∀ M34 : mM, M34 = (if (mI M16 (mR M16 a0 0) 3 = 0) then (mUI (mUI (mUI M16 (mR M16 (mR M16 a0 2) 17) (Int.toNat (mI M16 (mR M16 (mR M16 a0 2) 16) (Int.toNat (l1 + 1)))) x4) (mR (mUI M16 (mR M16 (mR M16 a0 2) 17) (Int.toNat (mI M16 (mR M16 (mR M16 a0 2) 16) (Int.toNat (l1 + 1)))) x4) (mR (mUI M16 (mR M16 (mR M16 a0 2) 17) (Int.toNat (mI M16 (mR M16 (mR M16 a0 2) 16) (Int.toNat (l1 + 1)))) x4) a0 2) 18) (Int.toNat (mI M16 (mR M16 (mR M16 a0 2) 16) (Int.toNat (l1 + 1)))) (mI M3 (mR M3 a0 2) 2)) (mR (mUI (mUI M16 (mR M16 (mR M16 a0 2) 17) (Int.toNat (mI M16 (mR M16 (mR M16 a0 2) 16) (Int.toNat (l1 + 1)))) x4) (mR (mUI M16 (mR M16 (mR M16 a0 2) 17) (Int.toNat (mI M16 (mR M16 (mR M16 a0 2) 16) (Int.toNat (l1 + 1)))) x4) (mR (mUI M16 (mR M16 (mR M16 a0 2) 17) (Int.toNat (mI M16 (mR M16 (mR M16 a0 2) 16) (Int.toNat (l1 + 1)))) x4) a0 2) 18) (Int.toNat (mI M16 (mR M16 (mR M16 a0 2) 16) (Int.toNat (l1 + 1)))) (mI M3 (mR M3 a0 2) 2)) (mR (mUI (mUI M16 (mR M16 (mR M16 a0 2) 17) (Int.toNat (mI M16 (mR M16 (mR M16 a0 2) 16) (Int.toNat (l1 + 1)))) x4) (mR (mUI M16 (mR M16 (mR M16 a0 2) 17) (Int.toNat (mI M16 (mR M16 (mR M16 a0 2) 16) (Int.toNat (l1 + 1)))) x4) (mR (mUI M16 (mR M16 (mR M16 a0 2) 17) (Int.toNat (mI M16 (mR M16 (mR M16 a0 2) 16) (Int.toNat (l1 + 1)))) x4) a0 2) 18) (Int.toNat (mI M16 (mR M16 (mR M16 a0 2) 16) (Int.toNat (l1 + 1)))) (mI M3 (mR M3 a0 2) 2)) a0 2) 19) (Int.toNat (mI M16 (mR M16 (mR M16 a0 2) 16) (Int.toNat (l1 + 1)))) (mI (mUI (mUI M16 (mR M16 (mR M16 a0 2) 17) (Int.toNat (mI M16 (mR M16 (mR M16 a0 2) 16) (Int.toNat (l1 + 1)))) x4) (mR (mUI M16 (mR M16 (mR M16 a0 2) 17) (Int.toNat (mI M16 (mR M16 (mR M16 a0 2) 16) (Int.toNat (l1 + 1)))) x4) (mR (mUI M16 (mR M16 (mR M16 a0 2) 17) (Int.toNat (mI M16 (mR M16 (mR M16 a0 2) 16) (Int.toNat (l1 + 1)))) x4) a0 2) 18) (Int.toNat (mI M16 (mR M16 (mR M16 a0 2) 16) (Int.toNat (l1 + 1)))) (mI M3 (mR M3 a0 2) 2)) (mR (mUI (mUI M16 (mR M16 (mR M16 a0 2) 17) (Int.toNat (mI M16 (mR M16 (mR M16 a0 2) 16) (Int.toNat (l1 + 1)))) x4) (mR (mUI M16 (mR M16 (mR M16 a0 2) 17) (Int.toNat (mI M16 (mR M16 (mR M16 a0 2) 16) (Int.toNat (l1 + 1)))) x4) (mR (mUI M16 (mR M16 (mR M16 a0 2) 17) (Int.toNat (mI M16 (mR M16 (mR M16 a0 2) 16) (Int.toNat (l1 + 1)))) x4) a0 2) 18) (Int.toNat (mI M16 (mR M16 (mR M16 a0 2) 16) (Int.toNat (l1 + 1)))) (mI M3 (mR M3 a0 2) 2)) a0 2) 2)) else M16) → mWm G y_TR_readChance (d + 1) 102 [vr a0, vd, vd, vd, vd] [] M34 (fun r9 M9 => ∃ x9, r9 = some (vi x9) ∧ Q x9 M9) := by
      intro M34 e36
      have h := h M34 e36
      have h37 : mK M34 = mK M16 := by rw [e36]; (repeat' split) <;> rfl
      obtain ⟨hOM39, h⟩ := h
      obtain ⟨h38, h⟩ := h
      refine wm_aload_n d_TR_readChance_102 rfl rfl ?_
      refine gf_TR_12 rfl d_TR_readChance_103 (by rw [h37]; exact h19) ?_
      refine wm_bipush d_TR_readChance_106 (by decide) ?_
      refine cf_TR_102 rfl d_TR_readChance_108 h38 (Nat.le_of_ble_eq_true rfl) (Ci.mono h (fun x40 M39 h => ?_))
      obtain ⟨h41, hOM39, h⟩ := h
      obtain ⟨h42, h⟩ := h
      refine wm_ireturn d_TR_readChance_111 rfl (m_nb h42) ?_
      exact ⟨_, rfl, h⟩
    clear h
    have s43 := s35
    refine wm_if_ne (tgt := 102) d_TR_readChance_47 rfl (hOM16 _ _).1 (fun c21 => ?_) (fun c21 => ?_)
    · refine wm_less (L' := [vr a0, vd, vd, vd, vd]) ⟨Or.inr rfl, Or.inl rfl, Or.inl rfl, Or.inl rfl, Or.inl rfl, trivial⟩ ?_
      exact hJ M16 (if_neg c21).symm
    · replace c21 := Classical.not_not.mp c21
      have s43 := s43 c21
      obtain ⟨h22, h23, h24, h25, h26, h27, h28, h29, h30, h31, h32, h33⟩ := s43
      refine wm_aload_n d_TR_readChance_50 rfl rfl ?_
      refine gf_TR_36 rfl d_TR_readChance_51 h19 ?_
      refine gf_TR_204 rfl d_TR_readChance_54 h22 ?_
      refine wm_iload_n d_TR_readChance_57 rfl rfl ?_
      refine wm_iconst d_TR_readChance_58 ?_
      refine wm_iadd d_TR_readChance_59 ?_
      refine wm_iald d_TR_readChance_60 h23 h24 ?_
      refine wm_istore d_TR_readChance_61 (by decide) (L' := [vr a0, vi l1, vi x4, vi (mI M3 (mR M3 a0 2) 2), vi (mI M16 (mR M16 (mR M16 a0 2) 16) (Int.toNat (l1 + 1)))]) rfl ?_
      refine wm_aload_n d_TR_readChance_63 rfl rfl ?_
      refine gf_TR_36 rfl d_TR_readChance_64 h19 ?_
      refine gf_TR_213 rfl d_TR_readChance_67 h22 ?_
      refine wm_iload d_TR_readChance_70 rfl ?_
      refine wm_iload_n d_TR_readChance_72 rfl rfl ?_
      refine wm_iastE d_TR_readChance_73 h25 h26 h5 rfl ?_
      refine wm_aload_n d_TR_readChance_74 rfl rfl ?_
      refine gf_TR_36 rfl d_TR_readChance_75 (by rw [@]; exact h19) ?_
      refine gf_TR_216 rfl d_TR_readChance_78 h27 ?_
      refine wm_iload d_TR_readChance_81 rfl ?_
      refine wm_iload_n d_TR_readChance_83 rfl rfl ?_
      refine wm_iastE d_TR_readChance_84 h28 h29 (hOM3 _ _).1 rfl ?_
      refine wm_aload_n d_TR_readChance_85 rfl rfl ?_
      refine gf_TR_36 rfl d_TR_readChance_86 (by rw [@, @]; exact h19) ?_
      refine gf_TR_219 rfl d_TR_readChance_89 h30 ?_
      refine wm_iload d_TR_readChance_92 rfl ?_
      refine wm_aload_n d_TR_readChance_94 rfl rfl ?_
      refine gf_TR_36 rfl d_TR_readChance_95 (by rw [@, @]; exact h19) ?_
      refine gf_TR_116 rfl d_TR_readChance_98 h30 ?_
      refine wm_iastE d_TR_readChance_101 h31 h32 h33 rfl ?_
      refine wm_less (L' := [vr a0, vd, vd, vd, vd]) ⟨Or.inr rfl, Or.inl rfl, Or.inl rfl, Or.inl rfl, Or.inl rfl, trivial⟩ ?_
      exact hJ (mUI (mUI (mUI M16 (mR M16 (mR M16 a0 2) 17) (Int.toNat (mI M16 (mR M16 (mR M16 a0 2) 16) (Int.toNat (l1 + 1)))) x4) (mR (mUI M16 (mR M16 (mR M16 a0 2) 17) (Int.toNat (mI M16 (mR M16 (mR M16 a0 2) 16) (Int.toNat (l1 + 1)))) x4) (mR (mUI M16 (mR M16 (mR M16 a0 2) 17) (Int.toNat (mI M16 (mR M16 (mR M16 a0 2) 16) (Int.toNat (l1 + 1)))) x4) a0 2) 18) (Int.toNat (mI M16 (mR M16 (mR M16 a0 2) 16) (Int.toNat (l1 + 1)))) (mI M3 (mR M3 a0 2) 2)) (mR (mUI (mUI M16 (mR M16 (mR M16 a0 2) 17) (Int.toNat (mI M16 (mR M16 (mR M16 a0 2) 16) (Int.toNat (l1 + 1)))) x4) (mR (mUI M16 (mR M16 (mR M16 a0 2) 17) (Int.toNat (mI M16 (mR M16 (mR M16 a0 2) 16) (Int.toNat (l1 + 1)))) x4) (mR (mUI M16 (mR M16 (mR M16 a0 2) 17) (Int.toNat (mI M16 (mR M16 (mR M16 a0 2) 16) (Int.toNat (l1 + 1)))) x4) a0 2) 18) (Int.toNat (mI M16 (mR M16 (mR M16 a0 2) 16) (Int.toNat (l1 + 1)))) (mI M3 (mR M3 a0 2) 2)) (mR (mUI (mUI M16 (mR M16 (mR M16 a0 2) 17) (Int.toNat (mI M16 (mR M16 (mR M16 a0 2) 16) (Int.toNat (l1 + 1)))) x4) (mR (mUI M16 (mR M16 (mR M16 a0 2) 17) (Int.toNat (mI M16 (mR M16 (mR M16 a0 2) 16) (Int.toNat (l1 + 1)))) x4) (mR (mUI M16 (mR M16 (mR M16 a0 2) 17) (Int.toNat (mI M16 (mR M16 (mR M16 a0 2) 16) (Int.toNat (l1 + 1)))) x4) a0 2) 18) (Int.toNat (mI M16 (mR M16 (mR M16 a0 2) 16) (Int.toNat (l1 + 1)))) (mI M3 (mR M3 a0 2) 2)) a0 2) 19) (Int.toNat (mI M16 (mR M16 (mR M16 a0 2) 16) (Int.toNat (l1 + 1)))) (mI (mUI (mUI M16 (mR M16 (mR M16 a0 2) 17) (Int.toNat (mI M16 (mR M16 (mR M16 a0 2) 16) (Int.toNat (l1 + 1)))) x4) (mR (mUI M16 (mR M16 (mR M16 a0 2) 17) (Int.toNat (mI M16 (mR M16 (mR M16 a0 2) 16) (Int.toNat (l1 + 1)))) x4) (mR (mUI M16 (mR M16 (mR M16 a0 2) 17) (Int.toNat (mI M16 (mR M16 (mR M16 a0 2) 16) (Int.toNat (l1 + 1)))) x4) a0 2) 18) (Int.toNat (mI M16 (mR M16 (mR M16 a0 2) 16) (Int.toNat (l1 + 1)))) (mI M3 (mR M3 a0 2) 2)) (mR (mUI (mUI M16 (mR M16 (mR M16 a0 2) 17) (Int.toNat (mI M16 (mR M16 (mR M16 a0 2) 16) (Int.toNat (l1 + 1)))) x4) (mR (mUI M16 (mR M16 (mR M16 a0 2) 17) (Int.toNat (mI M16 (mR M16 (mR M16 a0 2) 16) (Int.toNat (l1 + 1)))) x4) (mR (mUI M16 (mR M16 (mR M16 a0 2) 17) (Int.toNat (mI M16 (mR M16 (mR M16 a0 2) 16) (Int.toNat (l1 + 1)))) x4) a0 2) 18) (Int.toNat (mI M16 (mR M16 (mR M16 a0 2) 16) (Int.toNat (l1 + 1)))) (mI M3 (mR M3 a0 2) 2)) a0 2) 2)) (if_pos c21).symm
  · replace c13 := Classical.not_not.mp c13
    replace h := h.1 c13
    refine wm_iconst d_TR_readChance_28 ?_
    refine wm_ireturn d_TR_readChance_29 rfl (m_nb (by decide)) ?_
    exact ⟨_, rfl, h⟩
theorem d_TR_readSets_0 : decode y_TR_readSets.2.1 0 = .ok (.aload_n 0, 1) := by decide +kernel
theorem d_TR_readSets_1 : decode y_TR_readSets.2.1 1 = .ok (.getfield 12, 3) := by decide +kernel
theorem d_TR_readSets_4 : decode y_TR_readSets.2.1 4 = .ok (.bipush 11, 2) := by decide +kernel
theorem d_TR_readSets_6 : decode y_TR_readSets.2.1 6 = .ok (.invokevirtual 102, 3) := by decide +kernel
theorem d_TR_readSets_9 : decode y_TR_readSets.2.1 9 = .ok (.ifCond .ne 7, 3) := by decide +kernel
theorem d_TR_readSets_12 : decode y_TR_readSets.2.1 12 = .ok (.iconst 1, 1) := by decide +kernel
theorem d_TR_readSets_13 : decode y_TR_readSets.2.1 13 = .ok (.goto 4, 3) := by decide +kernel
theorem d_TR_readSets_16 : decode y_TR_readSets.2.1 16 = .ok (.iconst 0, 1) := by decide +kernel
theorem d_TR_readSets_17 : decode y_TR_readSets.2.1 17 = .ok (.istore_n 1, 1) := by decide +kernel
theorem d_TR_readSets_18 : decode y_TR_readSets.2.1 18 = .ok (.iconst 0, 1) := by decide +kernel
theorem d_TR_readSets_19 : decode y_TR_readSets.2.1 19 = .ok (.istore_n 2, 1) := by decide +kernel
theorem d_TR_readSets_20 : decode y_TR_readSets.2.1 20 = .ok (.iconst 0, 1) := by decide +kernel
theorem d_TR_readSets_21 : decode y_TR_readSets.2.1 21 = .ok (.istore_n 3, 1) := by decide +kernel
theorem d_TR_readSets_22 : decode y_TR_readSets.2.1 22 = .ok (.iload_n 3, 1) := by decide +kernel
theorem d_TR_readSets_23 : decode y_TR_readSets.2.1 23 = .ok (.aload_n 0, 1) := by decide +kernel
theorem d_TR_readSets_24 : decode y_TR_readSets.2.1 24 = .ok (.getfield 12, 3) := by decide +kernel
theorem d_TR_readSets_27 : decode y_TR_readSets.2.1 27 = .ok (.getfield 109, 3) := by decide +kernel
theorem d_TR_readSets_30 : decode y_TR_readSets.2.1 30 = .ok (.getfield 40, 3) := by decide +kernel
theorem d_TR_readSets_33 : decode y_TR_readSets.2.1 33 = .ok (.if_icmp .ge 274, 3) := by decide +kernel
theorem d_TR_readSets_36 : decode y_TR_readSets.2.1 36 = .ok (.iload_n 1, 1) := by decide +kernel
theorem d_TR_readSets_37 : decode y_TR_readSets.2.1 37 = .ok (.ifCond .eq 270, 3) := by decide +kernel
theorem d_TR_readSets_40 : decode y_TR_readSets.2.1 40 = .ok (.aload_n 0, 1) := by decide +kernel
theorem d_TR_readSets_41 : decode y_TR_readSets.2.1 41 = .ok (.getfield 12, 3) := by decide +kernel
theorem d_TR_readSets_307 : decode y_TR_readSets.2.1 307 = .ok (.aload_n 0, 1) := by decide +kernel
theorem d_TR_readSets_308 : decode y_TR_readSets.2.1 308 = .ok (.getfield 36, 3) := by decide +kernel
theorem d_TR_readSets_311 : decode y_TR_readSets.2.1 311 = .ok (.iconst 0, 1) := by decide +kernel
theorem d_TR_readSets_312 : decode y_TR_readSets.2.1 312 = .ok (.iconst 0, 1) := by decide +kernel
theorem d_TR_readSets_313 : decode y_TR_readSets.2.1 313 = .ok (.invokevirtual 121, 3) := by decide +kernel
theorem d_TR_readSets_316 : decode y_TR_readSets.2.1 316 = .ok (.pop, 1) := by decide +kernel
theorem d_TR_readSets_317 : decode y_TR_readSets.2.1 317 = .ok (.iconst 1, 1) := by decide +kernel
theorem d_TR_readSets_318 : decode y_TR_readSets.2.1 318 = .ok (.ireturn, 1) := by decide +kernel
theorem d_TR_readSets_44 : decode y_TR_readSets.2.1 44 = .ok (.invokevirtual 79, 3) := by decide +kernel
theorem d_TR_readSets_47 : decode y_TR_readSets.2.1 47 = .ok (.istore 4, 2) := by decide +kernel
theorem d_TR_readSets_49 : decode y_TR_readSets.2.1 49 = .ok (.aload_n 0, 1) := by decide +kernel
theorem d_TR_readSets_50 : decode y_TR_readSets.2.1 50 = .ok (.getfield 12, 3) := by decide +kernel
theorem d_TR_readSets_53 : decode y_TR_readSets.2.1 53 = .ok (.getfield 222, 3) := by decide +kernel
theorem d_TR_readSets_56 : decode y_TR_readSets.2.1 56 = .ok (.bipush 40, 2) := by decide +kernel
theorem d_TR_readSets_58 : decode y_TR_readSets.2.1 58 = .ok (.if_icmp .ge 15, 3) := by decide +kernel
theorem d_TR_readSets_61 : decode y_TR_readSets.2.1 61 = .ok (.aload_n 0, 1) := by decide +kernel
theorem d_TR_readSets_62 : decode y_TR_readSets.2.1 62 = .ok (.getfield 12, 3) := by decide +kernel
theorem d_TR_readSets_65 : decode y_TR_readSets.2.1 65 = .ok (.bipush 37, 2) := by decide +kernel
theorem d_TR_readSets_73 : decode y_TR_readSets.2.1 73 = .ok (.iconst 0, 1) := by decide +kernel
theorem d_TR_readSets_74 : decode y_TR_readSets.2.1 74 = .ok (.ireturn, 1) := by decide +kernel
theorem d_TR_readSets_67 : decode y_TR_readSets.2.1 67 = .ok (.invokevirtual 102, 3) := by decide +kernel
theorem d_TR_readSets_70 : decode y_TR_readSets.2.1 70 = .ok (.ifCond .ne 5, 3) := by decide +kernel
theorem d_TR_readSets_75 : decode y_TR_readSets.2.1 75 = .ok (.aload_n 0, 1) := by decide +kernel
theorem d_TR_readSets_76 : decode y_TR_readSets.2.1 76 = .ok (.getfield 12, 3) := by decide +kernel
theorem d_TR_readSets_79 : decode y_TR_readSets.2.1 79 = .ok (.getfield 59, 3) := by decide +kernel
theorem d_TR_readSets_82 : decode y_TR_readSets.2.1 82 = .ok (.istore 5, 2) := by decide +kernel
theorem d_TR_readSets_84 : decode y_TR_readSets.2.1 84 = .ok (.aload_n 0, 1) := by decide +kernel
theorem d_TR_readSets_85 : decode y_TR_readSets.2.1 85 = .ok (.getfield 12, 3) := by decide +kernel
theorem d_TR_readSets_88 : decode y_TR_readSets.2.1 88 = .ok (.iconst 2, 1) := by decide +kernel
theorem d_TR_readSets_89 : decode y_TR_readSets.2.1 89 = .ok (.invokevirtual 102, 3) := by decide +kernel
theorem d_TR_readSets_92 : decode y_TR_readSets.2.1 92 = .ok (.ifCond .ne 5, 3) := by decide +kernel
theorem d_TR_readSets_95 : decode y_TR_readSets.2.1 95 = .ok (.iconst 0, 1) := by decide +kernel
theorem d_TR_readSets_96 : decode y_TR_readSets.2.1 96 = .ok (.ireturn, 1) := by decide +kernel
theorem d_TR_readSets_97 : decode y_TR_readSets.2.1 97 = .ok (.aload_n 0, 1) := by decide +kernel
theorem d_TR_readSets_98 : decode y_TR_readSets.2.1 98 = .ok (.getfield 12, 3) := by decide +kernel
theorem d_TR_readSets_101 : decode y_TR_readSets.2.1 101 = .ok (.iload 5, 2) := by decide +kernel
theorem d_TR_readSets_103 : decode y_TR_readSets.2.1 103 = .ok (.invokevirtual 225, 3) := by decide +kernel
theorem d_TR_readSets_106 : decode y_TR_readSets.2.1 106 = .ok (.istore 6, 2) := by decide +kernel
theorem d_TR_readSets_108 : decode y_TR_readSets.2.1 108 = .ok (.iload 6, 2) := by decide +kernel
theorem d_TR_readSets_110 : decode y_TR_readSets.2.1 110 = .ok (.iconst (-1), 1) := by decide +kernel
theorem d_TR_readSets_111 : decode y_TR_readSets.2.1 111 = .ok (.if_icmp .ne 27, 3) := by decide +kernel
theorem d_TR_readSets_114 : decode y_TR_readSets.2.1 114 = .ok (.aload_n 0, 1) := by decide +kernel
theorem d_TR_readSets_115 : decode y_TR_readSets.2.1 115 = .ok (.getfield 12, 3) := by decide +kernel
theorem d_TR_readSets_118 : decode y_TR_readSets.2.1 118 = .ok (.iconst 2, 1) := by decide +kernel
theorem d_TR_readSets_119 : decode y_TR_readSets.2.1 119 = .ok (.aload_n 0, 1) := by decide +kernel
theorem d_TR_readSets_120 : decode y_TR_readSets.2.1 120 = .ok (.getfield 12, 3) := by decide +kernel
theorem d_TR_readSets_123 : decode y_TR_readSets.2.1 123 = .ok (.getfield 109, 3) := by decide +kernel
theorem d_TR_readSets_126 : decode y_TR_readSets.2.1 126 = .ok (.getfield 113, 3) := by decide +kernel
theorem d_TR_readSets_129 : decode y_TR_readSets.2.1 129 = .ok (.iload 5, 2) := by decide +kernel
theorem d_TR_readSets_131 : decode y_TR_readSets.2.1 131 = .ok (.iaload, 1) := by decide +kernel
theorem d_TR_readSets_138 : decode y_TR_readSets.2.1 138 = .ok (.iload_n 2, 1) := by decide +kernel
theorem d_TR_readSets_139 : decode y_TR_readSets.2.1 139 = .ok (.iload 6, 2) := by decide +kernel
theorem d_TR_readSets_141 : decode y_TR_readSets.2.1 141 = .ok (.ishr, 1) := by decide +kernel
theorem d_TR_readSets_142 : decode y_TR_readSets.2.1 142 = .ok (.iconst 1, 1) := by decide +kernel
theorem d_TR_readSets_143 : decode y_TR_readSets.2.1 143 = .ok (.iand, 1) := by decide +kernel
theorem d_TR_readSets_144 : decode y_TR_readSets.2.1 144 = .ok (.ifCond .eq 24, 3) := by decide +kernel
theorem d_TR_readSets_147 : decode y_TR_readSets.2.1 147 = .ok (.aload_n 0, 1) := by decide +kernel
theorem d_TR_readSets_148 : decode y_TR_readSets.2.1 148 = .ok (.getfield 12, 3) := by decide +kernel
theorem d_TR_readSets_151 : decode y_TR_readSets.2.1 151 = .ok (.iconst 4, 1) := by decide +kernel
theorem d_TR_readSets_152 : decode y_TR_readSets.2.1 152 = .ok (.aload_n 0, 1) := by decide +kernel
theorem d_TR_readSets_153 : decode y_TR_readSets.2.1 153 = .ok (.getfield 12, 3) := by decide +kernel
theorem d_TR_readSets_156 : decode y_TR_readSets.2.1 156 = .ok (.getfield 109, 3) := by decide +kernel
theorem d_TR_readSets_159 : decode y_TR_readSets.2.1 159 = .ok (.getfield 113, 3) := by decide +kernel
theorem d_TR_readSets_162 : decode y_TR_readSets.2.1 162 = .ok (.iload 5, 2) := by decide +kernel
theorem d_TR_readSets_164 : decode y_TR_readSets.2.1 164 = .ok (.iaload, 1) := by decide +kernel
theorem d_TR_readSets_132 : decode y_TR_readSets.2.1 132 = .ok (.invokevirtual 95, 3) := by decide +kernel
theorem d_TR_readSets_135 : decode y_TR_readSets.2.1 135 = .ok (.goto 33, 3) := by decide +kernel
theorem d_TR_readSets_165 : decode y_TR_readSets.2.1 165 = .ok (.invokevirtual 95, 3) := by decide +kernel
theorem d_TR_readSets_168 : decode y_TR_readSets.2.1 168 = .ok (.iload_n 2, 1) := by decide +kernel
theorem d_TR_readSets_169 : decode y_TR_readSets.2.1 169 = .ok (.iload 6, 2) := by decide +kernel
theorem d_TR_readSets_171 : decode y_TR_readSets.2.1 171 = .ok (.iconst (-1), 1) := by decide +kernel
theorem d_TR_readSets_172 : decode y_TR_readSets.2.1 172 = .ok (.if_icmp .ne 7, 3) := by decide +kernel
theorem d_TR_readSets_175 : decode y_TR_readSets.2.1 175 = .ok (.iconst 0, 1) := by decide +kernel
theorem d_TR_readSets_176 : decode y_TR_readSets.2.1 176 = .ok (.goto 7, 3) := by decide +kernel
theorem d_TR_readSets_179 : decode y_TR_readSets.2.1 179 = .ok (.iconst 1, 1) := by decide +kernel
theorem d_TR_readSets_180 : decode y_TR_readSets.2.1 180 = .ok (.iload 6, 2) := by decide +kernel
theorem d_TR_readSets_182 : decode y_TR_readSets.2.1 182 = .ok (.ishl, 1) := by decide +kernel
theorem d_TR_readSets_183 : decode y_TR_readSets.2.1 183 = .ok (.ior, 1) := by decide +kernel
theorem d_TR_readSets_184 : decode y_TR_readSets.2.1 184 = .ok (.istore_n 2, 1) := by decide +kernel
theorem d_TR_readSets_185 : decode y_TR_readSets.2.1 185 = .ok (.aload_n 0, 1) := by decide +kernel
theorem d_TR_readSets_186 : decode y_TR_readSets.2.1 186 = .ok (.getfield 12, 3) := by decide +kernel
theorem d_TR_readSets_189 : decode y_TR_readSets.2.1 189 = .ok (.dup, 1) := by decide +kernel
theorem d_TR_readSets_190 : decode y_TR_readSets.2.1 190 = .ok (.getfield 222, 3) := by decide +kernel
theorem d_TR_readSets_193 : decode y_TR_readSets.2.1 193 = .ok (.iconst 1, 1) := by decide +kernel
theorem d_TR_readSets_194 : decode y_TR_readSets.2.1 194 = .ok (.iadd, 1) := by decide +kernel
theorem d_TR_readSets_195 : decode y_TR_readSets.2.1 195 = .ok (.putfield 222, 3) := by decide +kernel
theorem d_TR_readSets_198 : decode y_TR_readSets.2.1 198 = .ok (.aload_n 0, 1) := by decide +kernel
theorem d_TR_readSets_199 : decode y_TR_readSets.2.1 199 = .ok (.getfield 12, 3) := by decide +kernel
theorem d_TR_readSets_202 : decode y_TR_readSets.2.1 202 = .ok (.bipush 39, 2) := by decide +kernel
theorem d_TR_readSets_204 : decode y_TR_readSets.2.1 204 = .ok (.invokevirtual 102, 3) := by decide +kernel
theorem d_TR_readSets_207 : decode y_TR_readSets.2.1 207 = .ok (.ifCond .eq 47, 3) := by decide +kernel
theorem d_TR_readSets_210 : decode y_TR_readSets.2.1 210 = .ok (.aload_n 0, 1) := by decide +kernel
theorem d_TR_readSets_211 : decode y_TR_readSets.2.1 211 = .ok (.getfield 12, 3) := by decide +kernel
theorem d_TR_readSets_214 : decode y_TR_readSets.2.1 214 = .ok (.bipush 24, 2) := by decide +kernel
theorem d_TR_readSets_254 : decode y_TR_readSets.2.1 254 = .ok (.iconst 0, 1) := by decide +kernel
theorem d_TR_readSets_255 : decode y_TR_readSets.2.1 255 = .ok (.ireturn, 1) := by decide +kernel
theorem d_TR_readSets_216 : decode y_TR_readSets.2.1 216 = .ok (.invokevirtual 102, 3) := by decide +kernel
theorem d_TR_readSets_219 : decode y_TR_readSets.2.1 219 = .ok (.ifCond .eq 35, 3) := by decide +kernel
theorem d_TR_readSets_222 : decode y_TR_readSets.2.1 222 = .ok (.aload_n 0, 1) := by decide +kernel
theorem d_TR_readSets_223 : decode y_TR_readSets.2.1 223 = .ok (.getfield 12, 3) := by decide +kernel
theorem d_TR_readSets_226 : decode y_TR_readSets.2.1 226 = .ok (.aload_n 0, 1) := by decide +kernel
theorem d_TR_readSets_227 : decode y_TR_readSets.2.1 227 = .ok (.getfield 12, 3) := by decide +kernel
theorem d_TR_readSets_230 : decode y_TR_readSets.2.1 230 = .ok (.iload 5, 2) := by decide +kernel
theorem d_TR_readSets_232 : decode y_TR_readSets.2.1 232 = .ok (.invokevirtual 228, 3) := by decide +kernel
theorem d_TR_readSets_235 : decode y_TR_readSets.2.1 235 = .ok (.iconst 1, 1) := by decide +kernel
theorem d_TR_readSets_236 : decode y_TR_readSets.2.1 236 = .ok (.invokevirtual 117, 3) := by decide +kernel
theorem d_TR_readSets_239 : decode y_TR_readSets.2.1 239 = .ok (.ifCond .eq 15, 3) := by decide +kernel
theorem d_TR_readSets_242 : decode y_TR_readSets.2.1 242 = .ok (.aload_n 0, 1) := by decide +kernel
theorem d_TR_readSets_243 : decode y_TR_readSets.2.1 243 = .ok (.getfield 12, 3) := by decide +kernel
theorem d_TR_readSets_246 : decode y_TR_readSets.2.1 246 = .ok (.bipush 38, 2) := by decide +kernel
theorem d_TR_readSets_248 : decode y_TR_readSets.2.1 248 = .ok (.invokevirtual 102, 3) := by decide +kernel
theorem d_TR_readSets_251 : decode y_TR_readSets.2.1 251 = .ok (.ifCond .ne 5, 3) := by decide +kernel
theorem d_TR_readSets_256 : decode y_TR_readSets.2.1 256 = .ok (.aload_n 0, 1) := by decide +kernel
theorem d_TR_readSets_257 : decode y_TR_readSets.2.1 257 = .ok (.getfield 12, 3) := by decide +kernel
theorem d_TR_readSets_260 : decode y_TR_readSets.2.1 260 = .ok (.dup, 1) := by decide +kernel
theorem d_TR_readSets_261 : decode y_TR_readSets.2.1 261 = .ok (.getfield 222, 3) := by decide +kernel
theorem d_TR_readSets_264 : decode y_TR_readSets.2.1 264 = .ok (.iconst 1, 1) := by decide +kernel
theorem d_TR_readSets_265 : decode y_TR_readSets.2.1 265 = .ok (.isub, 1) := by decide +kernel
theorem d_TR_readSets_266 : decode y_TR_readSets.2.1 266 = .ok (.putfield 222, 3) := by decide +kernel
theorem d_TR_readSets_269 : decode y_TR_readSets.2.1 269 = .ok (.aload_n 0, 1) := by decide +kernel
theorem d_TR_readSets_270 : decode y_TR_readSets.2.1 270 = .ok (.getfield 36, 3) := by decide +kernel
theorem d_TR_readSets_273 : decode y_TR_readSets.2.1 273 = .ok (.bipush 43, 2) := by decide +kernel
theorem d_TR_readSets_275 : decode y_TR_readSets.2.1 275 = .ok (.iload 4, 2) := by decide +kernel
theorem d_TR_readSets_277 : decode y_TR_readSets.2.1 277 = .ok (.bipush 16, 2) := by decide +kernel
theorem d_TR_readSets_279 : decode y_TR_readSets.2.1 279 = .ok (.imul, 1) := by decide +kernel
theorem d_TR_readSets_280 : decode y_TR_readSets.2.1 280 = .ok (.iload 6, 2) := by decide +kernel
theorem d_TR_readSets_282 : decode y_TR_readSets.2.1 282 = .ok (.iconst 0, 1) := by decide +kernel
theorem d_TR_readSets_283 : decode y_TR_readSets.2.1 283 = .ok (.invokestatic 231, 3) := by decide +kernel
theorem d_TR_readSets_286 : decode y_TR_readSets.2.1 286 = .ok (.iadd, 1) := by decide +kernel
theorem d_TR_readSets_287 : decode y_TR_readSets.2.1 287 = .ok (.invokevirtual 121, 3) := by decide +kernel
theorem d_TR_readSets_290 : decode y_TR_readSets.2.1 290 = .ok (.pop, 1) := by decide +kernel
theorem d_TR_readSets_291 : decode y_TR_readSets.2.1 291 = .ok (.aload_n 0, 1) := by decide +kernel
theorem d_TR_readSets_292 : decode y_TR_readSets.2.1 292 = .ok (.getfield 12, 3) := by decide +kernel
theorem d_TR_readSets_295 : decode y_TR_readSets.2.1 295 = .ok (.bipush 30, 2) := by decide +kernel
theorem d_TR_readSets_297 : decode y_TR_readSets.2.1 297 = .ok (.invokevirtual 102, 3) := by decide +kernel
theorem d_TR_readSets_300 : decode y_TR_readSets.2.1 300 = .ok (.istore_n 1, 1) := by decide +kernel
theorem d_TR_readSets_301 : decode y_TR_readSets.2.1 301 = .ok (.iinc 3 1, 3) := by decide +kernel
theorem d_TR_readSets_304 : decode y_TR_readSets.2.1 304 = .ok (.goto (-282), 3) := by decide +kernel
def h_TR_readSets_22 (G : mG) (d : Nat) (a0 : Nat) (l1 : Int) (l2 : Int) (l3 : Int) (M : mM) (Q : Int → mM → Prop) : Prop := mWm G y_TR_readSets (d + 1) 22 [vr a0, vi l1, vi l2, vi l3, vd, vd, vd] [] M (fun r9 M9 => ∃ x9, r9 = some (vi x9) ∧ Q x9 M9)
def h_TR_readSets_168 (G : mG) (d : Nat) (a0 : Nat) (l2 : Int) (l3 : Int) (l4 : Int) (l5 : Int) (l6 : Int) (M : mM) (Q : Int → mM → Prop) : Prop := mWm G y_TR_readSets (d + 1) 168 [vr a0, vd, vi l2, vi l3, vi l4, vi l5, vi l6] [] M (fun r9 M9 => ∃ x9, r9 = some (vi x9) ∧ Q x9 M9)
theorem k_TR_readSets {G : mG} {d : Nat} {a0 : Nat} {M : mM} {Q : Int → mM → Prop} (hO : mOk M)
    (h : mK M a0 = 3 ∧ mK M (mR M a0 0) = 4 ∧ Ci G y_RR_accept d [vr (mR M a0 0), vi 11] M (fun x4 M3 => i32 x4 ∧ mOk M3 ∧ (∀ v7 : Int, v7 = (if (x4 = 0) then 1 else 0) → h_TR_readSets_22 G d a0 v7 0 0 M3 Q))) :
    Ci G y_TR_readSets (d + 1) [vr a0] M Q := by
  refine wm_open (y := y_TR_readSets) rfl (Nat.le_of_ble_eq_true rfl) (L := [vr a0, vd, vd, vd, vd, vd, vd]) rfl ?_
  obtain ⟨h1, h⟩ := h
  obtain ⟨h2, h⟩ := h
  refine wm_aload_n d_TR_readSets_0 rfl rfl ?_
  refine gf_TR_12 rfl d_TR_readSets_1 h1 ?_
  refine wm_bipush d_TR_readSets_4 (by decide) ?_
  refine cf_TR_102 rfl d_TR_readSets_6 h2 (Nat.le_of_ble_eq_true rfl) (Ci.mono h (fun x4 M3 h => ?_))
  obtain ⟨h5, hOM3, h⟩ := h
  have hJ : ∀ v7 : Int, v7 = (if (x4 = 0) then 1 else 0) → mWm G y_TR_readSets (d + 1) 17 [vr a0, vd, vd, vd, vd, vd, vd] [vi v7] M3 (fun r9 M9 => ∃ x9, r9 = some (vi x9) ∧ Q x9 M9) := by
    intro v7 e9
    have h := h v7 e9
    have h10 : i32 v7 := by rw [e9]; (repeat' split) <;> first | exact ⟨by decide, by decide⟩ | exact ⟨by decide, by decide⟩
    have h11 : (v7 = 0 ∨ v7 = 1) := by rw [e9]; (repeat' split) <;> decide
    refine wm_istore_n d_TR_readSets_17 rfl (by decide) (L' := [vr a0, vi v7, vd, vd, vd, vd, vd]) rfl ?_
    refine wm_iconst d_TR_readSets_18 ?_
    refine wm_istore_n d_TR_readSets_19 rfl (by decide) (L' := [vr a0, vi v7, vi 0, vd, vd, vd, vd]) rfl ?_
    refine wm_iconst d_TR_readSets_20 ?_
    refine wm_istore_n d_TR_readSets_21 rfl (by decide) (L' := [vr a0, vi v7, vi 0, vi 0, vd, vd, vd]) rfl ?_
    exact h
  clear h
  refine wm_if_ne (tgt := 16) d_TR_readSets_9 rfl h5 (fun c6 => ?_) (fun c6 => ?_)
  · refine wm_iconst d_TR_readSets_16 ?_
    exact hJ 0 (if_neg c6).symm
  · replace c6 := Classical.not_not.mp c6
    refine wm_iconst d_TR_readSets_12 ?_
    refine wm_goto (tgt := 17) d_TR_readSets_13 rfl ?_
    exact hJ 1 (if_pos c6).symm
theorem k_TR_readSets_22 {G : mG} {d : Nat} {a0 : Nat} {l1 : Int} {l2 : Int} {l3 : Int} {M : mM} {Q : Int → mM → Prop} (hO : mOk M) (hi_l1 : i32 l1) (hi_l2 : i32 l2) (hi_l3 : i32 l3)
    (h : mK M a0 = 3 ∧ mK M (mR M a0 0) = 4 ∧ mK M (mR M (mR M a0 0) 0) = 2 ∧ (((mI M (mR M (mR M a0 0) 0) 2 ≤ l3) ∨ (l1 = 0)) → (mK M (mR M a0 2) = 6 ∧ Ci G y_Pr_add d [vr (mR M a0 2), vi 0, vi 0] M (fun x22 M21 => i32 x22 ∧ mOk M21 ∧ (Q 1 M21)))) ∧ (¬ ((mI M (mR M (mR M a0 0) 0) 2 ≤ l3) ∨ (l1 = 0)) → (Ci G y_RR_here d [vr (mR M a0 0)] M (fun x26 M25 => i32 x26 ∧ mOk M25 ∧ (mK M25 a0 = 3 ∧ mK M25 (mR M25 a0 0) = 4 ∧ ((40 ≤ mI M25 (mR M25 a0 0) 5) → (Q 0 M25)) ∧ (¬ (40 ≤ mI M25 (mR M25 a0 0) 5) → (Ci G y_RR_accept d [vr (mR M25 a0 0), vi 37] M25 (fun x33 M32 => i32 x33 ∧ mOk M32 ∧ (((x33 = 0) → (Q 0 M32)) ∧ (¬ (x33 = 0) → (mK M32 a0 = 3 ∧ mK M32 (mR M32 a0 0) = 4 ∧ Ci G y_RR_accept d [vr (mR M32 a0 0), vi 2] M32 (fun x40 M39 => i32 x40 ∧ mOk M39 ∧ (((x40 = 0) → (Q 0 M39)) ∧ (¬ (x40 = 0) → (mK M39 a0 = 3 ∧ mK M39 (mR M39 a0 0) = 4 ∧ Ci G y_RR_varOf d [vr (mR M39 a0 0), vi (mI M32 (mR M32 a0 0) 2)] M39 (fun x47 M46 => i32 x47 ∧ mOk M46 ∧ (((x47 = (-1)) → (mK M46 a0 = 3 ∧ mK M46 (mR M46 a0 0) = 4 ∧ mK M46 (mR M46 (mR M46 a0 0) 0) = 2 ∧ mK M46 (mR M46 (mR M46 (mR M46 a0 0) 0) 4) = 30 ∧ ((0 : Int) ≤ mI M32 (mR M32 a0 0) 2 ∧ mI M32 (mR M32 a0 0) 2 < (mN M46 (mR M46 (mR M46 (mR M46 a0 0) 0) 4) : Int)) ∧ Cv G y_RR_note d [vr (mR M46 a0 0), vi 2, vi (mI M46 (mR M46 (mR M46 (mR M46 a0 0) 0) 4) (Int.toNat (mI M32 (mR M32 a0 0) 2)))] M46 (fun M57 => mOk M57 ∧ (h_TR_readSets_168 G d a0 l2 l3 x26 (mI M32 (mR M32 a0 0) 2) x47 M57 Q)))) ∧ (¬ (x47 = (-1)) → (((andI (shrI l2 x47) 1 = 0) → (h_TR_readSets_168 G d a0 l2 l3 x26 (mI M32 (mR M32 a0 0) 2) x47 M46 Q)) ∧ (¬ (andI (shrI l2 x47) 1 = 0) → (mK M46 a0 = 3 ∧ mK M46 (mR M46 a0 0) = 4 ∧ mK M46 (mR M46 (mR M46 a0 0) 0) = 2 ∧ mK M46 (mR M46 (mR M46 (mR M46 a0 0) 0) 4) = 30 ∧ ((0 : Int) ≤ mI M32 (mR M32 a0 0) 2 ∧ mI M32 (mR M32 a0 0) 2 < (mN M46 (mR M46 (mR M46 (mR M46 a0 0) 0) 4) : Int)) ∧ Cv G y_RR_note d [vr (mR M46 a0 0), vi 4, vi (mI M46 (mR M46 (mR M46 (mR M46 a0 0) 0) 4) (Int.toNat (mI M32 (mR M32 a0 0) 2)))] M46 (fun M67 => mOk M67 ∧ (h_TR_readSets_168 G d a0 l2 l3 x26 (mI M32 (mR M32 a0 0) 2) x47 M67 Q))))))))))))))))))))))) :
    h_TR_readSets_22 G d a0 l1 l2 l3 M Q := by
  unfold h_TR_readSets_22
  obtain ⟨h13, h⟩ := h
  obtain ⟨h14, h⟩ := h
  obtain ⟨h15, h⟩ := h
  refine wm_iload_n d_TR_readSets_22 rfl rfl ?_
  refine wm_aload_n d_TR_readSets_23 rfl rfl ?_
  refine gf_TR_12 rfl d_TR_readSets_24 h13 ?_
  refine gf_TR_109 rfl d_TR_readSets_27 h14 ?_
  refine gf_TR_40 rfl d_TR_readSets_30 h15 ?_
  have hE0 : ((mI M (mR M (mR M a0 0) 0) 2 ≤ l3) ∨ (l1 = 0)) → mWm G y_TR_readSets (d + 1) 307 [vr a0, vi l1, vi l2, vi l3, vd, vd, vd] [] M (fun r9 M9 => ∃ x9, r9 = some (vi x9) ∧ Q x9 M9) := by
    intro q19
    have h := h.1 q19
    obtain ⟨h20, h⟩ := h
    refine wm_aload_n d_TR_readSets_307 rfl rfl ?_
    refine gf_TR_36 rfl d_TR_readSets_308 h13 ?_
    refine wm_iconst d_TR_readSets_311 ?_
    refine wm_iconst d_TR_readSets_312 ?_
    refine cf_TR_121 rfl d_TR_readSets_313 h20 (Nat.le_of_ble_eq_true rfl) (Ci.mono h (fun x22 M21 h => ?_))
    obtain ⟨h23, hOM21, h⟩ := h
    refine wm_pop d_TR_readSets_316 rfl ?_
    refine wm_iconst d_TR_readSets_317 ?_
    refine wm_ireturn d_TR_readSets_318 rfl (m_nb (by decide)) ?_
    exact ⟨_, rfl, h⟩
  have hE1 : ¬ ((mI M (mR M (mR M a0 0) 0) 2 ≤ l3) ∨ (l1 = 0)) → mWm G y_TR_readSets (d + 1) 40 [vr a0, vi l1, vi l2, vi l3, vd, vd, vd] [] M (fun r9 M9 => ∃ x9, r9 = some (vi x9) ∧ Q x9 M9) := by
    intro q24
    have h := h.2 q24
    refine wm_aload_n d_TR_readSets_40 rfl rfl ?_
    refine gf_TR_12 rfl d_TR_readSets_41 h13 ?_
    refine cf_TR_79 rfl d_TR_readSets_44 h14 (Nat.le_of_ble_eq_true rfl) (Ci.mono h (fun x26 M25 h => ?_))
    obtain ⟨h27, hOM25, h⟩ := h
    obtain ⟨h28, h⟩ := h
    obtain ⟨h29, h⟩ := h
    refine wm_istore d_TR_readSets_47 (by decide) (L' := [vr a0, vi l1, vi l2, vi l3, vi x26, vd, vd]) rfl ?_
    refine wm_aload_n d_TR_readSets_49 rfl rfl ?_
    refine gf_TR_12 rfl d_TR_readSets_50 h28 ?_
    refine gf_TR_222 rfl d_TR_readSets_53 h29 ?_
    refine wm_bipush d_TR_readSets_56 (by decide) ?_
    refine wm_icmp_ge (tgt := 73) d_TR_readSets_58 rfl (hOM25 _ _).1 ⟨by decide, by decide⟩ (fun c31 => ?_) (fun c31 => ?_)
    · replace h := h.1 c31
      refine wm_iconst d_TR_readSets_73 ?_
      refine wm_ireturn d_TR_readSets_74 rfl (m_nb (by decide)) ?_
      exact ⟨_, rfl, h⟩
    · replace h := h.2 c31
      refine wm_aload_n d_TR_readSets_61 rfl rfl ?_
      refine gf_TR_12 rfl d_TR_readSets_62 h28 ?_
      refine wm_bipush d_TR_readSets_65 (by decide) ?_
      refine cf_TR_102 rfl d_TR_readSets_67 h29 (Nat.le_of_ble_eq_true rfl) (Ci.mono h (fun x33 M32 h => ?_))
      obtain ⟨h34, hOM32, h⟩ := h
      refine wm_if_ne (tgt := 75) d_TR_readSets_70 rfl h34 (fun c36 => ?_) (fun c36 => ?_)
      · replace h := h.2 c36
        obtain ⟨h37, h⟩ := h
        obtain ⟨h38, h⟩ := h
        refine wm_aload_n d_TR_readSets_75 rfl rfl ?_
        refine gf_TR_12 rfl d_TR_readSets_76 h37 ?_
        refine gf_TR_59 rfl d_TR_readSets_79 h38 ?_
        refine wm_istore d_TR_readSets_82 (by decide) (L' := [vr a0, vi l1, vi l2, vi l3, vi x26, vi (mI M32 (mR M32 a0 0) 2), vd]) rfl ?_
        refine wm_aload_n d_TR_readSets_84 rfl rfl ?_
        refine gf_TR_12 rfl d_TR_readSets_85 h37 ?_
        refine wm_iconst d_TR_readSets_88 ?_
        refine cf_TR_102 rfl d_TR_readSets_89 h38 (Nat.le_of_ble_eq_true rfl) (Ci.mono h (fun x40 M39 h => ?_))
        obtain ⟨h41, hOM39, h⟩ := h
        refine wm_if_ne (tgt := 97) d_TR_readSets_92 rfl h41 (fun c43 => ?_) (fun c43 => ?_)
        · replace h := h.2 c43
          obtain ⟨h44, h⟩ := h
          obtain ⟨h45, h⟩ := h
          refine wm_aload_n d_TR_readSets_97 rfl rfl ?_
          refine gf_TR_12 rfl d_TR_readSets_98 h44 ?_
          refine wm_iload d_TR_readSets_101 rfl ?_
          refine cf_TR_225 rfl d_TR_readSets_103 h45 (Nat.le_of_ble_eq_true rfl) (Ci.mono h (fun x47 M46 h => ?_))
          obtain ⟨h48, hOM46, h⟩ := h
          refine wm_istore d_TR_readSets_106 (by decide) (L' := [vr a0, vi l1, vi l2, vi l3, vi x26, vi (mI M32 (mR M32 a0 0) 2), vi x47]) rfl ?_
          refine wm_iload d_TR_readSets_108 rfl ?_
          refine wm_iconst d_TR_readSets_110 ?_
          refine wm_icmp_ne (tgt := 138) d_TR_readSets_111 rfl h48 ⟨by decide, by decide⟩ (fun c51 => ?_) (fun c51 => ?_)
          · replace h := h.2 c51
            refine wm_iload_n d_TR_readSets_138 rfl rfl ?_
            refine wm_iload d_TR_readSets_139 rfl ?_
            refine wm_ishr d_TR_readSets_141 ?_
            refine wm_iconst d_TR_readSets_142 ?_
            refine wm_iand d_TR_readSets_143 ?_
            refine wm_if_eq (tgt := 168) d_TR_readSets_144 rfl (m_i32 _) (fun c61 => ?_) (fun c61 => ?_)
            · replace h := h.1 c61
              refine wm_less (L' := [vr a0, vd, vi l2, vi l3, vi x26, vi (mI M32 (mR M32 a0 0) 2), vi x47]) ⟨Or.inr rfl, Or.inl rfl, Or.inr rfl, Or.inr rfl, Or.inr rfl, Or.inr rfl, Or.inr rfl, trivial⟩ ?_
              exact h
            · replace h := h.2 c61
              obtain ⟨h62, h⟩ := h
              obtain ⟨h63, h⟩ := h
              obtain ⟨h64, h⟩ := h
              obtain ⟨h65, h⟩ := h
              obtain ⟨h66, h⟩ := h
              refine wm_aload_n d_TR_readSets_147 rfl rfl ?_
              refine gf_TR_12 rfl d_TR_readSets_148 h62 ?_
              refine wm_iconst d_TR_readSets_151 ?_
              refine wm_aload_n d_TR_readSets_152 rfl rfl ?_
              refine gf_TR_12 rfl d_TR_readSets_153 h62 ?_
              refine gf_TR_109 rfl d_TR_readSets_156 h63 ?_
              refine gf_TR_113 rfl d_TR_readSets_159 h64 ?_
              refine wm_iload d_TR_readSets_162 rfl ?_
              refine wm_iald d_TR_readSets_164 h65 h66 ?_
              refine cf_TR_95 rfl d_TR_readSets_165 h63 (Nat.le_of_ble_eq_true rfl) (Cv.mono h (fun M67 h => ?_))
              obtain ⟨hOM67, h⟩ := h
              refine wm_less (L' := [vr a0, vd, vi l2, vi l3, vi x26, vi (mI M32 (mR M32 a0 0) 2), vi x47]) ⟨Or.inr rfl, Or.inl rfl, Or.inr rfl, Or.inr rfl, Or.inr rfl, Or.inr rfl, Or.inr rfl, trivial⟩ ?_
              exact h
          · replace c51 := Classical.not_not.mp c51
            replace h := h.1 c51
            obtain ⟨h52, h⟩ := h
            obtain ⟨h53, h⟩ := h
            obtain ⟨h54, h⟩ := h
            obtain ⟨h55, h⟩ := h
            obtain ⟨h56, h⟩ := h
            refine wm_aload_n d_TR_readSets_114 rfl rfl ?_
            refine gf_TR_12 rfl d_TR_readSets_115 h52 ?_
            refine wm_iconst d_TR_readSets_118 ?_
            refine wm_aload_n d_TR_readSets_119 rfl rfl ?_
            refine gf_TR_12 rfl d_TR_readSets_120 h52 ?_
            refine gf_TR_109 rfl d_TR_readSets_123 h53 ?_
            refine gf_TR_113 rfl d_TR_readSets_126 h54 ?_
            refine wm_iload d_TR_readSets_129 rfl ?_
            refine wm_iald d_TR_readSets_131 h55 h56 ?_
            refine cf_TR_95 rfl d_TR_readSets_132 h53 (Nat.le_of_ble_eq_true rfl) (Cv.mono h (fun M57 h => ?_))
            obtain ⟨hOM57, h⟩ := h
            refine wm_goto (tgt := 168) d_TR_readSets_135 rfl ?_
            refine wm_less (L' := [vr a0, vd, vi l2, vi l3, vi x26, vi (mI M32 (mR M32 a0 0) 2), vi x47]) ⟨Or.inr rfl, Or.inl rfl, Or.inr rfl, Or.inr rfl, Or.inr rfl, Or.inr rfl, Or.inr rfl, trivial⟩ ?_
            exact h
        · replace c43 := Classical.not_not.mp c43
          replace h := h.1 c43
          refine wm_iconst d_TR_readSets_95 ?_
          refine wm_ireturn d_TR_readSets_96 rfl (m_nb (by decide)) ?_
          exact ⟨_, rfl, h⟩
      · replace c36 := Classical.not_not.mp c36
        replace h := h.1 c36
        refine wm_iconst d_TR_readSets_73 ?_
        refine wm_ireturn d_TR_readSets_74 rfl (m_nb (by decide)) ?_
        exact ⟨_, rfl, h⟩
  clear h
  refine wm_icmp_ge (tgt := 307) d_TR_readSets_33 rfl hi_l3 (hO _ _).1 (fun c17 => ?_) (fun c17 => ?_)
  · exact hE0 (Or.inl c17)
  · refine wm_iload_n d_TR_readSets_36 rfl rfl ?_
    refine wm_if_eq (tgt := 307) d_TR_readSets_37 rfl hi_l1 (fun c16 => ?_) (fun c16 => ?_)
    · exact hE0 (Or.inr c16)
    · exact hE1 (fun z70 => Or.elim z70 c17 c16)
theorem k_TR_readSets_168 {G : mG} {d : Nat} {a0 : Nat} {l2 : Int} {l3 : Int} {l4 : Int} {l5 : Int} {l6 : Int} {M : mM} {Q : Int → mM → Prop} (hO : mOk M) (hi_l2 : i32 l2) (hi_l3 : i32 l3) (hi_l4 : i32 l4) (hi_l5 : i32 l5) (hi_l6 : i32 l6)
    (h : ∀ v73 : Int, v73 = (if (l6 = (-1)) then 0 else shlI 1 l6) → mK M a0 = 3 ∧ mK M (mR M a0 0) = 4 ∧ i32 ((mI M (mR M a0 0) 5) + 1) ∧ ∀ M80, M80 = mUI M (mR M a0 0) 5 ((mI M (mR M a0 0) 5) + 1) → mK M80 (mR M80 a0 0) = 4 ∧ Ci G y_RR_accept d [vr (mR M80 a0 0), vi 39] M80 (fun x84 M83 => i32 x84 ∧ mOk M83 ∧ (((x84 = 0) → (Q 0 M83)) ∧ (¬ (x84 = 0) → (mK M83 a0 = 3 ∧ mK M83 (mR M83 a0 0) = 4 ∧ Ci G y_RR_accept d [vr (mR M83 a0 0), vi 24] M83 (fun x91 M90 => i32 x91 ∧ mOk M90 ∧ (((x91 = 0) → (Q 0 M90)) ∧ (¬ (x91 = 0) → (mK M90 a0 = 3 ∧ mK M90 (mR M90 a0 0) = 4 ∧ Ci G y_RR_kindOf d [vr (mR M90 a0 0), vi l5] M90 (fun x98 M97 => i32 x98 ∧ mOk M97 ∧ (mK M97 (mR M90 a0 0) = 4 ∧ Ci G y_RR_readRule d [vr (mR M90 a0 0), vi x98, vi 1] M97 (fun x102 M101 => i32 x102 ∧ mOk M101 ∧ (((x102 = 0) → (Q 0 M101)) ∧ (¬ (x102 = 0) → (mK M101 a0 = 3 ∧ mK M101 (mR M101 a0 0) = 4 ∧ Ci G y_RR_accept d [vr (mR M101 a0 0), vi 38] M101 (fun x109 M108 => i32 x109 ∧ mOk M108 ∧ (((x109 = 0) → (Q 0 M108)) ∧ (¬ (x109 = 0) → (mK M108 a0 = 3 ∧ mK M108 (mR M108 a0 0) = 4 ∧ i32 ((mI M108 (mR M108 a0 0) 5) - 1) ∧ ∀ M116, M116 = mUI M108 (mR M108 a0 0) 5 ((mI M108 (mR M108 a0 0) 5) - 1) → mK M116 (mR M116 a0 2) = 6 ∧ Ci G y_Pr_add d [vr (mR M116 a0 2), vi 43, vi ((l4 * 16) + (if l6 < 0 then 0 else l6))] M116 (fun x120 M119 => i32 x120 ∧ mOk M119 ∧ (mK M119 a0 = 3 ∧ mK M119 (mR M119 a0 0) = 4 ∧ Ci G y_RR_accept d [vr (mR M119 a0 0), vi 30] M119 (fun x125 M124 => i32 x125 ∧ mOk M124 ∧ (h_TR_readSets_22 G d a0 x125 (orI l2 v73) (l3 + 1) M124 Q))))))))))))))))))))))) :
    h_TR_readSets_168 G d a0 l2 l3 l4 l5 l6 M Q := by
  unfold h_TR_readSets_168
  refine wm_iload_n d_TR_readSets_168 rfl rfl ?_
  refine wm_iload d_TR_readSets_169 rfl ?_
  refine wm_iconst d_TR_readSets_171 ?_
  have hJ : ∀ v73 : Int, v73 = (if (l6 = (-1)) then 0 else shlI 1 l6) → mWm G y_TR_readSets (d + 1) 183 [vr a0, vd, vd, vi l3, vi l4, vi l5, vi l6] [vi v73, vi l2] M (fun r9 M9 => ∃ x9, r9 = some (vi x9) ∧ Q x9 M9) := by
    intro v73 e75
    have h := h v73 e75
    have h76 : i32 v73 := by rw [e75]; (repeat' split) <;> first | exact ⟨by decide, by decide⟩ | exact (m_i32 _)
    obtain ⟨h77, h⟩ := h
    obtain ⟨h78, h⟩ := h
    obtain ⟨h79, h⟩ := h
    obtain ⟨M80, e81⟩ : ∃ M80, M80 = mUI M (mR M a0 0) 5 ((mI M (mR M a0 0) 5) + 1) := ⟨_, rfl⟩
    replace h := h M80 e81
    obtain ⟨h82, h⟩ := h
    refine wm_ior d_TR_readSets_183 ?_
    refine wm_istore_n d_TR_readSets_184 rfl (by decide) (L' := [vr a0, vd, vi (orI l2 v73), vi l3, vi l4, vi l5, vi l6]) rfl ?_
    refine wm_aload_n d_TR_readSets_185 rfl rfl ?_
    refine gf_TR_12 rfl d_TR_readSets_186 h77 ?_
    refine wm_dup d_TR_readSets_189 rfl ?_
    refine gf_TR_222 rfl d_TR_readSets_190 h78 ?_
    refine wm_iconst d_TR_readSets_193 ?_
    refine wm_iadd d_TR_readSets_194 ?_
    have hOM80 : mOk M80 := by rw [e81]; exact mOk_UI hO h79
    refine pf_TR_222 rfl d_TR_readSets_195 h78 h79 e81 ?_
    refine wm_aload_n d_TR_readSets_198 rfl rfl ?_
    refine gf_TR_12 rfl d_TR_readSets_199 (by rw [e81]; exact h77) ?_
    refine wm_bipush d_TR_readSets_202 (by decide) ?_
    refine cf_TR_102 rfl d_TR_readSets_204 h82 (Nat.le_of_ble_eq_true rfl) (Ci.mono h (fun x84 M83 h => ?_))
    obtain ⟨h85, hOM83, h⟩ := h
    refine wm_if_eq (tgt := 254) d_TR_readSets_207 rfl h85 (fun c87 => ?_) (fun c87 => ?_)
    · replace h := h.1 c87
      refine wm_iconst d_TR_readSets_254 ?_
      refine wm_ireturn d_TR_readSets_255 rfl (m_nb (by decide)) ?_
      exact ⟨_, rfl, h⟩
    · replace h := h.2 c87
      obtain ⟨h88, h⟩ := h
      obtain ⟨h89, h⟩ := h
      refine wm_aload_n d_TR_readSets_210 rfl rfl ?_
      refine gf_TR_12 rfl d_TR_readSets_211 h88 ?_
      refine wm_bipush d_TR_readSets_214 (by decide) ?_
      refine cf_TR_102 rfl d_TR_readSets_216 h89 (Nat.le_of_ble_eq_true rfl) (Ci.mono h (fun x91 M90 h => ?_))
      obtain ⟨h92, hOM90, h⟩ := h
      refine wm_if_eq (tgt := 254) d_TR_readSets_219 rfl h92 (fun c94 => ?_) (fun c94 => ?_)
      · replace h := h.1 c94
        refine wm_iconst d_TR_readSets_254 ?_
        refine wm_ireturn d_TR_readSets_255 rfl (m_nb (by decide)) ?_
        exact ⟨_, rfl, h⟩
      · replace h := h.2 c94
        obtain ⟨h95, h⟩ := h
        obtain ⟨h96, h⟩ := h
        refine wm_aload_n d_TR_readSets_222 rfl rfl ?_
        refine gf_TR_12 rfl d_TR_readSets_223 h95 ?_
        refine wm_aload_n d_TR_readSets_226 rfl rfl ?_
        refine gf_TR_12 rfl d_TR_readSets_227 h95 ?_
        refine wm_iload d_TR_readSets_230 rfl ?_
        refine cf_TR_228 rfl d_TR_readSets_232 h96 (Nat.le_of_ble_eq_true rfl) (Ci.mono h (fun x98 M97 h => ?_))
        obtain ⟨h99, hOM97, h⟩ := h
        obtain ⟨h100, h⟩ := h
        refine wm_iconst d_TR_readSets_235 ?_
        refine cf_TR_117 rfl d_TR_readSets_236 h100 (Nat.le_of_ble_eq_true rfl) (Ci.mono h (fun x102 M101 h => ?_))
        obtain ⟨h103, hOM101, h⟩ := h
        refine wm_if_eq (tgt := 254) d_TR_readSets_239 rfl h103 (fun c105 => ?_) (fun c105 => ?_)
        · replace h := h.1 c105
          refine wm_iconst d_TR_readSets_254 ?_
          refine wm_ireturn d_TR_readSets_255 rfl (m_nb (by decide)) ?_
          exact ⟨_, rfl, h⟩
        · replace h := h.2 c105
          obtain ⟨h106, h⟩ := h
          obtain ⟨h107, h⟩ := h
          refine wm_aload_n d_TR_readSets_242 rfl rfl ?_
          refine gf_TR_12 rfl d_TR_readSets_243 h106 ?_
          refine wm_bipush d_TR_readSets_246 (by decide) ?_
          refine cf_TR_102 rfl d_TR_readSets_248 h107 (Nat.le_of_ble_eq_true rfl) (Ci.mono h (fun x109 M108 h => ?_))
          obtain ⟨h110, hOM108, h⟩ := h
          refine wm_if_ne (tgt := 256) d_TR_readSets_251 rfl h110 (fun c112 => ?_) (fun c112 => ?_)
          · replace h := h.2 c112
            obtain ⟨h113, h⟩ := h
            obtain ⟨h114, h⟩ := h
            obtain ⟨h115, h⟩ := h
            obtain ⟨M116, e117⟩ : ∃ M116, M116 = mUI M108 (mR M108 a0 0) 5 ((mI M108 (mR M108 a0 0) 5) - 1) := ⟨_, rfl⟩
            replace h := h M116 e117
            obtain ⟨h118, h⟩ := h
            refine wm_aload_n d_TR_readSets_256 rfl rfl ?_
            refine gf_TR_12 rfl d_TR_readSets_257 h113 ?_
            refine wm_dup d_TR_readSets_260 rfl ?_
            refine gf_TR_222 rfl d_TR_readSets_261 h114 ?_
            refine wm_iconst d_TR_readSets_264 ?_
            refine wm_isub d_TR_readSets_265 ?_
            have hOM116 : mOk M116 := by rw [e117]; exact mOk_UI hOM108 h115
            refine pf_TR_222 rfl d_TR_readSets_266 h114 h115 e117 ?_
            refine wm_aload_n d_TR_readSets_269 rfl rfl ?_
            refine gf_TR_36 rfl d_TR_readSets_270 (by rw [e117]; exact h113) ?_
            refine wm_bipush d_TR_readSets_273 (by decide) ?_
            refine wm_iload d_TR_readSets_275 rfl ?_
            refine wm_bipush d_TR_readSets_277 (by decide) ?_
            refine wm_imul d_TR_readSets_279 ?_
            refine wm_iload d_TR_readSets_280 rfl ?_
            refine wm_iconst d_TR_readSets_282 ?_
            refine wm_mmax k5_22 (Nat.le_of_ble_eq_true rfl) hi_l6 ⟨by decide, by decide⟩ d_TR_readSets_283 ?_
            refine wm_iadd d_TR_readSets_286 ?_
            refine cf_TR_121 rfl d_TR_readSets_287 h118 (Nat.le_of_ble_eq_true rfl) (Ci.mono h (fun x120 M119 h => ?_))
            obtain ⟨h121, hOM119, h⟩ := h
            obtain ⟨h122, h⟩ := h
            obtain ⟨h123, h⟩ := h
            refine wm_pop d_TR_readSets_290 rfl ?_
            refine wm_aload_n d_TR_readSets_291 rfl rfl ?_
            refine gf_TR_12 rfl d_TR_readSets_292 h122 ?_
            refine wm_bipush d_TR_readSets_295 (by decide) ?_
            refine cf_TR_102 rfl d_TR_readSets_297 h123 (Nat.le_of_ble_eq_true rfl) (Ci.mono h (fun x125 M124 h => ?_))
            obtain ⟨h126, hOM124, h⟩ := h
            refine wm_istore_n d_TR_readSets_300 rfl (by decide) (L' := [vr a0, vi x125, vi (orI l2 v73), vi l3, vi l4, vi l5, vi l6]) rfl ?_
            refine wm_iinc d_TR_readSets_301 (by decide) rfl (L' := [vr a0, vi x125, vi (orI l2 v73), vi (l3 + 1), vi l4, vi l5, vi l6]) rfl ?_
            refine wm_goto (tgt := 22) d_TR_readSets_304 rfl ?_
            refine wm_less (L' := [vr a0, vi x125, vi (orI l2 v73), vi (l3 + 1), vd, vd, vd]) ⟨Or.inr rfl, Or.inr rfl, Or.inr rfl, Or.inr rfl, Or.inl rfl, Or.inl rfl, Or.inl rfl, trivial⟩ ?_
            exact h
          · replace c112 := Classical.not_not.mp c112
            replace h := h.1 c112
            refine wm_iconst d_TR_readSets_254 ?_
            refine wm_ireturn d_TR_readSets_255 rfl (m_nb (by decide)) ?_
            exact ⟨_, rfl, h⟩
  clear h
  refine wm_icmp_ne (tgt := 179) d_TR_readSets_172 rfl hi_l6 ⟨by decide, by decide⟩ (fun c72 => ?_) (fun c72 => ?_)
  · refine wm_iconst d_TR_readSets_179 ?_
    refine wm_iload d_TR_readSets_180 rfl ?_
    refine wm_ishl d_TR_readSets_182 ?_
    refine wm_less (L' := [vr a0, vd, vd, vi l3, vi l4, vi l5, vi l6]) ⟨Or.inr rfl, Or.inl rfl, Or.inl rfl, Or.inr rfl, Or.inr rfl, Or.inr rfl, Or.inr rfl, trivial⟩ ?_
    exact hJ (shlI 1 l6) (if_neg c72).symm
  · replace c72 := Classical.not_not.mp c72
    refine wm_iconst d_TR_readSets_175 ?_
    refine wm_goto (tgt := 183) d_TR_readSets_176 rfl ?_
    refine wm_less (L' := [vr a0, vd, vd, vi l3, vi l4, vi l5, vi l6]) ⟨Or.inr rfl, Or.inl rfl, Or.inl rfl, Or.inr rfl, Or.inr rfl, Or.inr rfl, Or.inr rfl, trivial⟩ ?_
    exact hJ 0 (if_pos c72).symm
theorem d_Wo_init_0 : decode y_Wo_init.2.1 0 = .ok (.aload_n 0, 1) := by decide +kernel
theorem d_Wo_init_1 : decode y_Wo_init.2.1 1 = .ok (.invokespecial 3, 3) := by decide +kernel
theorem d_Wo_init_4 : decode y_Wo_init.2.1 4 = .ok (.aload_n 0, 1) := by decide +kernel
theorem d_Wo_init_5 : decode y_Wo_init.2.1 5 = .ok (.iconst 0, 1) := by decide +kernel
theorem d_Wo_init_6 : decode y_Wo_init.2.1 6 = .ok (.newarray .char, 2) := by decide +kernel
theorem d_Wo_init_8 : decode y_Wo_init.2.1 8 = .ok (.putfield 9, 3) := by decide +kernel
theorem d_Wo_init_11 : decode y_Wo_init.2.1 11 = .ok (.aload_n 0, 1) := by decide +kernel
theorem d_Wo_init_12 : decode y_Wo_init.2.1 12 = .ok (.sipush 128, 3) := by decide +kernel
theorem d_Wo_init_15 : decode y_Wo_init.2.1 15 = .ok (.newarray .int, 2) := by decide +kernel
theorem d_Wo_init_17 : decode y_Wo_init.2.1 17 = .ok (.putfield 15, 3) := by decide +kernel
theorem d_Wo_init_20 : decode y_Wo_init.2.1 20 = .ok (.aload_n 0, 1) := by decide +kernel
theorem d_Wo_init_21 : decode y_Wo_init.2.1 21 = .ok (.sipush 128, 3) := by decide +kernel
theorem d_Wo_init_24 : decode y_Wo_init.2.1 24 = .ok (.newarray .int, 2) := by decide +kernel
theorem d_Wo_init_26 : decode y_Wo_init.2.1 26 = .ok (.putfield 19, 3) := by decide +kernel
theorem d_Wo_init_29 : decode y_Wo_init.2.1 29 = .ok (.aload_n 0, 1) := by decide +kernel
theorem d_Wo_init_30 : decode y_Wo_init.2.1 30 = .ok (.sipush 128, 3) := by decide +kernel
theorem d_Wo_init_33 : decode y_Wo_init.2.1 33 = .ok (.newarray .int, 2) := by decide +kernel
theorem d_Wo_init_35 : decode y_Wo_init.2.1 35 = .ok (.putfield 22, 3) := by decide +kernel
theorem d_Wo_init_38 : decode y_Wo_init.2.1 38 = .ok (.return_, 1) := by decide +kernel
theorem k_Wo_init {G : mG} {d : Nat} {a0 : Nat} {M : mM} {Q : mM → Prop} (hO : mOk M)
    (h : 0 < a0 ∧ ∀ M2, M2 = mNew M 32 0 0 → mK M2 a0 = 2 ∧ ∀ M5, M5 = mUR M2 a0 0 (mZ M) → ∀ M7, M7 = mNew M5 30 128 128 → mK M7 a0 = 2 ∧ ∀ M10, M10 = mUR M7 a0 3 (mZ M5) → ∀ M12, M12 = mNew M10 30 128 128 → mK M12 a0 = 2 ∧ ∀ M15, M15 = mUR M12 a0 4 (mZ M10) → ∀ M17, M17 = mNew M15 30 128 128 → mK M17 a0 = 2 ∧ ∀ M20, M20 = mUR M17 a0 5 (mZ M15) → Q M20) :
    Cv G y_Wo_init (d + 1) [vr a0] M Q := by
  refine wm_open (y := y_Wo_init) rfl (Nat.le_of_ble_eq_true rfl) (L := [vr a0]) rfl ?_
  obtain ⟨h1, h⟩ := h
  obtain ⟨M2, e3⟩ : ∃ M2, M2 = mNew M 32 0 0 := ⟨_, rfl⟩
  replace h := h M2 e3
  obtain ⟨h4, h⟩ := h
  obtain ⟨M5, e6⟩ : ∃ M5, M5 = mUR M2 a0 0 (mZ M) := ⟨_, rfl⟩
  replace h := h M5 e6
  obtain ⟨M7, e8⟩ : ∃ M7, M7 = mNew M5 30 128 128 := ⟨_, rfl⟩
  replace h := h M7 e8
  obtain ⟨h9, h⟩ := h
  obtain ⟨M10, e11⟩ : ∃ M10, M10 = mUR M7 a0 3 (mZ M5) := ⟨_, rfl⟩
  replace h := h M10 e11
  obtain ⟨M12, e13⟩ : ∃ M12, M12 = mNew M10 30 128 128 := ⟨_, rfl⟩
  replace h := h M12 e13
  obtain ⟨h14, h⟩ := h
  obtain ⟨M15, e16⟩ : ∃ M15, M15 = mUR M12 a0 4 (mZ M10) := ⟨_, rfl⟩
  replace h := h M15 e16
  obtain ⟨M17, e18⟩ : ∃ M17, M17 = mNew M15 30 128 128 := ⟨_, rfl⟩
  replace h := h M17 e18
  obtain ⟨h19, h⟩ := h
  obtain ⟨M20, e21⟩ : ∃ M20, M20 = mUR M17 a0 5 (mZ M15) := ⟨_, rfl⟩
  replace h := h M20 e21
  refine wm_aload_n d_Wo_init_0 rfl rfl ?_
  refine wm_objInit trivial k1_53 kO_inst kO_code (Nat.le_of_ble_eq_true rfl) d_Wo_init_1 h1 ?_
  refine wm_aload_n d_Wo_init_4 rfl rfl ?_
  refine wm_iconst d_Wo_init_5 ?_
  have hOM2 : mOk M2 := by rw [e3]; exact mOk_New hO
  refine wm_newarrE 2 (atype := .char) (ty := .char) rfl rfl (fun _ => rfl) rfl rfl (by decide) k1_81 ⟨by decide, by decide⟩ d_Wo_init_6 e3 ?_
  have hOM5 : mOk M5 := by rw [e6]; exact mOk_UR hOM2
  refine pf_Wo_9 rfl d_Wo_init_8 h4 e6 ?_
  refine wm_aload_n d_Wo_init_11 rfl rfl ?_
  refine wm_sipush d_Wo_init_12 (by decide) ?_
  have hOM7 : mOk M7 := by rw [e8]; exact mOk_New hOM5
  refine wm_newarrE 0 (atype := .int) (ty := .int) rfl rfl (fun _ => rfl) rfl rfl (by decide) k1_82 ⟨by decide, by decide⟩ d_Wo_init_15 e8 ?_
  have hOM10 : mOk M10 := by rw [e11]; exact mOk_UR hOM7
  refine pf_Wo_15 rfl d_Wo_init_17 h9 e11 ?_
  refine wm_aload_n d_Wo_init_20 rfl rfl ?_
  refine wm_sipush d_Wo_init_21 (by decide) ?_
  have hOM12 : mOk M12 := by rw [e13]; exact mOk_New hOM10
  refine wm_newarrE 0 (atype := .int) (ty := .int) rfl rfl (fun _ => rfl) rfl rfl (by decide) k1_82 ⟨by decide, by decide⟩ d_Wo_init_24 e13 ?_
  have hOM15 : mOk M15 := by rw [e16]; exact mOk_UR hOM12
  refine pf_Wo_19 rfl d_Wo_init_26 h14 e16 ?_
  refine wm_aload_n d_Wo_init_29 rfl rfl ?_
  refine wm_sipush d_Wo_init_30 (by decide) ?_
  have hOM17 : mOk M17 := by rw [e18]; exact mOk_New hOM15
  refine wm_newarrE 0 (atype := .int) (ty := .int) rfl rfl (fun _ => rfl) rfl rfl (by decide) k1_82 ⟨by decide, by decide⟩ d_Wo_init_33 e18 ?_
  have hOM20 : mOk M20 := by rw [e21]; exact mOk_UR hOM17
  refine pf_Wo_22 rfl d_Wo_init_35 h19 e21 ?_
  refine wm_return d_Wo_init_38 rfl ?_
  exact ⟨rfl, h⟩
theorem d_Wo_split_0 : decode y_Wo_split.2.1 0 = .ok (.aload_n 0, 1) := by decide +kernel
theorem d_Wo_split_1 : decode y_Wo_split.2.1 1 = .ok (.aload_n 1, 1) := by decide +kernel
theorem d_Wo_split_2 : decode y_Wo_split.2.1 2 = .ok (.putfield 9, 3) := by decide +kernel
theorem d_Wo_split_5 : decode y_Wo_split.2.1 5 = .ok (.aload_n 0, 1) := by decide +kernel
theorem d_Wo_split_6 : decode y_Wo_split.2.1 6 = .ok (.iload_n 2, 1) := by decide +kernel
theorem d_Wo_split_7 : decode y_Wo_split.2.1 7 = .ok (.putfield 25, 3) := by decide +kernel
theorem d_Wo_split_10 : decode y_Wo_split.2.1 10 = .ok (.aload_n 0, 1) := by decide +kernel
theorem d_Wo_split_11 : decode y_Wo_split.2.1 11 = .ok (.iconst 0, 1) := by decide +kernel
theorem d_Wo_split_12 : decode y_Wo_split.2.1 12 = .ok (.putfield 29, 3) := by decide +kernel
theorem d_Wo_split_15 : decode y_Wo_split.2.1 15 = .ok (.aload_n 0, 1) := by decide +kernel
theorem d_Wo_split_16 : decode y_Wo_split.2.1 16 = .ok (.aload_n 0, 1) := by decide +kernel
theorem d_Wo_split_17 : decode y_Wo_split.2.1 17 = .ok (.getfield 25, 3) := by decide +kernel
theorem d_Wo_split_20 : decode y_Wo_split.2.1 20 = .ok (.iconst 2, 1) := by decide +kernel
theorem d_Wo_split_21 : decode y_Wo_split.2.1 21 = .ok (.iadd, 1) := by decide +kernel
theorem d_Wo_split_22 : decode y_Wo_split.2.1 22 = .ok (.invokevirtual 32, 3) := by decide +kernel
theorem d_Wo_split_25 : decode y_Wo_split.2.1 25 = .ok (.aload_n 0, 1) := by decide +kernel
theorem d_Wo_split_26 : decode y_Wo_split.2.1 26 = .ok (.iconst 0, 1) := by decide +kernel
theorem d_Wo_split_27 : decode y_Wo_split.2.1 27 = .ok (.invokevirtual 36, 3) := by decide +kernel
theorem d_Wo_split_30 : decode y_Wo_split.2.1 30 = .ok (.istore_n 3, 1) := by decide +kernel
theorem d_Wo_split_31 : decode y_Wo_split.2.1 31 = .ok (.iconst 0, 1) := by decide +kernel
theorem d_Wo_split_32 : decode y_Wo_split.2.1 32 = .ok (.istore 4, 2) := by decide +kernel
theorem d_Wo_split_34 : decode y_Wo_split.2.1 34 = .ok (.iload 4, 2) := by decide +kernel
theorem d_Wo_split_36 : decode y_Wo_split.2.1 36 = .ok (.aload_n 0, 1) := by decide +kernel
theorem d_Wo_split_37 : decode y_Wo_split.2.1 37 = .ok (.getfield 25, 3) := by decide +kernel
theorem d_Wo_split_40 : decode y_Wo_split.2.1 40 = .ok (.if_icmp .ge 27, 3) := by decide +kernel
theorem d_Wo_split_43 : decode y_Wo_split.2.1 43 = .ok (.iload_n 3, 1) := by decide +kernel
theorem d_Wo_split_44 : decode y_Wo_split.2.1 44 = .ok (.aload_n 0, 1) := by decide +kernel
theorem d_Wo_split_45 : decode y_Wo_split.2.1 45 = .ok (.getfield 25, 3) := by decide +kernel
theorem d_Wo_split_48 : decode y_Wo_split.2.1 48 = .ok (.if_icmp .ge 19, 3) := by decide +kernel
theorem d_Wo_split_51 : decode y_Wo_split.2.1 51 = .ok (.aload_n 0, 1) := by decide +kernel
theorem d_Wo_split_52 : decode y_Wo_split.2.1 52 = .ok (.aload_n 0, 1) := by decide +kernel
theorem d_Wo_split_53 : decode y_Wo_split.2.1 53 = .ok (.iload_n 3, 1) := by decide +kernel
theorem d_Wo_split_67 : decode y_Wo_split.2.1 67 = .ok (.aload_n 0, 1) := by decide +kernel
theorem d_Wo_split_68 : decode y_Wo_split.2.1 68 = .ok (.iconst 0, 1) := by decide +kernel
theorem d_Wo_split_69 : decode y_Wo_split.2.1 69 = .ok (.aload_n 0, 1) := by decide +kernel
theorem d_Wo_split_70 : decode y_Wo_split.2.1 70 = .ok (.getfield 25, 3) := by decide +kernel
theorem d_Wo_split_73 : decode y_Wo_split.2.1 73 = .ok (.iconst 0, 1) := by decide +kernel
theorem d_Wo_split_74 : decode y_Wo_split.2.1 74 = .ok (.invokevirtual 43, 3) := by decide +kernel
theorem d_Wo_split_77 : decode y_Wo_split.2.1 77 = .ok (.return_, 1) := by decide +kernel
theorem d_Wo_split_54 : decode y_Wo_split.2.1 54 = .ok (.invokevirtual 40, 3) := by decide +kernel
theorem d_Wo_split_57 : decode y_Wo_split.2.1 57 = .ok (.invokevirtual 36, 3) := by decide +kernel
theorem d_Wo_split_60 : decode y_Wo_split.2.1 60 = .ok (.istore_n 3, 1) := by decide +kernel
theorem d_Wo_split_61 : decode y_Wo_split.2.1 61 = .ok (.iinc 4 1, 3) := by decide +kernel
theorem d_Wo_split_64 : decode y_Wo_split.2.1 64 = .ok (.goto (-30), 3) := by decide +kernel
def h_Wo_split_34 (G : mG) (d : Nat) (a0 : Nat) (l3 : Int) (l4 : Int) (M : mM) (Q : mM → Prop) : Prop := mWm G y_Wo_split (d + 1) 34 [vr a0, vd, vd, vi l3, vi l4] [] M (fun r9 M9 => r9 = none ∧ Q M9)
theorem k_Wo_split {G : mG} {d : Nat} {a0 : Nat} {a1 : Nat} {l2 : Int} {M : mM} {Q : mM → Prop} (hO : mOk M) (hi_l2 : i32 l2)
    (h : mK M a0 = 2 ∧ ∀ M2, M2 = mUR M a0 0 a1 → ∀ M4, M4 = mUI M2 a0 1 l2 → ∀ M6, M6 = mUI M4 a0 2 0 → Cv G y_Wo_reserve d [vr a0, vi ((mI M6 a0 1) + 2)] M6 (fun M8 => mOk M8 ∧ (mK M8 a0 = 2 ∧ Ci G y_Wo_afterBlanks d [vr a0, vi 0] M8 (fun x13 M12 => i32 x13 ∧ mOk M12 ∧ (h_Wo_split_34 G d a0 x13 0 M12 Q))))) :
    Cv G y_Wo_split (d + 1) [vr a0, vr a1, vi l2] M Q := by
  refine wm_open (y := y_Wo_split) rfl (Nat.le_of_ble_eq_true rfl) (L := [vr a0, vr a1, vi l2, vd, vd]) rfl ?_
  obtain ⟨h1, h⟩ := h
  obtain ⟨M2, e3⟩ : ∃ M2, M2 = mUR M a0 0 a1 := ⟨_, rfl⟩
  replace h := h M2 e3
  obtain ⟨M4, e5⟩ : ∃ M4, M4 = mUI M2 a0 1 l2 := ⟨_, rfl⟩
  replace h := h M4 e5
  obtain ⟨M6, e7⟩ : ∃ M6, M6 = mUI M4 a0 2 0 := ⟨_, rfl⟩
  replace h := h M6 e7
  refine wm_aload_n d_Wo_split_0 rfl rfl ?_
  refine wm_aload_n d_Wo_split_1 rfl rfl ?_
  have hOM2 : mOk M2 := by rw [e3]; exact mOk_UR hO
  refine pf_Wo_9 rfl d_Wo_split_2 h1 e3 ?_
  refine wm_aload_n d_Wo_split_5 rfl rfl ?_
  refine wm_iload_n d_Wo_split_6 rfl rfl ?_
  have hOM4 : mOk M4 := by rw [e5]; exact mOk_UI hOM2 hi_l2
  refine pf_Wo_25 rfl d_Wo_split_7 (by rw [e3]; exact h1) hi_l2 e5 ?_
  refine wm_aload_n d_Wo_split_10 rfl rfl ?_
  refine wm_iconst d_Wo_split_11 ?_
  have hOM6 : mOk M6 := by rw [e7]; exact mOk_UI hOM4 ⟨by decide, by decide⟩
  refine pf_Wo_29 rfl d_Wo_split_12 (by rw [e5, e3]; exact h1) ⟨by decide, by decide⟩ e7 ?_
  refine wm_aload_n d_Wo_split_15 rfl rfl ?_
  refine wm_aload_n d_Wo_split_16 rfl rfl ?_
  refine gf_Wo_25 rfl d_Wo_split_17 (by rw [e7, e5, e3]; exact h1) ?_
  refine wm_iconst d_Wo_split_20 ?_
  refine wm_iadd d_Wo_split_21 ?_
  refine cf_Wo_32 rfl d_Wo_split_22 (by rw [e7, e5, e3]; exact h1) (Nat.le_of_ble_eq_true rfl) (Cv.mono h (fun M8 h => ?_))
  obtain ⟨hOM8, h⟩ := h
  obtain ⟨h11, h⟩ := h
  refine wm_aload_n d_Wo_split_25 rfl rfl ?_
  refine wm_iconst d_Wo_split_26 ?_
  refine cf_Wo_36 rfl d_Wo_split_27 h11 (Nat.le_of_ble_eq_true rfl) (Ci.mono h (fun x13 M12 h => ?_))
  obtain ⟨h14, hOM12, h⟩ := h
  refine wm_istore_n d_Wo_split_30 rfl (by decide) (L' := [vr a0, vr a1, vi l2, vi x13, vd]) rfl ?_
  refine wm_iconst d_Wo_split_31 ?_
  refine wm_istore d_Wo_split_32 (by decide) (L' := [vr a0, vr a1, vi l2, vi x13, vi 0]) rfl ?_
  refine wm_less (L' := [vr a0, vd, vd, vi x13, vi 0]) ⟨Or.inr rfl, Or.inl rfl, Or.inl rfl, Or.inr rfl, Or.inr rfl, trivial⟩ ?_
  exact h
theorem k_Wo_split_34 {G : mG} {d : Nat} {a0 : Nat} {l3 : Int} {l4 : Int} {M : mM} {Q : mM → Prop} (hO : mOk M) (hi_l3 : i32 l3) (hi_l4 : i32 l4)
    (h : mK M a0 = 2 ∧ (((mI M a0 1 ≤ l4) ∨ (mI M a0 1 ≤ l3)) → (Cv G y_Wo_add d [vr a0, vi 0, vi (mI M a0 1), vi 0] M (fun M20 => mOk M20 ∧ (Q M20)))) ∧ (¬ ((mI M a0 1 ≤ l4) ∨ (mI M a0 1 ≤ l3)) → (Ci G y_Wo_takeWord d [vr a0, vi l3] M (fun x25 M24 => i32 x25 ∧ mOk M24 ∧ (mK M24 a0 = 2 ∧ Ci G y_Wo_afterBlanks d [vr a0, vi x25] M24 (fun x29 M28 => i32 x29 ∧ mOk M28 ∧ (h_Wo_split_34 G d a0 x29 (l4 + 1) M28 Q))))))) :
    h_Wo_split_34 G d a0 l3 l4 M Q := by
  unfold h_Wo_split_34
  obtain ⟨h15, h⟩ := h
  refine wm_iload d_Wo_split_34 rfl ?_
  refine wm_aload_n d_Wo_split_36 rfl rfl ?_
  refine gf_Wo_25 rfl d_Wo_split_37 h15 ?_
  have hE0 : ((mI M a0 1 ≤ l4) ∨ (mI M a0 1 ≤ l3)) → mWm G y_Wo_split (d + 1) 67 [vr a0, vd, vd, vi l3, vi l4] [] M (fun r9 M9 => r9 = none ∧ Q M9) := by
    intro q19
    have h := h.1 q19
    refine wm_aload_n d_Wo_split_67 rfl rfl ?_
    refine wm_iconst d_Wo_split_68 ?_
    refine wm_aload_n d_Wo_split_69 rfl rfl ?_
    refine gf_Wo_25 rfl d_Wo_split_70 h15 ?_
    refine wm_iconst d_Wo_split_73 ?_
    refine cf_Wo_43 rfl d_Wo_split_74 h15 (Nat.le_of_ble_eq_true rfl) (Cv.mono h (fun M20 h => ?_))
    obtain ⟨hOM20, h⟩ := h
    refine wm_return d_Wo_split_77 rfl ?_
    exact ⟨rfl, h⟩
  have hE1 : ¬ ((mI M a0 1 ≤ l4) ∨ (mI M a0 1 ≤ l3)) → mWm G y_Wo_split (d + 1) 51 [vr a0, vd, vd, vi l3, vi l4] [] M (fun r9 M9 => r9 = none ∧ Q M9) := by
    intro q23
    have h := h.2 q23
    refine wm_aload_n d_Wo_split_51 rfl rfl ?_
    refine wm_aload_n d_Wo_split_52 rfl rfl ?_
    refine wm_iload_n d_Wo_split_53 rfl rfl ?_
    refine cf_Wo_40 rfl d_Wo_split_54 h15 (Nat.le_of_ble_eq_true rfl) (Ci.mono h (fun x25 M24 h => ?_))
    obtain ⟨h26, hOM24, h⟩ := h
    obtain ⟨h27, h⟩ := h
    refine cf_Wo_36 rfl d_Wo_split_57 h27 (Nat.le_of_ble_eq_true rfl) (Ci.mono h (fun x29 M28 h => ?_))
    obtain ⟨h30, hOM28, h⟩ := h
    refine wm_istore_n d_Wo_split_60 rfl (by decide) (L' := [vr a0, vd, vd, vi x29, vi l4]) rfl ?_
    refine wm_iinc d_Wo_split_61 (by decide) rfl (L' := [vr a0, vd, vd, vi x29, vi (l4 + 1)]) rfl ?_
    refine wm_goto (tgt := 34) d_Wo_split_64 rfl ?_
    exact h
  clear h
  refine wm_icmp_ge (tgt := 67) d_Wo_split_40 rfl hi_l4 (hO _ _).1 (fun c17 => ?_) (fun c17 => ?_)
  · exact hE0 (Or.inl c17)
  · refine wm_iload_n d_Wo_split_43 rfl rfl ?_
    refine wm_aload_n d_Wo_split_44 rfl rfl ?_
    refine gf_Wo_25 rfl d_Wo_split_45 h15 ?_
    refine wm_icmp_ge (tgt := 67) d_Wo_split_48 rfl hi_l3 (hO _ _).1 (fun c16 => ?_) (fun c16 => ?_)
    · exact hE0 (Or.inr c16)
    · exact hE1 (fun z31 => Or.elim z31 c17 c16)
theorem d_Wo_reserve_0 : decode y_Wo_reserve.2.1 0 = .ok (.aload_n 0, 1) := by decide +kernel
theorem d_Wo_reserve_1 : decode y_Wo_reserve.2.1 1 = .ok (.getfield 15, 3) := by decide +kernel
theorem d_Wo_reserve_4 : decode y_Wo_reserve.2.1 4 = .ok (.arraylength, 1) := by decide +kernel
theorem d_Wo_reserve_5 : decode y_Wo_reserve.2.1 5 = .ok (.istore_n 2, 1) := by decide +kernel
theorem d_Wo_reserve_6 : decode y_Wo_reserve.2.1 6 = .ok (.iconst 0, 1) := by decide +kernel
theorem d_Wo_reserve_7 : decode y_Wo_reserve.2.1 7 = .ok (.istore_n 3, 1) := by decide +kernel
theorem d_Wo_reserve_8 : decode y_Wo_reserve.2.1 8 = .ok (.iload_n 3, 1) := by decide +kernel
theorem d_Wo_reserve_9 : decode y_Wo_reserve.2.1 9 = .ok (.bipush 31, 2) := by decide +kernel
theorem d_Wo_reserve_11 : decode y_Wo_reserve.2.1 11 = .ok (.if_icmp .ge 18, 3) := by decide +kernel
theorem d_Wo_reserve_14 : decode y_Wo_reserve.2.1 14 = .ok (.iload_n 2, 1) := by decide +kernel
theorem d_Wo_reserve_15 : decode y_Wo_reserve.2.1 15 = .ok (.iload_n 1, 1) := by decide +kernel
theorem d_Wo_reserve_16 : decode y_Wo_reserve.2.1 16 = .ok (.if_icmp .ge 13, 3) := by decide +kernel
theorem d_Wo_reserve_19 : decode y_Wo_reserve.2.1 19 = .ok (.iload_n 2, 1) := by decide +kernel
theorem d_Wo_reserve_20 : decode y_Wo_reserve.2.1 20 = .ok (.iconst 2, 1) := by decide +kernel
theorem d_Wo_reserve_21 : decode y_Wo_reserve.2.1 21 = .ok (.imul, 1) := by decide +kernel
theorem d_Wo_reserve_22 : decode y_Wo_reserve.2.1 22 = .ok (.istore_n 2, 1) := by decide +kernel
theorem d_Wo_reserve_23 : decode y_Wo_reserve.2.1 23 = .ok (.iinc 3 1, 3) := by decide +kernel
theorem d_Wo_reserve_26 : decode y_Wo_reserve.2.1 26 = .ok (.goto (-18), 3) := by decide +kernel
theorem d_Wo_reserve_29 : decode y_Wo_reserve.2.1 29 = .ok (.iload_n 2, 1) := by decide +kernel
theorem d_Wo_reserve_30 : decode y_Wo_reserve.2.1 30 = .ok (.aload_n 0, 1) := by decide +kernel
theorem d_Wo_reserve_31 : decode y_Wo_reserve.2.1 31 = .ok (.getfield 15, 3) := by decide +kernel
theorem d_Wo_reserve_34 : decode y_Wo_reserve.2.1 34 = .ok (.arraylength, 1) := by decide +kernel
theorem d_Wo_reserve_35 : decode y_Wo_reserve.2.1 35 = .ok (.if_icmp .le 24, 3) := by decide +kernel
theorem d_Wo_reserve_38 : decode y_Wo_reserve.2.1 38 = .ok (.aload_n 0, 1) := by decide +kernel
theorem d_Wo_reserve_39 : decode y_Wo_reserve.2.1 39 = .ok (.iload_n 2, 1) := by decide +kernel
theorem d_Wo_reserve_59 : decode y_Wo_reserve.2.1 59 = .ok (.return_, 1) := by decide +kernel
theorem d_Wo_reserve_40 : decode y_Wo_reserve.2.1 40 = .ok (.newarray .int, 2) := by decide +kernel
theorem d_Wo_reserve_42 : decode y_Wo_reserve.2.1 42 = .ok (.putfield 15, 3) := by decide +kernel
theorem d_Wo_reserve_45 : decode y_Wo_reserve.2.1 45 = .ok (.aload_n 0, 1) := by decide +kernel
theorem d_Wo_reserve_46 : decode y_Wo_reserve.2.1 46 = .ok (.iload_n 2, 1) := by decide +kernel
theorem d_Wo_reserve_47 : decode y_Wo_reserve.2.1 47 = .ok (.newarray .int, 2) := by decide +kernel
theorem d_Wo_reserve_49 : decode y_Wo_reserve.2.1 49 = .ok (.putfield 19, 3) := by decide +kernel
theorem d_Wo_reserve_52 : decode y_Wo_reserve.2.1 52 = .ok (.aload_n 0, 1) := by decide +kernel
theorem d_Wo_reserve_53 : decode y_Wo_reserve.2.1 53 = .ok (.iload_n 2, 1) := by decide +kernel
theorem d_Wo_reserve_54 : decode y_Wo_reserve.2.1 54 = .ok (.newarray .int, 2) := by decide +kernel
theorem d_Wo_reserve_56 : decode y_Wo_reserve.2.1 56 = .ok (.putfield 22, 3) := by decide +kernel
def h_Wo_reserve_8 (G : mG) (d : Nat) (a0 : Nat) (l1 : Int) (l2 : Int) (l3 : Int) (M : mM) (Q : mM → Prop) : Prop := mWm G y_Wo_reserve d 8 [vr a0, vi l1, vi l2, vi l3] [] M (fun r9 M9 => r9 = none ∧ Q M9)
theorem k_Wo_reserve {G : mG} {d : Nat} {a0 : Nat} {l1 : Int} {M : mM} {Q : mM → Prop} (hO : mOk M) (hi_l1 : i32 l1)
    (h : mK M a0 = 2 ∧ mK M (mR M a0 3) = 30 ∧ h_Wo_reserve_8 G d a0 l1 (mN M (mR M a0 3) : Int) 0 M Q) :
    Cv G y_Wo_reserve d [vr a0, vi l1] M Q := by
  refine wm_open (y := y_Wo_reserve) rfl (Nat.le_of_ble_eq_true rfl) (L := [vr a0, vi l1, vd, vd]) rfl ?_
  obtain ⟨h1, h⟩ := h
  obtain ⟨h2, h⟩ := h
  refine wm_aload_n d_Wo_reserve_0 rfl rfl ?_
  refine gf_Wo_15 rfl d_Wo_reserve_1 h1 ?_
  refine wm_alen 0 rfl (fun _ => rfl) d_Wo_reserve_4 h2 ?_
  refine wm_istore_n d_Wo_reserve_5 rfl (by decide) (L' := [vr a0, vi l1, vi (mN M (mR M a0 3) : Int), vd]) rfl ?_
  refine wm_iconst d_Wo_reserve_6 ?_
  refine wm_istore_n d_Wo_reserve_7 rfl (by decide) (L' := [vr a0, vi l1, vi (mN M (mR M a0 3) : Int), vi 0]) rfl ?_
  exact h
theorem k_Wo_reserve_8 {G : mG} {d : Nat} {a0 : Nat} {l1 : Int} {l2 : Int} {l3 : Int} {M : mM} {Q : mM → Prop} (hO : mOk M) (hi_l1 : i32 l1) (hi_l2 : i32 l2) (hi_l3 : i32 l3)
    (h : (((31 ≤ l3) ∨ (l1 ≤ l2)) → (mK M a0 = 2 ∧ mK M (mR M a0 3) = 30 ∧ i32 (mN M (mR M a0 3) : Int) ∧ ((l2 ≤ (mN M (mR M a0 3) : Int)) → (Q M)) ∧ (¬ (l2 ≤ (mN M (mR M a0 3) : Int)) → (((0 : Int) ≤ l2 ∧ l2 ≤ 16777216) ∧ ∀ M16, M16 = mNew M 30 (Int.toNat l2) (Int.toNat l2) → mK M16 a0 = 2 ∧ ∀ M19, M19 = mUR M16 a0 3 (mZ M) → ((0 : Int) ≤ l2 ∧ l2 ≤ 16777216) ∧ ∀ M22, M22 = mNew M19 30 (Int.toNat l2) (Int.toNat l2) → mK M22 a0 = 2 ∧ ∀ M25, M25 = mUR M22 a0 4 (mZ M19) → ((0 : Int) ≤ l2 ∧ l2 ≤ 16777216) ∧ ∀ M28, M28 = mNew M25 30 (Int.toNat l2) (Int.toNat l2) → mK M28 a0 = 2 ∧ ∀ M31, M31 = mUR M28 a0 5 (mZ M25) → Q M31)))) ∧ (¬ ((31 ≤ l3) ∨ (l1 ≤ l2)) → (h_Wo_reserve_8 G d a0 l1 (l2 * 2) (l3 + 1) M Q))) :
    h_Wo_reserve_8 G d a0 l1 l2 l3 M Q := by
  unfold h_Wo_reserve_8
  refine wm_iload_n d_Wo_reserve_8 rfl rfl ?_
  refine wm_bipush d_Wo_reserve_9 (by decide) ?_
  have hE0 : ((31 ≤ l3) ∨ (l1 ≤ l2)) → mWm G y_Wo_reserve d 29 [vr a0, vi l1, vi l2, vi l3] [] M (fun r9 M9 => r9 = none ∧ Q M9) := by
    intro q6
    have h := h.1 q6
    obtain ⟨h7, h⟩ := h
    obtain ⟨h8, h⟩ := h
    obtain ⟨h13, h⟩ := h
    refine wm_iload_n d_Wo_reserve_29 rfl rfl ?_
    refine wm_aload_n d_Wo_reserve_30 rfl rfl ?_
    refine gf_Wo_15 rfl d_Wo_reserve_31 h7 ?_
    refine wm_alen 0 rfl (fun _ => rfl) d_Wo_reserve_34 h8 ?_
    refine wm_icmp_le (tgt := 59) d_Wo_reserve_35 rfl hi_l2 h13 (fun c14 => ?_) (fun c14 => ?_)
    · replace h := h.1 c14
      refine wm_return d_Wo_reserve_59 rfl ?_
      exact ⟨rfl, h⟩
    · replace h := h.2 c14
      obtain ⟨h15, h⟩ := h
      obtain ⟨M16, e17⟩ : ∃ M16, M16 = mNew M 30 (Int.toNat l2) (Int.toNat l2) := ⟨_, rfl⟩
      replace h := h M16 e17
      obtain ⟨h18, h⟩ := h
      obtain ⟨M19, e20⟩ : ∃ M19, M19 = mUR M16 a0 3 (mZ M) := ⟨_, rfl⟩
      replace h := h M19 e20
      obtain ⟨h21, h⟩ := h
      obtain ⟨M22, e23⟩ : ∃ M22, M22 = mNew M19 30 (Int.toNat l2) (Int.toNat l2) := ⟨_, rfl⟩
      replace h := h M22 e23
      obtain ⟨h24, h⟩ := h
      obtain ⟨M25, e26⟩ : ∃ M25, M25 = mUR M22 a0 4 (mZ M19) := ⟨_, rfl⟩
      replace h := h M25 e26
      obtain ⟨h27, h⟩ := h
      obtain ⟨M28, e29⟩ : ∃ M28, M28 = mNew M25 30 (Int.toNat l2) (Int.toNat l2) := ⟨_, rfl⟩
      replace h := h M28 e29
      obtain ⟨h30, h⟩ := h
      obtain ⟨M31, e32⟩ : ∃ M31, M31 = mUR M28 a0 5 (mZ M25) := ⟨_, rfl⟩
      replace h := h M31 e32
      refine wm_aload_n d_Wo_reserve_38 rfl rfl ?_
      refine wm_iload_n d_Wo_reserve_39 rfl rfl ?_
      have hOM16 : mOk M16 := by rw [e17]; exact mOk_New hO
      refine wm_newarrE 0 (atype := .int) (ty := .int) rfl rfl (fun _ => rfl) rfl rfl (by decide) k1_82 h15 d_Wo_reserve_40 e17 ?_
      have hOM19 : mOk M19 := by rw [e20]; exact mOk_UR hOM16
      refine pf_Wo_15 rfl d_Wo_reserve_42 h18 e20 ?_
      refine wm_aload_n d_Wo_reserve_45 rfl rfl ?_
      refine wm_iload_n d_Wo_reserve_46 rfl rfl ?_
      have hOM22 : mOk M22 := by rw [e23]; exact mOk_New hOM19
      refine wm_newarrE 0 (atype := .int) (ty := .int) rfl rfl (fun _ => rfl) rfl rfl (by decide) k1_82 h21 d_Wo_reserve_47 e23 ?_
      have hOM25 : mOk M25 := by rw [e26]; exact mOk_UR hOM22
      refine pf_Wo_19 rfl d_Wo_reserve_49 h24 e26 ?_
      refine wm_aload_n d_Wo_reserve_52 rfl rfl ?_
      refine wm_iload_n d_Wo_reserve_53 rfl rfl ?_
      have hOM28 : mOk M28 := by rw [e29]; exact mOk_New hOM25
      refine wm_newarrE 0 (atype := .int) (ty := .int) rfl rfl (fun _ => rfl) rfl rfl (by decide) k1_82 h27 d_Wo_reserve_54 e29 ?_
      have hOM31 : mOk M31 := by rw [e32]; exact mOk_UR hOM28
      refine pf_Wo_22 rfl d_Wo_reserve_56 h30 e32 ?_
      refine wm_return d_Wo_reserve_59 rfl ?_
      exact ⟨rfl, h⟩
  have hE1 : ¬ ((31 ≤ l3) ∨ (l1 ≤ l2)) → mWm G y_Wo_reserve d 19 [vr a0, vi l1, vi l2, vi l3] [] M (fun r9 M9 => r9 = none ∧ Q M9) := by
    intro q33
    have h := h.2 q33
    refine wm_iload_n d_Wo_reserve_19 rfl rfl ?_
    refine wm_iconst d_Wo_reserve_20 ?_
    refine wm_imul d_Wo_reserve_21 ?_
    refine wm_istore_n d_Wo_reserve_22 rfl (by decide) (L' := [vr a0, vi l1, vi (l2 * 2), vi l3]) rfl ?_
    refine wm_iinc d_Wo_reserve_23 (by decide) rfl (L' := [vr a0, vi l1, vi (l2 * 2), vi (l3 + 1)]) rfl ?_
    refine wm_goto (tgt := 8) d_Wo_reserve_26 rfl ?_
    exact h
  clear h
  refine wm_icmp_ge (tgt := 29) d_Wo_reserve_11 rfl hi_l3 ⟨by decide, by decide⟩ (fun c4 => ?_) (fun c4 => ?_)
  · exact hE0 (Or.inl c4)
  · refine wm_iload_n d_Wo_reserve_14 rfl rfl ?_
    refine wm_iload_n d_Wo_reserve_15 rfl rfl ?_
    refine wm_icmp_ge (tgt := 29) d_Wo_reserve_16 rfl hi_l2 hi_l1 (fun c3 => ?_) (fun c3 => ?_)
    · exact hE0 (Or.inr c3)
    · exact hE1 (fun z34 => Or.elim z34 c4 c3)
theorem d_Wo_add_0 : decode y_Wo_add.2.1 0 = .ok (.aload_n 0, 1) := by decide +kernel
theorem d_Wo_add_1 : decode y_Wo_add.2.1 1 = .ok (.getfield 15, 3) := by decide +kernel
theorem d_Wo_add_4 : decode y_Wo_add.2.1 4 = .ok (.aload_n 0, 1) := by decide +kernel
theorem d_Wo_add_5 : decode y_Wo_add.2.1 5 = .ok (.getfield 29, 3) := by decide +kernel
theorem d_Wo_add_8 : decode y_Wo_add.2.1 8 = .ok (.iload_n 1, 1) := by decide +kernel
theorem d_Wo_add_9 : decode y_Wo_add.2.1 9 = .ok (.iastore, 1) := by decide +kernel
theorem d_Wo_add_10 : decode y_Wo_add.2.1 10 = .ok (.aload_n 0, 1) := by decide +kernel
theorem d_Wo_add_11 : decode y_Wo_add.2.1 11 = .ok (.getfield 19, 3) := by decide +kernel
theorem d_Wo_add_14 : decode y_Wo_add.2.1 14 = .ok (.aload_n 0, 1) := by decide +kernel
theorem d_Wo_add_15 : decode y_Wo_add.2.1 15 = .ok (.getfield 29, 3) := by decide +kernel
theorem d_Wo_add_18 : decode y_Wo_add.2.1 18 = .ok (.iload_n 2, 1) := by decide +kernel
theorem d_Wo_add_19 : decode y_Wo_add.2.1 19 = .ok (.iastore, 1) := by decide +kernel
theorem d_Wo_add_20 : decode y_Wo_add.2.1 20 = .ok (.aload_n 0, 1) := by decide +kernel
theorem d_Wo_add_21 : decode y_Wo_add.2.1 21 = .ok (.getfield 22, 3) := by decide +kernel
theorem d_Wo_add_24 : decode y_Wo_add.2.1 24 = .ok (.aload_n 0, 1) := by decide +kernel
theorem d_Wo_add_25 : decode y_Wo_add.2.1 25 = .ok (.getfield 29, 3) := by decide +kernel
theorem d_Wo_add_28 : decode y_Wo_add.2.1 28 = .ok (.iload_n 3, 1) := by decide +kernel
theorem d_Wo_add_29 : decode y_Wo_add.2.1 29 = .ok (.iastore, 1) := by decide +kernel
theorem d_Wo_add_30 : decode y_Wo_add.2.1 30 = .ok (.aload_n 0, 1) := by decide +kernel
theorem d_Wo_add_31 : decode y_Wo_add.2.1 31 = .ok (.dup, 1) := by decide +kernel
theorem d_Wo_add_32 : decode y_Wo_add.2.1 32 = .ok (.getfield 29, 3) := by decide +kernel
theorem d_Wo_add_35 : decode y_Wo_add.2.1 35 = .ok (.iconst 1, 1) := by decide +kernel
theorem d_Wo_add_36 : decode y_Wo_add.2.1 36 = .ok (.iadd, 1) := by decide +kernel
theorem d_Wo_add_37 : decode y_Wo_add.2.1 37 = .ok (.putfield 29, 3) := by decide +kernel
theorem d_Wo_add_40 : decode y_Wo_add.2.1 40 = .ok (.return_, 1) := by decide +kernel
theorem k_Wo_add {G : mG} {d : Nat} {a0 : Nat} {l1 : Int} {l2 : Int} {l3 : Int} {M : mM} {Q : mM → Prop} (hO : mOk M) (hi_l1 : i32 l1) (hi_l2 : i32 l2) (hi_l3 : i32 l3)
    (h : mK M a0 = 2 ∧ mK M (mR M a0 3) = 30 ∧ ((0 : Int) ≤ mI M a0 2 ∧ mI M a0 2 < (mN M (mR M a0 3) : Int)) ∧ ∀ M4, M4 = mUI M (mR M a0 3) (Int.toNat (mI M a0 2)) l1 → mK M4 (mR M4 a0 4) = 30 ∧ ((0 : Int) ≤ mI M4 a0 2 ∧ mI M4 a0 2 < (mN M4 (mR M4 a0 4) : Int)) ∧ ∀ M8, M8 = mUI M4 (mR M4 a0 4) (Int.toNat (mI M4 a0 2)) l2 → mK M8 (mR M8 a0 5) = 30 ∧ ((0 : Int) ≤ mI M8 a0 2 ∧ mI M8 a0 2 < (mN M8 (mR M8 a0 5) : Int)) ∧ ∀ M12, M12 = mUI M8 (mR M8 a0 5) (Int.toNat (mI M8 a0 2)) l3 → i32 ((mI M12 a0 2) + 1) ∧ ∀ M15, M15 = mUI M12 a0 2 ((mI M12 a0 2) + 1) → Q M15) :
    Cv G y_Wo_add d [vr a0, vi l1, vi l2, vi l3] M Q := by
  refine wm_open (y := y_Wo_add) rfl (Nat.le_of_ble_eq_true rfl) (L := [vr a0, vi l1, vi l2, vi l3]) rfl ?_
  obtain ⟨h1, h⟩ := h
  obtain ⟨h2, h⟩ := h
  obtain ⟨h3, h⟩ := h
  obtain ⟨M4, e5⟩ : ∃ M4, M4 = mUI M (mR M a0 3) (Int.toNat (mI M a0 2)) l1 := ⟨_, rfl⟩
  replace h := h M4 e5
  obtain ⟨h6, h⟩ := h
  obtain ⟨h7, h⟩ := h
  obtain ⟨M8, e9⟩ : ∃ M8, M8 = mUI M4 (mR M4 a0 4) (Int.toNat (mI M4 a0 2)) l2 := ⟨_, rfl⟩
  replace h := h M8 e9
  obtain ⟨h10, h⟩ := h
  obtain ⟨h11, h⟩ := h
  obtain ⟨M12, e13⟩ : ∃ M12, M12 = mUI M8 (mR M8 a0 5) (Int.toNat (mI M8 a0 2)) l3 := ⟨_, rfl⟩
  replace h := h M12 e13
  obtain ⟨h14, h⟩ := h
  obtain ⟨M15, e16⟩ : ∃ M15, M15 = mUI M12 a0 2 ((mI M12 a0 2) + 1) := ⟨_, rfl⟩
  replace h := h M15 e16
  refine wm_aload_n d_Wo_add_0 rfl rfl ?_
  refine gf_Wo_15 rfl d_Wo_add_1 h1 ?_
  refine wm_aload_n d_Wo_add_4 rfl rfl ?_
  refine gf_Wo_29 rfl d_Wo_add_5 h1 ?_
  refine wm_iload_n d_Wo_add_8 rfl rfl ?_
  have hOM4 : mOk M4 := by rw [e5]; exact mOk_UI hO hi_l1
  refine wm_iastE d_Wo_add_9 h2 h3 hi_l1 e5 ?_
  refine wm_aload_n d_Wo_add_10 rfl rfl ?_
  refine gf_Wo_19 rfl d_Wo_add_11 (by rw [e5]; exact h1) ?_
  refine wm_aload_n d_Wo_add_14 rfl rfl ?_
  refine gf_Wo_29 rfl d_Wo_add_15 (by rw [e5]; exact h1) ?_
  refine wm_iload_n d_Wo_add_18 rfl rfl ?_
  have hOM8 : mOk M8 := by rw [e9]; exact mOk_UI hOM4 hi_l2
  refine wm_iastE d_Wo_add_19 h6 h7 hi_l2 e9 ?_
  refine wm_aload_n d_Wo_add_20 rfl rfl ?_
  refine gf_Wo_22 rfl d_Wo_add_21 (by rw [e9, e5]; exact h1) ?_
  refine wm_aload_n d_Wo_add_24 rfl rfl ?_
  refine gf_Wo_29 rfl d_Wo_add_25 (by rw [e9, e5]; exact h1) ?_
  refine wm_iload_n d_Wo_add_28 rfl rfl ?_
  have hOM12 : mOk M12 := by rw [e13]; exact mOk_UI hOM8 hi_l3
  refine wm_iastE d_Wo_add_29 h10 h11 hi_l3 e13 ?_
  refine wm_aload_n d_Wo_add_30 rfl rfl ?_
  refine wm_dup d_Wo_add_31 rfl ?_
  refine gf_Wo_29 rfl d_Wo_add_32 (by rw [e13, e9, e5]; exact h1) ?_
  refine wm_iconst d_Wo_add_35 ?_
  refine wm_iadd d_Wo_add_36 ?_
  have hOM15 : mOk M15 := by rw [e16]; exact mOk_UI hOM12 h14
  refine pf_Wo_29 rfl d_Wo_add_37 (by rw [e13, e9, e5]; exact h1) h14 e16 ?_
  refine wm_return d_Wo_add_40 rfl ?_
  exact ⟨rfl, h⟩
theorem d_Wo_afterBlanks_0 : decode y_Wo_afterBlanks.2.1 0 = .ok (.iconst 0, 1) := by decide +kernel
theorem d_Wo_afterBlanks_1 : decode y_Wo_afterBlanks.2.1 1 = .ok (.istore_n 2, 1) := by decide +kernel
theorem d_Wo_afterBlanks_2 : decode y_Wo_afterBlanks.2.1 2 = .ok (.iload_n 1, 1) := by decide +kernel
theorem d_Wo_afterBlanks_3 : decode y_Wo_afterBlanks.2.1 3 = .ok (.istore_n 3, 1) := by decide +kernel
theorem d_Wo_afterBlanks_4 : decode y_Wo_afterBlanks.2.1 4 = .ok (.iload_n 3, 1) := by decide +kernel
theorem d_Wo_afterBlanks_5 : decode y_Wo_afterBlanks.2.1 5 = .ok (.aload_n 0, 1) := by decide +kernel
theorem d_Wo_afterBlanks_6 : decode y_Wo_afterBlanks.2.1 6 = .ok (.getfield 25, 3) := by decide +kernel
theorem d_Wo_afterBlanks_9 : decode y_Wo_afterBlanks.2.1 9 = .ok (.if_icmp .ge 75, 3) := by decide +kernel
theorem d_Wo_afterBlanks_84 : decode y_Wo_afterBlanks.2.1 84 = .ok (.aload_n 0, 1) := by decide +kernel
theorem d_Wo_afterBlanks_85 : decode y_Wo_afterBlanks.2.1 85 = .ok (.getfield 25, 3) := by decide +kernel
theorem d_Wo_afterBlanks_88 : decode y_Wo_afterBlanks.2.1 88 = .ok (.ireturn, 1) := by decide +kernel
theorem d_Wo_afterBlanks_12 : decode y_Wo_afterBlanks.2.1 12 = .ok (.aload_n 0, 1) := by decide +kernel
theorem d_Wo_afterBlanks_13 : decode y_Wo_afterBlanks.2.1 13 = .ok (.getfield 9, 3) := by decide +kernel
theorem d_Wo_afterBlanks_16 : decode y_Wo_afterBlanks.2.1 16 = .ok (.iload_n 3, 1) := by decide +kernel
theorem d_Wo_afterBlanks_17 : decode y_Wo_afterBlanks.2.1 17 = .ok (.caload, 1) := by decide +kernel
theorem d_Wo_afterBlanks_18 : decode y_Wo_afterBlanks.2.1 18 = .ok (.istore 4, 2) := by decide +kernel
theorem d_Wo_afterBlanks_20 : decode y_Wo_afterBlanks.2.1 20 = .ok (.iload 4, 2) := by decide +kernel
theorem d_Wo_afterBlanks_22 : decode y_Wo_afterBlanks.2.1 22 = .ok (.bipush 35, 2) := by decide +kernel
theorem d_Wo_afterBlanks_24 : decode y_Wo_afterBlanks.2.1 24 = .ok (.if_icmp .eq 14, 3) := by decide +kernel
theorem d_Wo_afterBlanks_38 : decode y_Wo_afterBlanks.2.1 38 = .ok (.iconst 1, 1) := by decide +kernel
theorem d_Wo_afterBlanks_39 : decode y_Wo_afterBlanks.2.1 39 = .ok (.goto 4, 3) := by decide +kernel
theorem d_Wo_afterBlanks_27 : decode y_Wo_afterBlanks.2.1 27 = .ok (.iload_n 2, 1) := by decide +kernel
theorem d_Wo_afterBlanks_28 : decode y_Wo_afterBlanks.2.1 28 = .ok (.ifCond .eq 14, 3) := by decide +kernel
theorem d_Wo_afterBlanks_42 : decode y_Wo_afterBlanks.2.1 42 = .ok (.iconst 0, 1) := by decide +kernel
theorem d_Wo_afterBlanks_31 : decode y_Wo_afterBlanks.2.1 31 = .ok (.iload 4, 2) := by decide +kernel
theorem d_Wo_afterBlanks_33 : decode y_Wo_afterBlanks.2.1 33 = .ok (.bipush 10, 2) := by decide +kernel
theorem d_Wo_afterBlanks_35 : decode y_Wo_afterBlanks.2.1 35 = .ok (.if_icmp .eq 7, 3) := by decide +kernel
theorem d_Wo_afterBlanks_43 : decode y_Wo_afterBlanks.2.1 43 = .ok (.istore_n 2, 1) := by decide +kernel
theorem d_Wo_afterBlanks_44 : decode y_Wo_afterBlanks.2.1 44 = .ok (.iload_n 2, 1) := by decide +kernel
theorem d_Wo_afterBlanks_45 : decode y_Wo_afterBlanks.2.1 45 = .ok (.ifCond .ne 33, 3) := by decide +kernel
theorem d_Wo_afterBlanks_48 : decode y_Wo_afterBlanks.2.1 48 = .ok (.iload 4, 2) := by decide +kernel
theorem d_Wo_afterBlanks_50 : decode y_Wo_afterBlanks.2.1 50 = .ok (.bipush 9, 2) := by decide +kernel
theorem d_Wo_afterBlanks_52 : decode y_Wo_afterBlanks.2.1 52 = .ok (.if_icmp .eq 26, 3) := by decide +kernel
theorem d_Wo_afterBlanks_55 : decode y_Wo_afterBlanks.2.1 55 = .ok (.iload 4, 2) := by decide +kernel
theorem d_Wo_afterBlanks_57 : decode y_Wo_afterBlanks.2.1 57 = .ok (.bipush 10, 2) := by decide +kernel
theorem d_Wo_afterBlanks_59 : decode y_Wo_afterBlanks.2.1 59 = .ok (.if_icmp .eq 19, 3) := by decide +kernel
theorem d_Wo_afterBlanks_62 : decode y_Wo_afterBlanks.2.1 62 = .ok (.iload 4, 2) := by decide +kernel
theorem d_Wo_afterBlanks_64 : decode y_Wo_afterBlanks.2.1 64 = .ok (.bipush 13, 2) := by decide +kernel
theorem d_Wo_afterBlanks_66 : decode y_Wo_afterBlanks.2.1 66 = .ok (.if_icmp .eq 12, 3) := by decide +kernel
theorem d_Wo_afterBlanks_69 : decode y_Wo_afterBlanks.2.1 69 = .ok (.iload 4, 2) := by decide +kernel
theorem d_Wo_afterBlanks_71 : decode y_Wo_afterBlanks.2.1 71 = .ok (.bipush 32, 2) := by decide +kernel
theorem d_Wo_afterBlanks_73 : decode y_Wo_afterBlanks.2.1 73 = .ok (.if_icmp .eq 5, 3) := by decide +kernel
theorem d_Wo_afterBlanks_76 : decode y_Wo_afterBlanks.2.1 76 = .ok (.iload_n 3, 1) := by decide +kernel
theorem d_Wo_afterBlanks_77 : decode y_Wo_afterBlanks.2.1 77 = .ok (.ireturn, 1) := by decide +kernel
theorem d_Wo_afterBlanks_78 : decode y_Wo_afterBlanks.2.1 78 = .ok (.iinc 3 1, 3) := by decide +kernel
theorem d_Wo_afterBlanks_81 : decode y_Wo_afterBlanks.2.1 81 = .ok (.goto (-77), 3) := by decide +kernel
def h_Wo_afterBlanks_4 (G : mG) (d : Nat) (a0 : Nat) (l2 : Int) (l3 : Int) (M : mM) (Q : Int → mM → Prop) : Prop := mWm G y_Wo_afterBlanks d 4 [vr a0, vd, vi l2, vi l3, vd] [] M (fun r9 M9 => ∃ x9, r9 = some (vi x9) ∧ Q x9 M9)
theorem k_Wo_afterBlanks {G : mG} {d : Nat} {a0 : Nat} {l1 : Int} {M : mM} {Q : Int → mM → Prop} (hO : mOk M) (hi_l1 : i32 l1)
    (h : h_Wo_afterBlanks_4 G d a0 0 l1 M Q) :
    Ci G y_Wo_afterBlanks d [vr a0, vi l1] M Q := by
  refine wm_open (y := y_Wo_afterBlanks) rfl (Nat.le_of_ble_eq_true rfl) (L := [vr a0, vi l1, vd, vd, vd]) rfl ?_
  refine wm_iconst d_Wo_afterBlanks_0 ?_
  refine wm_istore_n d_Wo_afterBlanks_1 rfl (by decide) (L' := [vr a0, vi l1, vi 0, vd, vd]) rfl ?_
  refine wm_iload_n d_Wo_afterBlanks_2 rfl rfl ?_
  refine wm_istore_n d_Wo_afterBlanks_3 rfl (by decide) (L' := [vr a0, vi l1, vi 0, vi l1, vd]) rfl ?_
  refine wm_less (L' := [vr a0, vd, vi 0, vi l1, vd]) ⟨Or.inr rfl, Or.inl rfl, Or.inr rfl, Or.inr rfl, Or.inl rfl, trivial⟩ ?_
  exact h
theorem k_Wo_afterBlanks_4 {G : mG} {d : Nat} {a0 : Nat} {l2 : Int} {l3 : Int} {M : mM} {Q : Int → mM → Prop} (hO : mOk M) (hi_l2 : i32 l2) (hi_l3 : i32 l3)
    (h : mK M a0 = 2 ∧ ((mI M a0 1 ≤ l3) → (Q (mI M a0 1) M)) ∧ (¬ (mI M a0 1 ≤ l3) → (mK M (mR M a0 0) = 32 ∧ ((0 : Int) ≤ l3 ∧ l3 < (mN M (mR M a0 0) : Int)) ∧ ∀ v11 : Int, v11 = (if ((mI M (mR M a0 0) (Int.toNat l3) = 35) ∨ ((¬ (l2 = 0)) ∧ (¬ (mI M (mR M a0 0) (Int.toNat l3) = 10)))) then 1 else 0) → (((¬ (v11 = 0)) ∨ ((mI M (mR M a0 0) (Int.toNat l3) = 9) ∨ ((mI M (mR M a0 0) (Int.toNat l3) = 10) ∨ ((mI M (mR M a0 0) (Int.toNat l3) = 13) ∨ (mI M (mR M a0 0) (Int.toNat l3) = 32))))) → (h_Wo_afterBlanks_4 G d a0 v11 (l3 + 1) M Q)) ∧ (¬ ((¬ (v11 = 0)) ∨ ((mI M (mR M a0 0) (Int.toNat l3) = 9) ∨ ((mI M (mR M a0 0) (Int.toNat l3) = 10) ∨ ((mI M (mR M a0 0) (Int.toNat l3) = 13) ∨ (mI M (mR M a0 0) (Int.toNat l3) = 32))))) → (Q l3 M))))) :
    h_Wo_afterBlanks_4 G d a0 l2 l3 M Q := by
  unfold h_Wo_afterBlanks_4
  obtain ⟨h1, h⟩ := h
  refine wm_iload_n d_Wo_afterBlanks_4 rfl rfl ?_
  refine wm_aload_n d_Wo_afterBlanks_5 rfl rfl ?_
  refine gf_Wo_25 rfl d_Wo_afterBlanks_6 h1 ?_
  refine wm_icmp_ge (tgt := 84) d_Wo_afterBlanks_9 rfl hi_l3 (hO _ _).1 (fun c5 => ?_) (fun c5 => ?_)
  · replace h := h.1 c5
    refine wm_aload_n d_Wo_afterBlanks_84 rfl rfl ?_
    refine gf_Wo_25 rfl d_Wo_afterBlanks_85 h1 ?_
    refine wm_ireturn d_Wo_afterBlanks_88 rfl rfl ?_
    exact ⟨_, rfl, h⟩
  · replace h := h.2 c5
    obtain ⟨h6, h⟩ := h
    obtain ⟨h7, h⟩ := h
    refine wm_aload_n d_Wo_afterBlanks_12 rfl rfl ?_
    refine gf_Wo_9 rfl d_Wo_afterBlanks_13 h1 ?_
    refine wm_iload_n d_Wo_afterBlanks_16 rfl rfl ?_
    refine wm_cald d_Wo_afterBlanks_17 h6 h7 ?_
    refine wm_istore d_Wo_afterBlanks_18 (by decide) (L' := [vr a0, vd, vi l2, vi l3, vi (mI M (mR M a0 0) (Int.toNat l3))]) rfl ?_
    refine wm_iload d_Wo_afterBlanks_20 rfl ?_
    refine wm_bipush d_Wo_afterBlanks_22 (by decide) ?_
    have hJ : ∀ v11 : Int, v11 = (if ((mI M (mR M a0 0) (Int.toNat l3) = 35) ∨ ((¬ (l2 = 0)) ∧ (¬ (mI M (mR M a0 0) (Int.toNat l3) = 10)))) then 1 else 0) → mWm G y_Wo_afterBlanks d 43 [vr a0, vd, vd, vi l3, vi (mI M (mR M a0 0) (Int.toNat l3))] [vi v11] M (fun r9 M9 => ∃ x9, r9 = some (vi x9) ∧ Q x9 M9) := by
      intro v11 e13
      have h := h v11 e13
      have h14 : i32 v11 := by rw [e13]; (repeat' split) <;> first | exact ⟨by decide, by decide⟩ | exact ⟨by decide, by decide⟩
      have h15 : (v11 = 0 ∨ v11 = 1) := by rw [e13]; (repeat' split) <;> decide
      refine wm_istore_n d_Wo_afterBlanks_43 rfl (by decide) (L' := [vr a0, vd, vi v11, vi l3, vi (mI M (mR M a0 0) (Int.toNat l3))]) rfl ?_
      refine wm_iload_n d_Wo_afterBlanks_44 rfl rfl ?_
      have hE0 : ((¬ (v11 = 0)) ∨ ((mI M (mR M a0 0) (Int.toNat l3) = 9) ∨ ((mI M (mR M a0 0) (Int.toNat l3) = 10) ∨ ((mI M (mR M a0 0) (Int.toNat l3) = 13) ∨ (mI M (mR M a0 0) (Int.toNat l3) = 32))))) → mWm G y_Wo_afterBlanks d 78 [vr a0, vd, vi v11, vi l3, vi (mI M (mR M a0 0) (Int.toNat l3))] [] M (fun r9 M9 => ∃ x9, r9 = some (vi x9) ∧ Q x9 M9) := by
        intro q22
        have h := h.1 q22
        refine wm_iinc d_Wo_afterBlanks_78 (by decide) rfl (L' := [vr a0, vd, vi v11, vi (l3 + 1), vi (mI M (mR M a0 0) (Int.toNat l3))]) rfl ?_
        refine wm_goto (tgt := 4) d_Wo_afterBlanks_81 rfl ?_
        refine wm_less (L' := [vr a0, vd, vi v11, vi (l3 + 1), vd]) ⟨Or.inr rfl, Or.inl rfl, Or.inr rfl, Or.inr rfl, Or.inl rfl, trivial⟩ ?_
        exact h
      have hE1 : ¬ ((¬ (v11 = 0)) ∨ ((mI M (mR M a0 0) (Int.toNat l3) = 9) ∨ ((mI M (mR M a0 0) (Int.toNat l3) = 10) ∨ ((mI M (mR M a0 0) (Int.toNat l3) = 13) ∨ (mI M (mR M a0 0) (Int.toNat l3) = 32))))) → mWm G y_Wo_afterBlanks d 76 [vr a0, vd, vi v11, vi l3, vi (mI M (mR M a0 0) (Int.toNat l3))] [] M (fun r9 M9 => ∃ x9, r9 = some (vi x9) ∧ Q x9 M9) := by
        intro q23
        have h := h.2 q23
        refine wm_iload_n d_Wo_afterBlanks_76 rfl rfl ?_
        refine wm_ireturn d_Wo_afterBlanks_77 rfl rfl ?_
        exact ⟨_, rfl, h⟩
      clear h
      refine wm_if_ne (tgt := 78) d_Wo_afterBlanks_45 rfl h14 (fun c20 => ?_) (fun c20 => ?_)
      · exact hE0 (Or.inl c20)
      · replace c20 := Classical.not_not.mp c20
        refine wm_iload d_Wo_afterBlanks_48 rfl ?_
        refine wm_bipush d_Wo_afterBlanks_50 (by decide) ?_
        refine wm_icmp_eq (tgt := 78) d_Wo_afterBlanks_52 rfl (hO _ _).1 ⟨by decide, by decide⟩ (fun c19 => ?_) (fun c19 => ?_)
        · exact hE0 (Or.inr (Or.inl c19))
        · refine wm_iload d_Wo_afterBlanks_55 rfl ?_
          refine wm_bipush d_Wo_afterBlanks_57 (by decide) ?_
          refine wm_icmp_eq (tgt := 78) d_Wo_afterBlanks_59 rfl (hO _ _).1 ⟨by decide, by decide⟩ (fun c18 => ?_) (fun c18 => ?_)
          · exact hE0 (Or.inr (Or.inr (Or.inl c18)))
          · refine wm_iload d_Wo_afterBlanks_62 rfl ?_
            refine wm_bipush d_Wo_afterBlanks_64 (by decide) ?_
            refine wm_icmp_eq (tgt := 78) d_Wo_afterBlanks_66 rfl (hO _ _).1 ⟨by decide, by decide⟩ (fun c17 => ?_) (fun c17 => ?_)
            · exact hE0 (Or.inr (Or.inr (Or.inr (Or.inl c17))))
            · refine wm_iload d_Wo_afterBlanks_69 rfl ?_
              refine wm_bipush d_Wo_afterBlanks_71 (by decide) ?_
              refine wm_icmp_eq (tgt := 78) d_Wo_afterBlanks_73 rfl (hO _ _).1 ⟨by decide, by decide⟩ (fun c16 => ?_) (fun c16 => ?_)
              · exact hE0 (Or.inr (Or.inr (Or.inr (Or.inr c16))))
              · exact hE1 (fun z24 => Or.elim z24 (fun w => w c20) (fun z25 => Or.elim z25 c19 (fun z26 => Or.elim z26 c18 (fun z27 => Or.elim z27 c17 c16))))
    clear h
    refine wm_icmp_eq (tgt := 38) d_Wo_afterBlanks_24 rfl (hO _ _).1 ⟨by decide, by decide⟩ (fun c8 => ?_) (fun c8 => ?_)
    · refine wm_iconst d_Wo_afterBlanks_38 ?_
      refine wm_goto (tgt := 43) d_Wo_afterBlanks_39 rfl ?_
      refine wm_less (L' := [vr a0, vd, vd, vi l3, vi (mI M (mR M a0 0) (Int.toNat l3))]) ⟨Or.inr rfl, Or.inl rfl, Or.inl rfl, Or.inr rfl, Or.inr rfl, trivial⟩ ?_
      exact hJ 1 (if_pos (Or.inl c8)).symm
    · refine wm_iload_n d_Wo_afterBlanks_27 rfl rfl ?_
      refine wm_if_eq (tgt := 42) d_Wo_afterBlanks_28 rfl hi_l2 (fun c9 => ?_) (fun c9 => ?_)
      · refine wm_iconst d_Wo_afterBlanks_42 ?_
        refine wm_less (L' := [vr a0, vd, vd, vi l3, vi (mI M (mR M a0 0) (Int.toNat l3))]) ⟨Or.inr rfl, Or.inl rfl, Or.inl rfl, Or.inr rfl, Or.inr rfl, trivial⟩ ?_
        exact hJ 0 (if_neg (fun z29 => Or.elim z29 c8 (fun z30 => z30.1 c9))).symm
      · refine wm_iload d_Wo_afterBlanks_31 rfl ?_
        refine wm_bipush d_Wo_afterBlanks_33 (by decide) ?_
        refine wm_icmp_eq (tgt := 42) d_Wo_afterBlanks_35 rfl (hO _ _).1 ⟨by decide, by decide⟩ (fun c10 => ?_) (fun c10 => ?_)
        · refine wm_iconst d_Wo_afterBlanks_42 ?_
          refine wm_less (L' := [vr a0, vd, vd, vi l3, vi (mI M (mR M a0 0) (Int.toNat l3))]) ⟨Or.inr rfl, Or.inl rfl, Or.inl rfl, Or.inr rfl, Or.inr rfl, trivial⟩ ?_
          exact hJ 0 (if_neg (fun z31 => Or.elim z31 c8 (fun z32 => (fun z33 => z33 c10) z32.2))).symm
        · refine wm_iconst d_Wo_afterBlanks_38 ?_
          refine wm_goto (tgt := 43) d_Wo_afterBlanks_39 rfl ?_
          refine wm_less (L' := [vr a0, vd, vd, vi l3, vi (mI M (mR M a0 0) (Int.toNat l3))]) ⟨Or.inr rfl, Or.inl rfl, Or.inl rfl, Or.inr rfl, Or.inr rfl, trivial⟩ ?_
          exact hJ 1 (if_pos (Or.inr ⟨c9, c10⟩)).symm
