theorem d_TR_settleVar_0 : decode y_TR_settleVar.2.1 0 = .ok (.iconst 0, 1) := dc9_3 (by decide +kernel)
theorem d_TR_settleVar_1 : decode y_TR_settleVar.2.1 1 = .ok (.istore_n 1, 1) := dc9_60 (by decide +kernel)
theorem d_TR_settleVar_2 : decode y_TR_settleVar.2.1 2 = .ok (.iconst 1, 1) := dc9_4 (by decide +kernel)
theorem d_TR_settleVar_3 : decode y_TR_settleVar.2.1 3 = .ok (.istore_n 2, 1) := dc9_61 (by decide +kernel)
theorem d_TR_settleVar_4 : decode y_TR_settleVar.2.1 4 = .ok (.aload_n 0, 1) := dc9_42 (by decide +kernel)
theorem d_TR_settleVar_5 : decode y_TR_settleVar.2.1 5 = .ok (.getfield 12, 3) := dc9_180 (by decide +kernel)
theorem d_TR_settleVar_8 : decode y_TR_settleVar.2.1 8 = .ok (.getfield 76, 3) := dc9_180 (by decide +kernel)
theorem d_TR_settleVar_11 : decode y_TR_settleVar.2.1 11 = .ok (.ifCond .ne 95, 3) := dc9_154 (by decide +kernel)
theorem d_TR_settleVar_14 : decode y_TR_settleVar.2.1 14 = .ok (.aload_n 0, 1) := dc9_42 (by decide +kernel)
theorem d_TR_settleVar_15 : decode y_TR_settleVar.2.1 15 = .ok (.getfield 143, 3) := dc9_180 (by decide +kernel)
theorem d_TR_settleVar_18 : decode y_TR_settleVar.2.1 18 = .ok (.ifCond .ne 88, 3) := dc9_154 (by decide +kernel)
theorem d_TR_settleVar_21 : decode y_TR_settleVar.2.1 21 = .ok (.aload_n 0, 1) := dc9_42 (by decide +kernel)
theorem d_TR_settleVar_22 : decode y_TR_settleVar.2.1 22 = .ok (.iconst 0, 1) := dc9_3 (by decide +kernel)
theorem d_TR_settleVar_23 : decode y_TR_settleVar.2.1 23 = .ok (.iconst 1, 1) := dc9_4 (by decide +kernel)
theorem d_TR_settleVar_24 : decode y_TR_settleVar.2.1 24 = .ok (.invokevirtual 146, 3) := dc9_182 (by decide +kernel)
theorem d_TR_settleVar_27 : decode y_TR_settleVar.2.1 27 = .ok (.ifCond .eq 15, 3) := dc9_153 (by decide +kernel)
theorem d_TR_settleVar_42 : decode y_TR_settleVar.2.1 42 = .ok (.iconst 0, 1) := dc9_3 (by decide +kernel)
theorem d_TR_settleVar_30 : decode y_TR_settleVar.2.1 30 = .ok (.aload_n 0, 1) := dc9_42 (by decide +kernel)
theorem d_TR_settleVar_31 : decode y_TR_settleVar.2.1 31 = .ok (.getfield 21, 3) := dc9_180 (by decide +kernel)
theorem d_TR_settleVar_34 : decode y_TR_settleVar.2.1 34 = .ok (.getfield 155, 3) := dc9_180 (by decide +kernel)
theorem d_TR_settleVar_37 : decode y_TR_settleVar.2.1 37 = .ok (.iconst 0, 1) := dc9_3 (by decide +kernel)
theorem d_TR_settleVar_38 : decode y_TR_settleVar.2.1 38 = .ok (.iaload, 1) := dc9_46 (by decide +kernel)
theorem d_TR_settleVar_39 : decode y_TR_settleVar.2.1 39 = .ok (.goto 4, 3) := dc9_167 (by decide +kernel)
theorem d_TR_settleVar_43 : decode y_TR_settleVar.2.1 43 = .ok (.istore_n 1, 1) := dc9_60 (by decide +kernel)
theorem d_TR_settleVar_44 : decode y_TR_settleVar.2.1 44 = .ok (.aload_n 0, 1) := dc9_42 (by decide +kernel)
theorem d_TR_settleVar_45 : decode y_TR_settleVar.2.1 45 = .ok (.getfield 12, 3) := dc9_180 (by decide +kernel)
theorem d_TR_settleVar_48 : decode y_TR_settleVar.2.1 48 = .ok (.getfield 76, 3) := dc9_180 (by decide +kernel)
theorem d_TR_settleVar_51 : decode y_TR_settleVar.2.1 51 = .ok (.ifCond .ne 24, 3) := dc9_154 (by decide +kernel)
theorem d_TR_settleVar_54 : decode y_TR_settleVar.2.1 54 = .ok (.aload_n 0, 1) := dc9_42 (by decide +kernel)
theorem d_TR_settleVar_55 : decode y_TR_settleVar.2.1 55 = .ok (.iconst 1, 1) := dc9_4 (by decide +kernel)
theorem d_TR_settleVar_56 : decode y_TR_settleVar.2.1 56 = .ok (.iconst 1, 1) := dc9_4 (by decide +kernel)
theorem d_TR_settleVar_57 : decode y_TR_settleVar.2.1 57 = .ok (.invokevirtual 146, 3) := dc9_182 (by decide +kernel)
theorem d_TR_settleVar_60 : decode y_TR_settleVar.2.1 60 = .ok (.ifCond .eq 15, 3) := dc9_153 (by decide +kernel)
theorem d_TR_settleVar_63 : decode y_TR_settleVar.2.1 63 = .ok (.aload_n 0, 1) := dc9_42 (by decide +kernel)
theorem d_TR_settleVar_64 : decode y_TR_settleVar.2.1 64 = .ok (.getfield 21, 3) := dc9_180 (by decide +kernel)
theorem d_TR_settleVar_67 : decode y_TR_settleVar.2.1 67 = .ok (.getfield 155, 3) := dc9_180 (by decide +kernel)
theorem d_TR_settleVar_70 : decode y_TR_settleVar.2.1 70 = .ok (.iconst 0, 1) := dc9_3 (by decide +kernel)
theorem d_TR_settleVar_71 : decode y_TR_settleVar.2.1 71 = .ok (.iaload, 1) := dc9_46 (by decide +kernel)
theorem d_TR_settleVar_72 : decode y_TR_settleVar.2.1 72 = .ok (.goto 4, 3) := dc9_167 (by decide +kernel)
theorem d_TR_settleVar_75 : decode y_TR_settleVar.2.1 75 = .ok (.iload_n 1, 1) := dc9_27 (by decide +kernel)
theorem d_TR_settleVar_76 : decode y_TR_settleVar.2.1 76 = .ok (.istore_n 2, 1) := dc9_61 (by decide +kernel)
theorem d_TR_settleVar_77 : decode y_TR_settleVar.2.1 77 = .ok (.iload_n 2, 1) := dc9_28 (by decide +kernel)
theorem d_TR_settleVar_78 : decode y_TR_settleVar.2.1 78 = .ok (.iload_n 1, 1) := dc9_27 (by decide +kernel)
theorem d_TR_settleVar_79 : decode y_TR_settleVar.2.1 79 = .ok (.if_icmp .lt 12, 3) := dc9_161 (by decide +kernel)
theorem d_TR_settleVar_82 : decode y_TR_settleVar.2.1 82 = .ok (.iload_n 2, 1) := dc9_28 (by decide +kernel)
theorem d_TR_settleVar_83 : decode y_TR_settleVar.2.1 83 = .ok (.iload_n 1, 1) := dc9_27 (by decide +kernel)
theorem d_TR_settleVar_84 : decode y_TR_settleVar.2.1 84 = .ok (.isub, 1) := dc9_100 (by decide +kernel)
theorem d_TR_settleVar_85 : decode y_TR_settleVar.2.1 85 = .ok (.sipush 10000, 3) := dc9_17 (by decide +kernel)
theorem d_TR_settleVar_88 : decode y_TR_settleVar.2.1 88 = .ok (.if_icmp .lt 18, 3) := dc9_161 (by decide +kernel)
theorem d_TR_settleVar_91 : decode y_TR_settleVar.2.1 91 = .ok (.aload_n 0, 1) := dc9_42 (by decide +kernel)
theorem d_TR_settleVar_92 : decode y_TR_settleVar.2.1 92 = .ok (.getfield 12, 3) := dc9_180 (by decide +kernel)
theorem d_TR_settleVar_95 : decode y_TR_settleVar.2.1 95 = .ok (.bipush 9, 2) := dc9_16 (by decide +kernel)
theorem d_TR_settleVar_97 : decode y_TR_settleVar.2.1 97 = .ok (.aload_n 0, 1) := dc9_42 (by decide +kernel)
theorem d_TR_settleVar_98 : decode y_TR_settleVar.2.1 98 = .ok (.getfield 29, 3) := dc9_180 (by decide +kernel)
theorem d_TR_settleVar_101 : decode y_TR_settleVar.2.1 101 = .ok (.iconst 1, 1) := dc9_4 (by decide +kernel)
theorem d_TR_settleVar_102 : decode y_TR_settleVar.2.1 102 = .ok (.iaload, 1) := dc9_46 (by decide +kernel)
theorem d_TR_settleVar_103 : decode y_TR_settleVar.2.1 103 = .ok (.invokevirtual 95, 3) := dc9_182 (by decide +kernel)
theorem d_TR_settleVar_106 : decode y_TR_settleVar.2.1 106 = .ok (.aload_n 0, 1) := dc9_42 (by decide +kernel)
theorem d_TR_settleVar_107 : decode y_TR_settleVar.2.1 107 = .ok (.getfield 12, 3) := dc9_180 (by decide +kernel)
theorem d_TR_settleVar_110 : decode y_TR_settleVar.2.1 110 = .ok (.getfield 76, 3) := dc9_180 (by decide +kernel)
theorem d_TR_settleVar_113 : decode y_TR_settleVar.2.1 113 = .ok (.ifCond .ne 31, 3) := dc9_154 (by decide +kernel)
theorem d_TR_settleVar_116 : decode y_TR_settleVar.2.1 116 = .ok (.aload_n 0, 1) := dc9_42 (by decide +kernel)
theorem d_TR_settleVar_117 : decode y_TR_settleVar.2.1 117 = .ok (.getfield 175, 3) := dc9_180 (by decide +kernel)
theorem d_TR_settleVar_120 : decode y_TR_settleVar.2.1 120 = .ok (.ifCond .eq 24, 3) := dc9_153 (by decide +kernel)
theorem d_TR_settleVar_144 : decode y_TR_settleVar.2.1 144 = .ok (.iload_n 1, 1) := dc9_27 (by decide +kernel)
theorem d_TR_settleVar_123 : decode y_TR_settleVar.2.1 123 = .ok (.aload_n 0, 1) := dc9_42 (by decide +kernel)
theorem d_TR_settleVar_124 : decode y_TR_settleVar.2.1 124 = .ok (.iconst 2, 1) := dc9_5 (by decide +kernel)
theorem d_TR_settleVar_125 : decode y_TR_settleVar.2.1 125 = .ok (.iconst 1, 1) := dc9_4 (by decide +kernel)
theorem d_TR_settleVar_145 : decode y_TR_settleVar.2.1 145 = .ok (.istore_n 3, 1) := dc9_62 (by decide +kernel)
theorem d_TR_settleVar_146 : decode y_TR_settleVar.2.1 146 = .ok (.iload_n 3, 1) := dc9_29 (by decide +kernel)
theorem d_TR_settleVar_147 : decode y_TR_settleVar.2.1 147 = .ok (.iload_n 1, 1) := dc9_27 (by decide +kernel)
theorem d_TR_settleVar_148 : decode y_TR_settleVar.2.1 148 = .ok (.if_icmp .lt 8, 3) := dc9_161 (by decide +kernel)
theorem d_TR_settleVar_151 : decode y_TR_settleVar.2.1 151 = .ok (.iload_n 3, 1) := dc9_29 (by decide +kernel)
theorem d_TR_settleVar_152 : decode y_TR_settleVar.2.1 152 = .ok (.iload_n 2, 1) := dc9_28 (by decide +kernel)
theorem d_TR_settleVar_153 : decode y_TR_settleVar.2.1 153 = .ok (.if_icmp .le 18, 3) := dc9_164 (by decide +kernel)
theorem d_TR_settleVar_156 : decode y_TR_settleVar.2.1 156 = .ok (.aload_n 0, 1) := dc9_42 (by decide +kernel)
theorem d_TR_settleVar_157 : decode y_TR_settleVar.2.1 157 = .ok (.getfield 12, 3) := dc9_180 (by decide +kernel)
theorem d_TR_settleVar_160 : decode y_TR_settleVar.2.1 160 = .ok (.bipush 9, 2) := dc9_16 (by decide +kernel)
theorem d_TR_settleVar_162 : decode y_TR_settleVar.2.1 162 = .ok (.aload_n 0, 1) := dc9_42 (by decide +kernel)
theorem d_TR_settleVar_163 : decode y_TR_settleVar.2.1 163 = .ok (.getfield 29, 3) := dc9_180 (by decide +kernel)
theorem d_TR_settleVar_166 : decode y_TR_settleVar.2.1 166 = .ok (.iconst 2, 1) := dc9_5 (by decide +kernel)
theorem d_TR_settleVar_167 : decode y_TR_settleVar.2.1 167 = .ok (.iaload, 1) := dc9_46 (by decide +kernel)
theorem d_TR_settleVar_168 : decode y_TR_settleVar.2.1 168 = .ok (.invokevirtual 95, 3) := dc9_182 (by decide +kernel)
theorem d_TR_settleVar_126 : decode y_TR_settleVar.2.1 126 = .ok (.invokevirtual 146, 3) := dc9_182 (by decide +kernel)
theorem d_TR_settleVar_129 : decode y_TR_settleVar.2.1 129 = .ok (.ifCond .eq 15, 3) := dc9_153 (by decide +kernel)
theorem d_TR_settleVar_132 : decode y_TR_settleVar.2.1 132 = .ok (.aload_n 0, 1) := dc9_42 (by decide +kernel)
theorem d_TR_settleVar_133 : decode y_TR_settleVar.2.1 133 = .ok (.getfield 21, 3) := dc9_180 (by decide +kernel)
theorem d_TR_settleVar_136 : decode y_TR_settleVar.2.1 136 = .ok (.getfield 155, 3) := dc9_180 (by decide +kernel)
theorem d_TR_settleVar_139 : decode y_TR_settleVar.2.1 139 = .ok (.iconst 0, 1) := dc9_3 (by decide +kernel)
theorem d_TR_settleVar_140 : decode y_TR_settleVar.2.1 140 = .ok (.iaload, 1) := dc9_46 (by decide +kernel)
theorem d_TR_settleVar_141 : decode y_TR_settleVar.2.1 141 = .ok (.goto 4, 3) := dc9_167 (by decide +kernel)
theorem d_TR_settleVar_171 : decode y_TR_settleVar.2.1 171 = .ok (.aload_n 0, 1) := dc9_42 (by decide +kernel)
theorem d_TR_settleVar_172 : decode y_TR_settleVar.2.1 172 = .ok (.getfield 12, 3) := dc9_180 (by decide +kernel)
theorem d_TR_settleVar_175 : decode y_TR_settleVar.2.1 175 = .ok (.getfield 76, 3) := dc9_180 (by decide +kernel)
theorem d_TR_settleVar_178 : decode y_TR_settleVar.2.1 178 = .ok (.ifCond .ne 98, 3) := dc9_154 (by decide +kernel)
theorem d_TR_settleVar_181 : decode y_TR_settleVar.2.1 181 = .ok (.aload_n 0, 1) := dc9_42 (by decide +kernel)
theorem d_TR_settleVar_182 : decode y_TR_settleVar.2.1 182 = .ok (.getfield 36, 3) := dc9_180 (by decide +kernel)
theorem d_TR_settleVar_185 : decode y_TR_settleVar.2.1 185 = .ok (.getfield 178, 3) := dc9_180 (by decide +kernel)
theorem d_TR_settleVar_188 : decode y_TR_settleVar.2.1 188 = .ok (.aload_n 0, 1) := dc9_42 (by decide +kernel)
theorem d_TR_settleVar_189 : decode y_TR_settleVar.2.1 189 = .ok (.getfield 36, 3) := dc9_180 (by decide +kernel)
theorem d_TR_settleVar_192 : decode y_TR_settleVar.2.1 192 = .ok (.getfield 172, 3) := dc9_180 (by decide +kernel)
theorem d_TR_settleVar_195 : decode y_TR_settleVar.2.1 195 = .ok (.iload_n 1, 1) := dc9_27 (by decide +kernel)
theorem d_TR_settleVar_196 : decode y_TR_settleVar.2.1 196 = .ok (.iastore, 1) := dc9_79 (by decide +kernel)
theorem d_TR_settleVar_197 : decode y_TR_settleVar.2.1 197 = .ok (.aload_n 0, 1) := dc9_42 (by decide +kernel)
theorem d_TR_settleVar_198 : decode y_TR_settleVar.2.1 198 = .ok (.getfield 36, 3) := dc9_180 (by decide +kernel)
theorem d_TR_settleVar_201 : decode y_TR_settleVar.2.1 201 = .ok (.getfield 181, 3) := dc9_180 (by decide +kernel)
theorem d_TR_settleVar_204 : decode y_TR_settleVar.2.1 204 = .ok (.aload_n 0, 1) := dc9_42 (by decide +kernel)
theorem d_TR_settleVar_205 : decode y_TR_settleVar.2.1 205 = .ok (.getfield 36, 3) := dc9_180 (by decide +kernel)
theorem d_TR_settleVar_208 : decode y_TR_settleVar.2.1 208 = .ok (.getfield 172, 3) := dc9_180 (by decide +kernel)
theorem d_TR_settleVar_211 : decode y_TR_settleVar.2.1 211 = .ok (.iload_n 2, 1) := dc9_28 (by decide +kernel)
theorem d_TR_settleVar_212 : decode y_TR_settleVar.2.1 212 = .ok (.iastore, 1) := dc9_79 (by decide +kernel)
theorem d_TR_settleVar_213 : decode y_TR_settleVar.2.1 213 = .ok (.aload_n 0, 1) := dc9_42 (by decide +kernel)
theorem d_TR_settleVar_214 : decode y_TR_settleVar.2.1 214 = .ok (.getfield 36, 3) := dc9_180 (by decide +kernel)
theorem d_TR_settleVar_217 : decode y_TR_settleVar.2.1 217 = .ok (.getfield 184, 3) := dc9_180 (by decide +kernel)
theorem d_TR_settleVar_220 : decode y_TR_settleVar.2.1 220 = .ok (.aload_n 0, 1) := dc9_42 (by decide +kernel)
theorem d_TR_settleVar_221 : decode y_TR_settleVar.2.1 221 = .ok (.getfield 36, 3) := dc9_180 (by decide +kernel)
theorem d_TR_settleVar_224 : decode y_TR_settleVar.2.1 224 = .ok (.getfield 172, 3) := dc9_180 (by decide +kernel)
theorem d_TR_settleVar_227 : decode y_TR_settleVar.2.1 227 = .ok (.iload_n 3, 1) := dc9_29 (by decide +kernel)
theorem d_TR_settleVar_228 : decode y_TR_settleVar.2.1 228 = .ok (.iastore, 1) := dc9_79 (by decide +kernel)
theorem d_TR_settleVar_229 : decode y_TR_settleVar.2.1 229 = .ok (.aload_n 0, 1) := dc9_42 (by decide +kernel)
theorem d_TR_settleVar_230 : decode y_TR_settleVar.2.1 230 = .ok (.getfield 12, 3) := dc9_180 (by decide +kernel)
theorem d_TR_settleVar_233 : decode y_TR_settleVar.2.1 233 = .ok (.aload_n 0, 1) := dc9_42 (by decide +kernel)
theorem d_TR_settleVar_234 : decode y_TR_settleVar.2.1 234 = .ok (.getfield 99, 3) := dc9_180 (by decide +kernel)
theorem d_TR_settleVar_237 : decode y_TR_settleVar.2.1 237 = .ok (.iconst 5, 1) := dc9_8 (by decide +kernel)
theorem d_TR_settleVar_238 : decode y_TR_settleVar.2.1 238 = .ok (.aload_n 0, 1) := dc9_42 (by decide +kernel)
theorem d_TR_settleVar_239 : decode y_TR_settleVar.2.1 239 = .ok (.getfield 36, 3) := dc9_180 (by decide +kernel)
theorem d_TR_settleVar_242 : decode y_TR_settleVar.2.1 242 = .ok (.getfield 172, 3) := dc9_180 (by decide +kernel)
theorem d_TR_settleVar_245 : decode y_TR_settleVar.2.1 245 = .ok (.aload_n 0, 1) := dc9_42 (by decide +kernel)
theorem d_TR_settleVar_246 : decode y_TR_settleVar.2.1 246 = .ok (.getfield 143, 3) := dc9_180 (by decide +kernel)
theorem d_TR_settleVar_249 : decode y_TR_settleVar.2.1 249 = .ok (.invokevirtual 160, 3) := dc9_182 (by decide +kernel)
theorem d_TR_settleVar_252 : decode y_TR_settleVar.2.1 252 = .ok (.aload_n 0, 1) := dc9_42 (by decide +kernel)
theorem d_TR_settleVar_253 : decode y_TR_settleVar.2.1 253 = .ok (.getfield 36, 3) := dc9_180 (by decide +kernel)
theorem d_TR_settleVar_256 : decode y_TR_settleVar.2.1 256 = .ok (.dup, 1) := dc9_89 (by decide +kernel)
theorem d_TR_settleVar_257 : decode y_TR_settleVar.2.1 257 = .ok (.getfield 172, 3) := dc9_180 (by decide +kernel)
theorem d_TR_settleVar_260 : decode y_TR_settleVar.2.1 260 = .ok (.iconst 1, 1) := dc9_4 (by decide +kernel)
theorem d_TR_settleVar_261 : decode y_TR_settleVar.2.1 261 = .ok (.iadd, 1) := dc9_96 (by decide +kernel)
theorem d_TR_settleVar_262 : decode y_TR_settleVar.2.1 262 = .ok (.putfield 172, 3) := dc9_181 (by decide +kernel)
theorem d_TR_settleVar_265 : decode y_TR_settleVar.2.1 265 = .ok (.aload_n 0, 1) := dc9_42 (by decide +kernel)
theorem d_TR_settleVar_266 : decode y_TR_settleVar.2.1 266 = .ok (.getfield 36, 3) := dc9_180 (by decide +kernel)
theorem d_TR_settleVar_269 : decode y_TR_settleVar.2.1 269 = .ok (.aload_n 0, 1) := dc9_42 (by decide +kernel)
theorem d_TR_settleVar_270 : decode y_TR_settleVar.2.1 270 = .ok (.getfield 169, 3) := dc9_180 (by decide +kernel)
theorem d_TR_settleVar_273 : decode y_TR_settleVar.2.1 273 = .ok (.putfield 116, 3) := dc9_181 (by decide +kernel)
theorem d_TR_settleVar_276 : decode y_TR_settleVar.2.1 276 = .ok (.return_, 1) := dc9_177 (by decide +kernel)
def h_TR_settleVar_76 (G : mG) (d : Nat) (a0 : Nat) (l1 : Int) (k0 : Int) (M : mM) (Q : mM → Prop) : Prop := mWm G y_TR_settleVar (d + 1) 76 [vr a0, vi l1, vd, vd] [vi k0] M (fun r9 M9 => r9 = none ∧ Q M9)
def h_TR_settleVar_106 (G : mG) (d : Nat) (a0 : Nat) (l1 : Int) (l2 : Int) (M : mM) (Q : mM → Prop) : Prop := mWm G y_TR_settleVar (d + 1) 106 [vr a0, vi l1, vi l2, vd] [] M (fun r9 M9 => r9 = none ∧ Q M9)
def h_TR_settleVar_171 (G : mG) (d : Nat) (a0 : Nat) (l1 : Int) (l2 : Int) (l3 : Int) (M : mM) (Q : mM → Prop) : Prop := mWm G y_TR_settleVar (d + 1) 171 [vr a0, vi l1, vi l2, vi l3] [] M (fun r9 M9 => r9 = none ∧ Q M9)
theorem k_TR_settleVar {G : mG} {d : Nat} {a0 : Nat} {M : mM} {Q : mM → Prop} (hO : mOk M)
    (h : mK M a0 = 3 ∧ mK M (mR M a0 0) = 4 ∧ (((mI M (mR M a0 0) 3 = 0) ∧ (mI M a0 8 = 0)) → (Ci G y_TR_worksOut d [vr a0, vi 0, vi 1] M (fun x8 M7 => i32 x8 ∧ mOk M7 ∧ ((¬ (x8 = 0) → (mK M7 a0 = 3 ∧ mK M7 (mR M7 a0 1) = 5 ∧ mK M7 (mR M7 (mR M7 a0 1) 6) = 30 ∧ ((0 : Int) ≤ 0 ∧ 0 < (mN M7 (mR M7 (mR M7 a0 1) 6) : Int)))) ∧ ∀ v15 : Int, v15 = (if (x8 = 0) then 0 else mI M7 (mR M7 (mR M7 a0 1) 6) 0) → mK M7 a0 = 3 ∧ mK M7 (mR M7 a0 0) = 4 ∧ ((mI M7 (mR M7 a0 0) 3 = 0) → (Ci G y_TR_worksOut d [vr a0, vi 1, vi 1] M7 (fun x23 M22 => i32 x23 ∧ mOk M22 ∧ (((x23 = 0) → (h_TR_settleVar_76 G d a0 v15 v15 M22 Q)) ∧ (¬ (x23 = 0) → (mK M22 a0 = 3 ∧ mK M22 (mR M22 a0 1) = 5 ∧ mK M22 (mR M22 (mR M22 a0 1) 6) = 30 ∧ ((0 : Int) ≤ 0 ∧ 0 < (mN M22 (mR M22 (mR M22 a0 1) 6) : Int)) ∧ h_TR_settleVar_76 G d a0 v15 (mI M22 (mR M22 (mR M22 a0 1) 6) 0) M22 Q)))))) ∧ (¬ (mI M7 (mR M7 a0 0) 3 = 0) → (h_TR_settleVar_76 G d a0 v15 v15 M7 Q)))))) ∧ (¬ ((mI M (mR M a0 0) 3 = 0) ∧ (mI M a0 8 = 0)) → (h_TR_settleVar_106 G d a0 0 1 M Q))) :
    Cv G y_TR_settleVar (d + 1) [vr a0] M Q := by
  refine wm_open (y := y_TR_settleVar) rfl (Nat.le_of_ble_eq_true rfl) (L := [vr a0, vd, vd, vd]) rfl ?_
  obtain ⟨h1, h⟩ := h
  obtain ⟨h2, h⟩ := h
  refine wm_iconst d_TR_settleVar_0 ?_
  refine wm_istore_n d_TR_settleVar_1 rfl (by decide) (L' := [vr a0, vi 0, vd, vd]) rfl ?_
  refine wm_iconst d_TR_settleVar_2 ?_
  refine wm_istore_n d_TR_settleVar_3 rfl (by decide) (L' := [vr a0, vi 0, vi 1, vd]) rfl ?_
  refine wm_aload_n d_TR_settleVar_4 rfl rfl ?_
  refine gf_TR_12 rfl d_TR_settleVar_5 h1 ?_
  refine gf_TR_76 rfl d_TR_settleVar_8 h2 ?_
  have hE0 : ((mI M (mR M a0 0) 3 = 0) ∧ (mI M a0 8 = 0)) → mWm G y_TR_settleVar (d + 1) 21 [vr a0, vi 0, vi 1, vd] [] M (fun r9 M9 => r9 = none ∧ Q M9) := by
    intro q6
    have h := h.1 q6
    refine wm_aload_n d_TR_settleVar_21 rfl rfl ?_
    refine wm_iconst d_TR_settleVar_22 ?_
    refine wm_iconst d_TR_settleVar_23 ?_
    refine cf_TR_146 rfl d_TR_settleVar_24 h1 (Nat.le_of_ble_eq_true rfl) (Ci.mono h (fun x8 M7 h => ?_))
    obtain ⟨h9, hOM7, h⟩ := h
    obtain ⟨s16, h⟩ := h
    have hJ : ∀ v15 : Int, v15 = (if (x8 = 0) then 0 else mI M7 (mR M7 (mR M7 a0 1) 6) 0) → mWm G y_TR_settleVar (d + 1) 43 [vr a0, vd, vd, vd] [vi v15] M7 (fun r9 M9 => r9 = none ∧ Q M9) := by
      intro v15 e17
      have h := h v15 e17
      obtain ⟨h18, h⟩ := h
      obtain ⟨h19, h⟩ := h
      refine wm_istore_n d_TR_settleVar_43 rfl (by decide) (L' := [vr a0, vi v15, vd, vd]) rfl ?_
      refine wm_aload_n d_TR_settleVar_44 rfl rfl ?_
      refine gf_TR_12 rfl d_TR_settleVar_45 h18 ?_
      refine gf_TR_76 rfl d_TR_settleVar_48 h19 ?_
      refine wm_if_ne (tgt := 75) d_TR_settleVar_51 rfl (hOM7 _ _).1 (fun c21 => ?_) (fun c21 => ?_)
      · replace h := h.2 c21
        refine wm_iload_n d_TR_settleVar_75 rfl rfl ?_
        exact h
      · replace c21 := Classical.not_not.mp c21
        replace h := h.1 c21
        refine wm_aload_n d_TR_settleVar_54 rfl rfl ?_
        refine wm_iconst d_TR_settleVar_55 ?_
        refine wm_iconst d_TR_settleVar_56 ?_
        refine cf_TR_146 rfl d_TR_settleVar_57 h18 (Nat.le_of_ble_eq_true rfl) (Ci.mono h (fun x23 M22 h => ?_))
        obtain ⟨h24, hOM22, h⟩ := h
        refine wm_if_eq (tgt := 75) d_TR_settleVar_60 rfl h24 (fun c30 => ?_) (fun c30 => ?_)
        · replace h := h.1 c30
          refine wm_iload_n d_TR_settleVar_75 rfl rfl ?_
          exact h
        · replace h := h.2 c30
          obtain ⟨h31, h⟩ := h
          obtain ⟨h32, h⟩ := h
          obtain ⟨h33, h⟩ := h
          obtain ⟨h34, h⟩ := h
          refine wm_aload_n d_TR_settleVar_63 rfl rfl ?_
          refine gf_TR_21 rfl d_TR_settleVar_64 h31 ?_
          refine gf_TR_155 rfl d_TR_settleVar_67 h32 ?_
          refine wm_iconst d_TR_settleVar_70 ?_
          refine wm_iald d_TR_settleVar_71 h33 h34 ?_
          refine wm_goto (tgt := 76) d_TR_settleVar_72 rfl ?_
          exact h
    clear h
    have s35 := s16
    refine wm_if_eq (tgt := 42) d_TR_settleVar_27 rfl h9 (fun c10 => ?_) (fun c10 => ?_)
    · refine wm_iconst d_TR_settleVar_42 ?_
      refine wm_less (L' := [vr a0, vd, vd, vd]) ⟨Or.inr rfl, Or.inl rfl, Or.inl rfl, Or.inl rfl, trivial⟩ ?_
      exact hJ 0 (if_pos c10).symm
    · have s35 := s35 c10
      obtain ⟨h11, h12, h13, h14⟩ := s35
      refine wm_aload_n d_TR_settleVar_30 rfl rfl ?_
      refine gf_TR_21 rfl d_TR_settleVar_31 h11 ?_
      refine gf_TR_155 rfl d_TR_settleVar_34 h12 ?_
      refine wm_iconst d_TR_settleVar_37 ?_
      refine wm_iald d_TR_settleVar_38 h13 h14 ?_
      refine wm_goto (tgt := 43) d_TR_settleVar_39 rfl ?_
      refine wm_less (L' := [vr a0, vd, vd, vd]) ⟨Or.inr rfl, Or.inl rfl, Or.inl rfl, Or.inl rfl, trivial⟩ ?_
      exact hJ (mI M7 (mR M7 (mR M7 a0 1) 6) 0) (if_neg c10).symm
  have hE1 : ¬ ((mI M (mR M a0 0) 3 = 0) ∧ (mI M a0 8 = 0)) → mWm G y_TR_settleVar (d + 1) 106 [vr a0, vi 0, vi 1, vd] [] M (fun r9 M9 => r9 = none ∧ Q M9) := by
    intro q37
    have h := h.2 q37
    exact h
  clear h
  refine wm_if_ne (tgt := 106) d_TR_settleVar_11 rfl (hO _ _).1 (fun c4 => ?_) (fun c4 => ?_)
  · exact hE1 (fun z40 => c4 z40.1)
  · replace c4 := Classical.not_not.mp c4
    refine wm_aload_n d_TR_settleVar_14 rfl rfl ?_
    refine gf_TR_143 rfl d_TR_settleVar_15 h1 ?_
    refine wm_if_ne (tgt := 106) d_TR_settleVar_18 rfl (hO _ _).1 (fun c3 => ?_) (fun c3 => ?_)
    · exact hE1 (fun z38 => c3 z38.2)
    · replace c3 := Classical.not_not.mp c3
      exact hE0 ⟨c4, c3⟩
theorem k_TR_settleVar_106 {G : mG} {d : Nat} {a0 : Nat} {l1 : Int} {l2 : Int} {M : mM} {Q : mM → Prop} (hO : mOk M) (hi_l1 : i32 l1) (hi_l2 : i32 l2)
    (h : mK M a0 = 3 ∧ mK M (mR M a0 0) = 4 ∧ (((¬ (mI M (mR M a0 0) 3 = 0)) ∨ (mI M a0 7 = 0)) → ((((l1 < l1) ∨ (¬ (l1 ≤ l2))) → (mK M (mR M a0 6) = 30 ∧ ((0 : Int) ≤ 2 ∧ 2 < (mN M (mR M a0 6) : Int)) ∧ Cv G y_RR_note d [vr (mR M a0 0), vi 9, vi (mI M (mR M a0 6) 2)] M (fun M71 => mOk M71 ∧ (h_TR_settleVar_171 G d a0 l1 l2 l1 M71 Q)))) ∧ (¬ ((l1 < l1) ∨ (¬ (l1 ≤ l2))) → (h_TR_settleVar_171 G d a0 l1 l2 l1 M Q)))) ∧ (¬ ((¬ (mI M (mR M a0 0) 3 = 0)) ∨ (mI M a0 7 = 0)) → (Ci G y_TR_worksOut d [vr a0, vi 2, vi 1] M (fun x79 M78 => i32 x79 ∧ mOk M78 ∧ ((¬ (x79 = 0) → (mK M78 a0 = 3 ∧ mK M78 (mR M78 a0 1) = 5 ∧ mK M78 (mR M78 (mR M78 a0 1) 6) = 30 ∧ ((0 : Int) ≤ 0 ∧ 0 < (mN M78 (mR M78 (mR M78 a0 1) 6) : Int)))) ∧ ∀ v86 : Int, v86 = (if (x79 = 0) then l1 else mI M78 (mR M78 (mR M78 a0 1) 6) 0) → i32 v86 ∧ (((v86 < l1) ∨ (¬ (v86 ≤ l2))) → (mK M78 a0 = 3 ∧ mK M78 (mR M78 a0 6) = 30 ∧ ((0 : Int) ≤ 2 ∧ 2 < (mN M78 (mR M78 a0 6) : Int)) ∧ mK M78 (mR M78 a0 0) = 4 ∧ Cv G y_RR_note d [vr (mR M78 a0 0), vi 9, vi (mI M78 (mR M78 a0 6) 2)] M78 (fun M98 => mOk M98 ∧ (h_TR_settleVar_171 G d a0 l1 l2 v86 M98 Q)))) ∧ (¬ ((v86 < l1) ∨ (¬ (v86 ≤ l2))) → (h_TR_settleVar_171 G d a0 l1 l2 v86 M78 Q))))))) :
    h_TR_settleVar_106 G d a0 l1 l2 M Q := by
  unfold h_TR_settleVar_106
  obtain ⟨h57, h⟩ := h
  obtain ⟨h58, h⟩ := h
  refine wm_aload_n d_TR_settleVar_106 rfl rfl ?_
  refine gf_TR_12 rfl d_TR_settleVar_107 h57 ?_
  refine gf_TR_76 rfl d_TR_settleVar_110 h58 ?_
  have hE0 : ((¬ (mI M (mR M a0 0) 3 = 0)) ∨ (mI M a0 7 = 0)) → mWm G y_TR_settleVar (d + 1) 144 [vr a0, vi l1, vi l2, vd] [] M (fun r9 M9 => r9 = none ∧ Q M9) := by
    intro q64
    have h := h.1 q64
    refine wm_iload_n d_TR_settleVar_144 rfl rfl ?_
    refine wm_istore_n d_TR_settleVar_145 rfl (by decide) (L' := [vr a0, vi l1, vi l2, vi l1]) rfl ?_
    refine wm_iload_n d_TR_settleVar_146 rfl rfl ?_
    refine wm_iload_n d_TR_settleVar_147 rfl rfl ?_
    have hE0 : ((l1 < l1) ∨ (¬ (l1 ≤ l2))) → mWm G y_TR_settleVar (d + 1) 156 [vr a0, vi l1, vi l2, vi l1] [] M (fun r9 M9 => r9 = none ∧ Q M9) := by
      intro q68
      have h := h.1 q68
      obtain ⟨h69, h⟩ := h
      obtain ⟨h70, h⟩ := h
      refine wm_aload_n d_TR_settleVar_156 rfl rfl ?_
      refine gf_TR_12 rfl d_TR_settleVar_157 h57 ?_
      refine wm_bipush d_TR_settleVar_160 (by decide) ?_
      refine wm_aload_n d_TR_settleVar_162 rfl rfl ?_
      refine gf_TR_29 rfl d_TR_settleVar_163 h57 ?_
      refine wm_iconst d_TR_settleVar_166 ?_
      refine wm_iald d_TR_settleVar_167 h69 h70 ?_
      refine cf_TR_95 rfl d_TR_settleVar_168 h58 (Nat.le_of_ble_eq_true rfl) (Cv.mono h (fun M71 h => ?_))
      obtain ⟨hOM71, h⟩ := h
      exact h
    have hE1 : ¬ ((l1 < l1) ∨ (¬ (l1 ≤ l2))) → mWm G y_TR_settleVar (d + 1) 171 [vr a0, vi l1, vi l2, vi l1] [] M (fun r9 M9 => r9 = none ∧ Q M9) := by
      intro q74
      have h := h.2 q74
      exact h
    clear h
    refine wm_icmp_lt (tgt := 156) d_TR_settleVar_148 rfl hi_l1 hi_l1 (fun c66 => ?_) (fun c66 => ?_)
    · exact hE0 (Or.inl c66)
    · refine wm_iload_n d_TR_settleVar_151 rfl rfl ?_
      refine wm_iload_n d_TR_settleVar_152 rfl rfl ?_
      refine wm_icmp_le (tgt := 171) d_TR_settleVar_153 rfl hi_l1 hi_l2 (fun c65 => ?_) (fun c65 => ?_)
      · exact hE1 (fun z75 => Or.elim z75 c66 (fun z76 => z76 c65))
      · exact hE0 (Or.inr c65)
  have hE1 : ¬ ((¬ (mI M (mR M a0 0) 3 = 0)) ∨ (mI M a0 7 = 0)) → mWm G y_TR_settleVar (d + 1) 123 [vr a0, vi l1, vi l2, vd] [] M (fun r9 M9 => r9 = none ∧ Q M9) := by
    intro q77
    have h := h.2 q77
    refine wm_aload_n d_TR_settleVar_123 rfl rfl ?_
    refine wm_iconst d_TR_settleVar_124 ?_
    refine wm_iconst d_TR_settleVar_125 ?_
    refine cf_TR_146 rfl d_TR_settleVar_126 h57 (Nat.le_of_ble_eq_true rfl) (Ci.mono h (fun x79 M78 h => ?_))
    obtain ⟨h80, hOM78, h⟩ := h
    obtain ⟨s87, h⟩ := h
    have hJ : ∀ v86 : Int, v86 = (if (x79 = 0) then l1 else mI M78 (mR M78 (mR M78 a0 1) 6) 0) → mWm G y_TR_settleVar (d + 1) 145 [vr a0, vi l1, vi l2, vd] [vi v86] M78 (fun r9 M9 => r9 = none ∧ Q M9) := by
      intro v86 e88
      have h := h v86 e88
      obtain ⟨h89, h⟩ := h
      refine wm_istore_n d_TR_settleVar_145 rfl (by decide) (L' := [vr a0, vi l1, vi l2, vi v86]) rfl ?_
      refine wm_iload_n d_TR_settleVar_146 rfl rfl ?_
      refine wm_iload_n d_TR_settleVar_147 rfl rfl ?_
      have hE0 : ((v86 < l1) ∨ (¬ (v86 ≤ l2))) → mWm G y_TR_settleVar (d + 1) 156 [vr a0, vi l1, vi l2, vi v86] [] M78 (fun r9 M9 => r9 = none ∧ Q M9) := by
        intro q93
        have h := h.1 q93
        obtain ⟨h94, h⟩ := h
        obtain ⟨h95, h⟩ := h
        obtain ⟨h96, h⟩ := h
        obtain ⟨h97, h⟩ := h
        refine wm_aload_n d_TR_settleVar_156 rfl rfl ?_
        refine gf_TR_12 rfl d_TR_settleVar_157 h94 ?_
        refine wm_bipush d_TR_settleVar_160 (by decide) ?_
        refine wm_aload_n d_TR_settleVar_162 rfl rfl ?_
        refine gf_TR_29 rfl d_TR_settleVar_163 h94 ?_
        refine wm_iconst d_TR_settleVar_166 ?_
        refine wm_iald d_TR_settleVar_167 h95 h96 ?_
        refine cf_TR_95 rfl d_TR_settleVar_168 h97 (Nat.le_of_ble_eq_true rfl) (Cv.mono h (fun M98 h => ?_))
        obtain ⟨hOM98, h⟩ := h
        exact h
      have hE1 : ¬ ((v86 < l1) ∨ (¬ (v86 ≤ l2))) → mWm G y_TR_settleVar (d + 1) 171 [vr a0, vi l1, vi l2, vi v86] [] M78 (fun r9 M9 => r9 = none ∧ Q M9) := by
        intro q101
        have h := h.2 q101
        exact h
      clear h
      refine wm_icmp_lt (tgt := 156) d_TR_settleVar_148 rfl h89 hi_l1 (fun c91 => ?_) (fun c91 => ?_)
      · exact hE0 (Or.inl c91)
      · refine wm_iload_n d_TR_settleVar_151 rfl rfl ?_
        refine wm_iload_n d_TR_settleVar_152 rfl rfl ?_
        refine wm_icmp_le (tgt := 171) d_TR_settleVar_153 rfl h89 hi_l2 (fun c90 => ?_) (fun c90 => ?_)
        · exact hE1 (fun z102 => Or.elim z102 c91 (fun z103 => z103 c90))
        · exact hE0 (Or.inr c90)
    clear h
    have s104 := s87
    refine wm_if_eq (tgt := 144) d_TR_settleVar_129 rfl h80 (fun c81 => ?_) (fun c81 => ?_)
    · refine wm_iload_n d_TR_settleVar_144 rfl rfl ?_
      exact hJ l1 (if_pos c81).symm
    · have s104 := s104 c81
      obtain ⟨h82, h83, h84, h85⟩ := s104
      refine wm_aload_n d_TR_settleVar_132 rfl rfl ?_
      refine gf_TR_21 rfl d_TR_settleVar_133 h82 ?_
      refine gf_TR_155 rfl d_TR_settleVar_136 h83 ?_
      refine wm_iconst d_TR_settleVar_139 ?_
      refine wm_iald d_TR_settleVar_140 h84 h85 ?_
      refine wm_goto (tgt := 145) d_TR_settleVar_141 rfl ?_
      exact hJ (mI M78 (mR M78 (mR M78 a0 1) 6) 0) (if_neg c81).symm
  clear h
  refine wm_if_ne (tgt := 144) d_TR_settleVar_113 rfl (hO _ _).1 (fun c62 => ?_) (fun c62 => ?_)
  · exact hE0 (Or.inl c62)
  · replace c62 := Classical.not_not.mp c62
    refine wm_aload_n d_TR_settleVar_116 rfl rfl ?_
    refine gf_TR_175 rfl d_TR_settleVar_117 h57 ?_
    refine wm_if_eq (tgt := 144) d_TR_settleVar_120 rfl (hO _ _).1 (fun c61 => ?_) (fun c61 => ?_)
    · exact hE0 (Or.inr c61)
    · exact hE1 (fun z106 => Or.elim z106 (fun w => w c62) c61)
theorem k_TR_settleVar_171 {G : mG} {d : Nat} {a0 : Nat} {l1 : Int} {l2 : Int} {l3 : Int} {M : mM} {Q : mM → Prop} (hO : mOk M) (hi_l1 : i32 l1) (hi_l2 : i32 l2) (hi_l3 : i32 l3)
    (h : mK M a0 = 3 ∧ mK M (mR M a0 0) = 4 ∧ ((mI M (mR M a0 0) 3 = 0) → (mK M (mR M a0 2) = 6 ∧ mK M (mR M (mR M a0 2) 4) = 30 ∧ ((0 : Int) ≤ mI M (mR M a0 2) 3 ∧ mI M (mR M a0 2) 3 < (mN M (mR M (mR M a0 2) 4) : Int)) ∧ ∀ M122, M122 = mUI M (mR M (mR M a0 2) 4) (Int.toNat (mI M (mR M a0 2) 3)) l1 → mK M122 (mR M122 a0 2) = 6 ∧ mK M122 (mR M122 (mR M122 a0 2) 5) = 30 ∧ ((0 : Int) ≤ mI M122 (mR M122 a0 2) 3 ∧ mI M122 (mR M122 a0 2) 3 < (mN M122 (mR M122 (mR M122 a0 2) 5) : Int)) ∧ ∀ M127, M127 = mUI M122 (mR M122 (mR M122 a0 2) 5) (Int.toNat (mI M122 (mR M122 a0 2) 3)) l2 → mK M127 (mR M127 a0 2) = 6 ∧ mK M127 (mR M127 (mR M127 a0 2) 6) = 30 ∧ ((0 : Int) ≤ mI M127 (mR M127 a0 2) 3 ∧ mI M127 (mR M127 a0 2) 3 < (mN M127 (mR M127 (mR M127 a0 2) 6) : Int)) ∧ ∀ M132, M132 = mUI M127 (mR M127 (mR M127 a0 2) 6) (Int.toNat (mI M127 (mR M127 a0 2) 3)) l3 → mK M132 (mR M132 a0 2) = 6 ∧ mK M132 (mR M132 a0 0) = 4 ∧ Cv G y_RR_know d [vr (mR M132 a0 0), vi (mI M132 a0 3), vi 5, vi (mI M132 (mR M132 a0 2) 3), vi (mI M132 a0 8)] M132 (fun M136 => mOk M136 ∧ (mK M136 a0 = 3 ∧ mK M136 (mR M136 a0 2) = 6 ∧ i32 ((mI M136 (mR M136 a0 2) 3) + 1) ∧ ∀ M142, M142 = mUI M136 (mR M136 a0 2) 3 ((mI M136 (mR M136 a0 2) 3) + 1) → mK M142 (mR M142 a0 2) = 6 ∧ ∀ M145, M145 = mUI M142 (mR M142 a0 2) 2 (mI M142 a0 4) → Q M145)))) ∧ (¬ (mI M (mR M a0 0) 3 = 0) → (Q M))) :
    h_TR_settleVar_171 G d a0 l1 l2 l3 M Q := by
  unfold h_TR_settleVar_171
  obtain ⟨h108, h⟩ := h
  obtain ⟨h109, h⟩ := h
  refine wm_aload_n d_TR_settleVar_171 rfl rfl ?_
  refine gf_TR_12 rfl d_TR_settleVar_172 h108 ?_
  refine gf_TR_76 rfl d_TR_settleVar_175 h109 ?_
  refine wm_if_ne (tgt := 276) d_TR_settleVar_178 rfl (hO _ _).1 (fun c118 => ?_) (fun c118 => ?_)
  · replace h := h.2 c118
    refine wm_return d_TR_settleVar_276 rfl ?_
    exact ⟨rfl, h⟩
  · replace c118 := Classical.not_not.mp c118
    replace h := h.1 c118
    obtain ⟨h119, h⟩ := h
    obtain ⟨h120, h⟩ := h
    obtain ⟨h121, h⟩ := h
    obtain ⟨M122, e123⟩ : ∃ M122, M122 = mUI M (mR M (mR M a0 2) 4) (Int.toNat (mI M (mR M a0 2) 3)) l1 := ⟨_, rfl⟩
    replace h := h M122 e123
    obtain ⟨h124, h⟩ := h
    obtain ⟨h125, h⟩ := h
    obtain ⟨h126, h⟩ := h
    obtain ⟨M127, e128⟩ : ∃ M127, M127 = mUI M122 (mR M122 (mR M122 a0 2) 5) (Int.toNat (mI M122 (mR M122 a0 2) 3)) l2 := ⟨_, rfl⟩
    replace h := h M127 e128
    obtain ⟨h129, h⟩ := h
    obtain ⟨h130, h⟩ := h
    obtain ⟨h131, h⟩ := h
    obtain ⟨M132, e133⟩ : ∃ M132, M132 = mUI M127 (mR M127 (mR M127 a0 2) 6) (Int.toNat (mI M127 (mR M127 a0 2) 3)) l3 := ⟨_, rfl⟩
    replace h := h M132 e133
    obtain ⟨h134, h⟩ := h
    obtain ⟨h135, h⟩ := h
    refine wm_aload_n d_TR_settleVar_181 rfl rfl ?_
    refine gf_TR_36 rfl d_TR_settleVar_182 h108 ?_
    refine gf_TR_178 rfl d_TR_settleVar_185 h119 ?_
    refine wm_aload_n d_TR_settleVar_188 rfl rfl ?_
    refine gf_TR_36 rfl d_TR_settleVar_189 h108 ?_
    refine gf_TR_172 rfl d_TR_settleVar_192 h119 ?_
    refine wm_iload_n d_TR_settleVar_195 rfl rfl ?_
    have hOM122 : mOk M122 := by rw [e123]; exact mOk_UI hO hi_l1
    refine wm_iastE d_TR_settleVar_196 h120 h121 hi_l1 e123 ?_
    refine wm_aload_n d_TR_settleVar_197 rfl rfl ?_
    refine gf_TR_36 rfl d_TR_settleVar_198 (by rw [e123]; exact h108) ?_
    refine gf_TR_181 rfl d_TR_settleVar_201 h124 ?_
    refine wm_aload_n d_TR_settleVar_204 rfl rfl ?_
    refine gf_TR_36 rfl d_TR_settleVar_205 (by rw [e123]; exact h108) ?_
    refine gf_TR_172 rfl d_TR_settleVar_208 h124 ?_
    refine wm_iload_n d_TR_settleVar_211 rfl rfl ?_
    have hOM127 : mOk M127 := by rw [e128]; exact mOk_UI hOM122 hi_l2
    refine wm_iastE d_TR_settleVar_212 h125 h126 hi_l2 e128 ?_
    refine wm_aload_n d_TR_settleVar_213 rfl rfl ?_
    refine gf_TR_36 rfl d_TR_settleVar_214 (by rw [e128, e123]; exact h108) ?_
    refine gf_TR_184 rfl d_TR_settleVar_217 h129 ?_
    refine wm_aload_n d_TR_settleVar_220 rfl rfl ?_
    refine gf_TR_36 rfl d_TR_settleVar_221 (by rw [e128, e123]; exact h108) ?_
    refine gf_TR_172 rfl d_TR_settleVar_224 h129 ?_
    refine wm_iload_n d_TR_settleVar_227 rfl rfl ?_
    have hOM132 : mOk M132 := by rw [e133]; exact mOk_UI hOM127 hi_l3
    refine wm_iastE d_TR_settleVar_228 h130 h131 hi_l3 e133 ?_
    refine wm_aload_n d_TR_settleVar_229 rfl rfl ?_
    refine gf_TR_12 rfl d_TR_settleVar_230 (by rw [e133, e128, e123]; exact h108) ?_
    refine wm_aload_n d_TR_settleVar_233 rfl rfl ?_
    refine gf_TR_99 rfl d_TR_settleVar_234 (by rw [e133, e128, e123]; exact h108) ?_
    refine wm_iconst d_TR_settleVar_237 ?_
    refine wm_aload_n d_TR_settleVar_238 rfl rfl ?_
    refine gf_TR_36 rfl d_TR_settleVar_239 (by rw [e133, e128, e123]; exact h108) ?_
    refine gf_TR_172 rfl d_TR_settleVar_242 h134 ?_
    refine wm_aload_n d_TR_settleVar_245 rfl rfl ?_
    refine gf_TR_143 rfl d_TR_settleVar_246 (by rw [e133, e128, e123]; exact h108) ?_
    refine cf_TR_160 rfl d_TR_settleVar_249 h135 (Nat.le_of_ble_eq_true rfl) (Cv.mono h (fun M136 h => ?_))
    obtain ⟨hOM136, h⟩ := h
    obtain ⟨h139, h⟩ := h
    obtain ⟨h140, h⟩ := h
    obtain ⟨h141, h⟩ := h
    obtain ⟨M142, e143⟩ : ∃ M142, M142 = mUI M136 (mR M136 a0 2) 3 ((mI M136 (mR M136 a0 2) 3) + 1) := ⟨_, rfl⟩
    replace h := h M142 e143
    obtain ⟨h144, h⟩ := h
    obtain ⟨M145, e146⟩ : ∃ M145, M145 = mUI M142 (mR M142 a0 2) 2 (mI M142 a0 4) := ⟨_, rfl⟩
    replace h := h M145 e146
    refine wm_aload_n d_TR_settleVar_252 rfl rfl ?_
    refine gf_TR_36 rfl d_TR_settleVar_253 h139 ?_
    refine wm_dup d_TR_settleVar_256 rfl ?_
    refine gf_TR_172 rfl d_TR_settleVar_257 h140 ?_
    refine wm_iconst d_TR_settleVar_260 ?_
    refine wm_iadd d_TR_settleVar_261 ?_
    have hOM142 : mOk M142 := by rw [e143]; exact mOk_UI hOM136 h141
    refine pf_TR_172 rfl d_TR_settleVar_262 h140 h141 e143 ?_
    refine wm_aload_n d_TR_settleVar_265 rfl rfl ?_
    refine gf_TR_36 rfl d_TR_settleVar_266 (by rw [e143]; exact h139) ?_
    refine wm_aload_n d_TR_settleVar_269 rfl rfl ?_
    refine gf_TR_169 rfl d_TR_settleVar_270 (by rw [e143]; exact h139) ?_
    have hOM145 : mOk M145 := by rw [e146]; exact mOk_UI hOM142 (hOM142 _ _).1
    refine pf_TR_116 rfl d_TR_settleVar_273 h144 (hOM142 _ _).1 e146 ?_
    refine wm_return d_TR_settleVar_276 rfl ?_
    exact ⟨rfl, h⟩
theorem d_TR_readTarget_0 : decode y_TR_readTarget.2.1 0 = .ok (.aload_n 0, 1) := dc9_42 (by decide +kernel)
theorem d_TR_readTarget_1 : decode y_TR_readTarget.2.1 1 = .ok (.getfield 36, 3) := dc9_180 (by decide +kernel)
theorem d_TR_readTarget_4 : decode y_TR_readTarget.2.1 4 = .ok (.getfield 89, 3) := dc9_180 (by decide +kernel)
theorem d_TR_readTarget_7 : decode y_TR_readTarget.2.1 7 = .ok (.iconst (-1), 1) := dc9_2 (by decide +kernel)
theorem d_TR_readTarget_8 : decode y_TR_readTarget.2.1 8 = .ok (.if_icmp .eq 18, 3) := dc9_159 (by decide +kernel)
theorem d_TR_readTarget_11 : decode y_TR_readTarget.2.1 11 = .ok (.aload_n 0, 1) := dc9_42 (by decide +kernel)
theorem d_TR_readTarget_12 : decode y_TR_readTarget.2.1 12 = .ok (.getfield 12, 3) := dc9_180 (by decide +kernel)
theorem d_TR_readTarget_15 : decode y_TR_readTarget.2.1 15 = .ok (.iconst 4, 1) := dc9_7 (by decide +kernel)
theorem d_TR_readTarget_16 : decode y_TR_readTarget.2.1 16 = .ok (.aload_n 0, 1) := dc9_42 (by decide +kernel)
theorem d_TR_readTarget_17 : decode y_TR_readTarget.2.1 17 = .ok (.getfield 12, 3) := dc9_180 (by decide +kernel)
theorem d_TR_readTarget_26 : decode y_TR_readTarget.2.1 26 = .ok (.aload_n 0, 1) := dc9_42 (by decide +kernel)
theorem d_TR_readTarget_27 : decode y_TR_readTarget.2.1 27 = .ok (.getfield 12, 3) := dc9_180 (by decide +kernel)
theorem d_TR_readTarget_30 : decode y_TR_readTarget.2.1 30 = .ok (.dup, 1) := dc9_89 (by decide +kernel)
theorem d_TR_readTarget_31 : decode y_TR_readTarget.2.1 31 = .ok (.getfield 59, 3) := dc9_180 (by decide +kernel)
theorem d_TR_readTarget_34 : decode y_TR_readTarget.2.1 34 = .ok (.iconst 1, 1) := dc9_4 (by decide +kernel)
theorem d_TR_readTarget_35 : decode y_TR_readTarget.2.1 35 = .ok (.iadd, 1) := dc9_96 (by decide +kernel)
theorem d_TR_readTarget_36 : decode y_TR_readTarget.2.1 36 = .ok (.putfield 59, 3) := dc9_181 (by decide +kernel)
theorem d_TR_readTarget_39 : decode y_TR_readTarget.2.1 39 = .ok (.aload_n 0, 1) := dc9_42 (by decide +kernel)
theorem d_TR_readTarget_40 : decode y_TR_readTarget.2.1 40 = .ok (.getfield 12, 3) := dc9_180 (by decide +kernel)
theorem d_TR_readTarget_43 : decode y_TR_readTarget.2.1 43 = .ok (.iconst 0, 1) := dc9_3 (by decide +kernel)
theorem d_TR_readTarget_44 : decode y_TR_readTarget.2.1 44 = .ok (.putfield 125, 3) := dc9_181 (by decide +kernel)
theorem d_TR_readTarget_47 : decode y_TR_readTarget.2.1 47 = .ok (.aload_n 0, 1) := dc9_42 (by decide +kernel)
theorem d_TR_readTarget_48 : decode y_TR_readTarget.2.1 48 = .ok (.iconst 0, 1) := dc9_3 (by decide +kernel)
theorem d_TR_readTarget_49 : decode y_TR_readTarget.2.1 49 = .ok (.iconst 2, 1) := dc9_5 (by decide +kernel)
theorem d_TR_readTarget_50 : decode y_TR_readTarget.2.1 50 = .ok (.invokevirtual 136, 3) := dc9_182 (by decide +kernel)
theorem d_TR_readTarget_53 : decode y_TR_readTarget.2.1 53 = .ok (.ifCond .ne 5, 3) := dc9_154 (by decide +kernel)
theorem d_TR_readTarget_56 : decode y_TR_readTarget.2.1 56 = .ok (.iconst 0, 1) := dc9_3 (by decide +kernel)
theorem d_TR_readTarget_57 : decode y_TR_readTarget.2.1 57 = .ok (.ireturn, 1) := dc9_172 (by decide +kernel)
theorem d_TR_readTarget_58 : decode y_TR_readTarget.2.1 58 = .ok (.aload_n 0, 1) := dc9_42 (by decide +kernel)
theorem d_TR_readTarget_59 : decode y_TR_readTarget.2.1 59 = .ok (.getfield 36, 3) := dc9_180 (by decide +kernel)
theorem d_TR_readTarget_62 : decode y_TR_readTarget.2.1 62 = .ok (.aload_n 0, 1) := dc9_42 (by decide +kernel)
theorem d_TR_readTarget_63 : decode y_TR_readTarget.2.1 63 = .ok (.getfield 25, 3) := dc9_180 (by decide +kernel)
theorem d_TR_readTarget_66 : decode y_TR_readTarget.2.1 66 = .ok (.iconst 0, 1) := dc9_3 (by decide +kernel)
theorem d_TR_readTarget_67 : decode y_TR_readTarget.2.1 67 = .ok (.iaload, 1) := dc9_46 (by decide +kernel)
theorem d_TR_readTarget_68 : decode y_TR_readTarget.2.1 68 = .ok (.putfield 89, 3) := dc9_181 (by decide +kernel)
theorem d_TR_readTarget_71 : decode y_TR_readTarget.2.1 71 = .ok (.aload_n 0, 1) := dc9_42 (by decide +kernel)
theorem d_TR_readTarget_72 : decode y_TR_readTarget.2.1 72 = .ok (.getfield 12, 3) := dc9_180 (by decide +kernel)
theorem d_TR_readTarget_75 : decode y_TR_readTarget.2.1 75 = .ok (.bipush 35, 2) := dc9_16 (by decide +kernel)
theorem d_TR_readTarget_77 : decode y_TR_readTarget.2.1 77 = .ok (.invokevirtual 102, 3) := dc9_182 (by decide +kernel)
theorem d_TR_readTarget_80 : decode y_TR_readTarget.2.1 80 = .ok (.ireturn, 1) := dc9_172 (by decide +kernel)
theorem d_TR_readTarget_20 : decode y_TR_readTarget.2.1 20 = .ok (.invokevirtual 79, 3) := dc9_182 (by decide +kernel)
theorem d_TR_readTarget_23 : decode y_TR_readTarget.2.1 23 = .ok (.invokevirtual 95, 3) := dc9_182 (by decide +kernel)
theorem k_TR_readTarget {G : mG} {d : Nat} {a0 : Nat} {M : mM} {Q : Int → mM → Prop} (hO : mOk M)
    (h : mK M a0 = 3 ∧ mK M (mR M a0 2) = 6 ∧ ((mI M (mR M a0 2) 11 = (-1)) → (mK M (mR M a0 0) = 4 ∧ i32 ((mI M (mR M a0 0) 2) + 1) ∧ ∀ M8, M8 = mUI M (mR M a0 0) 2 ((mI M (mR M a0 0) 2) + 1) → mK M8 (mR M8 a0 0) = 4 ∧ ∀ M11, M11 = mUI M8 (mR M8 a0 0) 6 0 → Ci G y_TR_readItemRule d [vr a0, vi 0, vi 2] M11 (fun x14 M13 => i32 x14 ∧ mOk M13 ∧ (((x14 = 0) → (Q 0 M13)) ∧ (¬ (x14 = 0) → (mK M13 a0 = 3 ∧ mK M13 (mR M13 a0 5) = 30 ∧ ((0 : Int) ≤ 0 ∧ 0 < (mN M13 (mR M13 a0 5) : Int)) ∧ mK M13 (mR M13 a0 2) = 6 ∧ ∀ M22, M22 = mUI M13 (mR M13 a0 2) 11 (mI M13 (mR M13 a0 5) 0) → mK M22 (mR M22 a0 0) = 4 ∧ Ci G y_RR_accept d [vr (mR M22 a0 0), vi 35] M22 (fun x26 M25 => i32 x26 ∧ mOk M25 ∧ ((x26 = 0 ∨ x26 = 1) ∧ Q x26 M25)))))))) ∧ (¬ (mI M (mR M a0 2) 11 = (-1)) → (mK M (mR M a0 0) = 4 ∧ Ci G y_RR_here d [vr (mR M a0 0)] M (fun x31 M30 => i32 x31 ∧ mOk M30 ∧ (mK M30 (mR M a0 0) = 4 ∧ Cv G y_RR_note d [vr (mR M a0 0), vi 4, vi x31] M30 (fun M34 => mOk M34 ∧ (mK M34 a0 = 3 ∧ mK M34 (mR M34 a0 0) = 4 ∧ i32 ((mI M34 (mR M34 a0 0) 2) + 1) ∧ ∀ M40, M40 = mUI M34 (mR M34 a0 0) 2 ((mI M34 (mR M34 a0 0) 2) + 1) → mK M40 (mR M40 a0 0) = 4 ∧ ∀ M43, M43 = mUI M40 (mR M40 a0 0) 6 0 → Ci G y_TR_readItemRule d [vr a0, vi 0, vi 2] M43 (fun x46 M45 => i32 x46 ∧ mOk M45 ∧ (((x46 = 0) → (Q 0 M45)) ∧ (¬ (x46 = 0) → (mK M45 a0 = 3 ∧ mK M45 (mR M45 a0 5) = 30 ∧ ((0 : Int) ≤ 0 ∧ 0 < (mN M45 (mR M45 a0 5) : Int)) ∧ mK M45 (mR M45 a0 2) = 6 ∧ ∀ M54, M54 = mUI M45 (mR M45 a0 2) 11 (mI M45 (mR M45 a0 5) 0) → mK M54 (mR M54 a0 0) = 4 ∧ Ci G y_RR_accept d [vr (mR M54 a0 0), vi 35] M54 (fun x58 M57 => i32 x58 ∧ mOk M57 ∧ ((x58 = 0 ∨ x58 = 1) ∧ Q x58 M57))))))))))))) :
    Ci G y_TR_readTarget (d + 1) [vr a0] M Q := by
  refine wm_open (y := y_TR_readTarget) rfl (Nat.le_of_ble_eq_true rfl) (L := [vr a0]) rfl ?_
  obtain ⟨h1, h⟩ := h
  obtain ⟨h2, h⟩ := h
  refine wm_aload_n d_TR_readTarget_0 rfl rfl ?_
  refine gf_TR_36 rfl d_TR_readTarget_1 h1 ?_
  refine gf_TR_89 rfl d_TR_readTarget_4 h2 ?_
  refine wm_iconst d_TR_readTarget_7 ?_
  refine wm_icmp_eq (tgt := 26) d_TR_readTarget_8 rfl (hO _ _).1 ⟨by decide, by decide⟩ (fun c5 => ?_) (fun c5 => ?_)
  · replace h := h.1 c5
    obtain ⟨h6, h⟩ := h
    obtain ⟨h7, h⟩ := h
    obtain ⟨M8, e9⟩ : ∃ M8, M8 = mUI M (mR M a0 0) 2 ((mI M (mR M a0 0) 2) + 1) := ⟨_, rfl⟩
    replace h := h M8 e9
    obtain ⟨h10, h⟩ := h
    obtain ⟨M11, e12⟩ : ∃ M11, M11 = mUI M8 (mR M8 a0 0) 6 0 := ⟨_, rfl⟩
    replace h := h M11 e12
    refine wm_aload_n d_TR_readTarget_26 rfl rfl ?_
    refine gf_TR_12 rfl d_TR_readTarget_27 h1 ?_
    refine wm_dup d_TR_readTarget_30 rfl ?_
    refine gf_TR_59 rfl d_TR_readTarget_31 h6 ?_
    refine wm_iconst d_TR_readTarget_34 ?_
    refine wm_iadd d_TR_readTarget_35 ?_
    have hOM8 : mOk M8 := by rw [e9]; exact mOk_UI hO h7
    refine pf_TR_59 rfl d_TR_readTarget_36 h6 h7 e9 ?_
    refine wm_aload_n d_TR_readTarget_39 rfl rfl ?_
    refine gf_TR_12 rfl d_TR_readTarget_40 (by rw [e9]; exact h1) ?_
    refine wm_iconst d_TR_readTarget_43 ?_
    have hOM11 : mOk M11 := by rw [e12]; exact mOk_UI hOM8 (m_b32 (by decide))
    refine pf_TR_125 rfl d_TR_readTarget_44 h10 (by decide) e12 ?_
    refine wm_aload_n d_TR_readTarget_47 rfl rfl ?_
    refine wm_iconst d_TR_readTarget_48 ?_
    refine wm_iconst d_TR_readTarget_49 ?_
    refine cf_TR_136 rfl d_TR_readTarget_50 (by rw [e12, e9]; exact h1) (Nat.le_of_ble_eq_true rfl) (Ci.mono h (fun x14 M13 h => ?_))
    obtain ⟨h15, hOM13, h⟩ := h
    refine wm_if_ne (tgt := 58) d_TR_readTarget_53 rfl h15 (fun c17 => ?_) (fun c17 => ?_)
    · replace h := h.2 c17
      obtain ⟨h18, h⟩ := h
      obtain ⟨h19, h⟩ := h
      obtain ⟨h20, h⟩ := h
      obtain ⟨h21, h⟩ := h
      obtain ⟨M22, e23⟩ : ∃ M22, M22 = mUI M13 (mR M13 a0 2) 11 (mI M13 (mR M13 a0 5) 0) := ⟨_, rfl⟩
      replace h := h M22 e23
      obtain ⟨h24, h⟩ := h
      refine wm_aload_n d_TR_readTarget_58 rfl rfl ?_
      refine gf_TR_36 rfl d_TR_readTarget_59 h18 ?_
      refine wm_aload_n d_TR_readTarget_62 rfl rfl ?_
      refine gf_TR_25 rfl d_TR_readTarget_63 h18 ?_
      refine wm_iconst d_TR_readTarget_66 ?_
      refine wm_iald d_TR_readTarget_67 h19 h20 ?_
      have hOM22 : mOk M22 := by rw [e23]; exact mOk_UI hOM13 (hOM13 _ _).1
      refine pf_TR_89 rfl d_TR_readTarget_68 h21 (hOM13 _ _).1 e23 ?_
      refine wm_aload_n d_TR_readTarget_71 rfl rfl ?_
      refine gf_TR_12 rfl d_TR_readTarget_72 (by rw [e23]; exact h18) ?_
      refine wm_bipush d_TR_readTarget_75 (by decide) ?_
      refine cf_TR_102 rfl d_TR_readTarget_77 h24 (Nat.le_of_ble_eq_true rfl) (Ci.mono h (fun x26 M25 h => ?_))
      obtain ⟨h27, hOM25, h⟩ := h
      obtain ⟨h28, h⟩ := h
      refine wm_ireturn d_TR_readTarget_80 rfl (m_nb h28) ?_
      exact ⟨_, rfl, h⟩
    · replace c17 := Classical.not_not.mp c17
      replace h := h.1 c17
      refine wm_iconst d_TR_readTarget_56 ?_
      refine wm_ireturn d_TR_readTarget_57 rfl (m_nb (by decide)) ?_
      exact ⟨_, rfl, h⟩
  · replace h := h.2 c5
    obtain ⟨h29, h⟩ := h
    refine wm_aload_n d_TR_readTarget_11 rfl rfl ?_
    refine gf_TR_12 rfl d_TR_readTarget_12 h1 ?_
    refine wm_iconst d_TR_readTarget_15 ?_
    refine wm_aload_n d_TR_readTarget_16 rfl rfl ?_
    refine gf_TR_12 rfl d_TR_readTarget_17 h1 ?_
    refine cf_TR_79 rfl d_TR_readTarget_20 h29 (Nat.le_of_ble_eq_true rfl) (Ci.mono h (fun x31 M30 h => ?_))
    obtain ⟨h32, hOM30, h⟩ := h
    obtain ⟨h33, h⟩ := h
    refine cf_TR_95 rfl d_TR_readTarget_23 h33 (Nat.le_of_ble_eq_true rfl) (Cv.mono h (fun M34 h => ?_))
    obtain ⟨hOM34, h⟩ := h
    obtain ⟨h37, h⟩ := h
    obtain ⟨h38, h⟩ := h
    obtain ⟨h39, h⟩ := h
    obtain ⟨M40, e41⟩ : ∃ M40, M40 = mUI M34 (mR M34 a0 0) 2 ((mI M34 (mR M34 a0 0) 2) + 1) := ⟨_, rfl⟩
    replace h := h M40 e41
    obtain ⟨h42, h⟩ := h
    obtain ⟨M43, e44⟩ : ∃ M43, M43 = mUI M40 (mR M40 a0 0) 6 0 := ⟨_, rfl⟩
    replace h := h M43 e44
    refine wm_aload_n d_TR_readTarget_26 rfl rfl ?_
    refine gf_TR_12 rfl d_TR_readTarget_27 h37 ?_
    refine wm_dup d_TR_readTarget_30 rfl ?_
    refine gf_TR_59 rfl d_TR_readTarget_31 h38 ?_
    refine wm_iconst d_TR_readTarget_34 ?_
    refine wm_iadd d_TR_readTarget_35 ?_
    have hOM40 : mOk M40 := by rw [e41]; exact mOk_UI hOM34 h39
    refine pf_TR_59 rfl d_TR_readTarget_36 h38 h39 e41 ?_
    refine wm_aload_n d_TR_readTarget_39 rfl rfl ?_
    refine gf_TR_12 rfl d_TR_readTarget_40 (by rw [e41]; exact h37) ?_
    refine wm_iconst d_TR_readTarget_43 ?_
    have hOM43 : mOk M43 := by rw [e44]; exact mOk_UI hOM40 (m_b32 (by decide))
    refine pf_TR_125 rfl d_TR_readTarget_44 h42 (by decide) e44 ?_
    refine wm_aload_n d_TR_readTarget_47 rfl rfl ?_
    refine wm_iconst d_TR_readTarget_48 ?_
    refine wm_iconst d_TR_readTarget_49 ?_
    refine cf_TR_136 rfl d_TR_readTarget_50 (by rw [e44, e41]; exact h37) (Nat.le_of_ble_eq_true rfl) (Ci.mono h (fun x46 M45 h => ?_))
    obtain ⟨h47, hOM45, h⟩ := h
    refine wm_if_ne (tgt := 58) d_TR_readTarget_53 rfl h47 (fun c49 => ?_) (fun c49 => ?_)
    · replace h := h.2 c49
      obtain ⟨h50, h⟩ := h
      obtain ⟨h51, h⟩ := h
      obtain ⟨h52, h⟩ := h
      obtain ⟨h53, h⟩ := h
      obtain ⟨M54, e55⟩ : ∃ M54, M54 = mUI M45 (mR M45 a0 2) 11 (mI M45 (mR M45 a0 5) 0) := ⟨_, rfl⟩
      replace h := h M54 e55
      obtain ⟨h56, h⟩ := h
      refine wm_aload_n d_TR_readTarget_58 rfl rfl ?_
      refine gf_TR_36 rfl d_TR_readTarget_59 h50 ?_
      refine wm_aload_n d_TR_readTarget_62 rfl rfl ?_
      refine gf_TR_25 rfl d_TR_readTarget_63 h50 ?_
      refine wm_iconst d_TR_readTarget_66 ?_
      refine wm_iald d_TR_readTarget_67 h51 h52 ?_
      have hOM54 : mOk M54 := by rw [e55]; exact mOk_UI hOM45 (hOM45 _ _).1
      refine pf_TR_89 rfl d_TR_readTarget_68 h53 (hOM45 _ _).1 e55 ?_
      refine wm_aload_n d_TR_readTarget_71 rfl rfl ?_
      refine gf_TR_12 rfl d_TR_readTarget_72 (by rw [e55]; exact h50) ?_
      refine wm_bipush d_TR_readTarget_75 (by decide) ?_
      refine cf_TR_102 rfl d_TR_readTarget_77 h56 (Nat.le_of_ble_eq_true rfl) (Ci.mono h (fun x58 M57 h => ?_))
      obtain ⟨h59, hOM57, h⟩ := h
      obtain ⟨h60, h⟩ := h
      refine wm_ireturn d_TR_readTarget_80 rfl (m_nb h60) ?_
      exact ⟨_, rfl, h⟩
    · replace c49 := Classical.not_not.mp c49
      replace h := h.1 c49
      refine wm_iconst d_TR_readTarget_56 ?_
      refine wm_ireturn d_TR_readTarget_57 rfl (m_nb (by decide)) ?_
      exact ⟨_, rfl, h⟩
theorem d_TR_readCommand_0 : decode y_TR_readCommand.2.1 0 = .ok (.aload_n 0, 1) := dc9_42 (by decide +kernel)
theorem d_TR_readCommand_1 : decode y_TR_readCommand.2.1 1 = .ok (.getfield 36, 3) := dc9_180 (by decide +kernel)
theorem d_TR_readCommand_4 : decode y_TR_readCommand.2.1 4 = .ok (.getfield 187, 3) := dc9_180 (by decide +kernel)
theorem d_TR_readCommand_7 : decode y_TR_readCommand.2.1 7 = .ok (.bipush 60, 2) := dc9_16 (by decide +kernel)
theorem d_TR_readCommand_9 : decode y_TR_readCommand.2.1 9 = .ok (.if_icmp .lt 18, 3) := dc9_161 (by decide +kernel)
theorem d_TR_readCommand_12 : decode y_TR_readCommand.2.1 12 = .ok (.aload_n 0, 1) := dc9_42 (by decide +kernel)
theorem d_TR_readCommand_13 : decode y_TR_readCommand.2.1 13 = .ok (.getfield 12, 3) := dc9_180 (by decide +kernel)
theorem d_TR_readCommand_16 : decode y_TR_readCommand.2.1 16 = .ok (.iconst 5, 1) := dc9_8 (by decide +kernel)
theorem d_TR_readCommand_17 : decode y_TR_readCommand.2.1 17 = .ok (.aload_n 0, 1) := dc9_42 (by decide +kernel)
theorem d_TR_readCommand_18 : decode y_TR_readCommand.2.1 18 = .ok (.getfield 12, 3) := dc9_180 (by decide +kernel)
theorem d_TR_readCommand_21 : decode y_TR_readCommand.2.1 21 = .ok (.invokevirtual 79, 3) := dc9_182 (by decide +kernel)
theorem d_TR_readCommand_24 : decode y_TR_readCommand.2.1 24 = .ok (.invokevirtual 95, 3) := dc9_182 (by decide +kernel)
theorem d_TR_readCommand_27 : decode y_TR_readCommand.2.1 27 = .ok (.aload_n 0, 1) := dc9_42 (by decide +kernel)
theorem d_TR_readCommand_28 : decode y_TR_readCommand.2.1 28 = .ok (.getfield 36, 3) := dc9_180 (by decide +kernel)
theorem d_TR_readCommand_31 : decode y_TR_readCommand.2.1 31 = .ok (.getfield 187, 3) := dc9_180 (by decide +kernel)
theorem d_TR_readCommand_34 : decode y_TR_readCommand.2.1 34 = .ok (.bipush 59, 2) := dc9_16 (by decide +kernel)
theorem d_TR_readCommand_36 : decode y_TR_readCommand.2.1 36 = .ok (.invokestatic 190, 3) := dc9_184 (by decide +kernel)
theorem d_TR_readCommand_39 : decode y_TR_readCommand.2.1 39 = .ok (.istore_n 2, 1) := dc9_61 (by decide +kernel)
theorem d_TR_readCommand_40 : decode y_TR_readCommand.2.1 40 = .ok (.aload_n 0, 1) := dc9_42 (by decide +kernel)
theorem d_TR_readCommand_41 : decode y_TR_readCommand.2.1 41 = .ok (.getfield 36, 3) := dc9_180 (by decide +kernel)
theorem d_TR_readCommand_44 : decode y_TR_readCommand.2.1 44 = .ok (.getfield 195, 3) := dc9_180 (by decide +kernel)
theorem d_TR_readCommand_47 : decode y_TR_readCommand.2.1 47 = .ok (.iload_n 2, 1) := dc9_28 (by decide +kernel)
theorem d_TR_readCommand_48 : decode y_TR_readCommand.2.1 48 = .ok (.iload_n 1, 1) := dc9_27 (by decide +kernel)
theorem d_TR_readCommand_49 : decode y_TR_readCommand.2.1 49 = .ok (.bipush 8, 2) := dc9_16 (by decide +kernel)
theorem d_TR_readCommand_51 : decode y_TR_readCommand.2.1 51 = .ok (.if_icmp .ne 7, 3) := dc9_160 (by decide +kernel)
theorem d_TR_readCommand_54 : decode y_TR_readCommand.2.1 54 = .ok (.iconst 1, 1) := dc9_4 (by decide +kernel)
theorem d_TR_readCommand_55 : decode y_TR_readCommand.2.1 55 = .ok (.goto 4, 3) := dc9_167 (by decide +kernel)
theorem d_TR_readCommand_58 : decode y_TR_readCommand.2.1 58 = .ok (.iconst 2, 1) := dc9_5 (by decide +kernel)
theorem d_TR_readCommand_59 : decode y_TR_readCommand.2.1 59 = .ok (.iastore, 1) := dc9_79 (by decide +kernel)
theorem d_TR_readCommand_60 : decode y_TR_readCommand.2.1 60 = .ok (.aload_n 0, 1) := dc9_42 (by decide +kernel)
theorem d_TR_readCommand_61 : decode y_TR_readCommand.2.1 61 = .ok (.getfield 36, 3) := dc9_180 (by decide +kernel)
theorem d_TR_readCommand_64 : decode y_TR_readCommand.2.1 64 = .ok (.getfield 198, 3) := dc9_180 (by decide +kernel)
theorem d_TR_readCommand_67 : decode y_TR_readCommand.2.1 67 = .ok (.iload_n 2, 1) := dc9_28 (by decide +kernel)
theorem d_TR_readCommand_68 : decode y_TR_readCommand.2.1 68 = .ok (.aload_n 0, 1) := dc9_42 (by decide +kernel)
theorem d_TR_readCommand_69 : decode y_TR_readCommand.2.1 69 = .ok (.getfield 12, 3) := dc9_180 (by decide +kernel)
theorem d_TR_readCommand_72 : decode y_TR_readCommand.2.1 72 = .ok (.invokevirtual 79, 3) := dc9_182 (by decide +kernel)
theorem d_TR_readCommand_75 : decode y_TR_readCommand.2.1 75 = .ok (.iastore, 1) := dc9_79 (by decide +kernel)
theorem d_TR_readCommand_76 : decode y_TR_readCommand.2.1 76 = .ok (.aload_n 0, 1) := dc9_42 (by decide +kernel)
theorem d_TR_readCommand_77 : decode y_TR_readCommand.2.1 77 = .ok (.getfield 12, 3) := dc9_180 (by decide +kernel)
theorem d_TR_readCommand_80 : decode y_TR_readCommand.2.1 80 = .ok (.dup, 1) := dc9_89 (by decide +kernel)
theorem d_TR_readCommand_81 : decode y_TR_readCommand.2.1 81 = .ok (.getfield 59, 3) := dc9_180 (by decide +kernel)
theorem d_TR_readCommand_84 : decode y_TR_readCommand.2.1 84 = .ok (.iconst 1, 1) := dc9_4 (by decide +kernel)
theorem d_TR_readCommand_85 : decode y_TR_readCommand.2.1 85 = .ok (.iadd, 1) := dc9_96 (by decide +kernel)
theorem d_TR_readCommand_86 : decode y_TR_readCommand.2.1 86 = .ok (.putfield 59, 3) := dc9_181 (by decide +kernel)
theorem d_TR_readCommand_89 : decode y_TR_readCommand.2.1 89 = .ok (.aload_n 0, 1) := dc9_42 (by decide +kernel)
theorem d_TR_readCommand_90 : decode y_TR_readCommand.2.1 90 = .ok (.getfield 12, 3) := dc9_180 (by decide +kernel)
theorem d_TR_readCommand_93 : decode y_TR_readCommand.2.1 93 = .ok (.iconst 0, 1) := dc9_3 (by decide +kernel)
theorem d_TR_readCommand_94 : decode y_TR_readCommand.2.1 94 = .ok (.putfield 125, 3) := dc9_181 (by decide +kernel)
theorem d_TR_readCommand_97 : decode y_TR_readCommand.2.1 97 = .ok (.aload_n 0, 1) := dc9_42 (by decide +kernel)
theorem d_TR_readCommand_98 : decode y_TR_readCommand.2.1 98 = .ok (.iconst 0, 1) := dc9_3 (by decide +kernel)
theorem d_TR_readCommand_99 : decode y_TR_readCommand.2.1 99 = .ok (.iconst 2, 1) := dc9_5 (by decide +kernel)
theorem d_TR_readCommand_100 : decode y_TR_readCommand.2.1 100 = .ok (.invokevirtual 136, 3) := dc9_182 (by decide +kernel)
theorem d_TR_readCommand_103 : decode y_TR_readCommand.2.1 103 = .ok (.ifCond .eq 15, 3) := dc9_153 (by decide +kernel)
theorem d_TR_readCommand_106 : decode y_TR_readCommand.2.1 106 = .ok (.aload_n 0, 1) := dc9_42 (by decide +kernel)
theorem d_TR_readCommand_107 : decode y_TR_readCommand.2.1 107 = .ok (.getfield 12, 3) := dc9_180 (by decide +kernel)
theorem d_TR_readCommand_110 : decode y_TR_readCommand.2.1 110 = .ok (.bipush 18, 2) := dc9_16 (by decide +kernel)
theorem d_TR_readCommand_118 : decode y_TR_readCommand.2.1 118 = .ok (.iconst 0, 1) := dc9_3 (by decide +kernel)
theorem d_TR_readCommand_119 : decode y_TR_readCommand.2.1 119 = .ok (.ireturn, 1) := dc9_172 (by decide +kernel)
theorem d_TR_readCommand_112 : decode y_TR_readCommand.2.1 112 = .ok (.invokevirtual 102, 3) := dc9_182 (by decide +kernel)
theorem d_TR_readCommand_115 : decode y_TR_readCommand.2.1 115 = .ok (.ifCond .ne 5, 3) := dc9_154 (by decide +kernel)
theorem d_TR_readCommand_120 : decode y_TR_readCommand.2.1 120 = .ok (.aload_n 0, 1) := dc9_42 (by decide +kernel)
theorem d_TR_readCommand_121 : decode y_TR_readCommand.2.1 121 = .ok (.getfield 36, 3) := dc9_180 (by decide +kernel)
theorem d_TR_readCommand_124 : decode y_TR_readCommand.2.1 124 = .ok (.getfield 201, 3) := dc9_180 (by decide +kernel)
theorem d_TR_readCommand_127 : decode y_TR_readCommand.2.1 127 = .ok (.iload_n 2, 1) := dc9_28 (by decide +kernel)
theorem d_TR_readCommand_128 : decode y_TR_readCommand.2.1 128 = .ok (.aload_n 0, 1) := dc9_42 (by decide +kernel)
theorem d_TR_readCommand_129 : decode y_TR_readCommand.2.1 129 = .ok (.getfield 25, 3) := dc9_180 (by decide +kernel)
theorem d_TR_readCommand_132 : decode y_TR_readCommand.2.1 132 = .ok (.iconst 0, 1) := dc9_3 (by decide +kernel)
theorem d_TR_readCommand_133 : decode y_TR_readCommand.2.1 133 = .ok (.iaload, 1) := dc9_46 (by decide +kernel)
theorem d_TR_readCommand_134 : decode y_TR_readCommand.2.1 134 = .ok (.iastore, 1) := dc9_79 (by decide +kernel)
theorem d_TR_readCommand_135 : decode y_TR_readCommand.2.1 135 = .ok (.aload_n 0, 1) := dc9_42 (by decide +kernel)
theorem d_TR_readCommand_136 : decode y_TR_readCommand.2.1 136 = .ok (.getfield 36, 3) := dc9_180 (by decide +kernel)
theorem d_TR_readCommand_139 : decode y_TR_readCommand.2.1 139 = .ok (.getfield 204, 3) := dc9_180 (by decide +kernel)
theorem d_TR_readCommand_142 : decode y_TR_readCommand.2.1 142 = .ok (.iload_n 2, 1) := dc9_28 (by decide +kernel)
theorem d_TR_readCommand_143 : decode y_TR_readCommand.2.1 143 = .ok (.iconst 1, 1) := dc9_4 (by decide +kernel)
theorem d_TR_readCommand_144 : decode y_TR_readCommand.2.1 144 = .ok (.iadd, 1) := dc9_96 (by decide +kernel)
theorem d_TR_readCommand_145 : decode y_TR_readCommand.2.1 145 = .ok (.aload_n 0, 1) := dc9_42 (by decide +kernel)
theorem d_TR_readCommand_146 : decode y_TR_readCommand.2.1 146 = .ok (.getfield 36, 3) := dc9_180 (by decide +kernel)
theorem d_TR_readCommand_149 : decode y_TR_readCommand.2.1 149 = .ok (.getfield 204, 3) := dc9_180 (by decide +kernel)
theorem d_TR_readCommand_152 : decode y_TR_readCommand.2.1 152 = .ok (.iload_n 2, 1) := dc9_28 (by decide +kernel)
theorem d_TR_readCommand_153 : decode y_TR_readCommand.2.1 153 = .ok (.iaload, 1) := dc9_46 (by decide +kernel)
theorem d_TR_readCommand_154 : decode y_TR_readCommand.2.1 154 = .ok (.iastore, 1) := dc9_79 (by decide +kernel)
theorem d_TR_readCommand_155 : decode y_TR_readCommand.2.1 155 = .ok (.iconst 1, 1) := dc9_4 (by decide +kernel)
theorem d_TR_readCommand_156 : decode y_TR_readCommand.2.1 156 = .ok (.istore_n 3, 1) := dc9_62 (by decide +kernel)
theorem d_TR_readCommand_157 : decode y_TR_readCommand.2.1 157 = .ok (.iconst 0, 1) := dc9_3 (by decide +kernel)
theorem d_TR_readCommand_158 : decode y_TR_readCommand.2.1 158 = .ok (.istore 4, 2) := dc9_54 (by decide +kernel)
theorem d_TR_readCommand_160 : decode y_TR_readCommand.2.1 160 = .ok (.iload 4, 2) := dc9_21 (by decide +kernel)
theorem d_TR_readCommand_162 : decode y_TR_readCommand.2.1 162 = .ok (.aload_n 0, 1) := dc9_42 (by decide +kernel)
theorem d_TR_readCommand_163 : decode y_TR_readCommand.2.1 163 = .ok (.getfield 12, 3) := dc9_180 (by decide +kernel)
theorem d_TR_readCommand_166 : decode y_TR_readCommand.2.1 166 = .ok (.getfield 109, 3) := dc9_180 (by decide +kernel)
theorem d_TR_readCommand_169 : decode y_TR_readCommand.2.1 169 = .ok (.getfield 40, 3) := dc9_180 (by decide +kernel)
theorem d_TR_readCommand_172 : decode y_TR_readCommand.2.1 172 = .ok (.if_icmp .ge 87, 3) := dc9_162 (by decide +kernel)
theorem d_TR_readCommand_175 : decode y_TR_readCommand.2.1 175 = .ok (.iload_n 3, 1) := dc9_29 (by decide +kernel)
theorem d_TR_readCommand_176 : decode y_TR_readCommand.2.1 176 = .ok (.ifCond .eq 83, 3) := dc9_153 (by decide +kernel)
theorem d_TR_readCommand_179 : decode y_TR_readCommand.2.1 179 = .ok (.iload 4, 2) := dc9_21 (by decide +kernel)
theorem d_TR_readCommand_181 : decode y_TR_readCommand.2.1 181 = .ok (.bipush 8, 2) := dc9_16 (by decide +kernel)
theorem d_TR_readCommand_183 : decode y_TR_readCommand.2.1 183 = .ok (.if_icmp .lt 18, 3) := dc9_161 (by decide +kernel)
theorem d_TR_readCommand_186 : decode y_TR_readCommand.2.1 186 = .ok (.aload_n 0, 1) := dc9_42 (by decide +kernel)
theorem d_TR_readCommand_187 : decode y_TR_readCommand.2.1 187 = .ok (.getfield 12, 3) := dc9_180 (by decide +kernel)
theorem d_TR_readCommand_190 : decode y_TR_readCommand.2.1 190 = .ok (.iconst 5, 1) := dc9_8 (by decide +kernel)
theorem d_TR_readCommand_191 : decode y_TR_readCommand.2.1 191 = .ok (.aload_n 0, 1) := dc9_42 (by decide +kernel)
theorem d_TR_readCommand_192 : decode y_TR_readCommand.2.1 192 = .ok (.getfield 12, 3) := dc9_180 (by decide +kernel)
theorem d_TR_readCommand_259 : decode y_TR_readCommand.2.1 259 = .ok (.aload_n 0, 1) := dc9_42 (by decide +kernel)
theorem d_TR_readCommand_260 : decode y_TR_readCommand.2.1 260 = .ok (.getfield 36, 3) := dc9_180 (by decide +kernel)
theorem d_TR_readCommand_263 : decode y_TR_readCommand.2.1 263 = .ok (.iload_n 2, 1) := dc9_28 (by decide +kernel)
theorem d_TR_readCommand_264 : decode y_TR_readCommand.2.1 264 = .ok (.iconst 1, 1) := dc9_4 (by decide +kernel)
theorem d_TR_readCommand_265 : decode y_TR_readCommand.2.1 265 = .ok (.iadd, 1) := dc9_96 (by decide +kernel)
theorem d_TR_readCommand_266 : decode y_TR_readCommand.2.1 266 = .ok (.putfield 187, 3) := dc9_181 (by decide +kernel)
theorem d_TR_readCommand_269 : decode y_TR_readCommand.2.1 269 = .ok (.aload_n 0, 1) := dc9_42 (by decide +kernel)
theorem d_TR_readCommand_270 : decode y_TR_readCommand.2.1 270 = .ok (.getfield 12, 3) := dc9_180 (by decide +kernel)
theorem d_TR_readCommand_273 : decode y_TR_readCommand.2.1 273 = .ok (.bipush 35, 2) := dc9_16 (by decide +kernel)
theorem d_TR_readCommand_275 : decode y_TR_readCommand.2.1 275 = .ok (.invokevirtual 102, 3) := dc9_182 (by decide +kernel)
theorem d_TR_readCommand_278 : decode y_TR_readCommand.2.1 278 = .ok (.ireturn, 1) := dc9_172 (by decide +kernel)
theorem d_TR_readCommand_195 : decode y_TR_readCommand.2.1 195 = .ok (.invokevirtual 79, 3) := dc9_182 (by decide +kernel)
theorem d_TR_readCommand_198 : decode y_TR_readCommand.2.1 198 = .ok (.invokevirtual 95, 3) := dc9_182 (by decide +kernel)
theorem d_TR_readCommand_201 : decode y_TR_readCommand.2.1 201 = .ok (.aload_n 0, 1) := dc9_42 (by decide +kernel)
theorem d_TR_readCommand_202 : decode y_TR_readCommand.2.1 202 = .ok (.iload_n 2, 1) := dc9_28 (by decide +kernel)
theorem d_TR_readCommand_203 : decode y_TR_readCommand.2.1 203 = .ok (.invokevirtual 207, 3) := dc9_182 (by decide +kernel)
theorem d_TR_readCommand_206 : decode y_TR_readCommand.2.1 206 = .ok (.ifCond .eq 10, 3) := dc9_153 (by decide +kernel)
theorem d_TR_readCommand_209 : decode y_TR_readCommand.2.1 209 = .ok (.aload_n 0, 1) := dc9_42 (by decide +kernel)
theorem d_TR_readCommand_216 : decode y_TR_readCommand.2.1 216 = .ok (.iconst 0, 1) := dc9_3 (by decide +kernel)
theorem d_TR_readCommand_217 : decode y_TR_readCommand.2.1 217 = .ok (.ireturn, 1) := dc9_172 (by decide +kernel)
theorem d_TR_readCommand_210 : decode y_TR_readCommand.2.1 210 = .ok (.invokevirtual 210, 3) := dc9_182 (by decide +kernel)
theorem d_TR_readCommand_213 : decode y_TR_readCommand.2.1 213 = .ok (.ifCond .ne 5, 3) := dc9_154 (by decide +kernel)
theorem d_TR_readCommand_218 : decode y_TR_readCommand.2.1 218 = .ok (.aload_n 0, 1) := dc9_42 (by decide +kernel)
theorem d_TR_readCommand_219 : decode y_TR_readCommand.2.1 219 = .ok (.getfield 12, 3) := dc9_180 (by decide +kernel)
theorem d_TR_readCommand_222 : decode y_TR_readCommand.2.1 222 = .ok (.getfield 76, 3) := dc9_180 (by decide +kernel)
theorem d_TR_readCommand_225 : decode y_TR_readCommand.2.1 225 = .ok (.ifCond .ne 18, 3) := dc9_154 (by decide +kernel)
theorem d_TR_readCommand_228 : decode y_TR_readCommand.2.1 228 = .ok (.aload_n 0, 1) := dc9_42 (by decide +kernel)
theorem d_TR_readCommand_229 : decode y_TR_readCommand.2.1 229 = .ok (.getfield 36, 3) := dc9_180 (by decide +kernel)
theorem d_TR_readCommand_232 : decode y_TR_readCommand.2.1 232 = .ok (.getfield 204, 3) := dc9_180 (by decide +kernel)
theorem d_TR_readCommand_235 : decode y_TR_readCommand.2.1 235 = .ok (.iload_n 2, 1) := dc9_28 (by decide +kernel)
theorem d_TR_readCommand_236 : decode y_TR_readCommand.2.1 236 = .ok (.iconst 1, 1) := dc9_4 (by decide +kernel)
theorem d_TR_readCommand_237 : decode y_TR_readCommand.2.1 237 = .ok (.iadd, 1) := dc9_96 (by decide +kernel)
theorem d_TR_readCommand_238 : decode y_TR_readCommand.2.1 238 = .ok (.dup2, 1) := dc9_92 (by decide +kernel)
theorem d_TR_readCommand_239 : decode y_TR_readCommand.2.1 239 = .ok (.iaload, 1) := dc9_46 (by decide +kernel)
theorem d_TR_readCommand_240 : decode y_TR_readCommand.2.1 240 = .ok (.iconst 1, 1) := dc9_4 (by decide +kernel)
theorem d_TR_readCommand_241 : decode y_TR_readCommand.2.1 241 = .ok (.iadd, 1) := dc9_96 (by decide +kernel)
theorem d_TR_readCommand_242 : decode y_TR_readCommand.2.1 242 = .ok (.iastore, 1) := dc9_79 (by decide +kernel)
theorem d_TR_readCommand_243 : decode y_TR_readCommand.2.1 243 = .ok (.aload_n 0, 1) := dc9_42 (by decide +kernel)
theorem d_TR_readCommand_244 : decode y_TR_readCommand.2.1 244 = .ok (.getfield 12, 3) := dc9_180 (by decide +kernel)
theorem d_TR_readCommand_247 : decode y_TR_readCommand.2.1 247 = .ok (.bipush 25, 2) := dc9_16 (by decide +kernel)
theorem d_TR_readCommand_249 : decode y_TR_readCommand.2.1 249 = .ok (.invokevirtual 102, 3) := dc9_182 (by decide +kernel)
theorem d_TR_readCommand_252 : decode y_TR_readCommand.2.1 252 = .ok (.istore_n 3, 1) := dc9_62 (by decide +kernel)
theorem d_TR_readCommand_253 : decode y_TR_readCommand.2.1 253 = .ok (.iinc 4 1, 3) := by decide +kernel
theorem d_TR_readCommand_256 : decode y_TR_readCommand.2.1 256 = .ok (.goto (-96), 3) := dc9_167 (by decide +kernel)
def h_TR_readCommand_27 (G : mG) (d : Nat) (a0 : Nat) (l1 : Int) (M : mM) (Q : Int → mM → Prop) : Prop := mWm G y_TR_readCommand (d + 1) 27 [vr a0, vi l1, vd, vd, vd] [] M (fun r9 M9 => ∃ x9, r9 = some (vi x9) ∧ Q x9 M9)
def h_TR_readCommand_160 (G : mG) (d : Nat) (a0 : Nat) (l2 : Int) (l3 : Int) (l4 : Int) (M : mM) (Q : Int → mM → Prop) : Prop := mWm G y_TR_readCommand (d + 1) 160 [vr a0, vd, vi l2, vi l3, vi l4] [] M (fun r9 M9 => ∃ x9, r9 = some (vi x9) ∧ Q x9 M9)
def h_TR_readCommand_201 (G : mG) (d : Nat) (a0 : Nat) (l2 : Int) (l4 : Int) (M : mM) (Q : Int → mM → Prop) : Prop := mWm G y_TR_readCommand (d + 1) 201 [vr a0, vd, vi l2, vd, vi l4] [] M (fun r9 M9 => ∃ x9, r9 = some (vi x9) ∧ Q x9 M9)
theorem k_TR_readCommand {G : mG} {d : Nat} {a0 : Nat} {l1 : Int} {M : mM} {Q : Int → mM → Prop} (hO : mOk M) (hi_l1 : i32 l1)
    (h : mK M a0 = 3 ∧ mK M (mR M a0 2) = 6 ∧ ((mI M (mR M a0 2) 12 < 60) → (h_TR_readCommand_27 G d a0 l1 M Q)) ∧ (¬ (mI M (mR M a0 2) 12 < 60) → (mK M (mR M a0 0) = 4 ∧ Ci G y_RR_here d [vr (mR M a0 0)] M (fun x7 M6 => i32 x7 ∧ mOk M6 ∧ (mK M6 (mR M a0 0) = 4 ∧ Cv G y_RR_note d [vr (mR M a0 0), vi 5, vi x7] M6 (fun M10 => mOk M10 ∧ (h_TR_readCommand_27 G d a0 l1 M10 Q))))))) :
    Ci G y_TR_readCommand (d + 1) [vr a0, vi l1] M Q := by
  refine wm_open (y := y_TR_readCommand) rfl (Nat.le_of_ble_eq_true rfl) (L := [vr a0, vi l1, vd, vd, vd]) rfl ?_
  obtain ⟨h1, h⟩ := h
  obtain ⟨h2, h⟩ := h
  refine wm_aload_n d_TR_readCommand_0 rfl rfl ?_
  refine gf_TR_36 rfl d_TR_readCommand_1 h1 ?_
  refine gf_TR_187 rfl d_TR_readCommand_4 h2 ?_
  refine wm_bipush d_TR_readCommand_7 (by decide) ?_
  refine wm_icmp_lt (tgt := 27) d_TR_readCommand_9 rfl (hO _ _).1 ⟨by decide, by decide⟩ (fun c4 => ?_) (fun c4 => ?_)
  · replace h := h.1 c4
    exact h
  · replace h := h.2 c4
    obtain ⟨h5, h⟩ := h
    refine wm_aload_n d_TR_readCommand_12 rfl rfl ?_
    refine gf_TR_12 rfl d_TR_readCommand_13 h1 ?_
    refine wm_iconst d_TR_readCommand_16 ?_
    refine wm_aload_n d_TR_readCommand_17 rfl rfl ?_
    refine gf_TR_12 rfl d_TR_readCommand_18 h1 ?_
    refine cf_TR_79 rfl d_TR_readCommand_21 h5 (Nat.le_of_ble_eq_true rfl) (Ci.mono h (fun x7 M6 h => ?_))
    obtain ⟨h8, hOM6, h⟩ := h
    obtain ⟨h9, h⟩ := h
    refine cf_TR_95 rfl d_TR_readCommand_24 h9 (Nat.le_of_ble_eq_true rfl) (Cv.mono h (fun M10 h => ?_))
    obtain ⟨hOM10, h⟩ := h
    exact h
theorem k_TR_readCommand_27 {G : mG} {d : Nat} {a0 : Nat} {l1 : Int} {M : mM} {Q : Int → mM → Prop} (hO : mOk M) (hi_l1 : i32 l1)
    (h : mK M a0 = 3 ∧ mK M (mR M a0 2) = 6 ∧ ∀ v16 : Int, v16 = (if (l1 = 8) then 1 else 2) → mK M (mR M (mR M a0 2) 13) = 30 ∧ ((0 : Int) ≤ (if 59 < mI M (mR M a0 2) 12 then 59 else mI M (mR M a0 2) 12) ∧ (if 59 < mI M (mR M a0 2) 12 then 59 else mI M (mR M a0 2) 12) < (mN M (mR M (mR M a0 2) 13) : Int)) ∧ ∀ M22, M22 = mUI M (mR M (mR M a0 2) 13) (Int.toNat (if 59 < mI M (mR M a0 2) 12 then 59 else mI M (mR M a0 2) 12)) v16 → mK M22 (mR M22 a0 2) = 6 ∧ mK M22 (mR M22 a0 0) = 4 ∧ Ci G y_RR_here d [vr (mR M22 a0 0)] M22 (fun x27 M26 => i32 x27 ∧ mOk M26 ∧ (mK M26 (mR M22 (mR M22 a0 2) 14) = 30 ∧ ((0 : Int) ≤ (if 59 < mI M (mR M a0 2) 12 then 59 else mI M (mR M a0 2) 12) ∧ (if 59 < mI M (mR M a0 2) 12 then 59 else mI M (mR M a0 2) 12) < (mN M26 (mR M22 (mR M22 a0 2) 14) : Int)) ∧ ∀ M31, M31 = mUI M26 (mR M22 (mR M22 a0 2) 14) (Int.toNat (if 59 < mI M (mR M a0 2) 12 then 59 else mI M (mR M a0 2) 12)) x27 → mK M31 a0 = 3 ∧ mK M31 (mR M31 a0 0) = 4 ∧ i32 ((mI M31 (mR M31 a0 0) 2) + 1) ∧ ∀ M36, M36 = mUI M31 (mR M31 a0 0) 2 ((mI M31 (mR M31 a0 0) 2) + 1) → mK M36 (mR M36 a0 0) = 4 ∧ ∀ M39, M39 = mUI M36 (mR M36 a0 0) 6 0 → Ci G y_TR_readItemRule d [vr a0, vi 0, vi 2] M39 (fun x42 M41 => i32 x42 ∧ mOk M41 ∧ (((x42 = 0) → (Q 0 M41)) ∧ (¬ (x42 = 0) → (mK M41 a0 = 3 ∧ mK M41 (mR M41 a0 0) = 4 ∧ Ci G y_RR_accept d [vr (mR M41 a0 0), vi 18] M41 (fun x49 M48 => i32 x49 ∧ mOk M48 ∧ (((x49 = 0) → (Q 0 M48)) ∧ (¬ (x49 = 0) → (mK M48 a0 = 3 ∧ mK M48 (mR M48 a0 2) = 6 ∧ mK M48 (mR M48 a0 5) = 30 ∧ ((0 : Int) ≤ 0 ∧ 0 < (mN M48 (mR M48 a0 5) : Int)) ∧ mK M48 (mR M48 (mR M48 a0 2) 15) = 30 ∧ ((0 : Int) ≤ (if 59 < mI M (mR M a0 2) 12 then 59 else mI M (mR M a0 2) 12) ∧ (if 59 < mI M (mR M a0 2) 12 then 59 else mI M (mR M a0 2) 12) < (mN M48 (mR M48 (mR M48 a0 2) 15) : Int)) ∧ ∀ M59, M59 = mUI M48 (mR M48 (mR M48 a0 2) 15) (Int.toNat (if 59 < mI M (mR M a0 2) 12 then 59 else mI M (mR M a0 2) 12)) (mI M48 (mR M48 a0 5) 0) → mK M59 (mR M59 a0 2) = 6 ∧ mK M59 (mR M59 (mR M59 a0 2) 16) = 30 ∧ ((0 : Int) ≤ (if 59 < mI M (mR M a0 2) 12 then 59 else mI M (mR M a0 2) 12) ∧ (if 59 < mI M (mR M a0 2) 12 then 59 else mI M (mR M a0 2) 12) < (mN M59 (mR M59 (mR M59 a0 2) 16) : Int)) ∧ ((0 : Int) ≤ (if 59 < mI M (mR M a0 2) 12 then 59 else mI M (mR M a0 2) 12) + 1 ∧ (if 59 < mI M (mR M a0 2) 12 then 59 else mI M (mR M a0 2) 12) + 1 < (mN M59 (mR M59 (mR M59 a0 2) 16) : Int)) ∧ ∀ M65, M65 = mUI M59 (mR M59 (mR M59 a0 2) 16) (Int.toNat ((if 59 < mI M (mR M a0 2) 12 then 59 else mI M (mR M a0 2) 12) + 1)) (mI M59 (mR M59 (mR M59 a0 2) 16) (Int.toNat (if 59 < mI M (mR M a0 2) 12 then 59 else mI M (mR M a0 2) 12))) → h_TR_readCommand_160 G d a0 (if 59 < mI M (mR M a0 2) 12 then 59 else mI M (mR M a0 2) 12) 1 0 M65 Q))))))))))) :
    h_TR_readCommand_27 G d a0 l1 M Q := by
  unfold h_TR_readCommand_27
  obtain ⟨h13, h⟩ := h
  obtain ⟨h14, h⟩ := h
  refine wm_aload_n d_TR_readCommand_27 rfl rfl ?_
  refine gf_TR_36 rfl d_TR_readCommand_28 h13 ?_
  refine gf_TR_187 rfl d_TR_readCommand_31 h14 ?_
  refine wm_bipush d_TR_readCommand_34 (by decide) ?_
  refine wm_mmin k5_15 (Nat.le_of_ble_eq_true rfl) (hO _ _).1 ⟨by decide, by decide⟩ d_TR_readCommand_36 ?_
  refine wm_istore_n d_TR_readCommand_39 rfl (by decide) (L' := [vr a0, vi l1, vi (if 59 < mI M (mR M a0 2) 12 then 59 else mI M (mR M a0 2) 12), vd, vd]) rfl ?_
  refine wm_aload_n d_TR_readCommand_40 rfl rfl ?_
  refine gf_TR_36 rfl d_TR_readCommand_41 h13 ?_
  refine gf_TR_195 rfl d_TR_readCommand_44 h14 ?_
  refine wm_iload_n d_TR_readCommand_47 rfl rfl ?_
  refine wm_iload_n d_TR_readCommand_48 rfl rfl ?_
  refine wm_bipush d_TR_readCommand_49 (by decide) ?_
  have hJ : ∀ v16 : Int, v16 = (if (l1 = 8) then 1 else 2) → mWm G y_TR_readCommand (d + 1) 59 [vr a0, vd, vi (if 59 < mI M (mR M a0 2) 12 then 59 else mI M (mR M a0 2) 12), vd, vd] [vi v16, vi (if 59 < mI M (mR M a0 2) 12 then 59 else mI M (mR M a0 2) 12), vr (mR M (mR M a0 2) 13)] M (fun r9 M9 => ∃ x9, r9 = some (vi x9) ∧ Q x9 M9) := by
    intro v16 e18
    have h := h v16 e18
    have h19 : i32 v16 := by rw [e18]; (repeat' split) <;> first | exact ⟨by decide, by decide⟩ | exact ⟨by decide, by decide⟩
    obtain ⟨h20, h⟩ := h
    obtain ⟨h21, h⟩ := h
    obtain ⟨M22, e23⟩ : ∃ M22, M22 = mUI M (mR M (mR M a0 2) 13) (Int.toNat (if 59 < mI M (mR M a0 2) 12 then 59 else mI M (mR M a0 2) 12)) v16 := ⟨_, rfl⟩
    replace h := h M22 e23
    obtain ⟨h24, h⟩ := h
    obtain ⟨h25, h⟩ := h
    have hOM22 : mOk M22 := by rw [e23]; exact mOk_UI hO h19
    refine wm_iastE d_TR_readCommand_59 h20 h21 h19 e23 ?_
    refine wm_aload_n d_TR_readCommand_60 rfl rfl ?_
    refine gf_TR_36 rfl d_TR_readCommand_61 (by rw [e23]; exact h13) ?_
    refine gf_TR_198 rfl d_TR_readCommand_64 h24 ?_
    refine wm_iload_n d_TR_readCommand_67 rfl rfl ?_
    refine wm_aload_n d_TR_readCommand_68 rfl rfl ?_
    refine gf_TR_12 rfl d_TR_readCommand_69 (by rw [e23]; exact h13) ?_
    refine cf_TR_79 rfl d_TR_readCommand_72 h25 (Nat.le_of_ble_eq_true rfl) (Ci.mono h (fun x27 M26 h => ?_))
    obtain ⟨h28, hOM26, h⟩ := h
    obtain ⟨h29, h⟩ := h
    obtain ⟨h30, h⟩ := h
    obtain ⟨M31, e32⟩ : ∃ M31, M31 = mUI M26 (mR M22 (mR M22 a0 2) 14) (Int.toNat (if 59 < mI M (mR M a0 2) 12 then 59 else mI M (mR M a0 2) 12)) x27 := ⟨_, rfl⟩
    replace h := h M31 e32
    obtain ⟨h33, h⟩ := h
    obtain ⟨h34, h⟩ := h
    obtain ⟨h35, h⟩ := h
    obtain ⟨M36, e37⟩ : ∃ M36, M36 = mUI M31 (mR M31 a0 0) 2 ((mI M31 (mR M31 a0 0) 2) + 1) := ⟨_, rfl⟩
    replace h := h M36 e37
    obtain ⟨h38, h⟩ := h
    obtain ⟨M39, e40⟩ : ∃ M39, M39 = mUI M36 (mR M36 a0 0) 6 0 := ⟨_, rfl⟩
    replace h := h M39 e40
    have hOM31 : mOk M31 := by rw [e32]; exact mOk_UI hOM26 h28
    refine wm_iastE d_TR_readCommand_75 h29 h30 h28 e32 ?_
    refine wm_aload_n d_TR_readCommand_76 rfl rfl ?_
    refine gf_TR_12 rfl d_TR_readCommand_77 h33 ?_
    refine wm_dup d_TR_readCommand_80 rfl ?_
    refine gf_TR_59 rfl d_TR_readCommand_81 h34 ?_
    refine wm_iconst d_TR_readCommand_84 ?_
    refine wm_iadd d_TR_readCommand_85 ?_
    have hOM36 : mOk M36 := by rw [e37]; exact mOk_UI hOM31 h35
    refine pf_TR_59 rfl d_TR_readCommand_86 h34 h35 e37 ?_
    refine wm_aload_n d_TR_readCommand_89 rfl rfl ?_
    refine gf_TR_12 rfl d_TR_readCommand_90 (by rw [e37]; exact h33) ?_
    refine wm_iconst d_TR_readCommand_93 ?_
    have hOM39 : mOk M39 := by rw [e40]; exact mOk_UI hOM36 (m_b32 (by decide))
    refine pf_TR_125 rfl d_TR_readCommand_94 h38 (by decide) e40 ?_
    refine wm_aload_n d_TR_readCommand_97 rfl rfl ?_
    refine wm_iconst d_TR_readCommand_98 ?_
    refine wm_iconst d_TR_readCommand_99 ?_
    refine cf_TR_136 rfl d_TR_readCommand_100 (by rw [e40, e37]; exact h33) (Nat.le_of_ble_eq_true rfl) (Ci.mono h (fun x42 M41 h => ?_))
    obtain ⟨h43, hOM41, h⟩ := h
    refine wm_if_eq (tgt := 118) d_TR_readCommand_103 rfl h43 (fun c45 => ?_) (fun c45 => ?_)
    · replace h := h.1 c45
      refine wm_iconst d_TR_readCommand_118 ?_
      refine wm_ireturn d_TR_readCommand_119 rfl (m_nb (by decide)) ?_
      exact ⟨_, rfl, h⟩
    · replace h := h.2 c45
      obtain ⟨h46, h⟩ := h
      obtain ⟨h47, h⟩ := h
      refine wm_aload_n d_TR_readCommand_106 rfl rfl ?_
      refine gf_TR_12 rfl d_TR_readCommand_107 h46 ?_
      refine wm_bipush d_TR_readCommand_110 (by decide) ?_
      refine cf_TR_102 rfl d_TR_readCommand_112 h47 (Nat.le_of_ble_eq_true rfl) (Ci.mono h (fun x49 M48 h => ?_))
      obtain ⟨h50, hOM48, h⟩ := h
      refine wm_if_ne (tgt := 120) d_TR_readCommand_115 rfl h50 (fun c52 => ?_) (fun c52 => ?_)
      · replace h := h.2 c52
        obtain ⟨h53, h⟩ := h
        obtain ⟨h54, h⟩ := h
        obtain ⟨h55, h⟩ := h
        obtain ⟨h56, h⟩ := h
        obtain ⟨h57, h⟩ := h
        obtain ⟨h58, h⟩ := h
        obtain ⟨M59, e60⟩ : ∃ M59, M59 = mUI M48 (mR M48 (mR M48 a0 2) 15) (Int.toNat (if 59 < mI M (mR M a0 2) 12 then 59 else mI M (mR M a0 2) 12)) (mI M48 (mR M48 a0 5) 0) := ⟨_, rfl⟩
        replace h := h M59 e60
        obtain ⟨h61, h⟩ := h
        obtain ⟨h62, h⟩ := h
        obtain ⟨h63, h⟩ := h
        obtain ⟨h64, h⟩ := h
        obtain ⟨M65, e66⟩ : ∃ M65, M65 = mUI M59 (mR M59 (mR M59 a0 2) 16) (Int.toNat ((if 59 < mI M (mR M a0 2) 12 then 59 else mI M (mR M a0 2) 12) + 1)) (mI M59 (mR M59 (mR M59 a0 2) 16) (Int.toNat (if 59 < mI M (mR M a0 2) 12 then 59 else mI M (mR M a0 2) 12))) := ⟨_, rfl⟩
        replace h := h M65 e66
        refine wm_aload_n d_TR_readCommand_120 rfl rfl ?_
        refine gf_TR_36 rfl d_TR_readCommand_121 h53 ?_
        refine gf_TR_201 rfl d_TR_readCommand_124 h54 ?_
        refine wm_iload_n d_TR_readCommand_127 rfl rfl ?_
        refine wm_aload_n d_TR_readCommand_128 rfl rfl ?_
        refine gf_TR_25 rfl d_TR_readCommand_129 h53 ?_
        refine wm_iconst d_TR_readCommand_132 ?_
        refine wm_iald d_TR_readCommand_133 h55 h56 ?_
        have hOM59 : mOk M59 := by rw [e60]; exact mOk_UI hOM48 (hOM48 _ _).1
        refine wm_iastE d_TR_readCommand_134 h57 h58 (hOM48 _ _).1 e60 ?_
        refine wm_aload_n d_TR_readCommand_135 rfl rfl ?_
        refine gf_TR_36 rfl d_TR_readCommand_136 (by rw [e60]; exact h53) ?_
        refine gf_TR_204 rfl d_TR_readCommand_139 h61 ?_
        refine wm_iload_n d_TR_readCommand_142 rfl rfl ?_
        refine wm_iconst d_TR_readCommand_143 ?_
        refine wm_iadd d_TR_readCommand_144 ?_
        refine wm_aload_n d_TR_readCommand_145 rfl rfl ?_
        refine gf_TR_36 rfl d_TR_readCommand_146 (by rw [e60]; exact h53) ?_
        refine gf_TR_204 rfl d_TR_readCommand_149 h61 ?_
        refine wm_iload_n d_TR_readCommand_152 rfl rfl ?_
        refine wm_iald d_TR_readCommand_153 h62 h63 ?_
        have hOM65 : mOk M65 := by rw [e66]; exact mOk_UI hOM59 (hOM59 _ _).1
        refine wm_iastE d_TR_readCommand_154 h62 h64 (hOM59 _ _).1 e66 ?_
        refine wm_iconst d_TR_readCommand_155 ?_
        refine wm_istore_n d_TR_readCommand_156 rfl (by decide) (L' := [vr a0, vd, vi (if 59 < mI M (mR M a0 2) 12 then 59 else mI M (mR M a0 2) 12), vi 1, vd]) rfl ?_
        refine wm_iconst d_TR_readCommand_157 ?_
        refine wm_istore d_TR_readCommand_158 (by decide) (L' := [vr a0, vd, vi (if 59 < mI M (mR M a0 2) 12 then 59 else mI M (mR M a0 2) 12), vi 1, vi 0]) rfl ?_
        exact h
      · replace c52 := Classical.not_not.mp c52
        replace h := h.1 c52
        refine wm_iconst d_TR_readCommand_118 ?_
        refine wm_ireturn d_TR_readCommand_119 rfl (m_nb (by decide)) ?_
        exact ⟨_, rfl, h⟩
  clear h
  refine wm_icmp_ne (tgt := 58) d_TR_readCommand_51 rfl hi_l1 ⟨by decide, by decide⟩ (fun c15 => ?_) (fun c15 => ?_)
  · refine wm_iconst d_TR_readCommand_58 ?_
    refine wm_less (L' := [vr a0, vd, vi (if 59 < mI M (mR M a0 2) 12 then 59 else mI M (mR M a0 2) 12), vd, vd]) ⟨Or.inr rfl, Or.inl rfl, Or.inr rfl, Or.inl rfl, Or.inl rfl, trivial⟩ ?_
    exact hJ 2 (if_neg c15).symm
  · replace c15 := Classical.not_not.mp c15
    refine wm_iconst d_TR_readCommand_54 ?_
    refine wm_goto (tgt := 59) d_TR_readCommand_55 rfl ?_
    refine wm_less (L' := [vr a0, vd, vi (if 59 < mI M (mR M a0 2) 12 then 59 else mI M (mR M a0 2) 12), vd, vd]) ⟨Or.inr rfl, Or.inl rfl, Or.inr rfl, Or.inl rfl, Or.inl rfl, trivial⟩ ?_
    exact hJ 1 (if_pos c15).symm
theorem k_TR_readCommand_160 {G : mG} {d : Nat} {a0 : Nat} {l2 : Int} {l3 : Int} {l4 : Int} {M : mM} {Q : Int → mM → Prop} (hO : mOk M) (hi_l2 : i32 l2) (hi_l3 : i32 l3) (hi_l4 : i32 l4)
    (h : mK M a0 = 3 ∧ mK M (mR M a0 0) = 4 ∧ mK M (mR M (mR M a0 0) 0) = 2 ∧ (((mI M (mR M (mR M a0 0) 0) 2 ≤ l4) ∨ (l3 = 0)) → (mK M (mR M a0 2) = 6 ∧ i32 (l2 + 1) ∧ ∀ M78, M78 = mUI M (mR M a0 2) 12 (l2 + 1) → mK M78 (mR M78 a0 0) = 4 ∧ Ci G y_RR_accept d [vr (mR M78 a0 0), vi 35] M78 (fun x82 M81 => i32 x82 ∧ mOk M81 ∧ ((x82 = 0 ∨ x82 = 1) ∧ Q x82 M81)))) ∧ (¬ ((mI M (mR M (mR M a0 0) 0) 2 ≤ l4) ∨ (l3 = 0)) → (((l4 < 8) → (h_TR_readCommand_201 G d a0 l2 l4 M Q)) ∧ (¬ (l4 < 8) → (Ci G y_RR_here d [vr (mR M a0 0)] M (fun x89 M88 => i32 x89 ∧ mOk M88 ∧ (mK M88 (mR M a0 0) = 4 ∧ Cv G y_RR_note d [vr (mR M a0 0), vi 5, vi x89] M88 (fun M92 => mOk M92 ∧ (h_TR_readCommand_201 G d a0 l2 l4 M92 Q))))))))) :
    h_TR_readCommand_160 G d a0 l2 l3 l4 M Q := by
  unfold h_TR_readCommand_160
  obtain ⟨h68, h⟩ := h
  obtain ⟨h69, h⟩ := h
  obtain ⟨h70, h⟩ := h
  refine wm_iload d_TR_readCommand_160 rfl ?_
  refine wm_aload_n d_TR_readCommand_162 rfl rfl ?_
  refine gf_TR_12 rfl d_TR_readCommand_163 h68 ?_
  refine gf_TR_109 rfl d_TR_readCommand_166 h69 ?_
  refine gf_TR_40 rfl d_TR_readCommand_169 h70 ?_
  have hE0 : ((mI M (mR M (mR M a0 0) 0) 2 ≤ l4) ∨ (l3 = 0)) → mWm G y_TR_readCommand (d + 1) 259 [vr a0, vd, vi l2, vi l3, vi l4] [] M (fun r9 M9 => ∃ x9, r9 = some (vi x9) ∧ Q x9 M9) := by
    intro q75
    have h := h.1 q75
    obtain ⟨h76, h⟩ := h
    obtain ⟨h77, h⟩ := h
    obtain ⟨M78, e79⟩ : ∃ M78, M78 = mUI M (mR M a0 2) 12 (l2 + 1) := ⟨_, rfl⟩
    replace h := h M78 e79
    obtain ⟨h80, h⟩ := h
    refine wm_aload_n d_TR_readCommand_259 rfl rfl ?_
    refine gf_TR_36 rfl d_TR_readCommand_260 h68 ?_
    refine wm_iload_n d_TR_readCommand_263 rfl rfl ?_
    refine wm_iconst d_TR_readCommand_264 ?_
    refine wm_iadd d_TR_readCommand_265 ?_
    have hOM78 : mOk M78 := by rw [e79]; exact mOk_UI hO h77
    refine pf_TR_187 rfl d_TR_readCommand_266 h76 h77 e79 ?_
    refine wm_aload_n d_TR_readCommand_269 rfl rfl ?_
    refine gf_TR_12 rfl d_TR_readCommand_270 (by rw [e79]; exact h68) ?_
    refine wm_bipush d_TR_readCommand_273 (by decide) ?_
    refine cf_TR_102 rfl d_TR_readCommand_275 h80 (Nat.le_of_ble_eq_true rfl) (Ci.mono h (fun x82 M81 h => ?_))
    obtain ⟨h83, hOM81, h⟩ := h
    obtain ⟨h84, h⟩ := h
    refine wm_ireturn d_TR_readCommand_278 rfl (m_nb h84) ?_
    exact ⟨_, rfl, h⟩
  have hE1 : ¬ ((mI M (mR M (mR M a0 0) 0) 2 ≤ l4) ∨ (l3 = 0)) → mWm G y_TR_readCommand (d + 1) 179 [vr a0, vd, vi l2, vi l3, vi l4] [] M (fun r9 M9 => ∃ x9, r9 = some (vi x9) ∧ Q x9 M9) := by
    intro q85
    have h := h.2 q85
    refine wm_iload d_TR_readCommand_179 rfl ?_
    refine wm_bipush d_TR_readCommand_181 (by decide) ?_
    refine wm_icmp_lt (tgt := 201) d_TR_readCommand_183 rfl hi_l4 ⟨by decide, by decide⟩ (fun c87 => ?_) (fun c87 => ?_)
    · replace h := h.1 c87
      refine wm_less (L' := [vr a0, vd, vi l2, vd, vi l4]) ⟨Or.inr rfl, Or.inl rfl, Or.inr rfl, Or.inl rfl, Or.inr rfl, trivial⟩ ?_
      exact h
    · replace h := h.2 c87
      refine wm_aload_n d_TR_readCommand_186 rfl rfl ?_
      refine gf_TR_12 rfl d_TR_readCommand_187 h68 ?_
      refine wm_iconst d_TR_readCommand_190 ?_
      refine wm_aload_n d_TR_readCommand_191 rfl rfl ?_
      refine gf_TR_12 rfl d_TR_readCommand_192 h68 ?_
      refine cf_TR_79 rfl d_TR_readCommand_195 h69 (Nat.le_of_ble_eq_true rfl) (Ci.mono h (fun x89 M88 h => ?_))
      obtain ⟨h90, hOM88, h⟩ := h
      obtain ⟨h91, h⟩ := h
      refine cf_TR_95 rfl d_TR_readCommand_198 h91 (Nat.le_of_ble_eq_true rfl) (Cv.mono h (fun M92 h => ?_))
      obtain ⟨hOM92, h⟩ := h
      refine wm_less (L' := [vr a0, vd, vi l2, vd, vi l4]) ⟨Or.inr rfl, Or.inl rfl, Or.inr rfl, Or.inl rfl, Or.inr rfl, trivial⟩ ?_
      exact h
  clear h
  refine wm_icmp_ge (tgt := 259) d_TR_readCommand_172 rfl hi_l4 (hO _ _).1 (fun c73 => ?_) (fun c73 => ?_)
  · exact hE0 (Or.inl c73)
  · refine wm_iload_n d_TR_readCommand_175 rfl rfl ?_
    refine wm_if_eq (tgt := 259) d_TR_readCommand_176 rfl hi_l3 (fun c72 => ?_) (fun c72 => ?_)
    · exact hE0 (Or.inr c72)
    · exact hE1 (fun z95 => Or.elim z95 c73 c72)
theorem k_TR_readCommand_201 {G : mG} {d : Nat} {a0 : Nat} {l2 : Int} {l4 : Int} {M : mM} {Q : Int → mM → Prop} (hO : mOk M) (hi_l2 : i32 l2) (hi_l4 : i32 l4)
    (h : mK M a0 = 3 ∧ Ci G y_TR_readChance d [vr a0, vi l2] M (fun x99 M98 => i32 x99 ∧ mOk M98 ∧ (((x99 = 0) → (Q 0 M98)) ∧ (¬ (x99 = 0) → (mK M98 a0 = 3 ∧ Ci G y_TR_readSets d [vr a0] M98 (fun x105 M104 => i32 x105 ∧ mOk M104 ∧ (((x105 = 0) → (Q 0 M104)) ∧ (¬ (x105 = 0) → (mK M104 a0 = 3 ∧ mK M104 (mR M104 a0 0) = 4 ∧ ((mI M104 (mR M104 a0 0) 3 = 0) → (mK M104 (mR M104 a0 2) = 6 ∧ mK M104 (mR M104 (mR M104 a0 2) 16) = 30 ∧ ((0 : Int) ≤ l2 + 1 ∧ l2 + 1 < (mN M104 (mR M104 (mR M104 a0 2) 16) : Int)) ∧ ((0 : Int) ≤ l2 + 1 ∧ l2 + 1 < (mN M104 (mR M104 (mR M104 a0 2) 16) : Int)) ∧ i32 ((mI M104 (mR M104 (mR M104 a0 2) 16) (Int.toNat (l2 + 1))) + 1))) ∧ ∀ M120 : mM, M120 = (if (mI M104 (mR M104 a0 0) 3 = 0) then (mUI M104 (mR M104 (mR M104 a0 2) 16) (Int.toNat (l2 + 1)) ((mI M104 (mR M104 (mR M104 a0 2) 16) (Int.toNat (l2 + 1))) + 1)) else M104) → mOk M120 ∧ mK M120 (mR M120 a0 0) = 4 ∧ Ci G y_RR_accept d [vr (mR M120 a0 0), vi 25] M120 (fun x126 M125 => i32 x126 ∧ mOk M125 ∧ (h_TR_readCommand_160 G d a0 l2 x126 (l4 + 1) M125 Q))))))))))) :
    h_TR_readCommand_201 G d a0 l2 l4 M Q := by
  unfold h_TR_readCommand_201
  obtain ⟨h97, h⟩ := h
  refine wm_aload_n d_TR_readCommand_201 rfl rfl ?_
  refine wm_iload_n d_TR_readCommand_202 rfl rfl ?_
  refine cf_TR_207 rfl d_TR_readCommand_203 h97 (Nat.le_of_ble_eq_true rfl) (Ci.mono h (fun x99 M98 h => ?_))
  obtain ⟨h100, hOM98, h⟩ := h
  refine wm_if_eq (tgt := 216) d_TR_readCommand_206 rfl h100 (fun c102 => ?_) (fun c102 => ?_)
  · replace h := h.1 c102
    refine wm_iconst d_TR_readCommand_216 ?_
    refine wm_ireturn d_TR_readCommand_217 rfl (m_nb (by decide)) ?_
    exact ⟨_, rfl, h⟩
  · replace h := h.2 c102
    obtain ⟨h103, h⟩ := h
    refine wm_aload_n d_TR_readCommand_209 rfl rfl ?_
    refine cf_TR_210 rfl d_TR_readCommand_210 h103 (Nat.le_of_ble_eq_true rfl) (Ci.mono h (fun x105 M104 h => ?_))
    obtain ⟨h106, hOM104, h⟩ := h
    refine wm_if_ne (tgt := 218) d_TR_readCommand_213 rfl h106 (fun c111 => ?_) (fun c111 => ?_)
    · replace h := h.2 c111
      obtain ⟨h112, h⟩ := h
      obtain ⟨h113, h⟩ := h
      refine wm_aload_n d_TR_readCommand_218 rfl rfl ?_
      refine gf_TR_12 rfl d_TR_readCommand_219 h112 ?_
      refine gf_TR_76 rfl d_TR_readCommand_222 h113 ?_
      obtain ⟨s121, h⟩ := h
      have hJ : ∀ M120 : mM, M120 = (if (mI M104 (mR M104 a0 0) 3 = 0) then (mUI M104 (mR M104 (mR M104 a0 2) 16) (Int.toNat (l2 + 1)) ((mI M104 (mR M104 (mR M104 a0 2) 16) (Int.toNat (l2 + 1))) + 1)) else M104) → mWm G y_TR_readCommand (d + 1) 243 [vr a0, vd, vi l2, vd, vi l4] [] M120 (fun r9 M9 => ∃ x9, r9 = some (vi x9) ∧ Q x9 M9) := by
        intro M120 e122
        have h := h M120 e122
        have h123 : mK M120 = mK M104 := by rw [e122]; (repeat' split) <;> rfl
        obtain ⟨hOM125, h⟩ := h
        obtain ⟨h124, h⟩ := h
        refine wm_aload_n d_TR_readCommand_243 rfl rfl ?_
        refine gf_TR_12 rfl d_TR_readCommand_244 (by rw [h123]; exact h112) ?_
        refine wm_bipush d_TR_readCommand_247 (by decide) ?_
        refine cf_TR_102 rfl d_TR_readCommand_249 h124 (Nat.le_of_ble_eq_true rfl) (Ci.mono h (fun x126 M125 h => ?_))
        obtain ⟨h127, hOM125, h⟩ := h
        refine wm_istore_n d_TR_readCommand_252 rfl (by decide) (L' := [vr a0, vd, vi l2, vi x126, vi l4]) rfl ?_
        refine wm_iinc d_TR_readCommand_253 (by decide) rfl (L' := [vr a0, vd, vi l2, vi x126, vi (l4 + 1)]) rfl ?_
        refine wm_goto (tgt := 160) d_TR_readCommand_256 rfl ?_
        exact h
      clear h
      have s128 := s121
      refine wm_if_ne (tgt := 243) d_TR_readCommand_225 rfl (hOM104 _ _).1 (fun c114 => ?_) (fun c114 => ?_)
      · exact hJ M104 (if_neg c114).symm
      · replace c114 := Classical.not_not.mp c114
        have s128 := s128 c114
        obtain ⟨h115, h116, h117, h118, h119⟩ := s128
        refine wm_aload_n d_TR_readCommand_228 rfl rfl ?_
        refine gf_TR_36 rfl d_TR_readCommand_229 h112 ?_
        refine gf_TR_204 rfl d_TR_readCommand_232 h115 ?_
        refine wm_iload_n d_TR_readCommand_235 rfl rfl ?_
        refine wm_iconst d_TR_readCommand_236 ?_
        refine wm_iadd d_TR_readCommand_237 ?_
        refine wm_dup2 d_TR_readCommand_238 rfl rfl ?_
        refine wm_iald d_TR_readCommand_239 h116 h117 ?_
        refine wm_iconst d_TR_readCommand_240 ?_
        refine wm_iadd d_TR_readCommand_241 ?_
        refine wm_iastE d_TR_readCommand_242 h116 h118 h119 rfl ?_
        exact hJ (mUI M104 (mR M104 (mR M104 a0 2) 16) (Int.toNat (l2 + 1)) ((mI M104 (mR M104 (mR M104 a0 2) 16) (Int.toNat (l2 + 1))) + 1)) (if_pos c114).symm
    · replace c111 := Classical.not_not.mp c111
      replace h := h.1 c111
      refine wm_iconst d_TR_readCommand_216 ?_
      refine wm_ireturn d_TR_readCommand_217 rfl (m_nb (by decide)) ?_
      exact ⟨_, rfl, h⟩
theorem d_TR_readChance_0 : decode y_TR_readChance.2.1 0 = .ok (.aload_n 0, 1) := dc9_42 (by decide +kernel)
theorem d_TR_readChance_1 : decode y_TR_readChance.2.1 1 = .ok (.getfield 12, 3) := dc9_180 (by decide +kernel)
theorem d_TR_readChance_4 : decode y_TR_readChance.2.1 4 = .ok (.invokevirtual 79, 3) := dc9_182 (by decide +kernel)
theorem d_TR_readChance_7 : decode y_TR_readChance.2.1 7 = .ok (.istore_n 2, 1) := dc9_61 (by decide +kernel)
theorem d_TR_readChance_8 : decode y_TR_readChance.2.1 8 = .ok (.aload_n 0, 1) := dc9_42 (by decide +kernel)
theorem d_TR_readChance_9 : decode y_TR_readChance.2.1 9 = .ok (.getfield 36, 3) := dc9_180 (by decide +kernel)
theorem d_TR_readChance_12 : decode y_TR_readChance.2.1 12 = .ok (.getfield 116, 3) := dc9_180 (by decide +kernel)
theorem d_TR_readChance_15 : decode y_TR_readChance.2.1 15 = .ok (.istore_n 3, 1) := dc9_62 (by decide +kernel)
theorem d_TR_readChance_16 : decode y_TR_readChance.2.1 16 = .ok (.aload_n 0, 1) := dc9_42 (by decide +kernel)
theorem d_TR_readChance_17 : decode y_TR_readChance.2.1 17 = .ok (.getfield 12, 3) := dc9_180 (by decide +kernel)
theorem d_TR_readChance_20 : decode y_TR_readChance.2.1 20 = .ok (.iconst 1, 1) := dc9_4 (by decide +kernel)
theorem d_TR_readChance_21 : decode y_TR_readChance.2.1 21 = .ok (.iconst 0, 1) := dc9_3 (by decide +kernel)
theorem d_TR_readChance_22 : decode y_TR_readChance.2.1 22 = .ok (.invokevirtual 117, 3) := dc9_182 (by decide +kernel)
theorem d_TR_readChance_25 : decode y_TR_readChance.2.1 25 = .ok (.ifCond .ne 5, 3) := dc9_154 (by decide +kernel)
theorem d_TR_readChance_28 : decode y_TR_readChance.2.1 28 = .ok (.iconst 0, 1) := dc9_3 (by decide +kernel)
theorem d_TR_readChance_29 : decode y_TR_readChance.2.1 29 = .ok (.ireturn, 1) := dc9_172 (by decide +kernel)
theorem d_TR_readChance_30 : decode y_TR_readChance.2.1 30 = .ok (.aload_n 0, 1) := dc9_42 (by decide +kernel)
theorem d_TR_readChance_31 : decode y_TR_readChance.2.1 31 = .ok (.getfield 36, 3) := dc9_180 (by decide +kernel)
theorem d_TR_readChance_34 : decode y_TR_readChance.2.1 34 = .ok (.iconst 0, 1) := dc9_3 (by decide +kernel)
theorem d_TR_readChance_35 : decode y_TR_readChance.2.1 35 = .ok (.iconst 0, 1) := dc9_3 (by decide +kernel)
theorem d_TR_readChance_36 : decode y_TR_readChance.2.1 36 = .ok (.invokevirtual 121, 3) := dc9_182 (by decide +kernel)
theorem d_TR_readChance_39 : decode y_TR_readChance.2.1 39 = .ok (.pop, 1) := dc9_87 (by decide +kernel)
theorem d_TR_readChance_40 : decode y_TR_readChance.2.1 40 = .ok (.aload_n 0, 1) := dc9_42 (by decide +kernel)
theorem d_TR_readChance_41 : decode y_TR_readChance.2.1 41 = .ok (.getfield 12, 3) := dc9_180 (by decide +kernel)
theorem d_TR_readChance_44 : decode y_TR_readChance.2.1 44 = .ok (.getfield 76, 3) := dc9_180 (by decide +kernel)
theorem d_TR_readChance_47 : decode y_TR_readChance.2.1 47 = .ok (.ifCond .ne 55, 3) := dc9_154 (by decide +kernel)
theorem d_TR_readChance_50 : decode y_TR_readChance.2.1 50 = .ok (.aload_n 0, 1) := dc9_42 (by decide +kernel)
theorem d_TR_readChance_51 : decode y_TR_readChance.2.1 51 = .ok (.getfield 36, 3) := dc9_180 (by decide +kernel)
theorem d_TR_readChance_54 : decode y_TR_readChance.2.1 54 = .ok (.getfield 204, 3) := dc9_180 (by decide +kernel)
theorem d_TR_readChance_57 : decode y_TR_readChance.2.1 57 = .ok (.iload_n 1, 1) := dc9_27 (by decide +kernel)
theorem d_TR_readChance_58 : decode y_TR_readChance.2.1 58 = .ok (.iconst 1, 1) := dc9_4 (by decide +kernel)
theorem d_TR_readChance_59 : decode y_TR_readChance.2.1 59 = .ok (.iadd, 1) := dc9_96 (by decide +kernel)
theorem d_TR_readChance_60 : decode y_TR_readChance.2.1 60 = .ok (.iaload, 1) := dc9_46 (by decide +kernel)
theorem d_TR_readChance_61 : decode y_TR_readChance.2.1 61 = .ok (.istore 4, 2) := dc9_54 (by decide +kernel)
theorem d_TR_readChance_63 : decode y_TR_readChance.2.1 63 = .ok (.aload_n 0, 1) := dc9_42 (by decide +kernel)
theorem d_TR_readChance_64 : decode y_TR_readChance.2.1 64 = .ok (.getfield 36, 3) := dc9_180 (by decide +kernel)
theorem d_TR_readChance_67 : decode y_TR_readChance.2.1 67 = .ok (.getfield 213, 3) := dc9_180 (by decide +kernel)
theorem d_TR_readChance_70 : decode y_TR_readChance.2.1 70 = .ok (.iload 4, 2) := dc9_21 (by decide +kernel)
theorem d_TR_readChance_72 : decode y_TR_readChance.2.1 72 = .ok (.iload_n 2, 1) := dc9_28 (by decide +kernel)
theorem d_TR_readChance_73 : decode y_TR_readChance.2.1 73 = .ok (.iastore, 1) := dc9_79 (by decide +kernel)
theorem d_TR_readChance_74 : decode y_TR_readChance.2.1 74 = .ok (.aload_n 0, 1) := dc9_42 (by decide +kernel)
theorem d_TR_readChance_75 : decode y_TR_readChance.2.1 75 = .ok (.getfield 36, 3) := dc9_180 (by decide +kernel)
theorem d_TR_readChance_78 : decode y_TR_readChance.2.1 78 = .ok (.getfield 216, 3) := dc9_180 (by decide +kernel)
theorem d_TR_readChance_81 : decode y_TR_readChance.2.1 81 = .ok (.iload 4, 2) := dc9_21 (by decide +kernel)
theorem d_TR_readChance_83 : decode y_TR_readChance.2.1 83 = .ok (.iload_n 3, 1) := dc9_29 (by decide +kernel)
theorem d_TR_readChance_84 : decode y_TR_readChance.2.1 84 = .ok (.iastore, 1) := dc9_79 (by decide +kernel)
theorem d_TR_readChance_85 : decode y_TR_readChance.2.1 85 = .ok (.aload_n 0, 1) := dc9_42 (by decide +kernel)
theorem d_TR_readChance_86 : decode y_TR_readChance.2.1 86 = .ok (.getfield 36, 3) := dc9_180 (by decide +kernel)
theorem d_TR_readChance_89 : decode y_TR_readChance.2.1 89 = .ok (.getfield 219, 3) := dc9_180 (by decide +kernel)
theorem d_TR_readChance_92 : decode y_TR_readChance.2.1 92 = .ok (.iload 4, 2) := dc9_21 (by decide +kernel)
theorem d_TR_readChance_94 : decode y_TR_readChance.2.1 94 = .ok (.aload_n 0, 1) := dc9_42 (by decide +kernel)
theorem d_TR_readChance_95 : decode y_TR_readChance.2.1 95 = .ok (.getfield 36, 3) := dc9_180 (by decide +kernel)
theorem d_TR_readChance_98 : decode y_TR_readChance.2.1 98 = .ok (.getfield 116, 3) := dc9_180 (by decide +kernel)
theorem d_TR_readChance_101 : decode y_TR_readChance.2.1 101 = .ok (.iastore, 1) := dc9_79 (by decide +kernel)
theorem d_TR_readChance_102 : decode y_TR_readChance.2.1 102 = .ok (.aload_n 0, 1) := dc9_42 (by decide +kernel)
theorem d_TR_readChance_103 : decode y_TR_readChance.2.1 103 = .ok (.getfield 12, 3) := dc9_180 (by decide +kernel)
theorem d_TR_readChance_106 : decode y_TR_readChance.2.1 106 = .ok (.bipush 34, 2) := dc9_16 (by decide +kernel)
theorem d_TR_readChance_108 : decode y_TR_readChance.2.1 108 = .ok (.invokevirtual 102, 3) := dc9_182 (by decide +kernel)
theorem d_TR_readChance_111 : decode y_TR_readChance.2.1 111 = .ok (.ireturn, 1) := dc9_172 (by decide +kernel)
theorem k_TR_readChance {G : mG} {d : Nat} {a0 : Nat} {l1 : Int} {M : mM} {Q : Int → mM → Prop} (hO : mOk M) (hi_l1 : i32 l1)
    (h : mK M a0 = 3 ∧ mK M (mR M a0 0) = 4 ∧ Ci G y_RR_here d [vr (mR M a0 0)] M (fun x4 M3 => i32 x4 ∧ mOk M3 ∧ (mK M3 a0 = 3 ∧ mK M3 (mR M3 a0 2) = 6 ∧ mK M3 (mR M3 a0 0) = 4 ∧ Ci G y_RR_readRule d [vr (mR M3 a0 0), vi 1, vi 0] M3 (fun x10 M9 => i32 x10 ∧ mOk M9 ∧ (((x10 = 0) → (Q 0 M9)) ∧ (¬ (x10 = 0) → (mK M9 a0 = 3 ∧ mK M9 (mR M9 a0 2) = 6 ∧ Ci G y_Pr_add d [vr (mR M9 a0 2), vi 0, vi 0] M9 (fun x17 M16 => i32 x17 ∧ mOk M16 ∧ (mK M16 a0 = 3 ∧ mK M16 (mR M16 a0 0) = 4 ∧ ((mI M16 (mR M16 a0 0) 3 = 0) → (mK M16 (mR M16 a0 2) = 6 ∧ mK M16 (mR M16 (mR M16 a0 2) 16) = 30 ∧ ((0 : Int) ≤ l1 + 1 ∧ l1 + 1 < (mN M16 (mR M16 (mR M16 a0 2) 16) : Int)) ∧ mK M16 (mR M16 (mR M16 a0 2) 17) = 30 ∧ ((0 : Int) ≤ mI M16 (mR M16 (mR M16 a0 2) 16) (Int.toNat (l1 + 1)) ∧ mI M16 (mR M16 (mR M16 a0 2) 16) (Int.toNat (l1 + 1)) < (mN M16 (mR M16 (mR M16 a0 2) 17) : Int)) ∧ ∀ M37, M37 = mUI M16 (mR M16 (mR M16 a0 2) 17) (Int.toNat (mI M16 (mR M16 (mR M16 a0 2) 16) (Int.toNat (l1 + 1)))) x4 → mK M37 (mR M37 a0 2) = 6 ∧ mK M37 (mR M37 (mR M37 a0 2) 18) = 30 ∧ ((0 : Int) ≤ mI M16 (mR M16 (mR M16 a0 2) 16) (Int.toNat (l1 + 1)) ∧ mI M16 (mR M16 (mR M16 a0 2) 16) (Int.toNat (l1 + 1)) < (mN M37 (mR M37 (mR M37 a0 2) 18) : Int)) ∧ ∀ M42, M42 = mUI M37 (mR M37 (mR M37 a0 2) 18) (Int.toNat (mI M16 (mR M16 (mR M16 a0 2) 16) (Int.toNat (l1 + 1)))) (mI M3 (mR M3 a0 2) 2) → mK M42 (mR M42 a0 2) = 6 ∧ mK M42 (mR M42 (mR M42 a0 2) 19) = 30 ∧ ((0 : Int) ≤ mI M16 (mR M16 (mR M16 a0 2) 16) (Int.toNat (l1 + 1)) ∧ mI M16 (mR M16 (mR M16 a0 2) 16) (Int.toNat (l1 + 1)) < (mN M42 (mR M42 (mR M42 a0 2) 19) : Int)) ∧ ∀ M47, M47 = mUI M42 (mR M42 (mR M42 a0 2) 19) (Int.toNat (mI M16 (mR M16 (mR M16 a0 2) 16) (Int.toNat (l1 + 1)))) (mI M42 (mR M42 a0 2) 2) → mK M47 (mR M47 a0 0) = 4 ∧ Ci G y_RR_accept d [vr (mR M47 a0 0), vi 34] M47 (fun x51 M50 => i32 x51 ∧ mOk M50 ∧ ((x51 = 0 ∨ x51 = 1) ∧ Q x51 M50)))) ∧ (¬ (mI M16 (mR M16 a0 0) 3 = 0) → (Ci G y_RR_accept d [vr (mR M16 a0 0), vi 34] M16 (fun x55 M54 => i32 x55 ∧ mOk M54 ∧ ((x55 = 0 ∨ x55 = 1) ∧ Q x55 M54))))))))))))) :
    Ci G y_TR_readChance (d + 1) [vr a0, vi l1] M Q := by
  refine wm_open (y := y_TR_readChance) rfl (Nat.le_of_ble_eq_true rfl) (L := [vr a0, vi l1, vd, vd, vd]) rfl ?_
  obtain ⟨h1, h⟩ := h
  obtain ⟨h2, h⟩ := h
  refine wm_aload_n d_TR_readChance_0 rfl rfl ?_
  refine gf_TR_12 rfl d_TR_readChance_1 h1 ?_
  refine cf_TR_79 rfl d_TR_readChance_4 h2 (Nat.le_of_ble_eq_true rfl) (Ci.mono h (fun x4 M3 h => ?_))
  obtain ⟨h5, hOM3, h⟩ := h
  obtain ⟨h6, h⟩ := h
  obtain ⟨h7, h⟩ := h
  obtain ⟨h8, h⟩ := h
  refine wm_istore_n d_TR_readChance_7 rfl (by decide) (L' := [vr a0, vi l1, vi x4, vd, vd]) rfl ?_
  refine wm_aload_n d_TR_readChance_8 rfl rfl ?_
  refine gf_TR_36 rfl d_TR_readChance_9 h6 ?_
  refine gf_TR_116 rfl d_TR_readChance_12 h7 ?_
  refine wm_istore_n d_TR_readChance_15 rfl (by decide) (L' := [vr a0, vi l1, vi x4, vi (mI M3 (mR M3 a0 2) 2), vd]) rfl ?_
  refine wm_aload_n d_TR_readChance_16 rfl rfl ?_
  refine gf_TR_12 rfl d_TR_readChance_17 h6 ?_
  refine wm_iconst d_TR_readChance_20 ?_
  refine wm_iconst d_TR_readChance_21 ?_
  refine cf_TR_117 rfl d_TR_readChance_22 h8 (Nat.le_of_ble_eq_true rfl) (Ci.mono h (fun x10 M9 h => ?_))
  obtain ⟨h11, hOM9, h⟩ := h
  refine wm_if_ne (tgt := 30) d_TR_readChance_25 rfl h11 (fun c13 => ?_) (fun c13 => ?_)
  · replace h := h.2 c13
    obtain ⟨h14, h⟩ := h
    obtain ⟨h15, h⟩ := h
    refine wm_aload_n d_TR_readChance_30 rfl rfl ?_
    refine gf_TR_36 rfl d_TR_readChance_31 h14 ?_
    refine wm_iconst d_TR_readChance_34 ?_
    refine wm_iconst d_TR_readChance_35 ?_
    refine cf_TR_121 rfl d_TR_readChance_36 h15 (Nat.le_of_ble_eq_true rfl) (Ci.mono h (fun x17 M16 h => ?_))
    obtain ⟨h18, hOM16, h⟩ := h
    obtain ⟨h19, h⟩ := h
    obtain ⟨h20, h⟩ := h
    refine wm_pop d_TR_readChance_39 rfl ?_
    refine wm_aload_n d_TR_readChance_40 rfl rfl ?_
    refine gf_TR_12 rfl d_TR_readChance_41 h19 ?_
    refine gf_TR_76 rfl d_TR_readChance_44 h20 ?_
    refine wm_if_ne (tgt := 102) d_TR_readChance_47 rfl (hOM16 _ _).1 (fun c31 => ?_) (fun c31 => ?_)
    · replace h := h.2 c31
      refine wm_aload_n d_TR_readChance_102 rfl rfl ?_
      refine gf_TR_12 rfl d_TR_readChance_103 h19 ?_
      refine wm_bipush d_TR_readChance_106 (by decide) ?_
      refine cf_TR_102 rfl d_TR_readChance_108 h20 (Nat.le_of_ble_eq_true rfl) (Ci.mono h (fun x55 M54 h => ?_))
      obtain ⟨h56, hOM54, h⟩ := h
      obtain ⟨h57, h⟩ := h
      refine wm_ireturn d_TR_readChance_111 rfl (m_nb h57) ?_
      exact ⟨_, rfl, h⟩
    · replace c31 := Classical.not_not.mp c31
      replace h := h.1 c31
      obtain ⟨h32, h⟩ := h
      obtain ⟨h33, h⟩ := h
      obtain ⟨h34, h⟩ := h
      obtain ⟨h35, h⟩ := h
      obtain ⟨h36, h⟩ := h
      obtain ⟨M37, e38⟩ : ∃ M37, M37 = mUI M16 (mR M16 (mR M16 a0 2) 17) (Int.toNat (mI M16 (mR M16 (mR M16 a0 2) 16) (Int.toNat (l1 + 1)))) x4 := ⟨_, rfl⟩
      replace h := h M37 e38
      obtain ⟨h39, h⟩ := h
      obtain ⟨h40, h⟩ := h
      obtain ⟨h41, h⟩ := h
      obtain ⟨M42, e43⟩ : ∃ M42, M42 = mUI M37 (mR M37 (mR M37 a0 2) 18) (Int.toNat (mI M16 (mR M16 (mR M16 a0 2) 16) (Int.toNat (l1 + 1)))) (mI M3 (mR M3 a0 2) 2) := ⟨_, rfl⟩
      replace h := h M42 e43
      obtain ⟨h44, h⟩ := h
      obtain ⟨h45, h⟩ := h
      obtain ⟨h46, h⟩ := h
      obtain ⟨M47, e48⟩ : ∃ M47, M47 = mUI M42 (mR M42 (mR M42 a0 2) 19) (Int.toNat (mI M16 (mR M16 (mR M16 a0 2) 16) (Int.toNat (l1 + 1)))) (mI M42 (mR M42 a0 2) 2) := ⟨_, rfl⟩
      replace h := h M47 e48
      obtain ⟨h49, h⟩ := h
      refine wm_aload_n d_TR_readChance_50 rfl rfl ?_
      refine gf_TR_36 rfl d_TR_readChance_51 h19 ?_
      refine gf_TR_204 rfl d_TR_readChance_54 h32 ?_
      refine wm_iload_n d_TR_readChance_57 rfl rfl ?_
      refine wm_iconst d_TR_readChance_58 ?_
      refine wm_iadd d_TR_readChance_59 ?_
      refine wm_iald d_TR_readChance_60 h33 h34 ?_
      refine wm_istore d_TR_readChance_61 (by decide) (L' := [vr a0, vi l1, vi x4, vi (mI M3 (mR M3 a0 2) 2), vi (mI M16 (mR M16 (mR M16 a0 2) 16) (Int.toNat (l1 + 1)))]) rfl ?_
      refine wm_aload_n d_TR_readChance_63 rfl rfl ?_
      refine gf_TR_36 rfl d_TR_readChance_64 h19 ?_
      refine gf_TR_213 rfl d_TR_readChance_67 h32 ?_
      refine wm_iload d_TR_readChance_70 rfl ?_
      refine wm_iload_n d_TR_readChance_72 rfl rfl ?_
      have hOM37 : mOk M37 := by rw [e38]; exact mOk_UI hOM16 h5
      refine wm_iastE d_TR_readChance_73 h35 h36 h5 e38 ?_
      refine wm_aload_n d_TR_readChance_74 rfl rfl ?_
      refine gf_TR_36 rfl d_TR_readChance_75 (by rw [e38]; exact h19) ?_
      refine gf_TR_216 rfl d_TR_readChance_78 h39 ?_
      refine wm_iload d_TR_readChance_81 rfl ?_
      refine wm_iload_n d_TR_readChance_83 rfl rfl ?_
      have hOM42 : mOk M42 := by rw [e43]; exact mOk_UI hOM37 (hOM3 _ _).1
      refine wm_iastE d_TR_readChance_84 h40 h41 (hOM3 _ _).1 e43 ?_
      refine wm_aload_n d_TR_readChance_85 rfl rfl ?_
      refine gf_TR_36 rfl d_TR_readChance_86 (by rw [e43, e38]; exact h19) ?_
      refine gf_TR_219 rfl d_TR_readChance_89 h44 ?_
      refine wm_iload d_TR_readChance_92 rfl ?_
      refine wm_aload_n d_TR_readChance_94 rfl rfl ?_
      refine gf_TR_36 rfl d_TR_readChance_95 (by rw [e43, e38]; exact h19) ?_
      refine gf_TR_116 rfl d_TR_readChance_98 h44 ?_
      have hOM47 : mOk M47 := by rw [e48]; exact mOk_UI hOM42 (hOM42 _ _).1
      refine wm_iastE d_TR_readChance_101 h45 h46 (hOM42 _ _).1 e48 ?_
      refine wm_aload_n d_TR_readChance_102 rfl rfl ?_
      refine gf_TR_12 rfl d_TR_readChance_103 (by rw [e48, e43, e38]; exact h19) ?_
      refine wm_bipush d_TR_readChance_106 (by decide) ?_
      refine cf_TR_102 rfl d_TR_readChance_108 h49 (Nat.le_of_ble_eq_true rfl) (Ci.mono h (fun x51 M50 h => ?_))
      obtain ⟨h52, hOM50, h⟩ := h
      obtain ⟨h53, h⟩ := h
      refine wm_ireturn d_TR_readChance_111 rfl (m_nb h53) ?_
      exact ⟨_, rfl, h⟩
  · replace c13 := Classical.not_not.mp c13
    replace h := h.1 c13
    refine wm_iconst d_TR_readChance_28 ?_
    refine wm_ireturn d_TR_readChance_29 rfl (m_nb (by decide)) ?_
    exact ⟨_, rfl, h⟩
theorem d_TR_readSets_0 : decode y_TR_readSets.2.1 0 = .ok (.aload_n 0, 1) := dc9_42 (by decide +kernel)
theorem d_TR_readSets_1 : decode y_TR_readSets.2.1 1 = .ok (.getfield 12, 3) := dc9_180 (by decide +kernel)
theorem d_TR_readSets_4 : decode y_TR_readSets.2.1 4 = .ok (.bipush 11, 2) := dc9_16 (by decide +kernel)
theorem d_TR_readSets_6 : decode y_TR_readSets.2.1 6 = .ok (.invokevirtual 102, 3) := dc9_182 (by decide +kernel)
theorem d_TR_readSets_9 : decode y_TR_readSets.2.1 9 = .ok (.ifCond .ne 7, 3) := dc9_154 (by decide +kernel)
theorem d_TR_readSets_12 : decode y_TR_readSets.2.1 12 = .ok (.iconst 1, 1) := dc9_4 (by decide +kernel)
theorem d_TR_readSets_13 : decode y_TR_readSets.2.1 13 = .ok (.goto 4, 3) := dc9_167 (by decide +kernel)
theorem d_TR_readSets_16 : decode y_TR_readSets.2.1 16 = .ok (.iconst 0, 1) := dc9_3 (by decide +kernel)
theorem d_TR_readSets_17 : decode y_TR_readSets.2.1 17 = .ok (.istore_n 1, 1) := dc9_60 (by decide +kernel)
theorem d_TR_readSets_18 : decode y_TR_readSets.2.1 18 = .ok (.iconst 0, 1) := dc9_3 (by decide +kernel)
theorem d_TR_readSets_19 : decode y_TR_readSets.2.1 19 = .ok (.istore_n 2, 1) := dc9_61 (by decide +kernel)
theorem d_TR_readSets_20 : decode y_TR_readSets.2.1 20 = .ok (.iconst 0, 1) := dc9_3 (by decide +kernel)
theorem d_TR_readSets_21 : decode y_TR_readSets.2.1 21 = .ok (.istore_n 3, 1) := dc9_62 (by decide +kernel)
theorem d_TR_readSets_22 : decode y_TR_readSets.2.1 22 = .ok (.iload_n 3, 1) := dc9_29 (by decide +kernel)
theorem d_TR_readSets_23 : decode y_TR_readSets.2.1 23 = .ok (.aload_n 0, 1) := dc9_42 (by decide +kernel)
theorem d_TR_readSets_24 : decode y_TR_readSets.2.1 24 = .ok (.getfield 12, 3) := dc9_180 (by decide +kernel)
theorem d_TR_readSets_27 : decode y_TR_readSets.2.1 27 = .ok (.getfield 109, 3) := dc9_180 (by decide +kernel)
theorem d_TR_readSets_30 : decode y_TR_readSets.2.1 30 = .ok (.getfield 40, 3) := dc9_180 (by decide +kernel)
theorem d_TR_readSets_33 : decode y_TR_readSets.2.1 33 = .ok (.if_icmp .ge 274, 3) := dc9_162 (by decide +kernel)
theorem d_TR_readSets_36 : decode y_TR_readSets.2.1 36 = .ok (.iload_n 1, 1) := dc9_27 (by decide +kernel)
theorem d_TR_readSets_37 : decode y_TR_readSets.2.1 37 = .ok (.ifCond .eq 270, 3) := dc9_153 (by decide +kernel)
theorem d_TR_readSets_40 : decode y_TR_readSets.2.1 40 = .ok (.aload_n 0, 1) := dc9_42 (by decide +kernel)
theorem d_TR_readSets_41 : decode y_TR_readSets.2.1 41 = .ok (.getfield 12, 3) := dc9_180 (by decide +kernel)
theorem d_TR_readSets_307 : decode y_TR_readSets.2.1 307 = .ok (.aload_n 0, 1) := dc9_42 (by decide +kernel)
theorem d_TR_readSets_308 : decode y_TR_readSets.2.1 308 = .ok (.getfield 36, 3) := dc9_180 (by decide +kernel)
theorem d_TR_readSets_311 : decode y_TR_readSets.2.1 311 = .ok (.iconst 0, 1) := dc9_3 (by decide +kernel)
theorem d_TR_readSets_312 : decode y_TR_readSets.2.1 312 = .ok (.iconst 0, 1) := dc9_3 (by decide +kernel)
theorem d_TR_readSets_313 : decode y_TR_readSets.2.1 313 = .ok (.invokevirtual 121, 3) := dc9_182 (by decide +kernel)
theorem d_TR_readSets_316 : decode y_TR_readSets.2.1 316 = .ok (.pop, 1) := dc9_87 (by decide +kernel)
theorem d_TR_readSets_317 : decode y_TR_readSets.2.1 317 = .ok (.iconst 1, 1) := dc9_4 (by decide +kernel)
theorem d_TR_readSets_318 : decode y_TR_readSets.2.1 318 = .ok (.ireturn, 1) := dc9_172 (by decide +kernel)
theorem d_TR_readSets_44 : decode y_TR_readSets.2.1 44 = .ok (.invokevirtual 79, 3) := dc9_182 (by decide +kernel)
theorem d_TR_readSets_47 : decode y_TR_readSets.2.1 47 = .ok (.istore 4, 2) := dc9_54 (by decide +kernel)
theorem d_TR_readSets_49 : decode y_TR_readSets.2.1 49 = .ok (.aload_n 0, 1) := dc9_42 (by decide +kernel)
theorem d_TR_readSets_50 : decode y_TR_readSets.2.1 50 = .ok (.getfield 12, 3) := dc9_180 (by decide +kernel)
theorem d_TR_readSets_53 : decode y_TR_readSets.2.1 53 = .ok (.getfield 222, 3) := dc9_180 (by decide +kernel)
theorem d_TR_readSets_56 : decode y_TR_readSets.2.1 56 = .ok (.bipush 40, 2) := dc9_16 (by decide +kernel)
theorem d_TR_readSets_58 : decode y_TR_readSets.2.1 58 = .ok (.if_icmp .ge 15, 3) := dc9_162 (by decide +kernel)
theorem d_TR_readSets_61 : decode y_TR_readSets.2.1 61 = .ok (.aload_n 0, 1) := dc9_42 (by decide +kernel)
theorem d_TR_readSets_62 : decode y_TR_readSets.2.1 62 = .ok (.getfield 12, 3) := dc9_180 (by decide +kernel)
theorem d_TR_readSets_65 : decode y_TR_readSets.2.1 65 = .ok (.bipush 37, 2) := dc9_16 (by decide +kernel)
theorem d_TR_readSets_73 : decode y_TR_readSets.2.1 73 = .ok (.iconst 0, 1) := dc9_3 (by decide +kernel)
theorem d_TR_readSets_74 : decode y_TR_readSets.2.1 74 = .ok (.ireturn, 1) := dc9_172 (by decide +kernel)
theorem d_TR_readSets_67 : decode y_TR_readSets.2.1 67 = .ok (.invokevirtual 102, 3) := dc9_182 (by decide +kernel)
theorem d_TR_readSets_70 : decode y_TR_readSets.2.1 70 = .ok (.ifCond .ne 5, 3) := dc9_154 (by decide +kernel)
theorem d_TR_readSets_75 : decode y_TR_readSets.2.1 75 = .ok (.aload_n 0, 1) := dc9_42 (by decide +kernel)
theorem d_TR_readSets_76 : decode y_TR_readSets.2.1 76 = .ok (.getfield 12, 3) := dc9_180 (by decide +kernel)
theorem d_TR_readSets_79 : decode y_TR_readSets.2.1 79 = .ok (.getfield 59, 3) := dc9_180 (by decide +kernel)
theorem d_TR_readSets_82 : decode y_TR_readSets.2.1 82 = .ok (.istore 5, 2) := dc9_54 (by decide +kernel)
theorem d_TR_readSets_84 : decode y_TR_readSets.2.1 84 = .ok (.aload_n 0, 1) := dc9_42 (by decide +kernel)
theorem d_TR_readSets_85 : decode y_TR_readSets.2.1 85 = .ok (.getfield 12, 3) := dc9_180 (by decide +kernel)
theorem d_TR_readSets_88 : decode y_TR_readSets.2.1 88 = .ok (.iconst 2, 1) := dc9_5 (by decide +kernel)
theorem d_TR_readSets_89 : decode y_TR_readSets.2.1 89 = .ok (.invokevirtual 102, 3) := dc9_182 (by decide +kernel)
theorem d_TR_readSets_92 : decode y_TR_readSets.2.1 92 = .ok (.ifCond .ne 5, 3) := dc9_154 (by decide +kernel)
theorem d_TR_readSets_95 : decode y_TR_readSets.2.1 95 = .ok (.iconst 0, 1) := dc9_3 (by decide +kernel)
theorem d_TR_readSets_96 : decode y_TR_readSets.2.1 96 = .ok (.ireturn, 1) := dc9_172 (by decide +kernel)
theorem d_TR_readSets_97 : decode y_TR_readSets.2.1 97 = .ok (.aload_n 0, 1) := dc9_42 (by decide +kernel)
theorem d_TR_readSets_98 : decode y_TR_readSets.2.1 98 = .ok (.getfield 12, 3) := dc9_180 (by decide +kernel)
theorem d_TR_readSets_101 : decode y_TR_readSets.2.1 101 = .ok (.iload 5, 2) := dc9_21 (by decide +kernel)
theorem d_TR_readSets_103 : decode y_TR_readSets.2.1 103 = .ok (.invokevirtual 225, 3) := dc9_182 (by decide +kernel)
theorem d_TR_readSets_106 : decode y_TR_readSets.2.1 106 = .ok (.istore 6, 2) := dc9_54 (by decide +kernel)
theorem d_TR_readSets_108 : decode y_TR_readSets.2.1 108 = .ok (.iload 6, 2) := dc9_21 (by decide +kernel)
theorem d_TR_readSets_110 : decode y_TR_readSets.2.1 110 = .ok (.iconst (-1), 1) := dc9_2 (by decide +kernel)
theorem d_TR_readSets_111 : decode y_TR_readSets.2.1 111 = .ok (.if_icmp .ne 27, 3) := dc9_160 (by decide +kernel)
theorem d_TR_readSets_114 : decode y_TR_readSets.2.1 114 = .ok (.aload_n 0, 1) := dc9_42 (by decide +kernel)
theorem d_TR_readSets_115 : decode y_TR_readSets.2.1 115 = .ok (.getfield 12, 3) := dc9_180 (by decide +kernel)
theorem d_TR_readSets_118 : decode y_TR_readSets.2.1 118 = .ok (.iconst 2, 1) := dc9_5 (by decide +kernel)
theorem d_TR_readSets_119 : decode y_TR_readSets.2.1 119 = .ok (.aload_n 0, 1) := dc9_42 (by decide +kernel)
theorem d_TR_readSets_120 : decode y_TR_readSets.2.1 120 = .ok (.getfield 12, 3) := dc9_180 (by decide +kernel)
theorem d_TR_readSets_123 : decode y_TR_readSets.2.1 123 = .ok (.getfield 109, 3) := dc9_180 (by decide +kernel)
theorem d_TR_readSets_126 : decode y_TR_readSets.2.1 126 = .ok (.getfield 113, 3) := dc9_180 (by decide +kernel)
theorem d_TR_readSets_129 : decode y_TR_readSets.2.1 129 = .ok (.iload 5, 2) := dc9_21 (by decide +kernel)
theorem d_TR_readSets_131 : decode y_TR_readSets.2.1 131 = .ok (.iaload, 1) := dc9_46 (by decide +kernel)
theorem d_TR_readSets_138 : decode y_TR_readSets.2.1 138 = .ok (.iload_n 2, 1) := dc9_28 (by decide +kernel)
theorem d_TR_readSets_139 : decode y_TR_readSets.2.1 139 = .ok (.iload 6, 2) := dc9_21 (by decide +kernel)
theorem d_TR_readSets_141 : decode y_TR_readSets.2.1 141 = .ok (.ishr, 1) := dc9_122 (by decide +kernel)
theorem d_TR_readSets_142 : decode y_TR_readSets.2.1 142 = .ok (.iconst 1, 1) := dc9_4 (by decide +kernel)
theorem d_TR_readSets_143 : decode y_TR_readSets.2.1 143 = .ok (.iand, 1) := dc9_126 (by decide +kernel)
theorem d_TR_readSets_144 : decode y_TR_readSets.2.1 144 = .ok (.ifCond .eq 24, 3) := dc9_153 (by decide +kernel)
theorem d_TR_readSets_147 : decode y_TR_readSets.2.1 147 = .ok (.aload_n 0, 1) := dc9_42 (by decide +kernel)
theorem d_TR_readSets_148 : decode y_TR_readSets.2.1 148 = .ok (.getfield 12, 3) := dc9_180 (by decide +kernel)
theorem d_TR_readSets_151 : decode y_TR_readSets.2.1 151 = .ok (.iconst 4, 1) := dc9_7 (by decide +kernel)
theorem d_TR_readSets_152 : decode y_TR_readSets.2.1 152 = .ok (.aload_n 0, 1) := dc9_42 (by decide +kernel)
theorem d_TR_readSets_153 : decode y_TR_readSets.2.1 153 = .ok (.getfield 12, 3) := dc9_180 (by decide +kernel)
theorem d_TR_readSets_156 : decode y_TR_readSets.2.1 156 = .ok (.getfield 109, 3) := dc9_180 (by decide +kernel)
theorem d_TR_readSets_159 : decode y_TR_readSets.2.1 159 = .ok (.getfield 113, 3) := dc9_180 (by decide +kernel)
theorem d_TR_readSets_162 : decode y_TR_readSets.2.1 162 = .ok (.iload 5, 2) := dc9_21 (by decide +kernel)
theorem d_TR_readSets_164 : decode y_TR_readSets.2.1 164 = .ok (.iaload, 1) := dc9_46 (by decide +kernel)
theorem d_TR_readSets_132 : decode y_TR_readSets.2.1 132 = .ok (.invokevirtual 95, 3) := dc9_182 (by decide +kernel)
theorem d_TR_readSets_135 : decode y_TR_readSets.2.1 135 = .ok (.goto 33, 3) := dc9_167 (by decide +kernel)
theorem d_TR_readSets_165 : decode y_TR_readSets.2.1 165 = .ok (.invokevirtual 95, 3) := dc9_182 (by decide +kernel)
theorem d_TR_readSets_168 : decode y_TR_readSets.2.1 168 = .ok (.iload_n 2, 1) := dc9_28 (by decide +kernel)
theorem d_TR_readSets_169 : decode y_TR_readSets.2.1 169 = .ok (.iload 6, 2) := dc9_21 (by decide +kernel)
theorem d_TR_readSets_171 : decode y_TR_readSets.2.1 171 = .ok (.iconst (-1), 1) := dc9_2 (by decide +kernel)
theorem d_TR_readSets_172 : decode y_TR_readSets.2.1 172 = .ok (.if_icmp .ne 7, 3) := dc9_160 (by decide +kernel)
theorem d_TR_readSets_175 : decode y_TR_readSets.2.1 175 = .ok (.iconst 0, 1) := dc9_3 (by decide +kernel)
theorem d_TR_readSets_176 : decode y_TR_readSets.2.1 176 = .ok (.goto 7, 3) := dc9_167 (by decide +kernel)
theorem d_TR_readSets_179 : decode y_TR_readSets.2.1 179 = .ok (.iconst 1, 1) := dc9_4 (by decide +kernel)
theorem d_TR_readSets_180 : decode y_TR_readSets.2.1 180 = .ok (.iload 6, 2) := dc9_21 (by decide +kernel)
theorem d_TR_readSets_182 : decode y_TR_readSets.2.1 182 = .ok (.ishl, 1) := dc9_120 (by decide +kernel)
theorem d_TR_readSets_183 : decode y_TR_readSets.2.1 183 = .ok (.ior, 1) := dc9_128 (by decide +kernel)
theorem d_TR_readSets_184 : decode y_TR_readSets.2.1 184 = .ok (.istore_n 2, 1) := dc9_61 (by decide +kernel)
theorem d_TR_readSets_185 : decode y_TR_readSets.2.1 185 = .ok (.aload_n 0, 1) := dc9_42 (by decide +kernel)
theorem d_TR_readSets_186 : decode y_TR_readSets.2.1 186 = .ok (.getfield 12, 3) := dc9_180 (by decide +kernel)
theorem d_TR_readSets_189 : decode y_TR_readSets.2.1 189 = .ok (.dup, 1) := dc9_89 (by decide +kernel)
theorem d_TR_readSets_190 : decode y_TR_readSets.2.1 190 = .ok (.getfield 222, 3) := dc9_180 (by decide +kernel)
theorem d_TR_readSets_193 : decode y_TR_readSets.2.1 193 = .ok (.iconst 1, 1) := dc9_4 (by decide +kernel)
theorem d_TR_readSets_194 : decode y_TR_readSets.2.1 194 = .ok (.iadd, 1) := dc9_96 (by decide +kernel)
theorem d_TR_readSets_195 : decode y_TR_readSets.2.1 195 = .ok (.putfield 222, 3) := dc9_181 (by decide +kernel)
theorem d_TR_readSets_198 : decode y_TR_readSets.2.1 198 = .ok (.aload_n 0, 1) := dc9_42 (by decide +kernel)
theorem d_TR_readSets_199 : decode y_TR_readSets.2.1 199 = .ok (.getfield 12, 3) := dc9_180 (by decide +kernel)
theorem d_TR_readSets_202 : decode y_TR_readSets.2.1 202 = .ok (.bipush 39, 2) := dc9_16 (by decide +kernel)
theorem d_TR_readSets_204 : decode y_TR_readSets.2.1 204 = .ok (.invokevirtual 102, 3) := dc9_182 (by decide +kernel)
theorem d_TR_readSets_207 : decode y_TR_readSets.2.1 207 = .ok (.ifCond .eq 47, 3) := dc9_153 (by decide +kernel)
theorem d_TR_readSets_210 : decode y_TR_readSets.2.1 210 = .ok (.aload_n 0, 1) := dc9_42 (by decide +kernel)
theorem d_TR_readSets_211 : decode y_TR_readSets.2.1 211 = .ok (.getfield 12, 3) := dc9_180 (by decide +kernel)
theorem d_TR_readSets_214 : decode y_TR_readSets.2.1 214 = .ok (.bipush 24, 2) := dc9_16 (by decide +kernel)
theorem d_TR_readSets_254 : decode y_TR_readSets.2.1 254 = .ok (.iconst 0, 1) := dc9_3 (by decide +kernel)
theorem d_TR_readSets_255 : decode y_TR_readSets.2.1 255 = .ok (.ireturn, 1) := dc9_172 (by decide +kernel)
theorem d_TR_readSets_216 : decode y_TR_readSets.2.1 216 = .ok (.invokevirtual 102, 3) := dc9_182 (by decide +kernel)
theorem d_TR_readSets_219 : decode y_TR_readSets.2.1 219 = .ok (.ifCond .eq 35, 3) := dc9_153 (by decide +kernel)
theorem d_TR_readSets_222 : decode y_TR_readSets.2.1 222 = .ok (.aload_n 0, 1) := dc9_42 (by decide +kernel)
theorem d_TR_readSets_223 : decode y_TR_readSets.2.1 223 = .ok (.getfield 12, 3) := dc9_180 (by decide +kernel)
theorem d_TR_readSets_226 : decode y_TR_readSets.2.1 226 = .ok (.aload_n 0, 1) := dc9_42 (by decide +kernel)
theorem d_TR_readSets_227 : decode y_TR_readSets.2.1 227 = .ok (.getfield 12, 3) := dc9_180 (by decide +kernel)
theorem d_TR_readSets_230 : decode y_TR_readSets.2.1 230 = .ok (.iload 5, 2) := dc9_21 (by decide +kernel)
theorem d_TR_readSets_232 : decode y_TR_readSets.2.1 232 = .ok (.invokevirtual 228, 3) := dc9_182 (by decide +kernel)
theorem d_TR_readSets_235 : decode y_TR_readSets.2.1 235 = .ok (.iconst 1, 1) := dc9_4 (by decide +kernel)
theorem d_TR_readSets_236 : decode y_TR_readSets.2.1 236 = .ok (.invokevirtual 117, 3) := dc9_182 (by decide +kernel)
theorem d_TR_readSets_239 : decode y_TR_readSets.2.1 239 = .ok (.ifCond .eq 15, 3) := dc9_153 (by decide +kernel)
theorem d_TR_readSets_242 : decode y_TR_readSets.2.1 242 = .ok (.aload_n 0, 1) := dc9_42 (by decide +kernel)
theorem d_TR_readSets_243 : decode y_TR_readSets.2.1 243 = .ok (.getfield 12, 3) := dc9_180 (by decide +kernel)
theorem d_TR_readSets_246 : decode y_TR_readSets.2.1 246 = .ok (.bipush 38, 2) := dc9_16 (by decide +kernel)
theorem d_TR_readSets_248 : decode y_TR_readSets.2.1 248 = .ok (.invokevirtual 102, 3) := dc9_182 (by decide +kernel)
theorem d_TR_readSets_251 : decode y_TR_readSets.2.1 251 = .ok (.ifCond .ne 5, 3) := dc9_154 (by decide +kernel)
theorem d_TR_readSets_256 : decode y_TR_readSets.2.1 256 = .ok (.aload_n 0, 1) := dc9_42 (by decide +kernel)
theorem d_TR_readSets_257 : decode y_TR_readSets.2.1 257 = .ok (.getfield 12, 3) := dc9_180 (by decide +kernel)
theorem d_TR_readSets_260 : decode y_TR_readSets.2.1 260 = .ok (.dup, 1) := dc9_89 (by decide +kernel)
theorem d_TR_readSets_261 : decode y_TR_readSets.2.1 261 = .ok (.getfield 222, 3) := dc9_180 (by decide +kernel)
theorem d_TR_readSets_264 : decode y_TR_readSets.2.1 264 = .ok (.iconst 1, 1) := dc9_4 (by decide +kernel)
theorem d_TR_readSets_265 : decode y_TR_readSets.2.1 265 = .ok (.isub, 1) := dc9_100 (by decide +kernel)
theorem d_TR_readSets_266 : decode y_TR_readSets.2.1 266 = .ok (.putfield 222, 3) := dc9_181 (by decide +kernel)
theorem d_TR_readSets_269 : decode y_TR_readSets.2.1 269 = .ok (.aload_n 0, 1) := dc9_42 (by decide +kernel)
theorem d_TR_readSets_270 : decode y_TR_readSets.2.1 270 = .ok (.getfield 36, 3) := dc9_180 (by decide +kernel)
theorem d_TR_readSets_273 : decode y_TR_readSets.2.1 273 = .ok (.bipush 43, 2) := dc9_16 (by decide +kernel)
theorem d_TR_readSets_275 : decode y_TR_readSets.2.1 275 = .ok (.iload 4, 2) := dc9_21 (by decide +kernel)
theorem d_TR_readSets_277 : decode y_TR_readSets.2.1 277 = .ok (.bipush 16, 2) := dc9_16 (by decide +kernel)
theorem d_TR_readSets_279 : decode y_TR_readSets.2.1 279 = .ok (.imul, 1) := dc9_104 (by decide +kernel)
theorem d_TR_readSets_280 : decode y_TR_readSets.2.1 280 = .ok (.iload 6, 2) := dc9_21 (by decide +kernel)
theorem d_TR_readSets_282 : decode y_TR_readSets.2.1 282 = .ok (.iconst 0, 1) := dc9_3 (by decide +kernel)
theorem d_TR_readSets_283 : decode y_TR_readSets.2.1 283 = .ok (.invokestatic 231, 3) := dc9_184 (by decide +kernel)
theorem d_TR_readSets_286 : decode y_TR_readSets.2.1 286 = .ok (.iadd, 1) := dc9_96 (by decide +kernel)
theorem d_TR_readSets_287 : decode y_TR_readSets.2.1 287 = .ok (.invokevirtual 121, 3) := dc9_182 (by decide +kernel)
theorem d_TR_readSets_290 : decode y_TR_readSets.2.1 290 = .ok (.pop, 1) := dc9_87 (by decide +kernel)
theorem d_TR_readSets_291 : decode y_TR_readSets.2.1 291 = .ok (.aload_n 0, 1) := dc9_42 (by decide +kernel)
theorem d_TR_readSets_292 : decode y_TR_readSets.2.1 292 = .ok (.getfield 12, 3) := dc9_180 (by decide +kernel)
theorem d_TR_readSets_295 : decode y_TR_readSets.2.1 295 = .ok (.bipush 30, 2) := dc9_16 (by decide +kernel)
theorem d_TR_readSets_297 : decode y_TR_readSets.2.1 297 = .ok (.invokevirtual 102, 3) := dc9_182 (by decide +kernel)
theorem d_TR_readSets_300 : decode y_TR_readSets.2.1 300 = .ok (.istore_n 1, 1) := dc9_60 (by decide +kernel)
theorem d_TR_readSets_301 : decode y_TR_readSets.2.1 301 = .ok (.iinc 3 1, 3) := by decide +kernel
theorem d_TR_readSets_304 : decode y_TR_readSets.2.1 304 = .ok (.goto (-282), 3) := dc9_167 (by decide +kernel)
def h_TR_readSets_22 (G : mG) (d : Nat) (a0 : Nat) (l1 : Int) (l2 : Int) (l3 : Int) (M : mM) (Q : Int → mM → Prop) : Prop := mWm G y_TR_readSets (d + 1) 22 [vr a0, vi l1, vi l2, vi l3, vd, vd, vd] [] M (fun r9 M9 => ∃ x9, r9 = some (vi x9) ∧ Q x9 M9)
def h_TR_readSets_168 (G : mG) (d : Nat) (a0 : Nat) (l2 : Int) (l3 : Int) (l4 : Int) (l5 : Int) (l6 : Int) (M : mM) (Q : Int → mM → Prop) : Prop := mWm G y_TR_readSets (d + 1) 168 [vr a0, vd, vi l2, vi l3, vi l4, vi l5, vi l6] [] M (fun r9 M9 => ∃ x9, r9 = some (vi x9) ∧ Q x9 M9)
theorem k_TR_readSets {G : mG} {d : Nat} {a0 : Nat} {M : mM} {Q : Int → mM → Prop} (hO : mOk M)
    (h : mK M a0 = 3 ∧ mK M (mR M a0 0) = 4 ∧ Ci G y_RR_accept d [vr (mR M a0 0), vi 11] M (fun x4 M3 => i32 x4 ∧ mOk M3 ∧ (∀ v7 : Int, v7 = (if (x4 = 0) then 1 else 0) → h_TR_readSets_22 G d a0 v7 0 0 M3 Q))) :
    Ci G y_TR_readSets (d + 1) [vr a0] M Q := by
  refine wm_open (y := y_TR_readSets) rfl (Nat.le_of_ble_eq_true rfl) (L := [vr a0, vd, vd, vd, vd, vd, vd]) rfl ?_
  obtain ⟨h1, h⟩ := h
  obtain ⟨h2, h⟩ := h
  refine wm_aload_n d_TR_readSets_0 rfl rfl ?_
  refine gf_TR_12 rfl d_TR_readSets_1 h1 ?_
  refine wm_bipush d_TR_readSets_4 (by decide) ?_
  refine cf_TR_102 rfl d_TR_readSets_6 h2 (Nat.le_of_ble_eq_true rfl) (Ci.mono h (fun x4 M3 h => ?_))
  obtain ⟨h5, hOM3, h⟩ := h
  have hJ : ∀ v7 : Int, v7 = (if (x4 = 0) then 1 else 0) → mWm G y_TR_readSets (d + 1) 17 [vr a0, vd, vd, vd, vd, vd, vd] [vi v7] M3 (fun r9 M9 => ∃ x9, r9 = some (vi x9) ∧ Q x9 M9) := by
    intro v7 e9
    have h := h v7 e9
    have h10 : i32 v7 := by rw [e9]; (repeat' split) <;> first | exact ⟨by decide, by decide⟩ | exact ⟨by decide, by decide⟩
    have h11 : (v7 = 0 ∨ v7 = 1) := by rw [e9]; (repeat' split) <;> decide
    refine wm_istore_n d_TR_readSets_17 rfl (by decide) (L' := [vr a0, vi v7, vd, vd, vd, vd, vd]) rfl ?_
    refine wm_iconst d_TR_readSets_18 ?_
    refine wm_istore_n d_TR_readSets_19 rfl (by decide) (L' := [vr a0, vi v7, vi 0, vd, vd, vd, vd]) rfl ?_
    refine wm_iconst d_TR_readSets_20 ?_
    refine wm_istore_n d_TR_readSets_21 rfl (by decide) (L' := [vr a0, vi v7, vi 0, vi 0, vd, vd, vd]) rfl ?_
    exact h
  clear h
  refine wm_if_ne (tgt := 16) d_TR_readSets_9 rfl h5 (fun c6 => ?_) (fun c6 => ?_)
  · refine wm_iconst d_TR_readSets_16 ?_
    exact hJ 0 (if_neg c6).symm
  · replace c6 := Classical.not_not.mp c6
    refine wm_iconst d_TR_readSets_12 ?_
    refine wm_goto (tgt := 17) d_TR_readSets_13 rfl ?_
    exact hJ 1 (if_pos c6).symm
theorem k_TR_readSets_22 {G : mG} {d : Nat} {a0 : Nat} {l1 : Int} {l2 : Int} {l3 : Int} {M : mM} {Q : Int → mM → Prop} (hO : mOk M) (hi_l1 : i32 l1) (hi_l2 : i32 l2) (hi_l3 : i32 l3)
    (h : mK M a0 = 3 ∧ mK M (mR M a0 0) = 4 ∧ mK M (mR M (mR M a0 0) 0) = 2 ∧ (((mI M (mR M (mR M a0 0) 0) 2 ≤ l3) ∨ (l1 = 0)) → (mK M (mR M a0 2) = 6 ∧ Ci G y_Pr_add d [vr (mR M a0 2), vi 0, vi 0] M (fun x22 M21 => i32 x22 ∧ mOk M21 ∧ (Q 1 M21)))) ∧ (¬ ((mI M (mR M (mR M a0 0) 0) 2 ≤ l3) ∨ (l1 = 0)) → (Ci G y_RR_here d [vr (mR M a0 0)] M (fun x26 M25 => i32 x26 ∧ mOk M25 ∧ (mK M25 a0 = 3 ∧ mK M25 (mR M25 a0 0) = 4 ∧ ((40 ≤ mI M25 (mR M25 a0 0) 5) → (Q 0 M25)) ∧ (¬ (40 ≤ mI M25 (mR M25 a0 0) 5) → (Ci G y_RR_accept d [vr (mR M25 a0 0), vi 37] M25 (fun x33 M32 => i32 x33 ∧ mOk M32 ∧ (((x33 = 0) → (Q 0 M32)) ∧ (¬ (x33 = 0) → (mK M32 a0 = 3 ∧ mK M32 (mR M32 a0 0) = 4 ∧ Ci G y_RR_accept d [vr (mR M32 a0 0), vi 2] M32 (fun x40 M39 => i32 x40 ∧ mOk M39 ∧ (((x40 = 0) → (Q 0 M39)) ∧ (¬ (x40 = 0) → (mK M39 a0 = 3 ∧ mK M39 (mR M39 a0 0) = 4 ∧ Ci G y_RR_varOf d [vr (mR M39 a0 0), vi (mI M32 (mR M32 a0 0) 2)] M39 (fun x47 M46 => i32 x47 ∧ mOk M46 ∧ (((x47 = (-1)) → (mK M46 a0 = 3 ∧ mK M46 (mR M46 a0 0) = 4 ∧ mK M46 (mR M46 (mR M46 a0 0) 0) = 2 ∧ mK M46 (mR M46 (mR M46 (mR M46 a0 0) 0) 4) = 30 ∧ ((0 : Int) ≤ mI M32 (mR M32 a0 0) 2 ∧ mI M32 (mR M32 a0 0) 2 < (mN M46 (mR M46 (mR M46 (mR M46 a0 0) 0) 4) : Int)) ∧ Cv G y_RR_note d [vr (mR M46 a0 0), vi 2, vi (mI M46 (mR M46 (mR M46 (mR M46 a0 0) 0) 4) (Int.toNat (mI M32 (mR M32 a0 0) 2)))] M46 (fun M57 => mOk M57 ∧ (h_TR_readSets_168 G d a0 l2 l3 x26 (mI M32 (mR M32 a0 0) 2) x47 M57 Q)))) ∧ (¬ (x47 = (-1)) → (((andI (shrI l2 x47) 1 = 0) → (h_TR_readSets_168 G d a0 l2 l3 x26 (mI M32 (mR M32 a0 0) 2) x47 M46 Q)) ∧ (¬ (andI (shrI l2 x47) 1 = 0) → (mK M46 a0 = 3 ∧ mK M46 (mR M46 a0 0) = 4 ∧ mK M46 (mR M46 (mR M46 a0 0) 0) = 2 ∧ mK M46 (mR M46 (mR M46 (mR M46 a0 0) 0) 4) = 30 ∧ ((0 : Int) ≤ mI M32 (mR M32 a0 0) 2 ∧ mI M32 (mR M32 a0 0) 2 < (mN M46 (mR M46 (mR M46 (mR M46 a0 0) 0) 4) : Int)) ∧ Cv G y_RR_note d [vr (mR M46 a0 0), vi 4, vi (mI M46 (mR M46 (mR M46 (mR M46 a0 0) 0) 4) (Int.toNat (mI M32 (mR M32 a0 0) 2)))] M46 (fun M67 => mOk M67 ∧ (h_TR_readSets_168 G d a0 l2 l3 x26 (mI M32 (mR M32 a0 0) 2) x47 M67 Q))))))))))))))))))))))) :
    h_TR_readSets_22 G d a0 l1 l2 l3 M Q := by
  unfold h_TR_readSets_22
  obtain ⟨h13, h⟩ := h
  obtain ⟨h14, h⟩ := h
  obtain ⟨h15, h⟩ := h
  refine wm_iload_n d_TR_readSets_22 rfl rfl ?_
  refine wm_aload_n d_TR_readSets_23 rfl rfl ?_
  refine gf_TR_12 rfl d_TR_readSets_24 h13 ?_
  refine gf_TR_109 rfl d_TR_readSets_27 h14 ?_
  refine gf_TR_40 rfl d_TR_readSets_30 h15 ?_
  have hE0 : ((mI M (mR M (mR M a0 0) 0) 2 ≤ l3) ∨ (l1 = 0)) → mWm G y_TR_readSets (d + 1) 307 [vr a0, vi l1, vi l2, vi l3, vd, vd, vd] [] M (fun r9 M9 => ∃ x9, r9 = some (vi x9) ∧ Q x9 M9) := by
    intro q19
    have h := h.1 q19
    obtain ⟨h20, h⟩ := h
    refine wm_aload_n d_TR_readSets_307 rfl rfl ?_
    refine gf_TR_36 rfl d_TR_readSets_308 h13 ?_
    refine wm_iconst d_TR_readSets_311 ?_
    refine wm_iconst d_TR_readSets_312 ?_
    refine cf_TR_121 rfl d_TR_readSets_313 h20 (Nat.le_of_ble_eq_true rfl) (Ci.mono h (fun x22 M21 h => ?_))
    obtain ⟨h23, hOM21, h⟩ := h
    refine wm_pop d_TR_readSets_316 rfl ?_
    refine wm_iconst d_TR_readSets_317 ?_
    refine wm_ireturn d_TR_readSets_318 rfl (m_nb (by decide)) ?_
    exact ⟨_, rfl, h⟩
  have hE1 : ¬ ((mI M (mR M (mR M a0 0) 0) 2 ≤ l3) ∨ (l1 = 0)) → mWm G y_TR_readSets (d + 1) 40 [vr a0, vi l1, vi l2, vi l3, vd, vd, vd] [] M (fun r9 M9 => ∃ x9, r9 = some (vi x9) ∧ Q x9 M9) := by
    intro q24
    have h := h.2 q24
    refine wm_aload_n d_TR_readSets_40 rfl rfl ?_
    refine gf_TR_12 rfl d_TR_readSets_41 h13 ?_
    refine cf_TR_79 rfl d_TR_readSets_44 h14 (Nat.le_of_ble_eq_true rfl) (Ci.mono h (fun x26 M25 h => ?_))
    obtain ⟨h27, hOM25, h⟩ := h
    obtain ⟨h28, h⟩ := h
    obtain ⟨h29, h⟩ := h
    refine wm_istore d_TR_readSets_47 (by decide) (L' := [vr a0, vi l1, vi l2, vi l3, vi x26, vd, vd]) rfl ?_
    refine wm_aload_n d_TR_readSets_49 rfl rfl ?_
    refine gf_TR_12 rfl d_TR_readSets_50 h28 ?_
    refine gf_TR_222 rfl d_TR_readSets_53 h29 ?_
    refine wm_bipush d_TR_readSets_56 (by decide) ?_
    refine wm_icmp_ge (tgt := 73) d_TR_readSets_58 rfl (hOM25 _ _).1 ⟨by decide, by decide⟩ (fun c31 => ?_) (fun c31 => ?_)
    · replace h := h.1 c31
      refine wm_iconst d_TR_readSets_73 ?_
      refine wm_ireturn d_TR_readSets_74 rfl (m_nb (by decide)) ?_
      exact ⟨_, rfl, h⟩
    · replace h := h.2 c31
      refine wm_aload_n d_TR_readSets_61 rfl rfl ?_
      refine gf_TR_12 rfl d_TR_readSets_62 h28 ?_
      refine wm_bipush d_TR_readSets_65 (by decide) ?_
      refine cf_TR_102 rfl d_TR_readSets_67 h29 (Nat.le_of_ble_eq_true rfl) (Ci.mono h (fun x33 M32 h => ?_))
      obtain ⟨h34, hOM32, h⟩ := h
      refine wm_if_ne (tgt := 75) d_TR_readSets_70 rfl h34 (fun c36 => ?_) (fun c36 => ?_)
      · replace h := h.2 c36
        obtain ⟨h37, h⟩ := h
        obtain ⟨h38, h⟩ := h
        refine wm_aload_n d_TR_readSets_75 rfl rfl ?_
        refine gf_TR_12 rfl d_TR_readSets_76 h37 ?_
        refine gf_TR_59 rfl d_TR_readSets_79 h38 ?_
        refine wm_istore d_TR_readSets_82 (by decide) (L' := [vr a0, vi l1, vi l2, vi l3, vi x26, vi (mI M32 (mR M32 a0 0) 2), vd]) rfl ?_
        refine wm_aload_n d_TR_readSets_84 rfl rfl ?_
        refine gf_TR_12 rfl d_TR_readSets_85 h37 ?_
        refine wm_iconst d_TR_readSets_88 ?_
        refine cf_TR_102 rfl d_TR_readSets_89 h38 (Nat.le_of_ble_eq_true rfl) (Ci.mono h (fun x40 M39 h => ?_))
        obtain ⟨h41, hOM39, h⟩ := h
        refine wm_if_ne (tgt := 97) d_TR_readSets_92 rfl h41 (fun c43 => ?_) (fun c43 => ?_)
        · replace h := h.2 c43
          obtain ⟨h44, h⟩ := h
          obtain ⟨h45, h⟩ := h
          refine wm_aload_n d_TR_readSets_97 rfl rfl ?_
          refine gf_TR_12 rfl d_TR_readSets_98 h44 ?_
          refine wm_iload d_TR_readSets_101 rfl ?_
          refine cf_TR_225 rfl d_TR_readSets_103 h45 (Nat.le_of_ble_eq_true rfl) (Ci.mono h (fun x47 M46 h => ?_))
          obtain ⟨h48, hOM46, h⟩ := h
          refine wm_istore d_TR_readSets_106 (by decide) (L' := [vr a0, vi l1, vi l2, vi l3, vi x26, vi (mI M32 (mR M32 a0 0) 2), vi x47]) rfl ?_
          refine wm_iload d_TR_readSets_108 rfl ?_
          refine wm_iconst d_TR_readSets_110 ?_
          refine wm_icmp_ne (tgt := 138) d_TR_readSets_111 rfl h48 ⟨by decide, by decide⟩ (fun c51 => ?_) (fun c51 => ?_)
          · replace h := h.2 c51
            refine wm_iload_n d_TR_readSets_138 rfl rfl ?_
            refine wm_iload d_TR_readSets_139 rfl ?_
            refine wm_ishr d_TR_readSets_141 ?_
            refine wm_iconst d_TR_readSets_142 ?_
            refine wm_iand d_TR_readSets_143 ?_
            refine wm_if_eq (tgt := 168) d_TR_readSets_144 rfl (m_i32 _) (fun c61 => ?_) (fun c61 => ?_)
            · replace h := h.1 c61
              refine wm_less (L' := [vr a0, vd, vi l2, vi l3, vi x26, vi (mI M32 (mR M32 a0 0) 2), vi x47]) ⟨Or.inr rfl, Or.inl rfl, Or.inr rfl, Or.inr rfl, Or.inr rfl, Or.inr rfl, Or.inr rfl, trivial⟩ ?_
              exact h
            · replace h := h.2 c61
              obtain ⟨h62, h⟩ := h
              obtain ⟨h63, h⟩ := h
              obtain ⟨h64, h⟩ := h
              obtain ⟨h65, h⟩ := h
              obtain ⟨h66, h⟩ := h
              refine wm_aload_n d_TR_readSets_147 rfl rfl ?_
              refine gf_TR_12 rfl d_TR_readSets_148 h62 ?_
              refine wm_iconst d_TR_readSets_151 ?_
              refine wm_aload_n d_TR_readSets_152 rfl rfl ?_
              refine gf_TR_12 rfl d_TR_readSets_153 h62 ?_
              refine gf_TR_109 rfl d_TR_readSets_156 h63 ?_
              refine gf_TR_113 rfl d_TR_readSets_159 h64 ?_
              refine wm_iload d_TR_readSets_162 rfl ?_
              refine wm_iald d_TR_readSets_164 h65 h66 ?_
              refine cf_TR_95 rfl d_TR_readSets_165 h63 (Nat.le_of_ble_eq_true rfl) (Cv.mono h (fun M67 h => ?_))
              obtain ⟨hOM67, h⟩ := h
              refine wm_less (L' := [vr a0, vd, vi l2, vi l3, vi x26, vi (mI M32 (mR M32 a0 0) 2), vi x47]) ⟨Or.inr rfl, Or.inl rfl, Or.inr rfl, Or.inr rfl, Or.inr rfl, Or.inr rfl, Or.inr rfl, trivial⟩ ?_
              exact h
          · replace c51 := Classical.not_not.mp c51
            replace h := h.1 c51
            obtain ⟨h52, h⟩ := h
            obtain ⟨h53, h⟩ := h
            obtain ⟨h54, h⟩ := h
            obtain ⟨h55, h⟩ := h
            obtain ⟨h56, h⟩ := h
            refine wm_aload_n d_TR_readSets_114 rfl rfl ?_
            refine gf_TR_12 rfl d_TR_readSets_115 h52 ?_
            refine wm_iconst d_TR_readSets_118 ?_
            refine wm_aload_n d_TR_readSets_119 rfl rfl ?_
            refine gf_TR_12 rfl d_TR_readSets_120 h52 ?_
            refine gf_TR_109 rfl d_TR_readSets_123 h53 ?_
            refine gf_TR_113 rfl d_TR_readSets_126 h54 ?_
            refine wm_iload d_TR_readSets_129 rfl ?_
            refine wm_iald d_TR_readSets_131 h55 h56 ?_
            refine cf_TR_95 rfl d_TR_readSets_132 h53 (Nat.le_of_ble_eq_true rfl) (Cv.mono h (fun M57 h => ?_))
            obtain ⟨hOM57, h⟩ := h
            refine wm_goto (tgt := 168) d_TR_readSets_135 rfl ?_
            refine wm_less (L' := [vr a0, vd, vi l2, vi l3, vi x26, vi (mI M32 (mR M32 a0 0) 2), vi x47]) ⟨Or.inr rfl, Or.inl rfl, Or.inr rfl, Or.inr rfl, Or.inr rfl, Or.inr rfl, Or.inr rfl, trivial⟩ ?_
            exact h
        · replace c43 := Classical.not_not.mp c43
          replace h := h.1 c43
          refine wm_iconst d_TR_readSets_95 ?_
          refine wm_ireturn d_TR_readSets_96 rfl (m_nb (by decide)) ?_
          exact ⟨_, rfl, h⟩
      · replace c36 := Classical.not_not.mp c36
        replace h := h.1 c36
        refine wm_iconst d_TR_readSets_73 ?_
        refine wm_ireturn d_TR_readSets_74 rfl (m_nb (by decide)) ?_
        exact ⟨_, rfl, h⟩
  clear h
  refine wm_icmp_ge (tgt := 307) d_TR_readSets_33 rfl hi_l3 (hO _ _).1 (fun c17 => ?_) (fun c17 => ?_)
  · exact hE0 (Or.inl c17)
  · refine wm_iload_n d_TR_readSets_36 rfl rfl ?_
    refine wm_if_eq (tgt := 307) d_TR_readSets_37 rfl hi_l1 (fun c16 => ?_) (fun c16 => ?_)
    · exact hE0 (Or.inr c16)
    · exact hE1 (fun z70 => Or.elim z70 c17 c16)
theorem k_TR_readSets_168 {G : mG} {d : Nat} {a0 : Nat} {l2 : Int} {l3 : Int} {l4 : Int} {l5 : Int} {l6 : Int} {M : mM} {Q : Int → mM → Prop} (hO : mOk M) (hi_l2 : i32 l2) (hi_l3 : i32 l3) (hi_l4 : i32 l4) (hi_l5 : i32 l5) (hi_l6 : i32 l6)
    (h : ∀ v73 : Int, v73 = (if (l6 = (-1)) then 0 else shlI 1 l6) → mK M a0 = 3 ∧ mK M (mR M a0 0) = 4 ∧ i32 ((mI M (mR M a0 0) 5) + 1) ∧ ∀ M80, M80 = mUI M (mR M a0 0) 5 ((mI M (mR M a0 0) 5) + 1) → mK M80 (mR M80 a0 0) = 4 ∧ Ci G y_RR_accept d [vr (mR M80 a0 0), vi 39] M80 (fun x84 M83 => i32 x84 ∧ mOk M83 ∧ (((x84 = 0) → (Q 0 M83)) ∧ (¬ (x84 = 0) → (mK M83 a0 = 3 ∧ mK M83 (mR M83 a0 0) = 4 ∧ Ci G y_RR_accept d [vr (mR M83 a0 0), vi 24] M83 (fun x91 M90 => i32 x91 ∧ mOk M90 ∧ (((x91 = 0) → (Q 0 M90)) ∧ (¬ (x91 = 0) → (mK M90 a0 = 3 ∧ mK M90 (mR M90 a0 0) = 4 ∧ Ci G y_RR_kindOf d [vr (mR M90 a0 0), vi l5] M90 (fun x98 M97 => i32 x98 ∧ mOk M97 ∧ (mK M97 (mR M90 a0 0) = 4 ∧ Ci G y_RR_readRule d [vr (mR M90 a0 0), vi x98, vi 1] M97 (fun x102 M101 => i32 x102 ∧ mOk M101 ∧ (((x102 = 0) → (Q 0 M101)) ∧ (¬ (x102 = 0) → (mK M101 a0 = 3 ∧ mK M101 (mR M101 a0 0) = 4 ∧ Ci G y_RR_accept d [vr (mR M101 a0 0), vi 38] M101 (fun x109 M108 => i32 x109 ∧ mOk M108 ∧ (((x109 = 0) → (Q 0 M108)) ∧ (¬ (x109 = 0) → (mK M108 a0 = 3 ∧ mK M108 (mR M108 a0 0) = 4 ∧ i32 ((mI M108 (mR M108 a0 0) 5) - 1) ∧ ∀ M116, M116 = mUI M108 (mR M108 a0 0) 5 ((mI M108 (mR M108 a0 0) 5) - 1) → mK M116 (mR M116 a0 2) = 6 ∧ Ci G y_Pr_add d [vr (mR M116 a0 2), vi 43, vi ((l4 * 16) + (if l6 < 0 then 0 else l6))] M116 (fun x120 M119 => i32 x120 ∧ mOk M119 ∧ (mK M119 a0 = 3 ∧ mK M119 (mR M119 a0 0) = 4 ∧ Ci G y_RR_accept d [vr (mR M119 a0 0), vi 30] M119 (fun x125 M124 => i32 x125 ∧ mOk M124 ∧ (h_TR_readSets_22 G d a0 x125 (orI l2 v73) (l3 + 1) M124 Q))))))))))))))))))))))) :
    h_TR_readSets_168 G d a0 l2 l3 l4 l5 l6 M Q := by
  unfold h_TR_readSets_168
  refine wm_iload_n d_TR_readSets_168 rfl rfl ?_
  refine wm_iload d_TR_readSets_169 rfl ?_
  refine wm_iconst d_TR_readSets_171 ?_
  have hJ : ∀ v73 : Int, v73 = (if (l6 = (-1)) then 0 else shlI 1 l6) → mWm G y_TR_readSets (d + 1) 183 [vr a0, vd, vd, vi l3, vi l4, vi l5, vi l6] [vi v73, vi l2] M (fun r9 M9 => ∃ x9, r9 = some (vi x9) ∧ Q x9 M9) := by
    intro v73 e75
    have h := h v73 e75
    have h76 : i32 v73 := by rw [e75]; (repeat' split) <;> first | exact ⟨by decide, by decide⟩ | exact (m_i32 _)
    obtain ⟨h77, h⟩ := h
    obtain ⟨h78, h⟩ := h
    obtain ⟨h79, h⟩ := h
    obtain ⟨M80, e81⟩ : ∃ M80, M80 = mUI M (mR M a0 0) 5 ((mI M (mR M a0 0) 5) + 1) := ⟨_, rfl⟩
    replace h := h M80 e81
    obtain ⟨h82, h⟩ := h
    refine wm_ior d_TR_readSets_183 ?_
    refine wm_istore_n d_TR_readSets_184 rfl (by decide) (L' := [vr a0, vd, vi (orI l2 v73), vi l3, vi l4, vi l5, vi l6]) rfl ?_
    refine wm_aload_n d_TR_readSets_185 rfl rfl ?_
    refine gf_TR_12 rfl d_TR_readSets_186 h77 ?_
    refine wm_dup d_TR_readSets_189 rfl ?_
    refine gf_TR_222 rfl d_TR_readSets_190 h78 ?_
    refine wm_iconst d_TR_readSets_193 ?_
    refine wm_iadd d_TR_readSets_194 ?_
    have hOM80 : mOk M80 := by rw [e81]; exact mOk_UI hO h79
    refine pf_TR_222 rfl d_TR_readSets_195 h78 h79 e81 ?_
    refine wm_aload_n d_TR_readSets_198 rfl rfl ?_
    refine gf_TR_12 rfl d_TR_readSets_199 (by rw [e81]; exact h77) ?_
    refine wm_bipush d_TR_readSets_202 (by decide) ?_
    refine cf_TR_102 rfl d_TR_readSets_204 h82 (Nat.le_of_ble_eq_true rfl) (Ci.mono h (fun x84 M83 h => ?_))
    obtain ⟨h85, hOM83, h⟩ := h
    refine wm_if_eq (tgt := 254) d_TR_readSets_207 rfl h85 (fun c87 => ?_) (fun c87 => ?_)
    · replace h := h.1 c87
      refine wm_iconst d_TR_readSets_254 ?_
      refine wm_ireturn d_TR_readSets_255 rfl (m_nb (by decide)) ?_
      exact ⟨_, rfl, h⟩
    · replace h := h.2 c87
      obtain ⟨h88, h⟩ := h
      obtain ⟨h89, h⟩ := h
      refine wm_aload_n d_TR_readSets_210 rfl rfl ?_
      refine gf_TR_12 rfl d_TR_readSets_211 h88 ?_
      refine wm_bipush d_TR_readSets_214 (by decide) ?_
      refine cf_TR_102 rfl d_TR_readSets_216 h89 (Nat.le_of_ble_eq_true rfl) (Ci.mono h (fun x91 M90 h => ?_))
      obtain ⟨h92, hOM90, h⟩ := h
      refine wm_if_eq (tgt := 254) d_TR_readSets_219 rfl h92 (fun c94 => ?_) (fun c94 => ?_)
      · replace h := h.1 c94
        refine wm_iconst d_TR_readSets_254 ?_
        refine wm_ireturn d_TR_readSets_255 rfl (m_nb (by decide)) ?_
        exact ⟨_, rfl, h⟩
      · replace h := h.2 c94
        obtain ⟨h95, h⟩ := h
        obtain ⟨h96, h⟩ := h
        refine wm_aload_n d_TR_readSets_222 rfl rfl ?_
        refine gf_TR_12 rfl d_TR_readSets_223 h95 ?_
        refine wm_aload_n d_TR_readSets_226 rfl rfl ?_
        refine gf_TR_12 rfl d_TR_readSets_227 h95 ?_
        refine wm_iload d_TR_readSets_230 rfl ?_
        refine cf_TR_228 rfl d_TR_readSets_232 h96 (Nat.le_of_ble_eq_true rfl) (Ci.mono h (fun x98 M97 h => ?_))
        obtain ⟨h99, hOM97, h⟩ := h
        obtain ⟨h100, h⟩ := h
        refine wm_iconst d_TR_readSets_235 ?_
        refine cf_TR_117 rfl d_TR_readSets_236 h100 (Nat.le_of_ble_eq_true rfl) (Ci.mono h (fun x102 M101 h => ?_))
        obtain ⟨h103, hOM101, h⟩ := h
        refine wm_if_eq (tgt := 254) d_TR_readSets_239 rfl h103 (fun c105 => ?_) (fun c105 => ?_)
        · replace h := h.1 c105
          refine wm_iconst d_TR_readSets_254 ?_
          refine wm_ireturn d_TR_readSets_255 rfl (m_nb (by decide)) ?_
          exact ⟨_, rfl, h⟩
        · replace h := h.2 c105
          obtain ⟨h106, h⟩ := h
          obtain ⟨h107, h⟩ := h
          refine wm_aload_n d_TR_readSets_242 rfl rfl ?_
          refine gf_TR_12 rfl d_TR_readSets_243 h106 ?_
          refine wm_bipush d_TR_readSets_246 (by decide) ?_
          refine cf_TR_102 rfl d_TR_readSets_248 h107 (Nat.le_of_ble_eq_true rfl) (Ci.mono h (fun x109 M108 h => ?_))
          obtain ⟨h110, hOM108, h⟩ := h
          refine wm_if_ne (tgt := 256) d_TR_readSets_251 rfl h110 (fun c112 => ?_) (fun c112 => ?_)
          · replace h := h.2 c112
            obtain ⟨h113, h⟩ := h
            obtain ⟨h114, h⟩ := h
            obtain ⟨h115, h⟩ := h
            obtain ⟨M116, e117⟩ : ∃ M116, M116 = mUI M108 (mR M108 a0 0) 5 ((mI M108 (mR M108 a0 0) 5) - 1) := ⟨_, rfl⟩
            replace h := h M116 e117
            obtain ⟨h118, h⟩ := h
            refine wm_aload_n d_TR_readSets_256 rfl rfl ?_
            refine gf_TR_12 rfl d_TR_readSets_257 h113 ?_
            refine wm_dup d_TR_readSets_260 rfl ?_
            refine gf_TR_222 rfl d_TR_readSets_261 h114 ?_
            refine wm_iconst d_TR_readSets_264 ?_
            refine wm_isub d_TR_readSets_265 ?_
            have hOM116 : mOk M116 := by rw [e117]; exact mOk_UI hOM108 h115
            refine pf_TR_222 rfl d_TR_readSets_266 h114 h115 e117 ?_
            refine wm_aload_n d_TR_readSets_269 rfl rfl ?_
            refine gf_TR_36 rfl d_TR_readSets_270 (by rw [e117]; exact h113) ?_
            refine wm_bipush d_TR_readSets_273 (by decide) ?_
            refine wm_iload d_TR_readSets_275 rfl ?_
            refine wm_bipush d_TR_readSets_277 (by decide) ?_
            refine wm_imul d_TR_readSets_279 ?_
            refine wm_iload d_TR_readSets_280 rfl ?_
            refine wm_iconst d_TR_readSets_282 ?_
            refine wm_mmax k5_34 (Nat.le_of_ble_eq_true rfl) hi_l6 ⟨by decide, by decide⟩ d_TR_readSets_283 ?_
            refine wm_iadd d_TR_readSets_286 ?_
            refine cf_TR_121 rfl d_TR_readSets_287 h118 (Nat.le_of_ble_eq_true rfl) (Ci.mono h (fun x120 M119 h => ?_))
            obtain ⟨h121, hOM119, h⟩ := h
            obtain ⟨h122, h⟩ := h
            obtain ⟨h123, h⟩ := h
            refine wm_pop d_TR_readSets_290 rfl ?_
            refine wm_aload_n d_TR_readSets_291 rfl rfl ?_
            refine gf_TR_12 rfl d_TR_readSets_292 h122 ?_
            refine wm_bipush d_TR_readSets_295 (by decide) ?_
            refine cf_TR_102 rfl d_TR_readSets_297 h123 (Nat.le_of_ble_eq_true rfl) (Ci.mono h (fun x125 M124 h => ?_))
            obtain ⟨h126, hOM124, h⟩ := h
            refine wm_istore_n d_TR_readSets_300 rfl (by decide) (L' := [vr a0, vi x125, vi (orI l2 v73), vi l3, vi l4, vi l5, vi l6]) rfl ?_
            refine wm_iinc d_TR_readSets_301 (by decide) rfl (L' := [vr a0, vi x125, vi (orI l2 v73), vi (l3 + 1), vi l4, vi l5, vi l6]) rfl ?_
            refine wm_goto (tgt := 22) d_TR_readSets_304 rfl ?_
            refine wm_less (L' := [vr a0, vi x125, vi (orI l2 v73), vi (l3 + 1), vd, vd, vd]) ⟨Or.inr rfl, Or.inr rfl, Or.inr rfl, Or.inr rfl, Or.inl rfl, Or.inl rfl, Or.inl rfl, trivial⟩ ?_
            exact h
          · replace c112 := Classical.not_not.mp c112
            replace h := h.1 c112
            refine wm_iconst d_TR_readSets_254 ?_
            refine wm_ireturn d_TR_readSets_255 rfl (m_nb (by decide)) ?_
            exact ⟨_, rfl, h⟩
  clear h
  refine wm_icmp_ne (tgt := 179) d_TR_readSets_172 rfl hi_l6 ⟨by decide, by decide⟩ (fun c72 => ?_) (fun c72 => ?_)
  · refine wm_iconst d_TR_readSets_179 ?_
    refine wm_iload d_TR_readSets_180 rfl ?_
    refine wm_ishl d_TR_readSets_182 ?_
    refine wm_less (L' := [vr a0, vd, vd, vi l3, vi l4, vi l5, vi l6]) ⟨Or.inr rfl, Or.inl rfl, Or.inl rfl, Or.inr rfl, Or.inr rfl, Or.inr rfl, Or.inr rfl, trivial⟩ ?_
    exact hJ (shlI 1 l6) (if_neg c72).symm
  · replace c72 := Classical.not_not.mp c72
    refine wm_iconst d_TR_readSets_175 ?_
    refine wm_goto (tgt := 183) d_TR_readSets_176 rfl ?_
    refine wm_less (L' := [vr a0, vd, vd, vi l3, vi l4, vi l5, vi l6]) ⟨Or.inr rfl, Or.inl rfl, Or.inl rfl, Or.inr rfl, Or.inr rfl, Or.inr rfl, Or.inr rfl, trivial⟩ ?_
    exact hJ 0 (if_pos c72).symm
theorem d_Wo_init_0 : decode y_Wo_init.2.1 0 = .ok (.aload_n 0, 1) := dc9_42 (by decide +kernel)
theorem d_Wo_init_1 : decode y_Wo_init.2.1 1 = .ok (.invokespecial 3, 3) := dc9_183 (by decide +kernel)
theorem d_Wo_init_4 : decode y_Wo_init.2.1 4 = .ok (.aload_n 0, 1) := dc9_42 (by decide +kernel)
theorem d_Wo_init_5 : decode y_Wo_init.2.1 5 = .ok (.iconst 0, 1) := dc9_3 (by decide +kernel)
theorem d_Wo_init_6 : decode y_Wo_init.2.1 6 = .ok (.newarray .char, 2) := by decide +kernel
theorem d_Wo_init_8 : decode y_Wo_init.2.1 8 = .ok (.putfield 9, 3) := dc9_181 (by decide +kernel)
theorem d_Wo_init_11 : decode y_Wo_init.2.1 11 = .ok (.aload_n 0, 1) := dc9_42 (by decide +kernel)
theorem d_Wo_init_12 : decode y_Wo_init.2.1 12 = .ok (.sipush 128, 3) := dc9_17 (by decide +kernel)
theorem d_Wo_init_15 : decode y_Wo_init.2.1 15 = .ok (.newarray .int, 2) := by decide +kernel
theorem d_Wo_init_17 : decode y_Wo_init.2.1 17 = .ok (.putfield 15, 3) := dc9_181 (by decide +kernel)
theorem d_Wo_init_20 : decode y_Wo_init.2.1 20 = .ok (.aload_n 0, 1) := dc9_42 (by decide +kernel)
theorem d_Wo_init_21 : decode y_Wo_init.2.1 21 = .ok (.sipush 128, 3) := dc9_17 (by decide +kernel)
theorem d_Wo_init_24 : decode y_Wo_init.2.1 24 = .ok (.newarray .int, 2) := by decide +kernel
theorem d_Wo_init_26 : decode y_Wo_init.2.1 26 = .ok (.putfield 19, 3) := dc9_181 (by decide +kernel)
theorem d_Wo_init_29 : decode y_Wo_init.2.1 29 = .ok (.aload_n 0, 1) := dc9_42 (by decide +kernel)
theorem d_Wo_init_30 : decode y_Wo_init.2.1 30 = .ok (.sipush 128, 3) := dc9_17 (by decide +kernel)
theorem d_Wo_init_33 : decode y_Wo_init.2.1 33 = .ok (.newarray .int, 2) := by decide +kernel
theorem d_Wo_init_35 : decode y_Wo_init.2.1 35 = .ok (.putfield 22, 3) := dc9_181 (by decide +kernel)
theorem d_Wo_init_38 : decode y_Wo_init.2.1 38 = .ok (.return_, 1) := dc9_177 (by decide +kernel)
theorem k_Wo_init {G : mG} {d : Nat} {a0 : Nat} {M : mM} {Q : mM → Prop} (hO : mOk M)
    (h : 0 < a0 ∧ ∀ M2, M2 = mNew M 32 0 0 → mK M2 a0 = 2 ∧ ∀ M5, M5 = mUR M2 a0 0 (mZ M) → ∀ M7, M7 = mNew M5 30 128 128 → mK M7 a0 = 2 ∧ ∀ M10, M10 = mUR M7 a0 3 (mZ M5) → ∀ M12, M12 = mNew M10 30 128 128 → mK M12 a0 = 2 ∧ ∀ M15, M15 = mUR M12 a0 4 (mZ M10) → ∀ M17, M17 = mNew M15 30 128 128 → mK M17 a0 = 2 ∧ ∀ M20, M20 = mUR M17 a0 5 (mZ M15) → Q M20) :
    Cv G y_Wo_init (d + 1) [vr a0] M Q := by
  refine wm_open (y := y_Wo_init) rfl (Nat.le_of_ble_eq_true rfl) (L := [vr a0]) rfl ?_
  obtain ⟨h1, h⟩ := h
  obtain ⟨M2, e3⟩ : ∃ M2, M2 = mNew M 32 0 0 := ⟨_, rfl⟩
  replace h := h M2 e3
  obtain ⟨h4, h⟩ := h
  obtain ⟨M5, e6⟩ : ∃ M5, M5 = mUR M2 a0 0 (mZ M) := ⟨_, rfl⟩
  replace h := h M5 e6
  obtain ⟨M7, e8⟩ : ∃ M7, M7 = mNew M5 30 128 128 := ⟨_, rfl⟩
  replace h := h M7 e8
  obtain ⟨h9, h⟩ := h
  obtain ⟨M10, e11⟩ : ∃ M10, M10 = mUR M7 a0 3 (mZ M5) := ⟨_, rfl⟩
  replace h := h M10 e11
  obtain ⟨M12, e13⟩ : ∃ M12, M12 = mNew M10 30 128 128 := ⟨_, rfl⟩
  replace h := h M12 e13
  obtain ⟨h14, h⟩ := h
  obtain ⟨M15, e16⟩ : ∃ M15, M15 = mUR M12 a0 4 (mZ M10) := ⟨_, rfl⟩
  replace h := h M15 e16
  obtain ⟨M17, e18⟩ : ∃ M17, M17 = mNew M15 30 128 128 := ⟨_, rfl⟩
  replace h := h M17 e18
  obtain ⟨h19, h⟩ := h
  obtain ⟨M20, e21⟩ : ∃ M20, M20 = mUR M17 a0 5 (mZ M15) := ⟨_, rfl⟩
  replace h := h M20 e21
  refine wm_aload_n d_Wo_init_0 rfl rfl ?_
  refine wm_objInit trivial k1_53 kO_inst kO_code (Nat.le_of_ble_eq_true rfl) d_Wo_init_1 h1 ?_
  refine wm_aload_n d_Wo_init_4 rfl rfl ?_
  refine wm_iconst d_Wo_init_5 ?_
  have hOM2 : mOk M2 := by rw [e3]; exact mOk_New hO
  refine wm_newarrE 2 (atype := .char) (ty := .char) rfl rfl (fun _ => rfl) rfl rfl (by decide) k1_81 ⟨by decide, by decide⟩ d_Wo_init_6 e3 ?_
  have hOM5 : mOk M5 := by rw [e6]; exact mOk_UR hOM2
  refine pf_Wo_9 rfl d_Wo_init_8 h4 e6 ?_
  refine wm_aload_n d_Wo_init_11 rfl rfl ?_
  refine wm_sipush d_Wo_init_12 (by decide) ?_
  have hOM7 : mOk M7 := by rw [e8]; exact mOk_New hOM5
  refine wm_newarrE 0 (atype := .int) (ty := .int) rfl rfl (fun _ => rfl) rfl rfl (by decide) k1_82 ⟨by decide, by decide⟩ d_Wo_init_15 e8 ?_
  have hOM10 : mOk M10 := by rw [e11]; exact mOk_UR hOM7
  refine pf_Wo_15 rfl d_Wo_init_17 h9 e11 ?_
  refine wm_aload_n d_Wo_init_20 rfl rfl ?_
  refine wm_sipush d_Wo_init_21 (by decide) ?_
  have hOM12 : mOk M12 := by rw [e13]; exact mOk_New hOM10
  refine wm_newarrE 0 (atype := .int) (ty := .int) rfl rfl (fun _ => rfl) rfl rfl (by decide) k1_82 ⟨by decide, by decide⟩ d_Wo_init_24 e13 ?_
  have hOM15 : mOk M15 := by rw [e16]; exact mOk_UR hOM12
  refine pf_Wo_19 rfl d_Wo_init_26 h14 e16 ?_
  refine wm_aload_n d_Wo_init_29 rfl rfl ?_
  refine wm_sipush d_Wo_init_30 (by decide) ?_
  have hOM17 : mOk M17 := by rw [e18]; exact mOk_New hOM15
  refine wm_newarrE 0 (atype := .int) (ty := .int) rfl rfl (fun _ => rfl) rfl rfl (by decide) k1_82 ⟨by decide, by decide⟩ d_Wo_init_33 e18 ?_
  have hOM20 : mOk M20 := by rw [e21]; exact mOk_UR hOM17
  refine pf_Wo_22 rfl d_Wo_init_35 h19 e21 ?_
  refine wm_return d_Wo_init_38 rfl ?_
  exact ⟨rfl, h⟩
