section
theorem d_TR_settleVar_0 : decode y_TR_settleVar.2.1 0 = .ok (.iconst 0, 1) := dc9_3 (by decide +kernel)
theorem d_TR_settleVar_1 : decode y_TR_settleVar.2.1 1 = .ok (.istore_n 1, 1) := dc9_60 (by decide +kernel)
theorem d_TR_settleVar_2 : decode y_TR_settleVar.2.1 2 = .ok (.iconst 1, 1) := dc9_4 (by decide +kernel)
theorem d_TR_settleVar_3 : decode y_TR_settleVar.2.1 3 = .ok (.istore_n 2, 1) := dc9_61 (by decide +kernel)
theorem d_TR_settleVar_4 : decode y_TR_settleVar.2.1 4 = .ok (.aload_n 0, 1) := dc9_42 (by decide +kernel)
theorem d_TR_settleVar_5 : decode y_TR_settleVar.2.1 5 = .ok (.getfield 12, 3) := dc9_180 (by decide +kernel)
theorem d_TR_settleVar_8 : decode y_TR_settleVar.2.1 8 = .ok (.getfield 76, 3) := dc9_180 (by decide +kernel)
theorem d_TR_settleVar_11 : decode y_TR_settleVar.2.1 11 = .ok (.ifCond .ne 95, 3) := dc9_154 (by decide +kernel)
theorem d_TR_settleVar_14 : decode y_TR_settleVar.2.1 14 = .ok (.aload_n 0, 1) := dc9_42 (by decide +kernel)
theorem d_TR_settleVar_15 : decode y_TR_settleVar.2.1 15 = .ok (.getfield 143, 3) := dc9_180 (by decide +kernel)
theorem d_TR_settleVar_18 : decode y_TR_settleVar.2.1 18 = .ok (.ifCond .ne 88, 3) := dc9_154 (by decide +kernel)
theorem d_TR_settleVar_21 : decode y_TR_settleVar.2.1 21 = .ok (.aload_n 0, 1) := dc9_42 (by decide +kernel)
theorem d_TR_settleVar_22 : decode y_TR_settleVar.2.1 22 = .ok (.iconst 0, 1) := dc9_3 (by decide +kernel)
theorem d_TR_settleVar_23 : decode y_TR_settleVar.2.1 23 = .ok (.iconst 1, 1) := dc9_4 (by decide +kernel)
theorem d_TR_settleVar_24 : decode y_TR_settleVar.2.1 24 = .ok (.invokevirtual 146, 3) := dc9_182 (by decide +kernel)
theorem d_TR_settleVar_27 : decode y_TR_settleVar.2.1 27 = .ok (.ifCond .eq 15, 3) := dc9_153 (by decide +kernel)
theorem d_TR_settleVar_42 : decode y_TR_settleVar.2.1 42 = .ok (.iconst 0, 1) := dc9_3 (by decide +kernel)
theorem d_TR_settleVar_30 : decode y_TR_settleVar.2.1 30 = .ok (.aload_n 0, 1) := dc9_42 (by decide +kernel)
theorem d_TR_settleVar_31 : decode y_TR_settleVar.2.1 31 = .ok (.getfield 21, 3) := dc9_180 (by decide +kernel)
theorem d_TR_settleVar_34 : decode y_TR_settleVar.2.1 34 = .ok (.getfield 155, 3) := dc9_180 (by decide +kernel)
theorem d_TR_settleVar_37 : decode y_TR_settleVar.2.1 37 = .ok (.iconst 0, 1) := dc9_3 (by decide +kernel)
theorem d_TR_settleVar_38 : decode y_TR_settleVar.2.1 38 = .ok (.iaload, 1) := dc9_46 (by decide +kernel)
theorem d_TR_settleVar_39 : decode y_TR_settleVar.2.1 39 = .ok (.goto 4, 3) := dc9_167 (by decide +kernel)
theorem d_TR_settleVar_43 : decode y_TR_settleVar.2.1 43 = .ok (.istore_n 1, 1) := dc9_60 (by decide +kernel)
theorem d_TR_settleVar_44 : decode y_TR_settleVar.2.1 44 = .ok (.aload_n 0, 1) := dc9_42 (by decide +kernel)
theorem d_TR_settleVar_45 : decode y_TR_settleVar.2.1 45 = .ok (.getfield 12, 3) := dc9_180 (by decide +kernel)
theorem d_TR_settleVar_48 : decode y_TR_settleVar.2.1 48 = .ok (.getfield 76, 3) := dc9_180 (by decide +kernel)
theorem d_TR_settleVar_51 : decode y_TR_settleVar.2.1 51 = .ok (.ifCond .ne 24, 3) := dc9_154 (by decide +kernel)
theorem d_TR_settleVar_54 : decode y_TR_settleVar.2.1 54 = .ok (.aload_n 0, 1) := dc9_42 (by decide +kernel)
theorem d_TR_settleVar_55 : decode y_TR_settleVar.2.1 55 = .ok (.iconst 1, 1) := dc9_4 (by decide +kernel)
theorem d_TR_settleVar_56 : decode y_TR_settleVar.2.1 56 = .ok (.iconst 1, 1) := dc9_4 (by decide +kernel)
theorem d_TR_settleVar_57 : decode y_TR_settleVar.2.1 57 = .ok (.invokevirtual 146, 3) := dc9_182 (by decide +kernel)
theorem d_TR_settleVar_60 : decode y_TR_settleVar.2.1 60 = .ok (.ifCond .eq 15, 3) := dc9_153 (by decide +kernel)
theorem d_TR_settleVar_63 : decode y_TR_settleVar.2.1 63 = .ok (.aload_n 0, 1) := dc9_42 (by decide +kernel)
theorem d_TR_settleVar_64 : decode y_TR_settleVar.2.1 64 = .ok (.getfield 21, 3) := dc9_180 (by decide +kernel)
theorem d_TR_settleVar_67 : decode y_TR_settleVar.2.1 67 = .ok (.getfield 155, 3) := dc9_180 (by decide +kernel)
theorem d_TR_settleVar_70 : decode y_TR_settleVar.2.1 70 = .ok (.iconst 0, 1) := dc9_3 (by decide +kernel)
theorem d_TR_settleVar_71 : decode y_TR_settleVar.2.1 71 = .ok (.iaload, 1) := dc9_46 (by decide +kernel)
theorem d_TR_settleVar_72 : decode y_TR_settleVar.2.1 72 = .ok (.goto 4, 3) := dc9_167 (by decide +kernel)
theorem d_TR_settleVar_75 : decode y_TR_settleVar.2.1 75 = .ok (.iload_n 1, 1) := dc9_27 (by decide +kernel)
theorem d_TR_settleVar_76 : decode y_TR_settleVar.2.1 76 = .ok (.istore_n 2, 1) := dc9_61 (by decide +kernel)
theorem d_TR_settleVar_77 : decode y_TR_settleVar.2.1 77 = .ok (.iload_n 2, 1) := dc9_28 (by decide +kernel)
theorem d_TR_settleVar_78 : decode y_TR_settleVar.2.1 78 = .ok (.iload_n 1, 1) := dc9_27 (by decide +kernel)
theorem d_TR_settleVar_79 : decode y_TR_settleVar.2.1 79 = .ok (.if_icmp .lt 12, 3) := dc9_161 (by decide +kernel)
theorem d_TR_settleVar_82 : decode y_TR_settleVar.2.1 82 = .ok (.iload_n 2, 1) := dc9_28 (by decide +kernel)
theorem d_TR_settleVar_83 : decode y_TR_settleVar.2.1 83 = .ok (.iload_n 1, 1) := dc9_27 (by decide +kernel)
theorem d_TR_settleVar_84 : decode y_TR_settleVar.2.1 84 = .ok (.isub, 1) := dc9_100 (by decide +kernel)
theorem d_TR_settleVar_85 : decode y_TR_settleVar.2.1 85 = .ok (.sipush 10000, 3) := dc9_17 (by decide +kernel)
theorem d_TR_settleVar_88 : decode y_TR_settleVar.2.1 88 = .ok (.if_icmp .lt 18, 3) := dc9_161 (by decide +kernel)
theorem d_TR_settleVar_91 : decode y_TR_settleVar.2.1 91 = .ok (.aload_n 0, 1) := dc9_42 (by decide +kernel)
theorem d_TR_settleVar_92 : decode y_TR_settleVar.2.1 92 = .ok (.getfield 12, 3) := dc9_180 (by decide +kernel)
theorem d_TR_settleVar_95 : decode y_TR_settleVar.2.1 95 = .ok (.bipush 9, 2) := dc9_16 (by decide +kernel)
theorem d_TR_settleVar_97 : decode y_TR_settleVar.2.1 97 = .ok (.aload_n 0, 1) := dc9_42 (by decide +kernel)
theorem d_TR_settleVar_98 : decode y_TR_settleVar.2.1 98 = .ok (.getfield 29, 3) := dc9_180 (by decide +kernel)
theorem d_TR_settleVar_101 : decode y_TR_settleVar.2.1 101 = .ok (.iconst 1, 1) := dc9_4 (by decide +kernel)
theorem d_TR_settleVar_102 : decode y_TR_settleVar.2.1 102 = .ok (.iaload, 1) := dc9_46 (by decide +kernel)
theorem d_TR_settleVar_103 : decode y_TR_settleVar.2.1 103 = .ok (.invokevirtual 95, 3) := dc9_182 (by decide +kernel)
theorem d_TR_settleVar_106 : decode y_TR_settleVar.2.1 106 = .ok (.aload_n 0, 1) := dc9_42 (by decide +kernel)
theorem d_TR_settleVar_107 : decode y_TR_settleVar.2.1 107 = .ok (.getfield 12, 3) := dc9_180 (by decide +kernel)
theorem d_TR_settleVar_110 : decode y_TR_settleVar.2.1 110 = .ok (.getfield 76, 3) := dc9_180 (by decide +kernel)
theorem d_TR_settleVar_113 : decode y_TR_settleVar.2.1 113 = .ok (.ifCond .ne 31, 3) := dc9_154 (by decide +kernel)
theorem d_TR_settleVar_116 : decode y_TR_settleVar.2.1 116 = .ok (.aload_n 0, 1) := dc9_42 (by decide +kernel)
theorem d_TR_settleVar_117 : decode y_TR_settleVar.2.1 117 = .ok (.getfield 175, 3) := dc9_180 (by decide +kernel)
theorem d_TR_settleVar_120 : decode y_TR_settleVar.2.1 120 = .ok (.ifCond .eq 24, 3) := dc9_153 (by decide +kernel)
theorem d_TR_settleVar_144 : decode y_TR_settleVar.2.1 144 = .ok (.iload_n 1, 1) := dc9_27 (by decide +kernel)
theorem d_TR_settleVar_123 : decode y_TR_settleVar.2.1 123 = .ok (.aload_n 0, 1) := dc9_42 (by decide +kernel)
theorem d_TR_settleVar_124 : decode y_TR_settleVar.2.1 124 = .ok (.iconst 2, 1) := dc9_5 (by decide +kernel)
theorem d_TR_settleVar_125 : decode y_TR_settleVar.2.1 125 = .ok (.iconst 1, 1) := dc9_4 (by decide +kernel)
theorem d_TR_settleVar_145 : decode y_TR_settleVar.2.1 145 = .ok (.istore_n 3, 1) := dc9_62 (by decide +kernel)
theorem d_TR_settleVar_146 : decode y_TR_settleVar.2.1 146 = .ok (.iload_n 3, 1) := dc9_29 (by decide +kernel)
theorem d_TR_settleVar_147 : decode y_TR_settleVar.2.1 147 = .ok (.iload_n 1, 1) := dc9_27 (by decide +kernel)
theorem d_TR_settleVar_148 : decode y_TR_settleVar.2.1 148 = .ok (.if_icmp .lt 8, 3) := dc9_161 (by decide +kernel)
theorem d_TR_settleVar_151 : decode y_TR_settleVar.2.1 151 = .ok (.iload_n 3, 1) := dc9_29 (by decide +kernel)
theorem d_TR_settleVar_152 : decode y_TR_settleVar.2.1 152 = .ok (.iload_n 2, 1) := dc9_28 (by decide +kernel)
theorem d_TR_settleVar_153 : decode y_TR_settleVar.2.1 153 = .ok (.if_icmp .le 18, 3) := dc9_164 (by decide +kernel)
theorem d_TR_settleVar_156 : decode y_TR_settleVar.2.1 156 = .ok (.aload_n 0, 1) := dc9_42 (by decide +kernel)
theorem d_TR_settleVar_157 : decode y_TR_settleVar.2.1 157 = .ok (.getfield 12, 3) := dc9_180 (by decide +kernel)
theorem d_TR_settleVar_160 : decode y_TR_settleVar.2.1 160 = .ok (.bipush 9, 2) := dc9_16 (by decide +kernel)
theorem d_TR_settleVar_162 : decode y_TR_settleVar.2.1 162 = .ok (.aload_n 0, 1) := dc9_42 (by decide +kernel)
theorem d_TR_settleVar_163 : decode y_TR_settleVar.2.1 163 = .ok (.getfield 29, 3) := dc9_180 (by decide +kernel)
theorem d_TR_settleVar_166 : decode y_TR_settleVar.2.1 166 = .ok (.iconst 2, 1) := dc9_5 (by decide +kernel)
theorem d_TR_settleVar_167 : decode y_TR_settleVar.2.1 167 = .ok (.iaload, 1) := dc9_46 (by decide +kernel)
theorem d_TR_settleVar_168 : decode y_TR_settleVar.2.1 168 = .ok (.invokevirtual 95, 3) := dc9_182 (by decide +kernel)
theorem d_TR_settleVar_126 : decode y_TR_settleVar.2.1 126 = .ok (.invokevirtual 146, 3) := dc9_182 (by decide +kernel)
theorem d_TR_settleVar_129 : decode y_TR_settleVar.2.1 129 = .ok (.ifCond .eq 15, 3) := dc9_153 (by decide +kernel)
theorem d_TR_settleVar_132 : decode y_TR_settleVar.2.1 132 = .ok (.aload_n 0, 1) := dc9_42 (by decide +kernel)
theorem d_TR_settleVar_133 : decode y_TR_settleVar.2.1 133 = .ok (.getfield 21, 3) := dc9_180 (by decide +kernel)
theorem d_TR_settleVar_136 : decode y_TR_settleVar.2.1 136 = .ok (.getfield 155, 3) := dc9_180 (by decide +kernel)
theorem d_TR_settleVar_139 : decode y_TR_settleVar.2.1 139 = .ok (.iconst 0, 1) := dc9_3 (by decide +kernel)
theorem d_TR_settleVar_140 : decode y_TR_settleVar.2.1 140 = .ok (.iaload, 1) := dc9_46 (by decide +kernel)
theorem d_TR_settleVar_141 : decode y_TR_settleVar.2.1 141 = .ok (.goto 4, 3) := dc9_167 (by decide +kernel)
theorem d_TR_settleVar_171 : decode y_TR_settleVar.2.1 171 = .ok (.aload_n 0, 1) := dc9_42 (by decide +kernel)
theorem d_TR_settleVar_172 : decode y_TR_settleVar.2.1 172 = .ok (.getfield 12, 3) := dc9_180 (by decide +kernel)
theorem d_TR_settleVar_175 : decode y_TR_settleVar.2.1 175 = .ok (.getfield 76, 3) := dc9_180 (by decide +kernel)
theorem d_TR_settleVar_178 : decode y_TR_settleVar.2.1 178 = .ok (.ifCond .ne 98, 3) := dc9_154 (by decide +kernel)
theorem d_TR_settleVar_181 : decode y_TR_settleVar.2.1 181 = .ok (.aload_n 0, 1) := dc9_42 (by decide +kernel)
theorem d_TR_settleVar_182 : decode y_TR_settleVar.2.1 182 = .ok (.getfield 36, 3) := dc9_180 (by decide +kernel)
theorem d_TR_settleVar_185 : decode y_TR_settleVar.2.1 185 = .ok (.getfield 178, 3) := dc9_180 (by decide +kernel)
theorem d_TR_settleVar_188 : decode y_TR_settleVar.2.1 188 = .ok (.aload_n 0, 1) := dc9_42 (by decide +kernel)
theorem d_TR_settleVar_189 : decode y_TR_settleVar.2.1 189 = .ok (.getfield 36, 3) := dc9_180 (by decide +kernel)
theorem d_TR_settleVar_192 : decode y_TR_settleVar.2.1 192 = .ok (.getfield 172, 3) := dc9_180 (by decide +kernel)
theorem d_TR_settleVar_195 : decode y_TR_settleVar.2.1 195 = .ok (.iload_n 1, 1) := dc9_27 (by decide +kernel)
theorem d_TR_settleVar_196 : decode y_TR_settleVar.2.1 196 = .ok (.iastore, 1) := dc9_79 (by decide +kernel)
theorem d_TR_settleVar_197 : decode y_TR_settleVar.2.1 197 = .ok (.aload_n 0, 1) := dc9_42 (by decide +kernel)
theorem d_TR_settleVar_198 : decode y_TR_settleVar.2.1 198 = .ok (.getfield 36, 3) := dc9_180 (by decide +kernel)
theorem d_TR_settleVar_201 : decode y_TR_settleVar.2.1 201 = .ok (.getfield 181, 3) := dc9_180 (by decide +kernel)
theorem d_TR_settleVar_204 : decode y_TR_settleVar.2.1 204 = .ok (.aload_n 0, 1) := dc9_42 (by decide +kernel)
theorem d_TR_settleVar_205 : decode y_TR_settleVar.2.1 205 = .ok (.getfield 36, 3) := dc9_180 (by decide +kernel)
theorem d_TR_settleVar_208 : decode y_TR_settleVar.2.1 208 = .ok (.getfield 172, 3) := dc9_180 (by decide +kernel)
theorem d_TR_settleVar_211 : decode y_TR_settleVar.2.1 211 = .ok (.iload_n 2, 1) := dc9_28 (by decide +kernel)
theorem d_TR_settleVar_212 : decode y_TR_settleVar.2.1 212 = .ok (.iastore, 1) := dc9_79 (by decide +kernel)
theorem d_TR_settleVar_213 : decode y_TR_settleVar.2.1 213 = .ok (.aload_n 0, 1) := dc9_42 (by decide +kernel)
theorem d_TR_settleVar_214 : decode y_TR_settleVar.2.1 214 = .ok (.getfield 36, 3) := dc9_180 (by decide +kernel)
theorem d_TR_settleVar_217 : decode y_TR_settleVar.2.1 217 = .ok (.getfield 184, 3) := dc9_180 (by decide +kernel)
theorem d_TR_settleVar_220 : decode y_TR_settleVar.2.1 220 = .ok (.aload_n 0, 1) := dc9_42 (by decide +kernel)
theorem d_TR_settleVar_221 : decode y_TR_settleVar.2.1 221 = .ok (.getfield 36, 3) := dc9_180 (by decide +kernel)
theorem d_TR_settleVar_224 : decode y_TR_settleVar.2.1 224 = .ok (.getfield 172, 3) := dc9_180 (by decide +kernel)
theorem d_TR_settleVar_227 : decode y_TR_settleVar.2.1 227 = .ok (.iload_n 3, 1) := dc9_29 (by decide +kernel)
theorem d_TR_settleVar_228 : decode y_TR_settleVar.2.1 228 = .ok (.iastore, 1) := dc9_79 (by decide +kernel)
theorem d_TR_settleVar_229 : decode y_TR_settleVar.2.1 229 = .ok (.aload_n 0, 1) := dc9_42 (by decide +kernel)
theorem d_TR_settleVar_230 : decode y_TR_settleVar.2.1 230 = .ok (.getfield 12, 3) := dc9_180 (by decide +kernel)
theorem d_TR_settleVar_233 : decode y_TR_settleVar.2.1 233 = .ok (.aload_n 0, 1) := dc9_42 (by decide +kernel)
theorem d_TR_settleVar_234 : decode y_TR_settleVar.2.1 234 = .ok (.getfield 99, 3) := dc9_180 (by decide +kernel)
theorem d_TR_settleVar_237 : decode y_TR_settleVar.2.1 237 = .ok (.iconst 5, 1) := dc9_8 (by decide +kernel)
theorem d_TR_settleVar_238 : decode y_TR_settleVar.2.1 238 = .ok (.aload_n 0, 1) := dc9_42 (by decide +kernel)
theorem d_TR_settleVar_239 : decode y_TR_settleVar.2.1 239 = .ok (.getfield 36, 3) := dc9_180 (by decide +kernel)
theorem d_TR_settleVar_242 : decode y_TR_settleVar.2.1 242 = .ok (.getfield 172, 3) := dc9_180 (by decide +kernel)
theorem d_TR_settleVar_245 : decode y_TR_settleVar.2.1 245 = .ok (.aload_n 0, 1) := dc9_42 (by decide +kernel)
theorem d_TR_settleVar_246 : decode y_TR_settleVar.2.1 246 = .ok (.getfield 143, 3) := dc9_180 (by decide +kernel)
theorem d_TR_settleVar_249 : decode y_TR_settleVar.2.1 249 = .ok (.invokevirtual 160, 3) := dc9_182 (by decide +kernel)
theorem d_TR_settleVar_252 : decode y_TR_settleVar.2.1 252 = .ok (.aload_n 0, 1) := dc9_42 (by decide +kernel)
theorem d_TR_settleVar_253 : decode y_TR_settleVar.2.1 253 = .ok (.getfield 36, 3) := dc9_180 (by decide +kernel)
theorem d_TR_settleVar_256 : decode y_TR_settleVar.2.1 256 = .ok (.dup, 1) := dc9_89 (by decide +kernel)
theorem d_TR_settleVar_257 : decode y_TR_settleVar.2.1 257 = .ok (.getfield 172, 3) := dc9_180 (by decide +kernel)
theorem d_TR_settleVar_260 : decode y_TR_settleVar.2.1 260 = .ok (.iconst 1, 1) := dc9_4 (by decide +kernel)
theorem d_TR_settleVar_261 : decode y_TR_settleVar.2.1 261 = .ok (.iadd, 1) := dc9_96 (by decide +kernel)
theorem d_TR_settleVar_262 : decode y_TR_settleVar.2.1 262 = .ok (.putfield 172, 3) := dc9_181 (by decide +kernel)
theorem d_TR_settleVar_265 : decode y_TR_settleVar.2.1 265 = .ok (.aload_n 0, 1) := dc9_42 (by decide +kernel)
theorem d_TR_settleVar_266 : decode y_TR_settleVar.2.1 266 = .ok (.getfield 36, 3) := dc9_180 (by decide +kernel)
theorem d_TR_settleVar_269 : decode y_TR_settleVar.2.1 269 = .ok (.aload_n 0, 1) := dc9_42 (by decide +kernel)
theorem d_TR_settleVar_270 : decode y_TR_settleVar.2.1 270 = .ok (.getfield 169, 3) := dc9_180 (by decide +kernel)
theorem d_TR_settleVar_273 : decode y_TR_settleVar.2.1 273 = .ok (.putfield 116, 3) := dc9_181 (by decide +kernel)
theorem d_TR_settleVar_276 : decode y_TR_settleVar.2.1 276 = .ok (.return_, 1) := dc9_177 (by decide +kernel)
def h_TR_settleVar_76 (G : mG) (d : Nat) (a0 : Nat) (l1 : Int) (k0 : Int) (M : mM) (Q : mM → Prop) : Prop := mWm G y_TR_settleVar (d + 1) 76 [vr a0, vi l1, vd, vd] [vi k0] M (fun r9 M9 => r9 = none ∧ Q M9)
def h_TR_settleVar_106 (G : mG) (d : Nat) (a0 : Nat) (l1 : Int) (l2 : Int) (M : mM) (Q : mM → Prop) : Prop := mWm G y_TR_settleVar (d + 1) 106 [vr a0, vi l1, vi l2, vd] [] M (fun r9 M9 => r9 = none ∧ Q M9)
def h_TR_settleVar_171 (G : mG) (d : Nat) (a0 : Nat) (l1 : Int) (l2 : Int) (l3 : Int) (M : mM) (Q : mM → Prop) : Prop := mWm G y_TR_settleVar (d + 1) 171 [vr a0, vi l1, vi l2, vi l3] [] M (fun r9 M9 => r9 = none ∧ Q M9)
theorem k_TR_settleVar {G : mG} {d : Nat} {a0 : Nat} {M : mM} {Q : mM → Prop} (hO : mOk M)
    (h : mK M a0 = 3 ∧ mK M (mR M a0 0) = 4 ∧ (((mI M (mR M a0 0) 3 = 0) ∧ (mI M a0 8 = 0)) → (Ci G y_TR_worksOut d [vr a0, vi 0, vi 1] M (fun x8 M7 => i32 x8 ∧ mOk M7 ∧ ((¬ (x8 = 0) → (mK M7 a0 = 3 ∧ mK M7 (mR M7 a0 1) = 5 ∧ mK M7 (mR M7 (mR M7 a0 1) 6) = 30 ∧ ((0 : Int) ≤ 0 ∧ 0 < (mN M7 (mR M7 (mR M7 a0 1) 6) : Int)))) ∧ ∀ v15 : Int, v15 = (if (x8 = 0) then 0 else mI M7 (mR M7 (mR M7 a0 1) 6) 0) → mK M7 a0 = 3 ∧ mK M7 (mR M7 a0 0) = 4 ∧ ((mI M7 (mR M7 a0 0) 3 = 0) → (Ci G y_TR_worksOut d [vr a0, vi 1, vi 1] M7 (fun x23 M22 => i32 x23 ∧ mOk M22 ∧ (((x23 = 0) → (h_TR_settleVar_76 G d a0 v15 v15 M22 Q)) ∧ (¬ (x23 = 0) → (mK M22 a0 = 3 ∧ mK M22 (mR M22 a0 1) = 5 ∧ mK M22 (mR M22 (mR M22 a0 1) 6) = 30 ∧ ((0 : Int) ≤ 0 ∧ 0 < (mN M22 (mR M22 (mR M22 a0 1) 6) : Int)) ∧ h_TR_settleVar_76 G d a0 v15 (mI M22 (mR M22 (mR M22 a0 1) 6) 0) M22 Q)))))) ∧ (¬ (mI M7 (mR M7 a0 0) 3 = 0) → (h_TR_settleVar_76 G d a0 v15 v15 M7 Q)))))) ∧ (¬ ((mI M (mR M a0 0) 3 = 0) ∧ (mI M a0 8 = 0)) → (h_TR_settleVar_106 G d a0 0 1 M Q))) :
    Cv G y_TR_settleVar (d + 1) [vr a0] M Q := by
  refine wm_open (y := y_TR_settleVar) rfl (Nat.le_of_ble_eq_true rfl) (L := [vr a0, vd, vd, vd]) rfl ?_
  obtain ⟨h1, h⟩ := h
  obtain ⟨h2, h⟩ := h
  refine wm_iconst d_TR_settleVar_0 ?_
  refine wm_istore_n d_TR_settleVar_1 rfl (by decide) (L' := [vr a0, vi 0, vd, vd]) rfl ?_
  refine wm_iconst d_TR_settleVar_2 ?_
  refine wm_istore_n d_TR_settleVar_3 rfl (by decide) (L' := [vr a0, vi 0, vi 1, vd]) rfl ?_
  refine wm_aload_n d_TR_settleVar_4 rfl rfl ?_
  refine gf_TR_12 rfl d_TR_settleVar_5 h1 ?_
  refine gf_TR_76 rfl d_TR_settleVar_8 h2 ?_
  have hE0 : ((mI M (mR M a0 0) 3 = 0) ∧ (mI M a0 8 = 0)) → mWm G y_TR_settleVar (d + 1) 21 [vr a0, vi 0, vi 1, vd] [] M (fun r9 M9 => r9 = none ∧ Q M9) := by
    intro q6
    have h := h.1 q6
    refine wm_aload_n d_TR_settleVar_21 rfl rfl ?_
    refine wm_iconst d_TR_settleVar_22 ?_
    refine wm_iconst d_TR_settleVar_23 ?_
    refine cf_TR_146 rfl d_TR_settleVar_24 h1 (Nat.le_of_ble_eq_true rfl) (Ci.mono h (fun x8 M7 h => ?_))
    obtain ⟨h9, hOM7, h⟩ := h
    obtain ⟨s16, h⟩ := h
    have hJ : ∀ v15 : Int, v15 = (if (x8 = 0) then 0 else mI M7 (mR M7 (mR M7 a0 1) 6) 0) → mWm G y_TR_settleVar (d + 1) 43 [vr a0, vd, vd, vd] [vi v15] M7 (fun r9 M9 => r9 = none ∧ Q M9) := by
      intro v15 e17
      have h := h v15 e17
      obtain ⟨h18, h⟩ := h
      obtain ⟨h19, h⟩ := h
      refine wm_istore_n d_TR_settleVar_43 rfl (by decide) (L' := [vr a0, vi v15, vd, vd]) rfl ?_
      refine wm_aload_n d_TR_settleVar_44 rfl rfl ?_
      refine gf_TR_12 rfl d_TR_settleVar_45 h18 ?_
      refine gf_TR_76 rfl d_TR_settleVar_48 h19 ?_
      refine wm_if_ne (tgt := 75) d_TR_settleVar_51 rfl (hOM7 _ _).1 (fun c21 => ?_) (fun c21 => ?_)
      · replace h := h.2 c21
        refine wm_iload_n d_TR_settleVar_75 rfl rfl ?_
        exact h
      · replace c21 := Classical.not_not.mp c21
        replace h := h.1 c21
        refine wm_aload_n d_TR_settleVar_54 rfl rfl ?_
        refine wm_iconst d_TR_settleVar_55 ?_
        refine wm_iconst d_TR_settleVar_56 ?_
        refine cf_TR_146 rfl d_TR_settleVar_57 h18 (Nat.le_of_ble_eq_true rfl) (Ci.mono h (fun x23 M22 h => ?_))
        obtain ⟨h24, hOM22, h⟩ := h
        refine wm_if_eq (tgt := 75) d_TR_settleVar_60 rfl h24 (fun c30 => ?_) (fun c30 => ?_)
        · replace h := h.1 c30
          refine wm_iload_n d_TR_settleVar_75 rfl rfl ?_
          exact h
        · replace h := h.2 c30
          obtain ⟨h31, h⟩ := h
          obtain ⟨h32, h⟩ := h
          obtain ⟨h33, h⟩ := h
          obtain ⟨h34, h⟩ := h
          refine wm_aload_n d_TR_settleVar_63 rfl rfl ?_
          refine gf_TR_21 rfl d_TR_settleVar_64 h31 ?_
          refine gf_TR_155 rfl d_TR_settleVar_67 h32 ?_
          refine wm_iconst d_TR_settleVar_70 ?_
          refine wm_iald d_TR_settleVar_71 h33 h34 ?_
          refine wm_goto (tgt := 76) d_TR_settleVar_72 rfl ?_
          exact h
    clear h
    have s35 := s16
    refine wm_if_eq (tgt := 42) d_TR_settleVar_27 rfl h9 (fun c10 => ?_) (fun c10 => ?_)
    · refine wm_iconst d_TR_settleVar_42 ?_
      refine wm_less (L' := [vr a0, vd, vd, vd]) ⟨Or.inr rfl, Or.inl rfl, Or.inl rfl, Or.inl rfl, trivial⟩ ?_
      exact hJ 0 (if_pos c10).symm
    · have s35 := s35 c10
      obtain ⟨h11, h12, h13, h14⟩ := s35
      refine wm_aload_n d_TR_settleVar_30 rfl rfl ?_
      refine gf_TR_21 rfl d_TR_settleVar_31 h11 ?_
      refine gf_TR_155 rfl d_TR_settleVar_34 h12 ?_
      refine wm_iconst d_TR_settleVar_37 ?_
      refine wm_iald d_TR_settleVar_38 h13 h14 ?_
      refine wm_goto (tgt := 43) d_TR_settleVar_39 rfl ?_
      refine wm_less (L' := [vr a0, vd, vd, vd]) ⟨Or.inr rfl, Or.inl rfl, Or.inl rfl, Or.inl rfl, trivial⟩ ?_
      exact hJ (mI M7 (mR M7 (mR M7 a0 1) 6) 0) (if_neg c10).symm
  have hE1 : ¬ ((mI M (mR M a0 0) 3 = 0) ∧ (mI M a0 8 = 0)) → mWm G y_TR_settleVar (d + 1) 106 [vr a0, vi 0, vi 1, vd] [] M (fun r9 M9 => r9 = none ∧ Q M9) := by
    intro q37
    have h := h.2 q37
    exact h
  clear h
  refine wm_if_ne (tgt := 106) d_TR_settleVar_11 rfl (hO _ _).1 (fun c4 => ?_) (fun c4 => ?_)
  · exact hE1 (fun z40 => c4 z40.1)
  · replace c4 := Classical.not_not.mp c4
    refine wm_aload_n d_TR_settleVar_14 rfl rfl ?_
    refine gf_TR_143 rfl d_TR_settleVar_15 h1 ?_
    refine wm_if_ne (tgt := 106) d_TR_settleVar_18 rfl (hO _ _).1 (fun c3 => ?_) (fun c3 => ?_)
    · exact hE1 (fun z38 => c3 z38.2)
    · replace c3 := Classical.not_not.mp c3
      exact hE0 ⟨c4, c3⟩
theorem k_TR_settleVar_106 {G : mG} {d : Nat} {a0 : Nat} {l1 : Int} {l2 : Int} {M : mM} {Q : mM → Prop} (hO : mOk M) (hi_l1 : i32 l1) (hi_l2 : i32 l2)
    (h : mK M a0 = 3 ∧ mK M (mR M a0 0) = 4 ∧ (((¬ (mI M (mR M a0 0) 3 = 0)) ∨ (mI M a0 7 = 0)) → ((((l1 < l1) ∨ (¬ (l1 ≤ l2))) → (mK M (mR M a0 6) = 30 ∧ ((0 : Int) ≤ 2 ∧ 2 < (mN M (mR M a0 6) : Int)) ∧ Cv G y_RR_note d [vr (mR M a0 0), vi 9, vi (mI M (mR M a0 6) 2)] M (fun M71 => mOk M71 ∧ (h_TR_settleVar_171 G d a0 l1 l2 l1 M71 Q)))) ∧ (¬ ((l1 < l1) ∨ (¬ (l1 ≤ l2))) → (h_TR_settleVar_171 G d a0 l1 l2 l1 M Q)))) ∧ (¬ ((¬ (mI M (mR M a0 0) 3 = 0)) ∨ (mI M a0 7 = 0)) → (Ci G y_TR_worksOut d [vr a0, vi 2, vi 1] M (fun x79 M78 => i32 x79 ∧ mOk M78 ∧ ((¬ (x79 = 0) → (mK M78 a0 = 3 ∧ mK M78 (mR M78 a0 1) = 5 ∧ mK M78 (mR M78 (mR M78 a0 1) 6) = 30 ∧ ((0 : Int) ≤ 0 ∧ 0 < (mN M78 (mR M78 (mR M78 a0 1) 6) : Int)))) ∧ ∀ v86 : Int, v86 = (if (x79 = 0) then l1 else mI M78 (mR M78 (mR M78 a0 1) 6) 0) → i32 v86 ∧ (((v86 < l1) ∨ (¬ (v86 ≤ l2))) → (mK M78 a0 = 3 ∧ mK M78 (mR M78 a0 6) = 30 ∧ ((0 : Int) ≤ 2 ∧ 2 < (mN M78 (mR M78 a0 6) : Int)) ∧ mK M78 (mR M78 a0 0) = 4 ∧ Cv G y_RR_note d [vr (mR M78 a0 0), vi 9, vi (mI M78 (mR M78 a0 6) 2)] M78 (fun M98 => mOk M98 ∧ (h_TR_settleVar_171 G d a0 l1 l2 v86 M98 Q)))) ∧ (¬ ((v86 < l1) ∨ (¬ (v86 ≤ l2))) → (h_TR_settleVar_171 G d a0 l1 l2 v86 M78 Q))))))) :
    h_TR_settleVar_106 G d a0 l1 l2 M Q := by
  unfold h_TR_settleVar_106
  obtain ⟨h57, h⟩ := h
  obtain ⟨h58, h⟩ := h
  refine wm_aload_n d_TR_settleVar_106 rfl rfl ?_
  refine gf_TR_12 rfl d_TR_settleVar_107 h57 ?_
  refine gf_TR_76 rfl d_TR_settleVar_110 h58 ?_
  have hE0 : ((¬ (mI M (mR M a0 0) 3 = 0)) ∨ (mI M a0 7 = 0)) → mWm G y_TR_settleVar (d + 1) 144 [vr a0, vi l1, vi l2, vd] [] M (fun r9 M9 => r9 = none ∧ Q M9) := by
    intro q64
    have h := h.1 q64
    refine wm_iload_n d_TR_settleVar_144 rfl rfl ?_
    refine wm_istore_n d_TR_settleVar_145 rfl (by decide) (L' := [vr a0, vi l1, vi l2, vi l1]) rfl ?_
    refine wm_iload_n d_TR_settleVar_146 rfl rfl ?_
    refine wm_iload_n d_TR_settleVar_147 rfl rfl ?_
    have hE0 : ((l1 < l1) ∨ (¬ (l1 ≤ l2))) → mWm G y_TR_settleVar (d + 1) 156 [vr a0, vi l1, vi l2, vi l1] [] M (fun r9 M9 => r9 = none ∧ Q M9) := by
      intro q68
      have h := h.1 q68
      obtain ⟨h69, h⟩ := h
      obtain ⟨h70, h⟩ := h
      refine wm_aload_n d_TR_settleVar_156 rfl rfl ?_
      refine gf_TR_12 rfl d_TR_settleVar_157 h57 ?_
      refine wm_bipush d_TR_settleVar_160 (by decide) ?_
      refine wm_aload_n d_TR_settleVar_162 rfl rfl ?_
      refine gf_TR_29 rfl d_TR_settleVar_163 h57 ?_
      refine wm_iconst d_TR_settleVar_166 ?_
      refine wm_iald d_TR_settleVar_167 h69 h70 ?_
      refine cf_TR_95 rfl d_TR_settleVar_168 h58 (Nat.le_of_ble_eq_true rfl) (Cv.mono h (fun M71 h => ?_))
      obtain ⟨hOM71, h⟩ := h
      exact h
    have hE1 : ¬ ((l1 < l1) ∨ (¬ (l1 ≤ l2))) → mWm G y_TR_settleVar (d + 1) 171 [vr a0, vi l1, vi l2, vi l1] [] M (fun r9 M9 => r9 = none ∧ Q M9) := by
      intro q74
      have h := h.2 q74
      exact h
    clear h
    refine wm_icmp_lt (tgt := 156) d_TR_settleVar_148 rfl hi_l1 hi_l1 (fun c66 => ?_) (fun c66 => ?_)
    · exact hE0 (Or.inl c66)
    · refine wm_iload_n d_TR_settleVar_151 rfl rfl ?_
      refine wm_iload_n d_TR_settleVar_152 rfl rfl ?_
      refine wm_icmp_le (tgt := 171) d_TR_settleVar_153 rfl hi_l1 hi_l2 (fun c65 => ?_) (fun c65 => ?_)
      · exact hE1 (fun z75 => Or.elim z75 c66 (fun z76 => z76 c65))
      · exact hE0 (Or.inr c65)
  have hE1 : ¬ ((¬ (mI M (mR M a0 0) 3 = 0)) ∨ (mI M a0 7 = 0)) → mWm G y_TR_settleVar (d + 1) 123 [vr a0, vi l1, vi l2, vd] [] M (fun r9 M9 => r9 = none ∧ Q M9) := by
    intro q77
    have h := h.2 q77
    refine wm_aload_n d_TR_settleVar_123 rfl rfl ?_
    refine wm_iconst d_TR_settleVar_124 ?_
    refine wm_iconst d_TR_settleVar_125 ?_
    refine cf_TR_146 rfl d_TR_settleVar_126 h57 (Nat.le_of_ble_eq_true rfl) (Ci.mono h (fun x79 M78 h => ?_))
    obtain ⟨h80, hOM78, h⟩ := h
    obtain ⟨s87, h⟩ := h
    have hJ : ∀ v86 : Int, v86 = (if (x79 = 0) then l1 else mI M78 (mR M78 (mR M78 a0 1) 6) 0) → mWm G y_TR_settleVar (d + 1) 145 [vr a0, vi l1, vi l2, vd] [vi v86] M78 (fun r9 M9 => r9 = none ∧ Q M9) := by
      intro v86 e88
      have h := h v86 e88
      obtain ⟨h89, h⟩ := h
      refine wm_istore_n d_TR_settleVar_145 rfl (by decide) (L' := [vr a0, vi l1, vi l2, vi v86]) rfl ?_
      refine wm_iload_n d_TR_settleVar_146 rfl rfl ?_
      refine wm_iload_n d_TR_settleVar_147 rfl rfl ?_
      have hE0 : ((v86 < l1) ∨ (¬ (v86 ≤ l2))) → mWm G y_TR_settleVar (d + 1) 156 [vr a0, vi l1, vi l2, vi v86] [] M78 (fun r9 M9 => r9 = none ∧ Q M9) := by
        intro q93
        have h := h.1 q93
        obtain ⟨h94, h⟩ := h
        obtain ⟨h95, h⟩ := h
        obtain ⟨h96, h⟩ := h
        obtain ⟨h97, h⟩ := h
        refine wm_aload_n d_TR_settleVar_156 rfl rfl ?_
        refine gf_TR_12 rfl d_TR_settleVar_157 h94 ?_
        refine wm_bipush d_TR_settleVar_160 (by decide) ?_
        refine wm_aload_n d_TR_settleVar_162 rfl rfl ?_
        refine gf_TR_29 rfl d_TR_settleVar_163 h94 ?_
        refine wm_iconst d_TR_settleVar_166 ?_
        refine wm_iald d_TR_settleVar_167 h95 h96 ?_
        refine cf_TR_95 rfl d_TR_settleVar_168 h97 (Nat.le_of_ble_eq_true rfl) (Cv.mono h (fun M98 h => ?_))
        obtain ⟨hOM98, h⟩ := h
        exact h
      have hE1 : ¬ ((v86 < l1) ∨ (¬ (v86 ≤ l2))) → mWm G y_TR_settleVar (d + 1) 171 [vr a0, vi l1, vi l2, vi v86] [] M78 (fun r9 M9 => r9 = none ∧ Q M9) := by
        intro q101
        have h := h.2 q101
        exact h
      clear h
      refine wm_icmp_lt (tgt := 156) d_TR_settleVar_148 rfl h89 hi_l1 (fun c91 => ?_) (fun c91 => ?_)
      · exact hE0 (Or.inl c91)
      · refine wm_iload_n d_TR_settleVar_151 rfl rfl ?_
        refine wm_iload_n d_TR_settleVar_152 rfl rfl ?_
        refine wm_icmp_le (tgt := 171) d_TR_settleVar_153 rfl h89 hi_l2 (fun c90 => ?_) (fun c90 => ?_)
        · exact hE1 (fun z102 => Or.elim z102 c91 (fun z103 => z103 c90))
        · exact hE0 (Or.inr c90)
    clear h
    have s104 := s87
    refine wm_if_eq (tgt := 144) d_TR_settleVar_129 rfl h80 (fun c81 => ?_) (fun c81 => ?_)
    · refine wm_iload_n d_TR_settleVar_144 rfl rfl ?_
      exact hJ l1 (if_pos c81).symm
    · have s104 := s104 c81
      obtain ⟨h82, h83, h84, h85⟩ := s104
      refine wm_aload_n d_TR_settleVar_132 rfl rfl ?_
      refine gf_TR_21 rfl d_TR_settleVar_133 h82 ?_
      refine gf_TR_155 rfl d_TR_settleVar_136 h83 ?_
      refine wm_iconst d_TR_settleVar_139 ?_
      refine wm_iald d_TR_settleVar_140 h84 h85 ?_
      refine wm_goto (tgt := 145) d_TR_settleVar_141 rfl ?_
      exact hJ (mI M78 (mR M78 (mR M78 a0 1) 6) 0) (if_neg c81).symm
  clear h
  refine wm_if_ne (tgt := 144) d_TR_settleVar_113 rfl (hO _ _).1 (fun c62 => ?_) (fun c62 => ?_)
  · exact hE0 (Or.inl c62)
  · replace c62 := Classical.not_not.mp c62
    refine wm_aload_n d_TR_settleVar_116 rfl rfl ?_
    refine gf_TR_175 rfl d_TR_settleVar_117 h57 ?_
    refine wm_if_eq (tgt := 144) d_TR_settleVar_120 rfl (hO _ _).1 (fun c61 => ?_) (fun c61 => ?_)
    · exact hE0 (Or.inr c61)
    · exact hE1 (fun z106 => Or.elim z106 (fun w => w c62) c61)
theorem k_TR_settleVar_171 {G : mG} {d : Nat} {a0 : Nat} {l1 : Int} {l2 : Int} {l3 : Int} {M : mM} {Q : mM → Prop} (hO : mOk M) (hi_l1 : i32 l1) (hi_l2 : i32 l2) (hi_l3 : i32 l3)
    (h : mK M a0 = 3 ∧ mK M (mR M a0 0) = 4 ∧ ((mI M (mR M a0 0) 3 = 0) → (mK M (mR M a0 2) = 6 ∧ mK M (mR M (mR M a0 2) 4) = 30 ∧ ((0 : Int) ≤ mI M (mR M a0 2) 3 ∧ mI M (mR M a0 2) 3 < (mN M (mR M (mR M a0 2) 4) : Int)) ∧ ∀ M122, M122 = mUI M (mR M (mR M a0 2) 4) (Int.toNat (mI M (mR M a0 2) 3)) l1 → mK M122 (mR M122 a0 2) = 6 ∧ mK M122 (mR M122 (mR M122 a0 2) 5) = 30 ∧ ((0 : Int) ≤ mI M122 (mR M122 a0 2) 3 ∧ mI M122 (mR M122 a0 2) 3 < (mN M122 (mR M122 (mR M122 a0 2) 5) : Int)) ∧ ∀ M127, M127 = mUI M122 (mR M122 (mR M122 a0 2) 5) (Int.toNat (mI M122 (mR M122 a0 2) 3)) l2 → mK M127 (mR M127 a0 2) = 6 ∧ mK M127 (mR M127 (mR M127 a0 2) 6) = 30 ∧ ((0 : Int) ≤ mI M127 (mR M127 a0 2) 3 ∧ mI M127 (mR M127 a0 2) 3 < (mN M127 (mR M127 (mR M127 a0 2) 6) : Int)) ∧ ∀ M132, M132 = mUI M127 (mR M127 (mR M127 a0 2) 6) (Int.toNat (mI M127 (mR M127 a0 2) 3)) l3 → mK M132 (mR M132 a0 2) = 6 ∧ mK M132 (mR M132 a0 0) = 4 ∧ Cv G y_RR_know d [vr (mR M132 a0 0), vi (mI M132 a0 3), vi 5, vi (mI M132 (mR M132 a0 2) 3), vi (mI M132 a0 8)] M132 (fun M136 => mOk M136 ∧ (mK M136 a0 = 3 ∧ mK M136 (mR M136 a0 2) = 6 ∧ i32 ((mI M136 (mR M136 a0 2) 3) + 1) ∧ ∀ M142, M142 = mUI M136 (mR M136 a0 2) 3 ((mI M136 (mR M136 a0 2) 3) + 1) → mK M142 (mR M142 a0 2) = 6 ∧ ∀ M145, M145 = mUI M142 (mR M142 a0 2) 2 (mI M142 a0 4) → Q M145)))) ∧ (¬ (mI M (mR M a0 0) 3 = 0) → (Q M))) :
    h_TR_settleVar_171 G d a0 l1 l2 l3 M Q := by
  unfold h_TR_settleVar_171
  obtain ⟨h108, h⟩ := h
  obtain ⟨h109, h⟩ := h
  refine wm_aload_n d_TR_settleVar_171 rfl rfl ?_
  refine gf_TR_12 rfl d_TR_settleVar_172 h108 ?_
  refine gf_TR_76 rfl d_TR_settleVar_175 h109 ?_
  refine wm_if_ne (tgt := 276) d_TR_settleVar_178 rfl (hO _ _).1 (fun c118 => ?_) (fun c118 => ?_)
  · replace h := h.2 c118
    refine wm_return d_TR_settleVar_276 rfl ?_
    exact ⟨rfl, h⟩
  · replace c118 := Classical.not_not.mp c118
    replace h := h.1 c118
    obtain ⟨h119, h⟩ := h
    obtain ⟨h120, h⟩ := h
    obtain ⟨h121, h⟩ := h
    obtain ⟨M122, e123⟩ : ∃ M122, M122 = mUI M (mR M (mR M a0 2) 4) (Int.toNat (mI M (mR M a0 2) 3)) l1 := ⟨_, rfl⟩
    replace h := h M122 e123
    obtain ⟨h124, h⟩ := h
    obtain ⟨h125, h⟩ := h
    obtain ⟨h126, h⟩ := h
    obtain ⟨M127, e128⟩ : ∃ M127, M127 = mUI M122 (mR M122 (mR M122 a0 2) 5) (Int.toNat (mI M122 (mR M122 a0 2) 3)) l2 := ⟨_, rfl⟩
    replace h := h M127 e128
    obtain ⟨h129, h⟩ := h
    obtain ⟨h130, h⟩ := h
    obtain ⟨h131, h⟩ := h
    obtain ⟨M132, e133⟩ : ∃ M132, M132 = mUI M127 (mR M127 (mR M127 a0 2) 6) (Int.toNat (mI M127 (mR M127 a0 2) 3)) l3 := ⟨_, rfl⟩
    replace h := h M132 e133
    obtain ⟨h134, h⟩ := h
    obtain ⟨h135, h⟩ := h
    refine wm_aload_n d_TR_settleVar_181 rfl rfl ?_
    refine gf_TR_36 rfl d_TR_settleVar_182 h108 ?_
    refine gf_TR_178 rfl d_TR_settleVar_185 h119 ?_
    refine wm_aload_n d_TR_settleVar_188 rfl rfl ?_
    refine gf_TR_36 rfl d_TR_settleVar_189 h108 ?_
    refine gf_TR_172 rfl d_TR_settleVar_192 h119 ?_
    refine wm_iload_n d_TR_settleVar_195 rfl rfl ?_
    have hOM122 : mOk M122 := by rw [e123]; exact mOk_UI hO hi_l1
    refine wm_iastE d_TR_settleVar_196 h120 h121 hi_l1 e123 ?_
    refine wm_aload_n d_TR_settleVar_197 rfl rfl ?_
    refine gf_TR_36 rfl d_TR_settleVar_198 (by rw [e123]; exact h108) ?_
    refine gf_TR_181 rfl d_TR_settleVar_201 h124 ?_
    refine wm_aload_n d_TR_settleVar_204 rfl rfl ?_
    refine gf_TR_36 rfl d_TR_settleVar_205 (by rw [e123]; exact h108) ?_
    refine gf_TR_172 rfl d_TR_settleVar_208 h124 ?_
    refine wm_iload_n d_TR_settleVar_211 rfl rfl ?_
    have hOM127 : mOk M127 := by rw [e128]; exact mOk_UI hOM122 hi_l2
    refine wm_iastE d_TR_settleVar_212 h125 h126 hi_l2 e128 ?_
    refine wm_aload_n d_TR_settleVar_213 rfl rfl ?_
    refine gf_TR_36 rfl d_TR_settleVar_214 (by rw [e128, e123]; exact h108) ?_
    refine gf_TR_184 rfl d_TR_settleVar_217 h129 ?_
    refine wm_aload_n d_TR_settleVar_220 rfl rfl ?_
    refine gf_TR_36 rfl d_TR_settleVar_221 (by rw [e128, e123]; exact h108) ?_
    refine gf_TR_172 rfl d_TR_settleVar_224 h129 ?_
    refine wm_iload_n d_TR_settleVar_227 rfl rfl ?_
    have hOM132 : mOk M132 := by rw [e133]; exact mOk_UI hOM127 hi_l3
    refine wm_iastE d_TR_settleVar_228 h130 h131 hi_l3 e133 ?_
    refine wm_aload_n d_TR_settleVar_229 rfl rfl ?_
    refine gf_TR_12 rfl d_TR_settleVar_230 (by rw [e133, e128, e123]; exact h108) ?_
    refine wm_aload_n d_TR_settleVar_233 rfl rfl ?_
    refine gf_TR_99 rfl d_TR_settleVar_234 (by rw [e133, e128, e123]; exact h108) ?_
    refine wm_iconst d_TR_settleVar_237 ?_
    refine wm_aload_n d_TR_settleVar_238 rfl rfl ?_
    refine gf_TR_36 rfl d_TR_settleVar_239 (by rw [e133, e128, e123]; exact h108) ?_
    refine gf_TR_172 rfl d_TR_settleVar_242 h134 ?_
    refine wm_aload_n d_TR_settleVar_245 rfl rfl ?_
    refine gf_TR_143 rfl d_TR_settleVar_246 (by rw [e133, e128, e123]; exact h108) ?_
    refine cf_TR_160 rfl d_TR_settleVar_249 h135 (Nat.le_of_ble_eq_true rfl) (Cv.mono h (fun M136 h => ?_))
    obtain ⟨hOM136, h⟩ := h
    obtain ⟨h139, h⟩ := h
    obtain ⟨h140, h⟩ := h
    obtain ⟨h141, h⟩ := h
    obtain ⟨M142, e143⟩ : ∃ M142, M142 = mUI M136 (mR M136 a0 2) 3 ((mI M136 (mR M136 a0 2) 3) + 1) := ⟨_, rfl⟩
    replace h := h M142 e143
    obtain ⟨h144, h⟩ := h
    obtain ⟨M145, e146⟩ : ∃ M145, M145 = mUI M142 (mR M142 a0 2) 2 (mI M142 a0 4) := ⟨_, rfl⟩
    replace h := h M145 e146
    refine wm_aload_n d_TR_settleVar_252 rfl rfl ?_
    refine gf_TR_36 rfl d_TR_settleVar_253 h139 ?_
    refine wm_dup d_TR_settleVar_256 rfl ?_
    refine gf_TR_172 rfl d_TR_settleVar_257 h140 ?_
    refine wm_iconst d_TR_settleVar_260 ?_
    refine wm_iadd d_TR_settleVar_261 ?_
    have hOM142 : mOk M142 := by rw [e143]; exact mOk_UI hOM136 h141
    refine pf_TR_172 rfl d_TR_settleVar_262 h140 h141 e143 ?_
    refine wm_aload_n d_TR_settleVar_265 rfl rfl ?_
    refine gf_TR_36 rfl d_TR_settleVar_266 (by rw [e143]; exact h139) ?_
    refine wm_aload_n d_TR_settleVar_269 rfl rfl ?_
    refine gf_TR_169 rfl d_TR_settleVar_270 (by rw [e143]; exact h139) ?_
    have hOM145 : mOk M145 := by rw [e146]; exact mOk_UI hOM142 (hOM142 _ _).1
    refine pf_TR_116 rfl d_TR_settleVar_273 h144 (hOM142 _ _).1 e146 ?_
    refine wm_return d_TR_settleVar_276 rfl ?_
    exact ⟨rfl, h⟩
theorem d_TR_readTarget_0 : decode y_TR_readTarget.2.1 0 = .ok (.aload_n 0, 1) := dc9_42 (by decide +kernel)
theorem d_TR_readTarget_1 : decode y_TR_readTarget.2.1 1 = .ok (.getfield 36, 3) := dc9_180 (by decide +kernel)
theorem d_TR_readTarget_4 : decode y_TR_readTarget.2.1 4 = .ok (.getfield 89, 3) := dc9_180 (by decide +kernel)
theorem d_TR_readTarget_7 : decode y_TR_readTarget.2.1 7 = .ok (.iconst (-1), 1) := dc9_2 (by decide +kernel)
theorem d_TR_readTarget_8 : decode y_TR_readTarget.2.1 8 = .ok (.if_icmp .eq 18, 3) := dc9_159 (by decide +kernel)
theorem d_TR_readTarget_11 : decode y_TR_readTarget.2.1 11 = .ok (.aload_n 0, 1) := dc9_42 (by decide +kernel)
theorem d_TR_readTarget_12 : decode y_TR_readTarget.2.1 12 = .ok (.getfield 12, 3) := dc9_180 (by decide +kernel)
theorem d_TR_readTarget_15 : decode y_TR_readTarget.2.1 15 = .ok (.iconst 4, 1) := dc9_7 (by decide +kernel)
theorem d_TR_readTarget_16 : decode y_TR_readTarget.2.1 16 = .ok (.aload_n 0, 1) := dc9_42 (by decide +kernel)
theorem d_TR_readTarget_17 : decode y_TR_readTarget.2.1 17 = .ok (.getfield 12, 3) := dc9_180 (by decide +kernel)
theorem d_TR_readTarget_26 : decode y_TR_readTarget.2.1 26 = .ok (.aload_n 0, 1) := dc9_42 (by decide +kernel)
theorem d_TR_readTarget_27 : decode y_TR_readTarget.2.1 27 = .ok (.getfield 12, 3) := dc9_180 (by decide +kernel)
theorem d_TR_readTarget_30 : decode y_TR_readTarget.2.1 30 = .ok (.dup, 1) := dc9_89 (by decide +kernel)
theorem d_TR_readTarget_31 : decode y_TR_readTarget.2.1 31 = .ok (.getfield 59, 3) := dc9_180 (by decide +kernel)
theorem d_TR_readTarget_34 : decode y_TR_readTarget.2.1 34 = .ok (.iconst 1, 1) := dc9_4 (by decide +kernel)
theorem d_TR_readTarget_35 : decode y_TR_readTarget.2.1 35 = .ok (.iadd, 1) := dc9_96 (by decide +kernel)
theorem d_TR_readTarget_36 : decode y_TR_readTarget.2.1 36 = .ok (.putfield 59, 3) := dc9_181 (by decide +kernel)
theorem d_TR_readTarget_39 : decode y_TR_readTarget.2.1 39 = .ok (.aload_n 0, 1) := dc9_42 (by decide +kernel)
theorem d_TR_readTarget_40 : decode y_TR_readTarget.2.1 40 = .ok (.getfield 12, 3) := dc9_180 (by decide +kernel)
theorem d_TR_readTarget_43 : decode y_TR_readTarget.2.1 43 = .ok (.iconst 0, 1) := dc9_3 (by decide +kernel)
theorem d_TR_readTarget_44 : decode y_TR_readTarget.2.1 44 = .ok (.putfield 125, 3) := dc9_181 (by decide +kernel)
theorem d_TR_readTarget_47 : decode y_TR_readTarget.2.1 47 = .ok (.aload_n 0, 1) := dc9_42 (by decide +kernel)
theorem d_TR_readTarget_48 : decode y_TR_readTarget.2.1 48 = .ok (.iconst 0, 1) := dc9_3 (by decide +kernel)
theorem d_TR_readTarget_49 : decode y_TR_readTarget.2.1 49 = .ok (.iconst 2, 1) := dc9_5 (by decide +kernel)
theorem d_TR_readTarget_50 : decode y_TR_readTarget.2.1 50 = .ok (.invokevirtual 136, 3) := dc9_182 (by decide +kernel)
theorem d_TR_readTarget_53 : decode y_TR_readTarget.2.1 53 = .ok (.ifCond .ne 5, 3) := dc9_154 (by decide +kernel)
theorem d_TR_readTarget_56 : decode y_TR_readTarget.2.1 56 = .ok (.iconst 0, 1) := dc9_3 (by decide +kernel)
theorem d_TR_readTarget_57 : decode y_TR_readTarget.2.1 57 = .ok (.ireturn, 1) := dc9_172 (by decide +kernel)
theorem d_TR_readTarget_58 : decode y_TR_readTarget.2.1 58 = .ok (.aload_n 0, 1) := dc9_42 (by decide +kernel)
theorem d_TR_readTarget_59 : decode y_TR_readTarget.2.1 59 = .ok (.getfield 36, 3) := dc9_180 (by decide +kernel)
theorem d_TR_readTarget_62 : decode y_TR_readTarget.2.1 62 = .ok (.aload_n 0, 1) := dc9_42 (by decide +kernel)
theorem d_TR_readTarget_63 : decode y_TR_readTarget.2.1 63 = .ok (.getfield 25, 3) := dc9_180 (by decide +kernel)
theorem d_TR_readTarget_66 : decode y_TR_readTarget.2.1 66 = .ok (.iconst 0, 1) := dc9_3 (by decide +kernel)
theorem d_TR_readTarget_67 : decode y_TR_readTarget.2.1 67 = .ok (.iaload, 1) := dc9_46 (by decide +kernel)
theorem d_TR_readTarget_68 : decode y_TR_readTarget.2.1 68 = .ok (.putfield 89, 3) := dc9_181 (by decide +kernel)
theorem d_TR_readTarget_71 : decode y_TR_readTarget.2.1 71 = .ok (.aload_n 0, 1) := dc9_42 (by decide +kernel)
theorem d_TR_readTarget_72 : decode y_TR_readTarget.2.1 72 = .ok (.getfield 12, 3) := dc9_180 (by decide +kernel)
theorem d_TR_readTarget_75 : decode y_TR_readTarget.2.1 75 = .ok (.bipush 35, 2) := dc9_16 (by decide +kernel)
theorem d_TR_readTarget_77 : decode y_TR_readTarget.2.1 77 = .ok (.invokevirtual 102, 3) := dc9_182 (by decide +kernel)
theorem d_TR_readTarget_80 : decode y_TR_readTarget.2.1 80 = .ok (.ireturn, 1) := dc9_172 (by decide +kernel)
theorem d_TR_readTarget_20 : decode y_TR_readTarget.2.1 20 = .ok (.invokevirtual 79, 3) := dc9_182 (by decide +kernel)
theorem d_TR_readTarget_23 : decode y_TR_readTarget.2.1 23 = .ok (.invokevirtual 95, 3) := dc9_182 (by decide +kernel)
theorem k_TR_readTarget {G : mG} {d : Nat} {a0 : Nat} {M : mM} {Q : Int → mM → Prop} (hO : mOk M)
    (h : mK M a0 = 3 ∧ mK M (mR M a0 2) = 6 ∧ ((mI M (mR M a0 2) 11 = (-1)) → (mK M (mR M a0 0) = 4 ∧ i32 ((mI M (mR M a0 0) 2) + 1) ∧ ∀ M8, M8 = mUI M (mR M a0 0) 2 ((mI M (mR M a0 0) 2) + 1) → mK M8 (mR M8 a0 0) = 4 ∧ ∀ M11, M11 = mUI M8 (mR M8 a0 0) 6 0 → Ci G y_TR_readItemRule d [vr a0, vi 0, vi 2] M11 (fun x14 M13 => i32 x14 ∧ mOk M13 ∧ (((x14 = 0) → (Q 0 M13)) ∧ (¬ (x14 = 0) → (mK M13 a0 = 3 ∧ mK M13 (mR M13 a0 5) = 30 ∧ ((0 : Int) ≤ 0 ∧ 0 < (mN M13 (mR M13 a0 5) : Int)) ∧ mK M13 (mR M13 a0 2) = 6 ∧ ∀ M22, M22 = mUI M13 (mR M13 a0 2) 11 (mI M13 (mR M13 a0 5) 0) → mK M22 (mR M22 a0 0) = 4 ∧ Ci G y_RR_accept d [vr (mR M22 a0 0), vi 35] M22 (fun x26 M25 => i32 x26 ∧ mOk M25 ∧ ((x26 = 0 ∨ x26 = 1) ∧ Q x26 M25)))))))) ∧ (¬ (mI M (mR M a0 2) 11 = (-1)) → (mK M (mR M a0 0) = 4 ∧ Ci G y_RR_here d [vr (mR M a0 0)] M (fun x31 M30 => i32 x31 ∧ mOk M30 ∧ (mK M30 (mR M a0 0) = 4 ∧ Cv G y_RR_note d [vr (mR M a0 0), vi 4, vi x31] M30 (fun M34 => mOk M34 ∧ (mK M34 a0 = 3 ∧ mK M34 (mR M34 a0 0) = 4 ∧ i32 ((mI M34 (mR M34 a0 0) 2) + 1) ∧ ∀ M40, M40 = mUI M34 (mR M34 a0 0) 2 ((mI M34 (mR M34 a0 0) 2) + 1) → mK M40 (mR M40 a0 0) = 4 ∧ ∀ M43, M43 = mUI M40 (mR M40 a0 0) 6 0 → Ci G y_TR_readItemRule d [vr a0, vi 0, vi 2] M43 (fun x46 M45 => i32 x46 ∧ mOk M45 ∧ (((x46 = 0) → (Q 0 M45)) ∧ (¬ (x46 = 0) → (mK M45 a0 = 3 ∧ mK M45 (mR M45 a0 5) = 30 ∧ ((0 : Int) ≤ 0 ∧ 0 < (mN M45 (mR M45 a0 5) : Int)) ∧ mK M45 (mR M45 a0 2) = 6 ∧ ∀ M54, M54 = mUI M45 (mR M45 a0 2) 11 (mI M45 (mR M45 a0 5) 0) → mK M54 (mR M54 a0 0) = 4 ∧ Ci G y_RR_accept d [vr (mR M54 a0 0), vi 35] M54 (fun x58 M57 => i32 x58 ∧ mOk M57 ∧ ((x58 = 0 ∨ x58 = 1) ∧ Q x58 M57))))))))))))) :
    Ci G y_TR_readTarget (d + 1) [vr a0] M Q := by
  refine wm_open (y := y_TR_readTarget) rfl (Nat.le_of_ble_eq_true rfl) (L := [vr a0]) rfl ?_
  obtain ⟨h1, h⟩ := h
  obtain ⟨h2, h⟩ := h
  refine wm_aload_n d_TR_readTarget_0 rfl rfl ?_
  refine gf_TR_36 rfl d_TR_readTarget_1 h1 ?_
  refine gf_TR_89 rfl d_TR_readTarget_4 h2 ?_
  refine wm_iconst d_TR_readTarget_7 ?_
  refine wm_icmp_eq (tgt := 26) d_TR_readTarget_8 rfl (hO _ _).1 ⟨by decide, by decide⟩ (fun c5 => ?_) (fun c5 => ?_)
  · replace h := h.1 c5
    obtain ⟨h6, h⟩ := h
    obtain ⟨h7, h⟩ := h
    obtain ⟨M8, e9⟩ : ∃ M8, M8 = mUI M (mR M a0 0) 2 ((mI M (mR M a0 0) 2) + 1) := ⟨_, rfl⟩
    replace h := h M8 e9
    obtain ⟨h10, h⟩ := h
    obtain ⟨M11, e12⟩ : ∃ M11, M11 = mUI M8 (mR M8 a0 0) 6 0 := ⟨_, rfl⟩
    replace h := h M11 e12
    refine wm_aload_n d_TR_readTarget_26 rfl rfl ?_
    refine gf_TR_12 rfl d_TR_readTarget_27 h1 ?_
    refine wm_dup d_TR_readTarget_30 rfl ?_
    refine gf_TR_59 rfl d_TR_readTarget_31 h6 ?_
    refine wm_iconst d_TR_readTarget_34 ?_
    refine wm_iadd d_TR_readTarget_35 ?_
    have hOM8 : mOk M8 := by rw [e9]; exact mOk_UI hO h7
    refine pf_TR_59 rfl d_TR_readTarget_36 h6 h7 e9 ?_
    refine wm_aload_n d_TR_readTarget_39 rfl rfl ?_
    refine gf_TR_12 rfl d_TR_readTarget_40 (by rw [e9]; exact h1) ?_
    refine wm_iconst d_TR_readTarget_43 ?_
    have hOM11 : mOk M11 := by rw [e12]; exact mOk_UI hOM8 (m_b32 (by decide))
    refine pf_TR_125 rfl d_TR_readTarget_44 h10 (by decide) e12 ?_
    refine wm_aload_n d_TR_readTarget_47 rfl rfl ?_
    refine wm_iconst d_TR_readTarget_48 ?_
    refine wm_iconst d_TR_readTarget_49 ?_
    refine cf_TR_136 rfl d_TR_readTarget_50 (by rw [e12, e9]; exact h1) (Nat.le_of_ble_eq_true rfl) (Ci.mono h (fun x14 M13 h => ?_))
    obtain ⟨h15, hOM13, h⟩ := h
    refine wm_if_ne (tgt := 58) d_TR_readTarget_53 rfl h15 (fun c17 => ?_) (fun c17 => ?_)
    · replace h := h.2 c17
      obtain ⟨h18, h⟩ := h
      obtain ⟨h19, h⟩ := h
      obtain ⟨h20, h⟩ := h
      obtain ⟨h21, h⟩ := h
      obtain ⟨M22, e23⟩ : ∃ M22, M22 = mUI M13 (mR M13 a0 2) 11 (mI M13 (mR M13 a0 5) 0) := ⟨_, rfl⟩
      replace h := h M22 e23
      obtain ⟨h24, h⟩ := h
      refine wm_aload_n d_TR_readTarget_58 rfl rfl ?_
      refine gf_TR_36 rfl d_TR_readTarget_59 h18 ?_
      refine wm_aload_n d_TR_readTarget_62 rfl rfl ?_
      refine gf_TR_25 rfl d_TR_readTarget_63 h18 ?_
      refine wm_iconst d_TR_readTarget_66 ?_
      refine wm_iald d_TR_readTarget_67 h19 h20 ?_
      have hOM22 : mOk M22 := by rw [e23]; exact mOk_UI hOM13 (hOM13 _ _).1
      refine pf_TR_89 rfl d_TR_readTarget_68 h21 (hOM13 _ _).1 e23 ?_
      refine wm_aload_n d_TR_readTarget_71 rfl rfl ?_
      refine gf_TR_12 rfl d_TR_readTarget_72 (by rw [e23]; exact h18) ?_
      refine wm_bipush d_TR_readTarget_75 (by decide) ?_
      refine cf_TR_102 rfl d_TR_readTarget_77 h24 (Nat.le_of_ble_eq_true rfl) (Ci.mono h (fun x26 M25 h => ?_))
      obtain ⟨h27, hOM25, h⟩ := h
      obtain ⟨h28, h⟩ := h
      refine wm_ireturn d_TR_readTarget_80 rfl (m_nb h28) ?_
      exact ⟨_, rfl, h⟩
    · replace c17 := Classical.not_not.mp c17
      replace h := h.1 c17
      refine wm_iconst d_TR_readTarget_56 ?_
      refine wm_ireturn d_TR_readTarget_57 rfl (m_nb (by decide)) ?_
      exact ⟨_, rfl, h⟩
  · replace h := h.2 c5
    obtain ⟨h29, h⟩ := h
    refine wm_aload_n d_TR_readTarget_11 rfl rfl ?_
    refine gf_TR_12 rfl d_TR_readTarget_12 h1 ?_
    refine wm_iconst d_TR_readTarget_15 ?_
    refine wm_aload_n d_TR_readTarget_16 rfl rfl ?_
    refine gf_TR_12 rfl d_TR_readTarget_17 h1 ?_
    refine cf_TR_79 rfl d_TR_readTarget_20 h29 (Nat.le_of_ble_eq_true rfl) (Ci.mono h (fun x31 M30 h => ?_))
    obtain ⟨h32, hOM30, h⟩ := h
    obtain ⟨h33, h⟩ := h
    refine cf_TR_95 rfl d_TR_readTarget_23 h33 (Nat.le_of_ble_eq_true rfl) (Cv.mono h (fun M34 h => ?_))
    obtain ⟨hOM34, h⟩ := h
    obtain ⟨h37, h⟩ := h
    obtain ⟨h38, h⟩ := h
    obtain ⟨h39, h⟩ := h
    obtain ⟨M40, e41⟩ : ∃ M40, M40 = mUI M34 (mR M34 a0 0) 2 ((mI M34 (mR M34 a0 0) 2) + 1) := ⟨_, rfl⟩
    replace h := h M40 e41
    obtain ⟨h42, h⟩ := h
    obtain ⟨M43, e44⟩ : ∃ M43, M43 = mUI M40 (mR M40 a0 0) 6 0 := ⟨_, rfl⟩
    replace h := h M43 e44
    refine wm_aload_n d_TR_readTarget_26 rfl rfl ?_
    refine gf_TR_12 rfl d_TR_readTarget_27 h37 ?_
    refine wm_dup d_TR_readTarget_30 rfl ?_
    refine gf_TR_59 rfl d_TR_readTarget_31 h38 ?_
    refine wm_iconst d_TR_readTarget_34 ?_
    refine wm_iadd d_TR_readTarget_35 ?_
    have hOM40 : mOk M40 := by rw [e41]; exact mOk_UI hOM34 h39
    refine pf_TR_59 rfl d_TR_readTarget_36 h38 h39 e41 ?_
    refine wm_aload_n d_TR_readTarget_39 rfl rfl ?_
    refine gf_TR_12 rfl d_TR_readTarget_40 (by rw [e41]; exact h37) ?_
    refine wm_iconst d_TR_readTarget_43 ?_
    have hOM43 : mOk M43 := by rw [e44]; exact mOk_UI hOM40 (m_b32 (by decide))
    refine pf_TR_125 rfl d_TR_readTarget_44 h42 (by decide) e44 ?_
    refine wm_aload_n d_TR_readTarget_47 rfl rfl ?_
    refine wm_iconst d_TR_readTarget_48 ?_
    refine wm_iconst d_TR_readTarget_49 ?_
    refine cf_TR_136 rfl d_TR_readTarget_50 (by rw [e44, e41]; exact h37) (Nat.le_of_ble_eq_true rfl) (Ci.mono h (fun x46 M45 h => ?_))
    obtain ⟨h47, hOM45, h⟩ := h
    refine wm_if_ne (tgt := 58) d_TR_readTarget_53 rfl h47 (fun c49 => ?_) (fun c49 => ?_)
    · replace h := h.2 c49
      obtain ⟨h50, h⟩ := h
      obtain ⟨h51, h⟩ := h
      obtain ⟨h52, h⟩ := h
      obtain ⟨h53, h⟩ := h
      obtain ⟨M54, e55⟩ : ∃ M54, M54 = mUI M45 (mR M45 a0 2) 11 (mI M45 (mR M45 a0 5) 0) := ⟨_, rfl⟩
      replace h := h M54 e55
      obtain ⟨h56, h⟩ := h
      refine wm_aload_n d_TR_readTarget_58 rfl rfl ?_
      refine gf_TR_36 rfl d_TR_readTarget_59 h50 ?_
      refine wm_aload_n d_TR_readTarget_62 rfl rfl ?_
      refine gf_TR_25 rfl d_TR_readTarget_63 h50 ?_
      refine wm_iconst d_TR_readTarget_66 ?_
      refine wm_iald d_TR_readTarget_67 h51 h52 ?_
      have hOM54 : mOk M54 := by rw [e55]; exact mOk_UI hOM45 (hOM45 _ _).1
      refine pf_TR_89 rfl d_TR_readTarget_68 h53 (hOM45 _ _).1 e55 ?_
      refine wm_aload_n d_TR_readTarget_71 rfl rfl ?_
      refine gf_TR_12 rfl d_TR_readTarget_72 (by rw [e55]; exact h50) ?_
      refine wm_bipush d_TR_readTarget_75 (by decide) ?_
      refine cf_TR_102 rfl d_TR_readTarget_77 h56 (Nat.le_of_ble_eq_true rfl) (Ci.mono h (fun x58 M57 h => ?_))
      obtain ⟨h59, hOM57, h⟩ := h
      obtain ⟨h60, h⟩ := h
      refine wm_ireturn d_TR_readTarget_80 rfl (m_nb h60) ?_
      exact ⟨_, rfl, h⟩
    · replace c49 := Classical.not_not.mp c49
      replace h := h.1 c49
      refine wm_iconst d_TR_readTarget_56 ?_
      refine wm_ireturn d_TR_readTarget_57 rfl (m_nb (by decide)) ?_
      exact ⟨_, rfl, h⟩
theorem d_TR_readCommand_0 : decode y_TR_readCommand.2.1 0 = .ok (.aload_n 0, 1) := dc9_42 (by decide +kernel)
theorem d_TR_readCommand_1 : decode y_TR_readCommand.2.1 1 = .ok (.getfield 36, 3) := dc9_180 (by decide +kernel)
theorem d_TR_readCommand_4 : decode y_TR_readCommand.2.1 4 = .ok (.getfield 187, 3) := dc9_180 (by decide +kernel)
theorem d_TR_readCommand_7 : decode y_TR_readCommand.2.1 7 = .ok (.bipush 60, 2) := dc9_16 (by decide +kernel)
theorem d_TR_readCommand_9 : decode y_TR_readCommand.2.1 9 = .ok (.if_icmp .lt 18, 3) := dc9_161 (by decide +kernel)
theorem d_TR_readCommand_12 : decode y_TR_readCommand.2.1 12 = .ok (.aload_n 0, 1) := dc9_42 (by decide +kernel)
theorem d_TR_readCommand_13 : decode y_TR_readCommand.2.1 13 = .ok (.getfield 12, 3) := dc9_180 (by decide +kernel)
theorem d_TR_readCommand_16 : decode y_TR_readCommand.2.1 16 = .ok (.iconst 5, 1) := dc9_8 (by decide +kernel)
theorem d_TR_readCommand_17 : decode y_TR_readCommand.2.1 17 = .ok (.aload_n 0, 1) := dc9_42 (by decide +kernel)
theorem d_TR_readCommand_18 : decode y_TR_readCommand.2.1 18 = .ok (.getfield 12, 3) := dc9_180 (by decide +kernel)
theorem d_TR_readCommand_21 : decode y_TR_readCommand.2.1 21 = .ok (.invokevirtual 79, 3) := dc9_182 (by decide +kernel)
theorem d_TR_readCommand_24 : decode y_TR_readCommand.2.1 24 = .ok (.invokevirtual 95, 3) := dc9_182 (by decide +kernel)
theorem d_TR_readCommand_27 : decode y_TR_readCommand.2.1 27 = .ok (.aload_n 0, 1) := dc9_42 (by decide +kernel)
theorem d_TR_readCommand_28 : decode y_TR_readCommand.2.1 28 = .ok (.getfield 36, 3) := dc9_180 (by decide +kernel)
theorem d_TR_readCommand_31 : decode y_TR_readCommand.2.1 31 = .ok (.getfield 187, 3) := dc9_180 (by decide +kernel)
theorem d_TR_readCommand_34 : decode y_TR_readCommand.2.1 34 = .ok (.bipush 59, 2) := dc9_16 (by decide +kernel)
theorem d_TR_readCommand_36 : decode y_TR_readCommand.2.1 36 = .ok (.invokestatic 190, 3) := dc9_184 (by decide +kernel)
theorem d_TR_readCommand_39 : decode y_TR_readCommand.2.1 39 = .ok (.istore_n 2, 1) := dc9_61 (by decide +kernel)
theorem d_TR_readCommand_40 : decode y_TR_readCommand.2.1 40 = .ok (.aload_n 0, 1) := dc9_42 (by decide +kernel)
theorem d_TR_readCommand_41 : decode y_TR_readCommand.2.1 41 = .ok (.getfield 36, 3) := dc9_180 (by decide +kernel)
theorem d_TR_readCommand_44 : decode y_TR_readCommand.2.1 44 = .ok (.getfield 195, 3) := dc9_180 (by decide +kernel)
theorem d_TR_readCommand_47 : decode y_TR_readCommand.2.1 47 = .ok (.iload_n 2, 1) := dc9_28 (by decide +kernel)
theorem d_TR_readCommand_48 : decode y_TR_readCommand.2.1 48 = .ok (.iload_n 1, 1) := dc9_27 (by decide +kernel)
theorem d_TR_readCommand_49 : decode y_TR_readCommand.2.1 49 = .ok (.bipush 8, 2) := dc9_16 (by decide +kernel)
theorem d_TR_readCommand_51 : decode y_TR_readCommand.2.1 51 = .ok (.if_icmp .ne 7, 3) := dc9_160 (by decide +kernel)
theorem d_TR_readCommand_54 : decode y_TR_readCommand.2.1 54 = .ok (.iconst 1, 1) := dc9_4 (by decide +kernel)
theorem d_TR_readCommand_55 : decode y_TR_readCommand.2.1 55 = .ok (.goto 4, 3) := dc9_167 (by decide +kernel)
theorem d_TR_readCommand_58 : decode y_TR_readCommand.2.1 58 = .ok (.iconst 2, 1) := dc9_5 (by decide +kernel)
theorem d_TR_readCommand_59 : decode y_TR_readCommand.2.1 59 = .ok (.iastore, 1) := dc9_79 (by decide +kernel)
theorem d_TR_readCommand_60 : decode y_TR_readCommand.2.1 60 = .ok (.aload_n 0, 1) := dc9_42 (by decide +kernel)
theorem d_TR_readCommand_61 : decode y_TR_readCommand.2.1 61 = .ok (.getfield 36, 3) := dc9_180 (by decide +kernel)
theorem d_TR_readCommand_64 : decode y_TR_readCommand.2.1 64 = .ok (.getfield 198, 3) := dc9_180 (by decide +kernel)
theorem d_TR_readCommand_67 : decode y_TR_readCommand.2.1 67 = .ok (.iload_n 2, 1) := dc9_28 (by decide +kernel)
theorem d_TR_readCommand_68 : decode y_TR_readCommand.2.1 68 = .ok (.aload_n 0, 1) := dc9_42 (by decide +kernel)
theorem d_TR_readCommand_69 : decode y_TR_readCommand.2.1 69 = .ok (.getfield 12, 3) := dc9_180 (by decide +kernel)
theorem d_TR_readCommand_72 : decode y_TR_readCommand.2.1 72 = .ok (.invokevirtual 79, 3) := dc9_182 (by decide +kernel)
theorem d_TR_readCommand_75 : decode y_TR_readCommand.2.1 75 = .ok (.iastore, 1) := dc9_79 (by decide +kernel)
theorem d_TR_readCommand_76 : decode y_TR_readCommand.2.1 76 = .ok (.aload_n 0, 1) := dc9_42 (by decide +kernel)
theorem d_TR_readCommand_77 : decode y_TR_readCommand.2.1 77 = .ok (.getfield 12, 3) := dc9_180 (by decide +kernel)
theorem d_TR_readCommand_80 : decode y_TR_readCommand.2.1 80 = .ok (.dup, 1) := dc9_89 (by decide +kernel)
theorem d_TR_readCommand_81 : decode y_TR_readCommand.2.1 81 = .ok (.getfield 59, 3) := dc9_180 (by decide +kernel)
theorem d_TR_readCommand_84 : decode y_TR_readCommand.2.1 84 = .ok (.iconst 1, 1) := dc9_4 (by decide +kernel)
theorem d_TR_readCommand_85 : decode y_TR_readCommand.2.1 85 = .ok (.iadd, 1) := dc9_96 (by decide +kernel)
theorem d_TR_readCommand_86 : decode y_TR_readCommand.2.1 86 = .ok (.putfield 59, 3) := dc9_181 (by decide +kernel)
theorem d_TR_readCommand_89 : decode y_TR_readCommand.2.1 89 = .ok (.aload_n 0, 1) := dc9_42 (by decide +kernel)
theorem d_TR_readCommand_90 : decode y_TR_readCommand.2.1 90 = .ok (.getfield 12, 3) := dc9_180 (by decide +kernel)
theorem d_TR_readCommand_93 : decode y_TR_readCommand.2.1 93 = .ok (.iconst 0, 1) := dc9_3 (by decide +kernel)
theorem d_TR_readCommand_94 : decode y_TR_readCommand.2.1 94 = .ok (.putfield 125, 3) := dc9_181 (by decide +kernel)
theorem d_TR_readCommand_97 : decode y_TR_readCommand.2.1 97 = .ok (.aload_n 0, 1) := dc9_42 (by decide +kernel)
theorem d_TR_readCommand_98 : decode y_TR_readCommand.2.1 98 = .ok (.iconst 0, 1) := dc9_3 (by decide +kernel)
theorem d_TR_readCommand_99 : decode y_TR_readCommand.2.1 99 = .ok (.iconst 2, 1) := dc9_5 (by decide +kernel)
theorem d_TR_readCommand_100 : decode y_TR_readCommand.2.1 100 = .ok (.invokevirtual 136, 3) := dc9_182 (by decide +kernel)
theorem d_TR_readCommand_103 : decode y_TR_readCommand.2.1 103 = .ok (.ifCond .eq 15, 3) := dc9_153 (by decide +kernel)
theorem d_TR_readCommand_106 : decode y_TR_readCommand.2.1 106 = .ok (.aload_n 0, 1) := dc9_42 (by decide +kernel)
theorem d_TR_readCommand_107 : decode y_TR_readCommand.2.1 107 = .ok (.getfield 12, 3) := dc9_180 (by decide +kernel)
theorem d_TR_readCommand_110 : decode y_TR_readCommand.2.1 110 = .ok (.bipush 18, 2) := dc9_16 (by decide +kernel)
theorem d_TR_readCommand_118 : decode y_TR_readCommand.2.1 118 = .ok (.iconst 0, 1) := dc9_3 (by decide +kernel)
theorem d_TR_readCommand_119 : decode y_TR_readCommand.2.1 119 = .ok (.ireturn, 1) := dc9_172 (by decide +kernel)
theorem d_TR_readCommand_112 : decode y_TR_readCommand.2.1 112 = .ok (.invokevirtual 102, 3) := dc9_182 (by decide +kernel)
theorem d_TR_readCommand_115 : decode y_TR_readCommand.2.1 115 = .ok (.ifCond .ne 5, 3) := dc9_154 (by decide +kernel)
theorem d_TR_readCommand_120 : decode y_TR_readCommand.2.1 120 = .ok (.aload_n 0, 1) := dc9_42 (by decide +kernel)
theorem d_TR_readCommand_121 : decode y_TR_readCommand.2.1 121 = .ok (.getfield 36, 3) := dc9_180 (by decide +kernel)
theorem d_TR_readCommand_124 : decode y_TR_readCommand.2.1 124 = .ok (.getfield 201, 3) := dc9_180 (by decide +kernel)
theorem d_TR_readCommand_127 : decode y_TR_readCommand.2.1 127 = .ok (.iload_n 2, 1) := dc9_28 (by decide +kernel)
theorem d_TR_readCommand_128 : decode y_TR_readCommand.2.1 128 = .ok (.aload_n 0, 1) := dc9_42 (by decide +kernel)
theorem d_TR_readCommand_129 : decode y_TR_readCommand.2.1 129 = .ok (.getfield 25, 3) := dc9_180 (by decide +kernel)
theorem d_TR_readCommand_132 : decode y_TR_readCommand.2.1 132 = .ok (.iconst 0, 1) := dc9_3 (by decide +kernel)
theorem d_TR_readCommand_133 : decode y_TR_readCommand.2.1 133 = .ok (.iaload, 1) := dc9_46 (by decide +kernel)
theorem d_TR_readCommand_134 : decode y_TR_readCommand.2.1 134 = .ok (.iastore, 1) := dc9_79 (by decide +kernel)
theorem d_TR_readCommand_135 : decode y_TR_readCommand.2.1 135 = .ok (.aload_n 0, 1) := dc9_42 (by decide +kernel)
theorem d_TR_readCommand_136 : decode y_TR_readCommand.2.1 136 = .ok (.getfield 36, 3) := dc9_180 (by decide +kernel)
theorem d_TR_readCommand_139 : decode y_TR_readCommand.2.1 139 = .ok (.getfield 204, 3) := dc9_180 (by decide +kernel)
theorem d_TR_readCommand_142 : decode y_TR_readCommand.2.1 142 = .ok (.iload_n 2, 1) := dc9_28 (by decide +kernel)
theorem d_TR_readCommand_143 : decode y_TR_readCommand.2.1 143 = .ok (.iconst 1, 1) := dc9_4 (by decide +kernel)
theorem d_TR_readCommand_144 : decode y_TR_readCommand.2.1 144 = .ok (.iadd, 1) := dc9_96 (by decide +kernel)
theorem d_TR_readCommand_145 : decode y_TR_readCommand.2.1 145 = .ok (.aload_n 0, 1) := dc9_42 (by decide +kernel)
theorem d_TR_readCommand_146 : decode y_TR_readCommand.2.1 146 = .ok (.getfield 36, 3) := dc9_180 (by decide +kernel)
theorem d_TR_readCommand_149 : decode y_TR_readCommand.2.1 149 = .ok (.getfield 204, 3) := dc9_180 (by decide +kernel)
theorem d_TR_readCommand_152 : decode y_TR_readCommand.2.1 152 = .ok (.iload_n 2, 1) := dc9_28 (by decide +kernel)
theorem d_TR_readCommand_153 : decode y_TR_readCommand.2.1 153 = .ok (.iaload, 1) := dc9_46 (by decide +kernel)
theorem d_TR_readCommand_154 : decode y_TR_readCommand.2.1 154 = .ok (.iastore, 1) := dc9_79 (by decide +kernel)
theorem d_TR_readCommand_155 : decode y_TR_readCommand.2.1 155 = .ok (.iconst 1, 1) := dc9_4 (by decide +kernel)
theorem d_TR_readCommand_156 : decode y_TR_readCommand.2.1 156 = .ok (.istore_n 3, 1) := dc9_62 (by decide +kernel)
theorem d_TR_readCommand_157 : decode y_TR_readCommand.2.1 157 = .ok (.iconst 0, 1) := dc9_3 (by decide +kernel)
theorem d_TR_readCommand_158 : decode y_TR_readCommand.2.1 158 = .ok (.istore 4, 2) := dc9_54 (by decide +kernel)
theorem d_TR_readCommand_160 : decode y_TR_readCommand.2.1 160 = .ok (.iload 4, 2) := dc9_21 (by decide +kernel)
theorem d_TR_readCommand_162 : decode y_TR_readCommand.2.1 162 = .ok (.aload_n 0, 1) := dc9_42 (by decide +kernel)
theorem d_TR_readCommand_163 : decode y_TR_readCommand.2.1 163 = .ok (.getfield 12, 3) := dc9_180 (by decide +kernel)
theorem d_TR_readCommand_166 : decode y_TR_readCommand.2.1 166 = .ok (.getfield 109, 3) := dc9_180 (by decide +kernel)
theorem d_TR_readCommand_169 : decode y_TR_readCommand.2.1 169 = .ok (.getfield 40, 3) := dc9_180 (by decide +kernel)
theorem d_TR_readCommand_172 : decode y_TR_readCommand.2.1 172 = .ok (.if_icmp .ge 87, 3) := dc9_162 (by decide +kernel)
theorem d_TR_readCommand_175 : decode y_TR_readCommand.2.1 175 = .ok (.iload_n 3, 1) := dc9_29 (by decide +kernel)
theorem d_TR_readCommand_176 : decode y_TR_readCommand.2.1 176 = .ok (.ifCond .eq 83, 3) := dc9_153 (by decide +kernel)
theorem d_TR_readCommand_179 : decode y_TR_readCommand.2.1 179 = .ok (.iload 4, 2) := dc9_21 (by decide +kernel)
theorem d_TR_readCommand_181 : decode y_TR_readCommand.2.1 181 = .ok (.bipush 8, 2) := dc9_16 (by decide +kernel)
theorem d_TR_readCommand_183 : decode y_TR_readCommand.2.1 183 = .ok (.if_icmp .lt 18, 3) := dc9_161 (by decide +kernel)
theorem d_TR_readCommand_186 : decode y_TR_readCommand.2.1 186 = .ok (.aload_n 0, 1) := dc9_42 (by decide +kernel)
theorem d_TR_readCommand_187 : decode y_TR_readCommand.2.1 187 = .ok (.getfield 12, 3) := dc9_180 (by decide +kernel)
theorem d_TR_readCommand_190 : decode y_TR_readCommand.2.1 190 = .ok (.iconst 5, 1) := dc9_8 (by decide +kernel)
theorem d_TR_readCommand_191 : decode y_TR_readCommand.2.1 191 = .ok (.aload_n 0, 1) := dc9_42 (by decide +kernel)
theorem d_TR_readCommand_192 : decode y_TR_readCommand.2.1 192 = .ok (.getfield 12, 3) := dc9_180 (by decide +kernel)
theorem d_TR_readCommand_259 : decode y_TR_readCommand.2.1 259 = .ok (.aload_n 0, 1) := dc9_42 (by decide +kernel)
theorem d_TR_readCommand_260 : decode y_TR_readCommand.2.1 260 = .ok (.getfield 36, 3) := dc9_180 (by decide +kernel)
theorem d_TR_readCommand_263 : decode y_TR_readCommand.2.1 263 = .ok (.iload_n 2, 1) := dc9_28 (by decide +kernel)
theorem d_TR_readCommand_264 : decode y_TR_readCommand.2.1 264 = .ok (.iconst 1, 1) := dc9_4 (by decide +kernel)
theorem d_TR_readCommand_265 : decode y_TR_readCommand.2.1 265 = .ok (.iadd, 1) := dc9_96 (by decide +kernel)
theorem d_TR_readCommand_266 : decode y_TR_readCommand.2.1 266 = .ok (.putfield 187, 3) := dc9_181 (by decide +kernel)
theorem d_TR_readCommand_269 : decode y_TR_readCommand.2.1 269 = .ok (.aload_n 0, 1) := dc9_42 (by decide +kernel)
theorem d_TR_readCommand_270 : decode y_TR_readCommand.2.1 270 = .ok (.getfield 12, 3) := dc9_180 (by decide +kernel)
theorem d_TR_readCommand_273 : decode y_TR_readCommand.2.1 273 = .ok (.bipush 35, 2) := dc9_16 (by decide +kernel)
theorem d_TR_readCommand_275 : decode y_TR_readCommand.2.1 275 = .ok (.invokevirtual 102, 3) := dc9_182 (by decide +kernel)
theorem d_TR_readCommand_278 : decode y_TR_readCommand.2.1 278 = .ok (.ireturn, 1) := dc9_172 (by decide +kernel)
theorem d_TR_readCommand_195 : decode y_TR_readCommand.2.1 195 = .ok (.invokevirtual 79, 3) := dc9_182 (by decide +kernel)
theorem d_TR_readCommand_198 : decode y_TR_readCommand.2.1 198 = .ok (.invokevirtual 95, 3) := dc9_182 (by decide +kernel)
theorem d_TR_readCommand_201 : decode y_TR_readCommand.2.1 201 = .ok (.aload_n 0, 1) := dc9_42 (by decide +kernel)
theorem d_TR_readCommand_202 : decode y_TR_readCommand.2.1 202 = .ok (.iload_n 2, 1) := dc9_28 (by decide +kernel)
theorem d_TR_readCommand_203 : decode y_TR_readCommand.2.1 203 = .ok (.invokevirtual 207, 3) := dc9_182 (by decide +kernel)
theorem d_TR_readCommand_206 : decode y_TR_readCommand.2.1 206 = .ok (.ifCond .eq 10, 3) := dc9_153 (by decide +kernel)
theorem d_TR_readCommand_209 : decode y_TR_readCommand.2.1 209 = .ok (.aload_n 0, 1) := dc9_42 (by decide +kernel)
theorem d_TR_readCommand_216 : decode y_TR_readCommand.2.1 216 = .ok (.iconst 0, 1) := dc9_3 (by decide +kernel)
theorem d_TR_readCommand_217 : decode y_TR_readCommand.2.1 217 = .ok (.ireturn, 1) := dc9_172 (by decide +kernel)
theorem d_TR_readCommand_210 : decode y_TR_readCommand.2.1 210 = .ok (.invokevirtual 210, 3) := dc9_182 (by decide +kernel)
theorem d_TR_readCommand_213 : decode y_TR_readCommand.2.1 213 = .ok (.ifCond .ne 5, 3) := dc9_154 (by decide +kernel)
theorem d_TR_readCommand_218 : decode y_TR_readCommand.2.1 218 = .ok (.aload_n 0, 1) := dc9_42 (by decide +kernel)
theorem d_TR_readCommand_219 : decode y_TR_readCommand.2.1 219 = .ok (.getfield 12, 3) := dc9_180 (by decide +kernel)
theorem d_TR_readCommand_222 : decode y_TR_readCommand.2.1 222 = .ok (.getfield 76, 3) := dc9_180 (by decide +kernel)
theorem d_TR_readCommand_225 : decode y_TR_readCommand.2.1 225 = .ok (.ifCond .ne 18, 3) := dc9_154 (by decide +kernel)
theorem d_TR_readCommand_228 : decode y_TR_readCommand.2.1 228 = .ok (.aload_n 0, 1) := dc9_42 (by decide +kernel)
theorem d_TR_readCommand_229 : decode y_TR_readCommand.2.1 229 = .ok (.getfield 36, 3) := dc9_180 (by decide +kernel)
theorem d_TR_readCommand_232 : decode y_TR_readCommand.2.1 232 = .ok (.getfield 204, 3) := dc9_180 (by decide +kernel)
theorem d_TR_readCommand_235 : decode y_TR_readCommand.2.1 235 = .ok (.iload_n 2, 1) := dc9_28 (by decide +kernel)
theorem d_TR_readCommand_236 : decode y_TR_readCommand.2.1 236 = .ok (.iconst 1, 1) := dc9_4 (by decide +kernel)
theorem d_TR_readCommand_237 : decode y_TR_readCommand.2.1 237 = .ok (.iadd, 1) := dc9_96 (by decide +kernel)
theorem d_TR_readCommand_238 : decode y_TR_readCommand.2.1 238 = .ok (.dup2, 1) := dc9_92 (by decide +kernel)
theorem d_TR_readCommand_239 : decode y_TR_readCommand.2.1 239 = .ok (.iaload, 1) := dc9_46 (by decide +kernel)
theorem d_TR_readCommand_240 : decode y_TR_readCommand.2.1 240 = .ok (.iconst 1, 1) := dc9_4 (by decide +kernel)
theorem d_TR_readCommand_241 : decode y_TR_readCommand.2.1 241 = .ok (.iadd, 1) := dc9_96 (by decide +kernel)
theorem d_TR_readCommand_242 : decode y_TR_readCommand.2.1 242 = .ok (.iastore, 1) := dc9_79 (by decide +kernel)
theorem d_TR_readCommand_243 : decode y_TR_readCommand.2.1 243 = .ok (.aload_n 0, 1) := dc9_42 (by decide +kernel)
theorem d_TR_readCommand_244 : decode y_TR_readCommand.2.1 244 = .ok (.getfield 12, 3) := dc9_180 (by decide +kernel)
theorem d_TR_readCommand_247 : decode y_TR_readCommand.2.1 247 = .ok (.bipush 25, 2) := dc9_16 (by decide +kernel)
theorem d_TR_readCommand_249 : decode y_TR_readCommand.2.1 249 = .ok (.invokevirtual 102, 3) := dc9_182 (by decide +kernel)
theorem d_TR_readCommand_252 : decode y_TR_readCommand.2.1 252 = .ok (.istore_n 3, 1) := dc9_62 (by decide +kernel)
theorem d_TR_readCommand_253 : decode y_TR_readCommand.2.1 253 = .ok (.iinc 4 1, 3) := by decide +kernel
theorem d_TR_readCommand_256 : decode y_TR_readCommand.2.1 256 = .ok (.goto (-96), 3) := dc9_167 (by decide +kernel)
def h_TR_readCommand_27 (G : mG) (d : Nat) (a0 : Nat) (l1 : Int) (M : mM) (Q : Int → mM → Prop) : Prop := mWm G y_TR_readCommand (d + 1) 27 [vr a0, vi l1, vd, vd, vd] [] M (fun r9 M9 => ∃ x9, r9 = some (vi x9) ∧ Q x9 M9)
def h_TR_readCommand_160 (G : mG) (d : Nat) (a0 : Nat) (l2 : Int) (l3 : Int) (l4 : Int) (M : mM) (Q : Int → mM → Prop) : Prop := mWm G y_TR_readCommand (d + 1) 160 [vr a0, vd, vi l2, vi l3, vi l4] [] M (fun r9 M9 => ∃ x9, r9 = some (vi x9) ∧ Q x9 M9)
def h_TR_readCommand_201 (G : mG) (d : Nat) (a0 : Nat) (l2 : Int) (l4 : Int) (M : mM) (Q : Int → mM → Prop) : Prop := mWm G y_TR_readCommand (d + 1) 201 [vr a0, vd, vi l2, vd, vi l4] [] M (fun r9 M9 => ∃ x9, r9 = some (vi x9) ∧ Q x9 M9)
theorem k_TR_readCommand {G : mG} {d : Nat} {a0 : Nat} {l1 : Int} {M : mM} {Q : Int → mM → Prop} (hO : mOk M) (hi_l1 : i32 l1)
    (h : mK M a0 = 3 ∧ mK M (mR M a0 2) = 6 ∧ ((mI M (mR M a0 2) 12 < 60) → (h_TR_readCommand_27 G d a0 l1 M Q)) ∧ (¬ (mI M (mR M a0 2) 12 < 60) → (mK M (mR M a0 0) = 4 ∧ Ci G y_RR_here d [vr (mR M a0 0)] M (fun x7 M6 => i32 x7 ∧ mOk M6 ∧ (mK M6 (mR M a0 0) = 4 ∧ Cv G y_RR_note d [vr (mR M a0 0), vi 5, vi x7] M6 (fun M10 => mOk M10 ∧ (h_TR_readCommand_27 G d a0 l1 M10 Q))))))) :
    Ci G y_TR_readCommand (d + 1) [vr a0, vi l1] M Q := by
  refine wm_open (y := y_TR_readCommand) rfl (Nat.le_of_ble_eq_true rfl) (L := [vr a0, vi l1, vd, vd, vd]) rfl ?_
  obtain ⟨h1, h⟩ := h
  obtain ⟨h2, h⟩ := h
  refine wm_aload_n d_TR_readCommand_0 rfl rfl ?_
  refine gf_TR_36 rfl d_TR_readCommand_1 h1 ?_
  refine gf_TR_187 rfl d_TR_readCommand_4 h2 ?_
  refine wm_bipush d_TR_readCommand_7 (by decide) ?_
  refine wm_icmp_lt (tgt := 27) d_TR_readCommand_9 rfl (hO _ _).1 ⟨by decide, by decide⟩ (fun c4 => ?_) (fun c4 => ?_)
  · replace h := h.1 c4
    exact h
  · replace h := h.2 c4
    obtain ⟨h5, h⟩ := h
    refine wm_aload_n d_TR_readCommand_12 rfl rfl ?_
    refine gf_TR_12 rfl d_TR_readCommand_13 h1 ?_
    refine wm_iconst d_TR_readCommand_16 ?_
    refine wm_aload_n d_TR_readCommand_17 rfl rfl ?_
    refine gf_TR_12 rfl d_TR_readCommand_18 h1 ?_
    refine cf_TR_79 rfl d_TR_readCommand_21 h5 (Nat.le_of_ble_eq_true rfl) (Ci.mono h (fun x7 M6 h => ?_))
    obtain ⟨h8, hOM6, h⟩ := h
    obtain ⟨h9, h⟩ := h
    refine cf_TR_95 rfl d_TR_readCommand_24 h9 (Nat.le_of_ble_eq_true rfl) (Cv.mono h (fun M10 h => ?_))
    obtain ⟨hOM10, h⟩ := h
    exact h
theorem k_TR_readCommand_27 {G : mG} {d : Nat} {a0 : Nat} {l1 : Int} {M : mM} {Q : Int → mM → Prop} (hO : mOk M) (hi_l1 : i32 l1)
    (h : mK M a0 = 3 ∧ mK M (mR M a0 2) = 6 ∧ ∀ v16 : Int, v16 = (if (l1 = 8) then 1 else 2) → mK M (mR M (mR M a0 2) 13) = 30 ∧ ((0 : Int) ≤ (if 59 < mI M (mR M a0 2) 12 then 59 else mI M (mR M a0 2) 12) ∧ (if 59 < mI M (mR M a0 2) 12 then 59 else mI M (mR M a0 2) 12) < (mN M (mR M (mR M a0 2) 13) : Int)) ∧ ∀ M22, M22 = mUI M (mR M (mR M a0 2) 13) (Int.toNat (if 59 < mI M (mR M a0 2) 12 then 59 else mI M (mR M a0 2) 12)) v16 → mK M22 (mR M22 a0 2) = 6 ∧ mK M22 (mR M22 a0 0) = 4 ∧ Ci G y_RR_here d [vr (mR M22 a0 0)] M22 (fun x27 M26 => i32 x27 ∧ mOk M26 ∧ (mK M26 (mR M22 (mR M22 a0 2) 14) = 30 ∧ ((0 : Int) ≤ (if 59 < mI M (mR M a0 2) 12 then 59 else mI M (mR M a0 2) 12) ∧ (if 59 < mI M (mR M a0 2) 12 then 59 else mI M (mR M a0 2) 12) < (mN M26 (mR M22 (mR M22 a0 2) 14) : Int)) ∧ ∀ M31, M31 = mUI M26 (mR M22 (mR M22 a0 2) 14) (Int.toNat (if 59 < mI M (mR M a0 2) 12 then 59 else mI M (mR M a0 2) 12)) x27 → mK M31 a0 = 3 ∧ mK M31 (mR M31 a0 0) = 4 ∧ i32 ((mI M31 (mR M31 a0 0) 2) + 1) ∧ ∀ M36, M36 = mUI M31 (mR M31 a0 0) 2 ((mI M31 (mR M31 a0 0) 2) + 1) → mK M36 (mR M36 a0 0) = 4 ∧ ∀ M39, M39 = mUI M36 (mR M36 a0 0) 6 0 → Ci G y_TR_readItemRule d [vr a0, vi 0, vi 2] M39 (fun x42 M41 => i32 x42 ∧ mOk M41 ∧ (((x42 = 0) → (Q 0 M41)) ∧ (¬ (x42 = 0) → (mK M41 a0 = 3 ∧ mK M41 (mR M41 a0 0) = 4 ∧ Ci G y_RR_accept d [vr (mR M41 a0 0), vi 18] M41 (fun x49 M48 => i32 x49 ∧ mOk M48 ∧ (((x49 = 0) → (Q 0 M48)) ∧ (¬ (x49 = 0) → (mK M48 a0 = 3 ∧ mK M48 (mR M48 a0 2) = 6 ∧ mK M48 (mR M48 a0 5) = 30 ∧ ((0 : Int) ≤ 0 ∧ 0 < (mN M48 (mR M48 a0 5) : Int)) ∧ mK M48 (mR M48 (mR M48 a0 2) 15) = 30 ∧ ((0 : Int) ≤ (if 59 < mI M (mR M a0 2) 12 then 59 else mI M (mR M a0 2) 12) ∧ (if 59 < mI M (mR M a0 2) 12 then 59 else mI M (mR M a0 2) 12) < (mN M48 (mR M48 (mR M48 a0 2) 15) : Int)) ∧ ∀ M59, M59 = mUI M48 (mR M48 (mR M48 a0 2) 15) (Int.toNat (if 59 < mI M (mR M a0 2) 12 then 59 else mI M (mR M a0 2) 12)) (mI M48 (mR M48 a0 5) 0) → mK M59 (mR M59 a0 2) = 6 ∧ mK M59 (mR M59 (mR M59 a0 2) 16) = 30 ∧ ((0 : Int) ≤ (if 59 < mI M (mR M a0 2) 12 then 59 else mI M (mR M a0 2) 12) ∧ (if 59 < mI M (mR M a0 2) 12 then 59 else mI M (mR M a0 2) 12) < (mN M59 (mR M59 (mR M59 a0 2) 16) : Int)) ∧ ((0 : Int) ≤ (if 59 < mI M (mR M a0 2) 12 then 59 else mI M (mR M a0 2) 12) + 1 ∧ (if 59 < mI M (mR M a0 2) 12 then 59 else mI M (mR M a0 2) 12) + 1 < (mN M59 (mR M59 (mR M59 a0 2) 16) : Int)) ∧ ∀ M65, M65 = mUI M59 (mR M59 (mR M59 a0 2) 16) (Int.toNat ((if 59 < mI M (mR M a0 2) 12 then 59 else mI M (mR M a0 2) 12) + 1)) (mI M59 (mR M59 (mR M59 a0 2) 16) (Int.toNat (if 59 < mI M (mR M a0 2) 12 then 59 else mI M (mR M a0 2) 12))) → h_TR_readCommand_160 G d a0 (if 59 < mI M (mR M a0 2) 12 then 59 else mI M (mR M a0 2) 12) 1 0 M65 Q))))))))))) :
    h_TR_readCommand_27 G d a0 l1 M Q := by
  unfold h_TR_readCommand_27
  obtain ⟨h13, h⟩ := h
  obtain ⟨h14, h⟩ := h
  refine wm_aload_n d_TR_readCommand_27 rfl rfl ?_
  refine gf_TR_36 rfl d_TR_readCommand_28 h13 ?_
  refine gf_TR_187 rfl d_TR_readCommand_31 h14 ?_
  refine wm_bipush d_TR_readCommand_34 (by decide) ?_
  refine wm_mmin k5_15 (Nat.le_of_ble_eq_true rfl) (hO _ _).1 ⟨by decide, by decide⟩ d_TR_readCommand_36 ?_
  refine wm_istore_n d_TR_readCommand_39 rfl (by decide) (L' := [vr a0, vi l1, vi (if 59 < mI M (mR M a0 2) 12 then 59 else mI M (mR M a0 2) 12), vd, vd]) rfl ?_
  refine wm_aload_n d_TR_readCommand_40 rfl rfl ?_
  refine gf_TR_36 rfl d_TR_readCommand_41 h13 ?_
  refine gf_TR_195 rfl d_TR_readCommand_44 h14 ?_
  refine wm_iload_n d_TR_readCommand_47 rfl rfl ?_
  refine wm_iload_n d_TR_readCommand_48 rfl rfl ?_
  refine wm_bipush d_TR_readCommand_49 (by decide) ?_
  have hJ : ∀ v16 : Int, v16 = (if (l1 = 8) then 1 else 2) → mWm G y_TR_readCommand (d + 1) 59 [vr a0, vd, vi (if 59 < mI M (mR M a0 2) 12 then 59 else mI M (mR M a0 2) 12), vd, vd] [vi v16, vi (if 59 < mI M (mR M a0 2) 12 then 59 else mI M (mR M a0 2) 12), vr (mR M (mR M a0 2) 13)] M (fun r9 M9 => ∃ x9, r9 = some (vi x9) ∧ Q x9 M9) := by
    intro v16 e18
    have h := h v16 e18
    have h19 : i32 v16 := by rw [e18]; (repeat' split) <;> first | exact ⟨by decide, by decide⟩ | exact ⟨by decide, by decide⟩
    obtain ⟨h20, h⟩ := h
    obtain ⟨h21, h⟩ := h
    obtain ⟨M22, e23⟩ : ∃ M22, M22 = mUI M (mR M (mR M a0 2) 13) (Int.toNat (if 59 < mI M (mR M a0 2) 12 then 59 else mI M (mR M a0 2) 12)) v16 := ⟨_, rfl⟩
    replace h := h M22 e23
    obtain ⟨h24, h⟩ := h
    obtain ⟨h25, h⟩ := h
    have hOM22 : mOk M22 := by rw [e23]; exact mOk_UI hO h19
    refine wm_iastE d_TR_readCommand_59 h20 h21 h19 e23 ?_
    refine wm_aload_n d_TR_readCommand_60 rfl rfl ?_
    refine gf_TR_36 rfl d_TR_readCommand_61 (by rw [e23]; exact h13) ?_
    refine gf_TR_198 rfl d_TR_readCommand_64 h24 ?_
    refine wm_iload_n d_TR_readCommand_67 rfl rfl ?_
    refine wm_aload_n d_TR_readCommand_68 rfl rfl ?_
    refine gf_TR_12 rfl d_TR_readCommand_69 (by rw [e23]; exact h13) ?_
    refine cf_TR_79 rfl d_TR_readCommand_72 h25 (Nat.le_of_ble_eq_true rfl) (Ci.mono h (fun x27 M26 h => ?_))
    obtain ⟨h28, hOM26, h⟩ := h
    obtain ⟨h29, h⟩ := h
    obtain ⟨h30, h⟩ := h
    obtain ⟨M31, e32⟩ : ∃ M31, M31 = mUI M26 (mR M22 (mR M22 a0 2) 14) (Int.toNat (if 59 < mI M (mR M a0 2) 12 then 59 else mI M (mR M a0 2) 12)) x27 := ⟨_, rfl⟩
    replace h := h M31 e32
    obtain ⟨h33, h⟩ := h
    obtain ⟨h34, h⟩ := h
    obtain ⟨h35, h⟩ := h
    obtain ⟨M36, e37⟩ : ∃ M36, M36 = mUI M31 (mR M31 a0 0) 2 ((mI M31 (mR M31 a0 0) 2) + 1) := ⟨_, rfl⟩
    replace h := h M36 e37
    obtain ⟨h38, h⟩ := h
    obtain ⟨M39, e40⟩ : ∃ M39, M39 = mUI M36 (mR M36 a0 0) 6 0 := ⟨_, rfl⟩
    replace h := h M39 e40
    have hOM31 : mOk M31 := by rw [e32]; exact mOk_UI hOM26 h28
    refine wm_iastE d_TR_readCommand_75 h29 h30 h28 e32 ?_
    refine wm_aload_n d_TR_readCommand_76 rfl rfl ?_
    refine gf_TR_12 rfl d_TR_readCommand_77 h33 ?_
    refine wm_dup d_TR_readCommand_80 rfl ?_
    refine gf_TR_59 rfl d_TR_readCommand_81 h34 ?_
    refine wm_iconst d_TR_readCommand_84 ?_
    refine wm_iadd d_TR_readCommand_85 ?_
    have hOM36 : mOk M36 := by rw [e37]; exact mOk_UI hOM31 h35
    refine pf_TR_59 rfl d_TR_readCommand_86 h34 h35 e37 ?_
    refine wm_aload_n d_TR_readCommand_89 rfl rfl ?_
    refine gf_TR_12 rfl d_TR_readCommand_90 (by rw [e37]; exact h33) ?_
    refine wm_iconst d_TR_readCommand_93 ?_
    have hOM39 : mOk M39 := by rw [e40]; exact mOk_UI hOM36 (m_b32 (by decide))
    refine pf_TR_125 rfl d_TR_readCommand_94 h38 (by decide) e40 ?_
    refine wm_aload_n d_TR_readCommand_97 rfl rfl ?_
    refine wm_iconst d_TR_readCommand_98 ?_
    refine wm_iconst d_TR_readCommand_99 ?_
    refine cf_TR_136 rfl d_TR_readCommand_100 (by rw [e40, e37]; exact h33) (Nat.le_of_ble_eq_true rfl) (Ci.mono h (fun x42 M41 h => ?_))
    obtain ⟨h43, hOM41, h⟩ := h
    refine wm_if_eq (tgt := 118) d_TR_readCommand_103 rfl h43 (fun c45 => ?_) (fun c45 => ?_)
    · replace h := h.1 c45
      refine wm_iconst d_TR_readCommand_118 ?_
      refine wm_ireturn d_TR_readCommand_119 rfl (m_nb (by decide)) ?_
      exact ⟨_, rfl, h⟩
    · replace h := h.2 c45
      obtain ⟨h46, h⟩ := h
      obtain ⟨h47, h⟩ := h
      refine wm_aload_n d_TR_readCommand_106 rfl rfl ?_
      refine gf_TR_12 rfl d_TR_readCommand_107 h46 ?_
      refine wm_bipush d_TR_readCommand_110 (by decide) ?_
      refine cf_TR_102 rfl d_TR_readCommand_112 h47 (Nat.le_of_ble_eq_true rfl) (Ci.mono h (fun x49 M48 h => ?_))
      obtain ⟨h50, hOM48, h⟩ := h
      refine wm_if_ne (tgt := 120) d_TR_readCommand_115 rfl h50 (fun c52 => ?_) (fun c52 => ?_)
      · replace h := h.2 c52
        obtain ⟨h53, h⟩ := h
        obtain ⟨h54, h⟩ := h
        obtain ⟨h55, h⟩ := h
        obtain ⟨h56, h⟩ := h
        obtain ⟨h57, h⟩ := h
        obtain ⟨h58, h⟩ := h
        obtain ⟨M59, e60⟩ : ∃ M59, M59 = mUI M48 (mR M48 (mR M48 a0 2) 15) (Int.toNat (if 59 < mI M (mR M a0 2) 12 then 59 else mI M (mR M a0 2) 12)) (mI M48 (mR M48 a0 5) 0) := ⟨_, rfl⟩
        replace h := h M59 e60
        obtain ⟨h61, h⟩ := h
        obtain ⟨h62, h⟩ := h
        obtain ⟨h63, h⟩ := h
        obtain ⟨h64, h⟩ := h
        obtain ⟨M65, e66⟩ : ∃ M65, M65 = mUI M59 (mR M59 (mR M59 a0 2) 16) (Int.toNat ((if 59 < mI M (mR M a0 2) 12 then 59 else mI M (mR M a0 2) 12) + 1)) (mI M59 (mR M59 (mR M59 a0 2) 16) (Int.toNat (if 59 < mI M (mR M a0 2) 12 then 59 else mI M (mR M a0 2) 12))) := ⟨_, rfl⟩
        replace h := h M65 e66
        refine wm_aload_n d_TR_readCommand_120 rfl rfl ?_
        refine gf_TR_36 rfl d_TR_readCommand_121 h53 ?_
        refine gf_TR_201 rfl d_TR_readCommand_124 h54 ?_
        refine wm_iload_n d_TR_readCommand_127 rfl rfl ?_
        refine wm_aload_n d_TR_readCommand_128 rfl rfl ?_
        refine gf_TR_25 rfl d_TR_readCommand_129 h53 ?_
        refine wm_iconst d_TR_readCommand_132 ?_
        refine wm_iald d_TR_readCommand_133 h55 h56 ?_
        have hOM59 : mOk M59 := by rw [e60]; exact mOk_UI hOM48 (hOM48 _ _).1
        refine wm_iastE d_TR_readCommand_134 h57 h58 (hOM48 _ _).1 e60 ?_
        refine wm_aload_n d_TR_readCommand_135 rfl rfl ?_
        refine gf_TR_36 rfl d_TR_readCommand_136 (by rw [e60]; exact h53) ?_
        refine gf_TR_204 rfl d_TR_readCommand_139 h61 ?_
        refine wm_iload_n d_TR_readCommand_142 rfl rfl ?_
        refine wm_iconst d_TR_readCommand_143 ?_
        refine wm_iadd d_TR_readCommand_144 ?_
        refine wm_aload_n d_TR_readCommand_145 rfl rfl ?_
        refine gf_TR_36 rfl d_TR_readCommand_146 (by rw [e60]; exact h53) ?_
        refine gf_TR_204 rfl d_TR_readCommand_149 h61 ?_
        refine wm_iload_n d_TR_readCommand_152 rfl rfl ?_
        refine wm_iald d_TR_readCommand_153 h62 h63 ?_
        have hOM65 : mOk M65 := by rw [e66]; exact mOk_UI hOM59 (hOM59 _ _).1
        refine wm_iastE d_TR_readCommand_154 h62 h64 (hOM59 _ _).1 e66 ?_
        refine wm_iconst d_TR_readCommand_155 ?_
        refine wm_istore_n d_TR_readCommand_156 rfl (by decide) (L' := [vr a0, vd, vi (if 59 < mI M (mR M a0 2) 12 then 59 else mI M (mR M a0 2) 12), vi 1, vd]) rfl ?_
        refine wm_iconst d_TR_readCommand_157 ?_
        refine wm_istore d_TR_readCommand_158 (by decide) (L' := [vr a0, vd, vi (if 59 < mI M (mR M a0 2) 12 then 59 else mI M (mR M a0 2) 12), vi 1, vi 0]) rfl ?_
        exact h
      · replace c52 := Classical.not_not.mp c52
        replace h := h.1 c52
        refine wm_iconst d_TR_readCommand_118 ?_
        refine wm_ireturn d_TR_readCommand_119 rfl (m_nb (by decide)) ?_
        exact ⟨_, rfl, h⟩
  clear h
  refine wm_icmp_ne (tgt := 58) d_TR_readCommand_51 rfl hi_l1 ⟨by decide, by decide⟩ (fun c15 => ?_) (fun c15 => ?_)
  · refine wm_iconst d_TR_readCommand_58 ?_
    refine wm_less (L' := [vr a0, vd, vi (if 59 < mI M (mR M a0 2) 12 then 59 else mI M (mR M a0 2) 12), vd, vd]) ⟨Or.inr rfl, Or.inl rfl, Or.inr rfl, Or.inl rfl, Or.inl rfl, trivial⟩ ?_
    exact hJ 2 (if_neg c15).symm
  · replace c15 := Classical.not_not.mp c15
    refine wm_iconst d_TR_readCommand_54 ?_
    refine wm_goto (tgt := 59) d_TR_readCommand_55 rfl ?_
    refine wm_less (L' := [vr a0, vd, vi (if 59 < mI M (mR M a0 2) 12 then 59 else mI M (mR M a0 2) 12), vd, vd]) ⟨Or.inr rfl, Or.inl rfl, Or.inr rfl, Or.inl rfl, Or.inl rfl, trivial⟩ ?_
    exact hJ 1 (if_pos c15).symm
theorem k_TR_readCommand_160 {G : mG} {d : Nat} {a0 : Nat} {l2 : Int} {l3 : Int} {l4 : Int} {M : mM} {Q : Int → mM → Prop} (hO : mOk M) (hi_l2 : i32 l2) (hi_l3 : i32 l3) (hi_l4 : i32 l4)
    (h : mK M a0 = 3 ∧ mK M (mR M a0 0) = 4 ∧ mK M (mR M (mR M a0 0) 0) = 2 ∧ (((mI M (mR M (mR M a0 0) 0) 2 ≤ l4) ∨ (l3 = 0)) → (mK M (mR M a0 2) = 6 ∧ i32 (l2 + 1) ∧ ∀ M78, M78 = mUI M (mR M a0 2) 12 (l2 + 1) → mK M78 (mR M78 a0 0) = 4 ∧ Ci G y_RR_accept d [vr (mR M78 a0 0), vi 35] M78 (fun x82 M81 => i32 x82 ∧ mOk M81 ∧ ((x82 = 0 ∨ x82 = 1) ∧ Q x82 M81)))) ∧ (¬ ((mI M (mR M (mR M a0 0) 0) 2 ≤ l4) ∨ (l3 = 0)) → (((l4 < 8) → (h_TR_readCommand_201 G d a0 l2 l4 M Q)) ∧ (¬ (l4 < 8) → (Ci G y_RR_here d [vr (mR M a0 0)] M (fun x89 M88 => i32 x89 ∧ mOk M88 ∧ (mK M88 (mR M a0 0) = 4 ∧ Cv G y_RR_note d [vr (mR M a0 0), vi 5, vi x89] M88 (fun M92 => mOk M92 ∧ (h_TR_readCommand_201 G d a0 l2 l4 M92 Q))))))))) :
    h_TR_readCommand_160 G d a0 l2 l3 l4 M Q := by
  unfold h_TR_readCommand_160
  obtain ⟨h68, h⟩ := h
  obtain ⟨h69, h⟩ := h
  obtain ⟨h70, h⟩ := h
  refine wm_iload d_TR_readCommand_160 rfl ?_
  refine wm_aload_n d_TR_readCommand_162 rfl rfl ?_
  refine gf_TR_12 rfl d_TR_readCommand_163 h68 ?_
  refine gf_TR_109 rfl d_TR_readCommand_166 h69 ?_
  refine gf_TR_40 rfl d_TR_readCommand_169 h70 ?_
  have hE0 : ((mI M (mR M (mR M a0 0) 0) 2 ≤ l4) ∨ (l3 = 0)) → mWm G y_TR_readCommand (d + 1) 259 [vr a0, vd, vi l2, vi l3, vi l4] [] M (fun r9 M9 => ∃ x9, r9 = some (vi x9) ∧ Q x9 M9) := by
    intro q75
    have h := h.1 q75
    obtain ⟨h76, h⟩ := h
    obtain ⟨h77, h⟩ := h
    obtain ⟨M78, e79⟩ : ∃ M78, M78 = mUI M (mR M a0 2) 12 (l2 + 1) := ⟨_, rfl⟩
    replace h := h M78 e79
    obtain ⟨h80, h⟩ := h
    refine wm_aload_n d_TR_readCommand_259 rfl rfl ?_
    refine gf_TR_36 rfl d_TR_readCommand_260 h68 ?_
    refine wm_iload_n d_TR_readCommand_263 rfl rfl ?_
    refine wm_iconst d_TR_readCommand_264 ?_
    refine wm_iadd d_TR_readCommand_265 ?_
    have hOM78 : mOk M78 := by rw [e79]; exact mOk_UI hO h77
    refine pf_TR_187 rfl d_TR_readCommand_266 h76 h77 e79 ?_
    refine wm_aload_n d_TR_readCommand_269 rfl rfl ?_
    refine gf_TR_12 rfl d_TR_readCommand_270 (by rw [e79]; exact h68) ?_
    refine wm_bipush d_TR_readCommand_273 (by decide) ?_
    refine cf_TR_102 rfl d_TR_readCommand_275 h80 (Nat.le_of_ble_eq_true rfl) (Ci.mono h (fun x82 M81 h => ?_))
    obtain ⟨h83, hOM81, h⟩ := h
    obtain ⟨h84, h⟩ := h
    refine wm_ireturn d_TR_readCommand_278 rfl (m_nb h84) ?_
    exact ⟨_, rfl, h⟩
  have hE1 : ¬ ((mI M (mR M (mR M a0 0) 0) 2 ≤ l4) ∨ (l3 = 0)) → mWm G y_TR_readCommand (d + 1) 179 [vr a0, vd, vi l2, vi l3, vi l4] [] M (fun r9 M9 => ∃ x9, r9 = some (vi x9) ∧ Q x9 M9) := by
    intro q85
    have h := h.2 q85
    refine wm_iload d_TR_readCommand_179 rfl ?_
    refine wm_bipush d_TR_readCommand_181 (by decide) ?_
    refine wm_icmp_lt (tgt := 201) d_TR_readCommand_183 rfl hi_l4 ⟨by decide, by decide⟩ (fun c87 => ?_) (fun c87 => ?_)
    · replace h := h.1 c87
      refine wm_less (L' := [vr a0, vd, vi l2, vd, vi l4]) ⟨Or.inr rfl, Or.inl rfl, Or.inr rfl, Or.inl rfl, Or.inr rfl, trivial⟩ ?_
      exact h
    · replace h := h.2 c87
      refine wm_aload_n d_TR_readCommand_186 rfl rfl ?_
      refine gf_TR_12 rfl d_TR_readCommand_187 h68 ?_
      refine wm_iconst d_TR_readCommand_190 ?_
      refine wm_aload_n d_TR_readCommand_191 rfl rfl ?_
      refine gf_TR_12 rfl d_TR_readCommand_192 h68 ?_
      refine cf_TR_79 rfl d_TR_readCommand_195 h69 (Nat.le_of_ble_eq_true rfl) (Ci.mono h (fun x89 M88 h => ?_))
      obtain ⟨h90, hOM88, h⟩ := h
      obtain ⟨h91, h⟩ := h
      refine cf_TR_95 rfl d_TR_readCommand_198 h91 (Nat.le_of_ble_eq_true rfl) (Cv.mono h (fun M92 h => ?_))
      obtain ⟨hOM92, h⟩ := h
      refine wm_less (L' := [vr a0, vd, vi l2, vd, vi l4]) ⟨Or.inr rfl, Or.inl rfl, Or.inr rfl, Or.inl rfl, Or.inr rfl, trivial⟩ ?_
      exact h
  clear h
  refine wm_icmp_ge (tgt := 259) d_TR_readCommand_172 rfl hi_l4 (hO _ _).1 (fun c73 => ?_) (fun c73 => ?_)
  · exact hE0 (Or.inl c73)
  · refine wm_iload_n d_TR_readCommand_175 rfl rfl ?_
    refine wm_if_eq (tgt := 259) d_TR_readCommand_176 rfl hi_l3 (fun c72 => ?_) (fun c72 => ?_)
    · exact hE0 (Or.inr c72)
    · exact hE1 (fun z95 => Or.elim z95 c73 c72)
theorem k_TR_readCommand_201 {G : mG} {d : Nat} {a0 : Nat} {l2 : Int} {l4 : Int} {M : mM} {Q : Int → mM → Prop} (hO : mOk M) (hi_l2 : i32 l2) (hi_l4 : i32 l4)
    (h : mK M a0 = 3 ∧ Ci G y_TR_readChance d [vr a0, vi l2] M (fun x99 M98 => i32 x99 ∧ mOk M98 ∧ (((x99 = 0) → (Q 0 M98)) ∧ (¬ (x99 = 0) → (mK M98 a0 = 3 ∧ Ci G y_TR_readSets d [vr a0] M98 (fun x105 M104 => i32 x105 ∧ mOk M104 ∧ (((x105 = 0) → (Q 0 M104)) ∧ (¬ (x105 = 0) → (mK M104 a0 = 3 ∧ mK M104 (mR M104 a0 0) = 4 ∧ ((mI M104 (mR M104 a0 0) 3 = 0) → (mK M104 (mR M104 a0 2) = 6 ∧ mK M104 (mR M104 (mR M104 a0 2) 16) = 30 ∧ ((0 : Int) ≤ l2 + 1 ∧ l2 + 1 < (mN M104 (mR M104 (mR M104 a0 2) 16) : Int)) ∧ ((0 : Int) ≤ l2 + 1 ∧ l2 + 1 < (mN M104 (mR M104 (mR M104 a0 2) 16) : Int)) ∧ i32 ((mI M104 (mR M104 (mR M104 a0 2) 16) (Int.toNat (l2 + 1))) + 1))) ∧ ∀ M120 : mM, M120 = (if (mI M104 (mR M104 a0 0) 3 = 0) then (mUI M104 (mR M104 (mR M104 a0 2) 16) (Int.toNat (l2 + 1)) ((mI M104 (mR M104 (mR M104 a0 2) 16) (Int.toNat (l2 + 1))) + 1)) else M104) → mOk M120 ∧ mK M120 (mR M120 a0 0) = 4 ∧ Ci G y_RR_accept d [vr (mR M120 a0 0), vi 25] M120 (fun x126 M125 => i32 x126 ∧ mOk M125 ∧ (h_TR_readCommand_160 G d a0 l2 x126 (l4 + 1) M125 Q))))))))))) :
    h_TR_readCommand_201 G d a0 l2 l4 M Q := by
  unfold h_TR_readCommand_201
  obtain ⟨h97, h⟩ := h
  refine wm_aload_n d_TR_readCommand_201 rfl rfl ?_
  refine wm_iload_n d_TR_readCommand_202 rfl rfl ?_
  refine cf_TR_207 rfl d_TR_readCommand_203 h97 (Nat.le_of_ble_eq_true rfl) (Ci.mono h (fun x99 M98 h => ?_))
  obtain ⟨h100, hOM98, h⟩ := h
  refine wm_if_eq (tgt := 216) d_TR_readCommand_206 rfl h100 (fun c102 => ?_) (fun c102 => ?_)
  · replace h := h.1 c102
    refine wm_iconst d_TR_readCommand_216 ?_
    refine wm_ireturn d_TR_readCommand_217 rfl (m_nb (by decide)) ?_
    exact ⟨_, rfl, h⟩
  · replace h := h.2 c102
    obtain ⟨h103, h⟩ := h
    refine wm_aload_n d_TR_readCommand_209 rfl rfl ?_
    refine cf_TR_210 rfl d_TR_readCommand_210 h103 (Nat.le_of_ble_eq_true rfl) (Ci.mono h (fun x105 M104 h => ?_))
    obtain ⟨h106, hOM104, h⟩ := h
    refine wm_if_ne (tgt := 218) d_TR_readCommand_213 rfl h106 (fun c111 => ?_) (fun c111 => ?_)
    · replace h := h.2 c111
      obtain ⟨h112, h⟩ := h
      obtain ⟨h113, h⟩ := h
      refine wm_aload_n d_TR_readCommand_218 rfl rfl ?_
      refine gf_TR_12 rfl d_TR_readCommand_219 h112 ?_
      refine gf_TR_76 rfl d_TR_readCommand_222 h113 ?_
      obtain ⟨s121, h⟩ := h
      have hJ : ∀ M120 : mM, M120 = (if (mI M104 (mR M104 a0 0) 3 = 0) then (mUI M104 (mR M104 (mR M104 a0 2) 16) (Int.toNat (l2 + 1)) ((mI M104 (mR M104 (mR M104 a0 2) 16) (Int.toNat (l2 + 1))) + 1)) else M104) → mWm G y_TR_readCommand (d + 1) 243 [vr a0, vd, vi l2, vd, vi l4] [] M120 (fun r9 M9 => ∃ x9, r9 = some (vi x9) ∧ Q x9 M9) := by
        intro M120 e122
        have h := h M120 e122
        have h123 : mK M120 = mK M104 := by rw [e122]; (repeat' split) <;> rfl
        obtain ⟨hOM125, h⟩ := h
        obtain ⟨h124, h⟩ := h
        refine wm_aload_n d_TR_readCommand_243 rfl rfl ?_
        refine gf_TR_12 rfl d_TR_readCommand_244 (by rw [h123]; exact h112) ?_
        refine wm_bipush d_TR_readCommand_247 (by decide) ?_
        refine cf_TR_102 rfl d_TR_readCommand_249 h124 (Nat.le_of_ble_eq_true rfl) (Ci.mono h (fun x126 M125 h => ?_))
        obtain ⟨h127, hOM125, h⟩ := h
        refine wm_istore_n d_TR_readCommand_252 rfl (by decide) (L' := [vr a0, vd, vi l2, vi x126, vi l4]) rfl ?_
        refine wm_iinc d_TR_readCommand_253 (by decide) rfl (L' := [vr a0, vd, vi l2, vi x126, vi (l4 + 1)]) rfl ?_
        refine wm_goto (tgt := 160) d_TR_readCommand_256 rfl ?_
        exact h
      clear h
      have s128 := s121
      refine wm_if_ne (tgt := 243) d_TR_readCommand_225 rfl (hOM104 _ _).1 (fun c114 => ?_) (fun c114 => ?_)
      · exact hJ M104 (if_neg c114).symm
      · replace c114 := Classical.not_not.mp c114
        have s128 := s128 c114
        obtain ⟨h115, h116, h117, h118, h119⟩ := s128
        refine wm_aload_n d_TR_readCommand_228 rfl rfl ?_
        refine gf_TR_36 rfl d_TR_readCommand_229 h112 ?_
        refine gf_TR_204 rfl d_TR_readCommand_232 h115 ?_
        refine wm_iload_n d_TR_readCommand_235 rfl rfl ?_
        refine wm_iconst d_TR_readCommand_236 ?_
        refine wm_iadd d_TR_readCommand_237 ?_
        refine wm_dup2 d_TR_readCommand_238 rfl rfl ?_
        refine wm_iald d_TR_readCommand_239 h116 h117 ?_
        refine wm_iconst d_TR_readCommand_240 ?_
        refine wm_iadd d_TR_readCommand_241 ?_
        refine wm_iastE d_TR_readCommand_242 h116 h118 h119 rfl ?_
        exact hJ (mUI M104 (mR M104 (mR M104 a0 2) 16) (Int.toNat (l2 + 1)) ((mI M104 (mR M104 (mR M104 a0 2) 16) (Int.toNat (l2 + 1))) + 1)) (if_pos c114).symm
    · replace c111 := Classical.not_not.mp c111
      replace h := h.1 c111
      refine wm_iconst d_TR_readCommand_216 ?_
      refine wm_ireturn d_TR_readCommand_217 rfl (m_nb (by decide)) ?_
      exact ⟨_, rfl, h⟩
theorem d_TR_readChance_0 : decode y_TR_readChance.2.1 0 = .ok (.aload_n 0, 1) := dc9_42 (by decide +kernel)
theorem d_TR_readChance_1 : decode y_TR_readChance.2.1 1 = .ok (.getfield 12, 3) := dc9_180 (by decide +kernel)
theorem d_TR_readChance_4 : decode y_TR_readChance.2.1 4 = .ok (.invokevirtual 79, 3) := dc9_182 (by decide +kernel)
theorem d_TR_readChance_7 : decode y_TR_readChance.2.1 7 = .ok (.istore_n 2, 1) := dc9_61 (by decide +kernel)
theorem d_TR_readChance_8 : decode y_TR_readChance.2.1 8 = .ok (.aload_n 0, 1) := dc9_42 (by decide +kernel)
theorem d_TR_readChance_9 : decode y_TR_readChance.2.1 9 = .ok (.getfield 36, 3) := dc9_180 (by decide +kernel)
theorem d_TR_readChance_12 : decode y_TR_readChance.2.1 12 = .ok (.getfield 116, 3) := dc9_180 (by decide +kernel)
theorem d_TR_readChance_15 : decode y_TR_readChance.2.1 15 = .ok (.istore_n 3, 1) := dc9_62 (by decide +kernel)
theorem d_TR_readChance_16 : decode y_TR_readChance.2.1 16 = .ok (.aload_n 0, 1) := dc9_42 (by decide +kernel)
theorem d_TR_readChance_17 : decode y_TR_readChance.2.1 17 = .ok (.getfield 12, 3) := dc9_180 (by decide +kernel)
theorem d_TR_readChance_20 : decode y_TR_readChance.2.1 20 = .ok (.iconst 1, 1) := dc9_4 (by decide +kernel)
theorem d_TR_readChance_21 : decode y_TR_readChance.2.1 21 = .ok (.iconst 0, 1) := dc9_3 (by decide +kernel)
theorem d_TR_readChance_22 : decode y_TR_readChance.2.1 22 = .ok (.invokevirtual 117, 3) := dc9_182 (by decide +kernel)
theorem d_TR_readChance_25 : decode y_TR_readChance.2.1 25 = .ok (.ifCond .ne 5, 3) := dc9_154 (by decide +kernel)
theorem d_TR_readChance_28 : decode y_TR_readChance.2.1 28 = .ok (.iconst 0, 1) := dc9_3 (by decide +kernel)
theorem d_TR_readChance_29 : decode y_TR_readChance.2.1 29 = .ok (.ireturn, 1) := dc9_172 (by decide +kernel)
theorem d_TR_readChance_30 : decode y_TR_readChance.2.1 30 = .ok (.aload_n 0, 1) := dc9_42 (by decide +kernel)
theorem d_TR_readChance_31 : decode y_TR_readChance.2.1 31 = .ok (.getfield 36, 3) := dc9_180 (by decide +kernel)
theorem d_TR_readChance_34 : decode y_TR_readChance.2.1 34 = .ok (.iconst 0, 1) := dc9_3 (by decide +kernel)
theorem d_TR_readChance_35 : decode y_TR_readChance.2.1 35 = .ok (.iconst 0, 1) := dc9_3 (by decide +kernel)
theorem d_TR_readChance_36 : decode y_TR_readChance.2.1 36 = .ok (.invokevirtual 121, 3) := dc9_182 (by decide +kernel)
theorem d_TR_readChance_39 : decode y_TR_readChance.2.1 39 = .ok (.pop, 1) := dc9_87 (by decide +kernel)
theorem d_TR_readChance_40 : decode y_TR_readChance.2.1 40 = .ok (.aload_n 0, 1) := dc9_42 (by decide +kernel)
theorem d_TR_readChance_41 : decode y_TR_readChance.2.1 41 = .ok (.getfield 12, 3) := dc9_180 (by decide +kernel)
theorem d_TR_readChance_44 : decode y_TR_readChance.2.1 44 = .ok (.getfield 76, 3) := dc9_180 (by decide +kernel)
theorem d_TR_readChance_47 : decode y_TR_readChance.2.1 47 = .ok (.ifCond .ne 55, 3) := dc9_154 (by decide +kernel)
theorem d_TR_readChance_50 : decode y_TR_readChance.2.1 50 = .ok (.aload_n 0, 1) := dc9_42 (by decide +kernel)
theorem d_TR_readChance_51 : decode y_TR_readChance.2.1 51 = .ok (.getfield 36, 3) := dc9_180 (by decide +kernel)
theorem d_TR_readChance_54 : decode y_TR_readChance.2.1 54 = .ok (.getfield 204, 3) := dc9_180 (by decide +kernel)
theorem d_TR_readChance_57 : decode y_TR_readChance.2.1 57 = .ok (.iload_n 1, 1) := dc9_27 (by decide +kernel)
theorem d_TR_readChance_58 : decode y_TR_readChance.2.1 58 = .ok (.iconst 1, 1) := dc9_4 (by decide +kernel)
theorem d_TR_readChance_59 : decode y_TR_readChance.2.1 59 = .ok (.iadd, 1) := dc9_96 (by decide +kernel)
theorem d_TR_readChance_60 : decode y_TR_readChance.2.1 60 = .ok (.iaload, 1) := dc9_46 (by decide +kernel)
theorem d_TR_readChance_61 : decode y_TR_readChance.2.1 61 = .ok (.istore 4, 2) := dc9_54 (by decide +kernel)
theorem d_TR_readChance_63 : decode y_TR_readChance.2.1 63 = .ok (.aload_n 0, 1) := dc9_42 (by decide +kernel)
theorem d_TR_readChance_64 : decode y_TR_readChance.2.1 64 = .ok (.getfield 36, 3) := dc9_180 (by decide +kernel)
theorem d_TR_readChance_67 : decode y_TR_readChance.2.1 67 = .ok (.getfield 213, 3) := dc9_180 (by decide +kernel)
theorem d_TR_readChance_70 : decode y_TR_readChance.2.1 70 = .ok (.iload 4, 2) := dc9_21 (by decide +kernel)
theorem d_TR_readChance_72 : decode y_TR_readChance.2.1 72 = .ok (.iload_n 2, 1) := dc9_28 (by decide +kernel)
theorem d_TR_readChance_73 : decode y_TR_readChance.2.1 73 = .ok (.iastore, 1) := dc9_79 (by decide +kernel)
theorem d_TR_readChance_74 : decode y_TR_readChance.2.1 74 = .ok (.aload_n 0, 1) := dc9_42 (by decide +kernel)
theorem d_TR_readChance_75 : decode y_TR_readChance.2.1 75 = .ok (.getfield 36, 3) := dc9_180 (by decide +kernel)
theorem d_TR_readChance_78 : decode y_TR_readChance.2.1 78 = .ok (.getfield 216, 3) := dc9_180 (by decide +kernel)
theorem d_TR_readChance_81 : decode y_TR_readChance.2.1 81 = .ok (.iload 4, 2) := dc9_21 (by decide +kernel)
theorem d_TR_readChance_83 : decode y_TR_readChance.2.1 83 = .ok (.iload_n 3, 1) := dc9_29 (by decide +kernel)
theorem d_TR_readChance_84 : decode y_TR_readChance.2.1 84 = .ok (.iastore, 1) := dc9_79 (by decide +kernel)
theorem d_TR_readChance_85 : decode y_TR_readChance.2.1 85 = .ok (.aload_n 0, 1) := dc9_42 (by decide +kernel)
theorem d_TR_readChance_86 : decode y_TR_readChance.2.1 86 = .ok (.getfield 36, 3) := dc9_180 (by decide +kernel)
theorem d_TR_readChance_89 : decode y_TR_readChance.2.1 89 = .ok (.getfield 219, 3) := dc9_180 (by decide +kernel)
theorem d_TR_readChance_92 : decode y_TR_readChance.2.1 92 = .ok (.iload 4, 2) := dc9_21 (by decide +kernel)
theorem d_TR_readChance_94 : decode y_TR_readChance.2.1 94 = .ok (.aload_n 0, 1) := dc9_42 (by decide +kernel)
theorem d_TR_readChance_95 : decode y_TR_readChance.2.1 95 = .ok (.getfield 36, 3) := dc9_180 (by decide +kernel)
theorem d_TR_readChance_98 : decode y_TR_readChance.2.1 98 = .ok (.getfield 116, 3) := dc9_180 (by decide +kernel)
theorem d_TR_readChance_101 : decode y_TR_readChance.2.1 101 = .ok (.iastore, 1) := dc9_79 (by decide +kernel)
theorem d_TR_readChance_102 : decode y_TR_readChance.2.1 102 = .ok (.aload_n 0, 1) := dc9_42 (by decide +kernel)
theorem d_TR_readChance_103 : decode y_TR_readChance.2.1 103 = .ok (.getfield 12, 3) := dc9_180 (by decide +kernel)
theorem d_TR_readChance_106 : decode y_TR_readChance.2.1 106 = .ok (.bipush 34, 2) := dc9_16 (by decide +kernel)
theorem d_TR_readChance_108 : decode y_TR_readChance.2.1 108 = .ok (.invokevirtual 102, 3) := dc9_182 (by decide +kernel)
theorem d_TR_readChance_111 : decode y_TR_readChance.2.1 111 = .ok (.ireturn, 1) := dc9_172 (by decide +kernel)
theorem k_TR_readChance {G : mG} {d : Nat} {a0 : Nat} {l1 : Int} {M : mM} {Q : Int → mM → Prop} (hO : mOk M) (hi_l1 : i32 l1)
    (h : mK M a0 = 3 ∧ mK M (mR M a0 0) = 4 ∧ Ci G y_RR_here d [vr (mR M a0 0)] M (fun x4 M3 => i32 x4 ∧ mOk M3 ∧ (mK M3 a0 = 3 ∧ mK M3 (mR M3 a0 2) = 6 ∧ mK M3 (mR M3 a0 0) = 4 ∧ Ci G y_RR_readRule d [vr (mR M3 a0 0), vi 1, vi 0] M3 (fun x10 M9 => i32 x10 ∧ mOk M9 ∧ (((x10 = 0) → (Q 0 M9)) ∧ (¬ (x10 = 0) → (mK M9 a0 = 3 ∧ mK M9 (mR M9 a0 2) = 6 ∧ Ci G y_Pr_add d [vr (mR M9 a0 2), vi 0, vi 0] M9 (fun x17 M16 => i32 x17 ∧ mOk M16 ∧ (mK M16 a0 = 3 ∧ mK M16 (mR M16 a0 0) = 4 ∧ ((mI M16 (mR M16 a0 0) 3 = 0) → (mK M16 (mR M16 a0 2) = 6 ∧ mK M16 (mR M16 (mR M16 a0 2) 16) = 30 ∧ ((0 : Int) ≤ l1 + 1 ∧ l1 + 1 < (mN M16 (mR M16 (mR M16 a0 2) 16) : Int)) ∧ mK M16 (mR M16 (mR M16 a0 2) 17) = 30 ∧ ((0 : Int) ≤ mI M16 (mR M16 (mR M16 a0 2) 16) (Int.toNat (l1 + 1)) ∧ mI M16 (mR M16 (mR M16 a0 2) 16) (Int.toNat (l1 + 1)) < (mN M16 (mR M16 (mR M16 a0 2) 17) : Int)) ∧ ∀ M37, M37 = mUI M16 (mR M16 (mR M16 a0 2) 17) (Int.toNat (mI M16 (mR M16 (mR M16 a0 2) 16) (Int.toNat (l1 + 1)))) x4 → mK M37 (mR M37 a0 2) = 6 ∧ mK M37 (mR M37 (mR M37 a0 2) 18) = 30 ∧ ((0 : Int) ≤ mI M16 (mR M16 (mR M16 a0 2) 16) (Int.toNat (l1 + 1)) ∧ mI M16 (mR M16 (mR M16 a0 2) 16) (Int.toNat (l1 + 1)) < (mN M37 (mR M37 (mR M37 a0 2) 18) : Int)) ∧ ∀ M42, M42 = mUI M37 (mR M37 (mR M37 a0 2) 18) (Int.toNat (mI M16 (mR M16 (mR M16 a0 2) 16) (Int.toNat (l1 + 1)))) (mI M3 (mR M3 a0 2) 2) → mK M42 (mR M42 a0 2) = 6 ∧ mK M42 (mR M42 (mR M42 a0 2) 19) = 30 ∧ ((0 : Int) ≤ mI M16 (mR M16 (mR M16 a0 2) 16) (Int.toNat (l1 + 1)) ∧ mI M16 (mR M16 (mR M16 a0 2) 16) (Int.toNat (l1 + 1)) < (mN M42 (mR M42 (mR M42 a0 2) 19) : Int)) ∧ ∀ M47, M47 = mUI M42 (mR M42 (mR M42 a0 2) 19) (Int.toNat (mI M16 (mR M16 (mR M16 a0 2) 16) (Int.toNat (l1 + 1)))) (mI M42 (mR M42 a0 2) 2) → mK M47 (mR M47 a0 0) = 4 ∧ Ci G y_RR_accept d [vr (mR M47 a0 0), vi 34] M47 (fun x51 M50 => i32 x51 ∧ mOk M50 ∧ ((x51 = 0 ∨ x51 = 1) ∧ Q x51 M50)))) ∧ (¬ (mI M16 (mR M16 a0 0) 3 = 0) → (Ci G y_RR_accept d [vr (mR M16 a0 0), vi 34] M16 (fun x55 M54 => i32 x55 ∧ mOk M54 ∧ ((x55 = 0 ∨ x55 = 1) ∧ Q x55 M54))))))))))))) :
    Ci G y_TR_readChance (d + 1) [vr a0, vi l1] M Q := by
  refine wm_open (y := y_TR_readChance) rfl (Nat.le_of_ble_eq_true rfl) (L := [vr a0, vi l1, vd, vd, vd]) rfl ?_
  obtain ⟨h1, h⟩ := h
  obtain ⟨h2, h⟩ := h
  refine wm_aload_n d_TR_readChance_0 rfl rfl ?_
  refine gf_TR_12 rfl d_TR_readChance_1 h1 ?_
  refine cf_TR_79 rfl d_TR_readChance_4 h2 (Nat.le_of_ble_eq_true rfl) (Ci.mono h (fun x4 M3 h => ?_))
  obtain ⟨h5, hOM3, h⟩ := h
  obtain ⟨h6, h⟩ := h
  obtain ⟨h7, h⟩ := h
  obtain ⟨h8, h⟩ := h
  refine wm_istore_n d_TR_readChance_7 rfl (by decide) (L' := [vr a0, vi l1, vi x4, vd, vd]) rfl ?_
  refine wm_aload_n d_TR_readChance_8 rfl rfl ?_
  refine gf_TR_36 rfl d_TR_readChance_9 h6 ?_
  refine gf_TR_116 rfl d_TR_readChance_12 h7 ?_
  refine wm_istore_n d_TR_readChance_15 rfl (by decide) (L' := [vr a0, vi l1, vi x4, vi (mI M3 (mR M3 a0 2) 2), vd]) rfl ?_
  refine wm_aload_n d_TR_readChance_16 rfl rfl ?_
  refine gf_TR_12 rfl d_TR_readChance_17 h6 ?_
  refine wm_iconst d_TR_readChance_20 ?_
  refine wm_iconst d_TR_readChance_21 ?_
  refine cf_TR_117 rfl d_TR_readChance_22 h8 (Nat.le_of_ble_eq_true rfl) (Ci.mono h (fun x10 M9 h => ?_))
  obtain ⟨h11, hOM9, h⟩ := h
  refine wm_if_ne (tgt := 30) d_TR_readChance_25 rfl h11 (fun c13 => ?_) (fun c13 => ?_)
  · replace h := h.2 c13
    obtain ⟨h14, h⟩ := h
    obtain ⟨h15, h⟩ := h
    refine wm_aload_n d_TR_readChance_30 rfl rfl ?_
    refine gf_TR_36 rfl d_TR_readChance_31 h14 ?_
    refine wm_iconst d_TR_readChance_34 ?_
    refine wm_iconst d_TR_readChance_35 ?_
    refine cf_TR_121 rfl d_TR_readChance_36 h15 (Nat.le_of_ble_eq_true rfl) (Ci.mono h (fun x17 M16 h => ?_))
    obtain ⟨h18, hOM16, h⟩ := h
    obtain ⟨h19, h⟩ := h
    obtain ⟨h20, h⟩ := h
    refine wm_pop d_TR_readChance_39 rfl ?_
    refine wm_aload_n d_TR_readChance_40 rfl rfl ?_
    refine gf_TR_12 rfl d_TR_readChance_41 h19 ?_
    refine gf_TR_76 rfl d_TR_readChance_44 h20 ?_
    refine wm_if_ne (tgt := 102) d_TR_readChance_47 rfl (hOM16 _ _).1 (fun c31 => ?_) (fun c31 => ?_)
    · replace h := h.2 c31
      refine wm_aload_n d_TR_readChance_102 rfl rfl ?_
      refine gf_TR_12 rfl d_TR_readChance_103 h19 ?_
      refine wm_bipush d_TR_readChance_106 (by decide) ?_
      refine cf_TR_102 rfl d_TR_readChance_108 h20 (Nat.le_of_ble_eq_true rfl) (Ci.mono h (fun x55 M54 h => ?_))
      obtain ⟨h56, hOM54, h⟩ := h
      obtain ⟨h57, h⟩ := h
      refine wm_ireturn d_TR_readChance_111 rfl (m_nb h57) ?_
      exact ⟨_, rfl, h⟩
    · replace c31 := Classical.not_not.mp c31
      replace h := h.1 c31
      obtain ⟨h32, h⟩ := h
      obtain ⟨h33, h⟩ := h
      obtain ⟨h34, h⟩ := h
      obtain ⟨h35, h⟩ := h
      obtain ⟨h36, h⟩ := h
      obtain ⟨M37, e38⟩ : ∃ M37, M37 = mUI M16 (mR M16 (mR M16 a0 2) 17) (Int.toNat (mI M16 (mR M16 (mR M16 a0 2) 16) (Int.toNat (l1 + 1)))) x4 := ⟨_, rfl⟩
      replace h := h M37 e38
      obtain ⟨h39, h⟩ := h
      obtain ⟨h40, h⟩ := h
      obtain ⟨h41, h⟩ := h
      obtain ⟨M42, e43⟩ : ∃ M42, M42 = mUI M37 (mR M37 (mR M37 a0 2) 18) (Int.toNat (mI M16 (mR M16 (mR M16 a0 2) 16) (Int.toNat (l1 + 1)))) (mI M3 (mR M3 a0 2) 2) := ⟨_, rfl⟩
      replace h := h M42 e43
      obtain ⟨h44, h⟩ := h
      obtain ⟨h45, h⟩ := h
      obtain ⟨h46, h⟩ := h
      obtain ⟨M47, e48⟩ : ∃ M47, M47 = mUI M42 (mR M42 (mR M42 a0 2) 19) (Int.toNat (mI M16 (mR M16 (mR M16 a0 2) 16) (Int.toNat (l1 + 1)))) (mI M42 (mR M42 a0 2) 2) := ⟨_, rfl⟩
      replace h := h M47 e48
      obtain ⟨h49, h⟩ := h
      refine wm_aload_n d_TR_readChance_50 rfl rfl ?_
      refine gf_TR_36 rfl d_TR_readChance_51 h19 ?_
      refine gf_TR_204 rfl d_TR_readChance_54 h32 ?_
      refine wm_iload_n d_TR_readChance_57 rfl rfl ?_
      refine wm_iconst d_TR_readChance_58 ?_
      refine wm_iadd d_TR_readChance_59 ?_
      refine wm_iald d_TR_readChance_60 h33 h34 ?_
      refine wm_istore d_TR_readChance_61 (by decide) (L' := [vr a0, vi l1, vi x4, vi (mI M3 (mR M3 a0 2) 2), vi (mI M16 (mR M16 (mR M16 a0 2) 16) (Int.toNat (l1 + 1)))]) rfl ?_
      refine wm_aload_n d_TR_readChance_63 rfl rfl ?_
      refine gf_TR_36 rfl d_TR_readChance_64 h19 ?_
      refine gf_TR_213 rfl d_TR_readChance_67 h32 ?_
      refine wm_iload d_TR_readChance_70 rfl ?_
      refine wm_iload_n d_TR_readChance_72 rfl rfl ?_
      have hOM37 : mOk M37 := by rw [e38]; exact mOk_UI hOM16 h5
      refine wm_iastE d_TR_readChance_73 h35 h36 h5 e38 ?_
      refine wm_aload_n d_TR_readChance_74 rfl rfl ?_
      refine gf_TR_36 rfl d_TR_readChance_75 (by rw [e38]; exact h19) ?_
      refine gf_TR_216 rfl d_TR_readChance_78 h39 ?_
      refine wm_iload d_TR_readChance_81 rfl ?_
      refine wm_iload_n d_TR_readChance_83 rfl rfl ?_
      have hOM42 : mOk M42 := by rw [e43]; exact mOk_UI hOM37 (hOM3 _ _).1
      refine wm_iastE d_TR_readChance_84 h40 h41 (hOM3 _ _).1 e43 ?_
      refine wm_aload_n d_TR_readChance_85 rfl rfl ?_
      refine gf_TR_36 rfl d_TR_readChance_86 (by rw [e43, e38]; exact h19) ?_
      refine gf_TR_219 rfl d_TR_readChance_89 h44 ?_
      refine wm_iload d_TR_readChance_92 rfl ?_
      refine wm_aload_n d_TR_readChance_94 rfl rfl ?_
      refine gf_TR_36 rfl d_TR_readChance_95 (by rw [e43, e38]; exact h19) ?_
      refine gf_TR_116 rfl d_TR_readChance_98 h44 ?_
      have hOM47 : mOk M47 := by rw [e48]; exact mOk_UI hOM42 (hOM42 _ _).1
      refine wm_iastE d_TR_readChance_101 h45 h46 (hOM42 _ _).1 e48 ?_
      refine wm_aload_n d_TR_readChance_102 rfl rfl ?_
      refine gf_TR_12 rfl d_TR_readChance_103 (by rw [e48, e43, e38]; exact h19) ?_
      refine wm_bipush d_TR_readChance_106 (by decide) ?_
      refine cf_TR_102 rfl d_TR_readChance_108 h49 (Nat.le_of_ble_eq_true rfl) (Ci.mono h (fun x51 M50 h => ?_))
      obtain ⟨h52, hOM50, h⟩ := h
      obtain ⟨h53, h⟩ := h
      refine wm_ireturn d_TR_readChance_111 rfl (m_nb h53) ?_
      exact ⟨_, rfl, h⟩
  · replace c13 := Classical.not_not.mp c13
    replace h := h.1 c13
    refine wm_iconst d_TR_readChance_28 ?_
    refine wm_ireturn d_TR_readChance_29 rfl (m_nb (by decide)) ?_
    exact ⟨_, rfl, h⟩
theorem d_TR_readSets_0 : decode y_TR_readSets.2.1 0 = .ok (.aload_n 0, 1) := dc9_42 (by decide +kernel)
theorem d_TR_readSets_1 : decode y_TR_readSets.2.1 1 = .ok (.getfield 12, 3) := dc9_180 (by decide +kernel)
theorem d_TR_readSets_4 : decode y_TR_readSets.2.1 4 = .ok (.bipush 11, 2) := dc9_16 (by decide +kernel)
theorem d_TR_readSets_6 : decode y_TR_readSets.2.1 6 = .ok (.invokevirtual 102, 3) := dc9_182 (by decide +kernel)
theorem d_TR_readSets_9 : decode y_TR_readSets.2.1 9 = .ok (.ifCond .ne 7, 3) := dc9_154 (by decide +kernel)
theorem d_TR_readSets_12 : decode y_TR_readSets.2.1 12 = .ok (.iconst 1, 1) := dc9_4 (by decide +kernel)
theorem d_TR_readSets_13 : decode y_TR_readSets.2.1 13 = .ok (.goto 4, 3) := dc9_167 (by decide +kernel)
theorem d_TR_readSets_16 : decode y_TR_readSets.2.1 16 = .ok (.iconst 0, 1) := dc9_3 (by decide +kernel)
theorem d_TR_readSets_17 : decode y_TR_readSets.2.1 17 = .ok (.istore_n 1, 1) := dc9_60 (by decide +kernel)
theorem d_TR_readSets_18 : decode y_TR_readSets.2.1 18 = .ok (.iconst 0, 1) := dc9_3 (by decide +kernel)
theorem d_TR_readSets_19 : decode y_TR_readSets.2.1 19 = .ok (.istore_n 2, 1) := dc9_61 (by decide +kernel)
theorem d_TR_readSets_20 : decode y_TR_readSets.2.1 20 = .ok (.iconst 0, 1) := dc9_3 (by decide +kernel)
theorem d_TR_readSets_21 : decode y_TR_readSets.2.1 21 = .ok (.istore_n 3, 1) := dc9_62 (by decide +kernel)
theorem d_TR_readSets_22 : decode y_TR_readSets.2.1 22 = .ok (.iload_n 3, 1) := dc9_29 (by decide +kernel)
theorem d_TR_readSets_23 : decode y_TR_readSets.2.1 23 = .ok (.aload_n 0, 1) := dc9_42 (by decide +kernel)
theorem d_TR_readSets_24 : decode y_TR_readSets.2.1 24 = .ok (.getfield 12, 3) := dc9_180 (by decide +kernel)
theorem d_TR_readSets_27 : decode y_TR_readSets.2.1 27 = .ok (.getfield 109, 3) := dc9_180 (by decide +kernel)
theorem d_TR_readSets_30 : decode y_TR_readSets.2.1 30 = .ok (.getfield 40, 3) := dc9_180 (by decide +kernel)
theorem d_TR_readSets_33 : decode y_TR_readSets.2.1 33 = .ok (.if_icmp .ge 274, 3) := dc9_162 (by decide +kernel)
theorem d_TR_readSets_36 : decode y_TR_readSets.2.1 36 = .ok (.iload_n 1, 1) := dc9_27 (by decide +kernel)
theorem d_TR_readSets_37 : decode y_TR_readSets.2.1 37 = .ok (.ifCond .eq 270, 3) := dc9_153 (by decide +kernel)
theorem d_TR_readSets_40 : decode y_TR_readSets.2.1 40 = .ok (.aload_n 0, 1) := dc9_42 (by decide +kernel)
theorem d_TR_readSets_41 : decode y_TR_readSets.2.1 41 = .ok (.getfield 12, 3) := dc9_180 (by decide +kernel)
theorem d_TR_readSets_307 : decode y_TR_readSets.2.1 307 = .ok (.aload_n 0, 1) := dc9_42 (by decide +kernel)
theorem d_TR_readSets_308 : decode y_TR_readSets.2.1 308 = .ok (.getfield 36, 3) := dc9_180 (by decide +kernel)
theorem d_TR_readSets_311 : decode y_TR_readSets.2.1 311 = .ok (.iconst 0, 1) := dc9_3 (by decide +kernel)
theorem d_TR_readSets_312 : decode y_TR_readSets.2.1 312 = .ok (.iconst 0, 1) := dc9_3 (by decide +kernel)
theorem d_TR_readSets_313 : decode y_TR_readSets.2.1 313 = .ok (.invokevirtual 121, 3) := dc9_182 (by decide +kernel)
theorem d_TR_readSets_316 : decode y_TR_readSets.2.1 316 = .ok (.pop, 1) := dc9_87 (by decide +kernel)
theorem d_TR_readSets_317 : decode y_TR_readSets.2.1 317 = .ok (.iconst 1, 1) := dc9_4 (by decide +kernel)
theorem d_TR_readSets_318 : decode y_TR_readSets.2.1 318 = .ok (.ireturn, 1) := dc9_172 (by decide +kernel)
theorem d_TR_readSets_44 : decode y_TR_readSets.2.1 44 = .ok (.invokevirtual 79, 3) := dc9_182 (by decide +kernel)
theorem d_TR_readSets_47 : decode y_TR_readSets.2.1 47 = .ok (.istore 4, 2) := dc9_54 (by decide +kernel)
theorem d_TR_readSets_49 : decode y_TR_readSets.2.1 49 = .ok (.aload_n 0, 1) := dc9_42 (by decide +kernel)
theorem d_TR_readSets_50 : decode y_TR_readSets.2.1 50 = .ok (.getfield 12, 3) := dc9_180 (by decide +kernel)
theorem d_TR_readSets_53 : decode y_TR_readSets.2.1 53 = .ok (.getfield 222, 3) := dc9_180 (by decide +kernel)
theorem d_TR_readSets_56 : decode y_TR_readSets.2.1 56 = .ok (.bipush 40, 2) := dc9_16 (by decide +kernel)
theorem d_TR_readSets_58 : decode y_TR_readSets.2.1 58 = .ok (.if_icmp .ge 15, 3) := dc9_162 (by decide +kernel)
theorem d_TR_readSets_61 : decode y_TR_readSets.2.1 61 = .ok (.aload_n 0, 1) := dc9_42 (by decide +kernel)
theorem d_TR_readSets_62 : decode y_TR_readSets.2.1 62 = .ok (.getfield 12, 3) := dc9_180 (by decide +kernel)
theorem d_TR_readSets_65 : decode y_TR_readSets.2.1 65 = .ok (.bipush 37, 2) := dc9_16 (by decide +kernel)
theorem d_TR_readSets_73 : decode y_TR_readSets.2.1 73 = .ok (.iconst 0, 1) := dc9_3 (by decide +kernel)
theorem d_TR_readSets_74 : decode y_TR_readSets.2.1 74 = .ok (.ireturn, 1) := dc9_172 (by decide +kernel)
theorem d_TR_readSets_67 : decode y_TR_readSets.2.1 67 = .ok (.invokevirtual 102, 3) := dc9_182 (by decide +kernel)
theorem d_TR_readSets_70 : decode y_TR_readSets.2.1 70 = .ok (.ifCond .ne 5, 3) := dc9_154 (by decide +kernel)
theorem d_TR_readSets_75 : decode y_TR_readSets.2.1 75 = .ok (.aload_n 0, 1) := dc9_42 (by decide +kernel)
theorem d_TR_readSets_76 : decode y_TR_readSets.2.1 76 = .ok (.getfield 12, 3) := dc9_180 (by decide +kernel)
theorem d_TR_readSets_79 : decode y_TR_readSets.2.1 79 = .ok (.getfield 59, 3) := dc9_180 (by decide +kernel)
theorem d_TR_readSets_82 : decode y_TR_readSets.2.1 82 = .ok (.istore 5, 2) := dc9_54 (by decide +kernel)
theorem d_TR_readSets_84 : decode y_TR_readSets.2.1 84 = .ok (.aload_n 0, 1) := dc9_42 (by decide +kernel)
theorem d_TR_readSets_85 : decode y_TR_readSets.2.1 85 = .ok (.getfield 12, 3) := dc9_180 (by decide +kernel)
theorem d_TR_readSets_88 : decode y_TR_readSets.2.1 88 = .ok (.iconst 2, 1) := dc9_5 (by decide +kernel)
theorem d_TR_readSets_89 : decode y_TR_readSets.2.1 89 = .ok (.invokevirtual 102, 3) := dc9_182 (by decide +kernel)
theorem d_TR_readSets_92 : decode y_TR_readSets.2.1 92 = .ok (.ifCond .ne 5, 3) := dc9_154 (by decide +kernel)
theorem d_TR_readSets_95 : decode y_TR_readSets.2.1 95 = .ok (.iconst 0, 1) := dc9_3 (by decide +kernel)
theorem d_TR_readSets_96 : decode y_TR_readSets.2.1 96 = .ok (.ireturn, 1) := dc9_172 (by decide +kernel)
theorem d_TR_readSets_97 : decode y_TR_readSets.2.1 97 = .ok (.aload_n 0, 1) := dc9_42 (by decide +kernel)
theorem d_TR_readSets_98 : decode y_TR_readSets.2.1 98 = .ok (.getfield 12, 3) := dc9_180 (by decide +kernel)
theorem d_TR_readSets_101 : decode y_TR_readSets.2.1 101 = .ok (.iload 5, 2) := dc9_21 (by decide +kernel)
theorem d_TR_readSets_103 : decode y_TR_readSets.2.1 103 = .ok (.invokevirtual 225, 3) := dc9_182 (by decide +kernel)
theorem d_TR_readSets_106 : decode y_TR_readSets.2.1 106 = .ok (.istore 6, 2) := dc9_54 (by decide +kernel)
theorem d_TR_readSets_108 : decode y_TR_readSets.2.1 108 = .ok (.iload 6, 2) := dc9_21 (by decide +kernel)
theorem d_TR_readSets_110 : decode y_TR_readSets.2.1 110 = .ok (.iconst (-1), 1) := dc9_2 (by decide +kernel)
theorem d_TR_readSets_111 : decode y_TR_readSets.2.1 111 = .ok (.if_icmp .ne 27, 3) := dc9_160 (by decide +kernel)
theorem d_TR_readSets_114 : decode y_TR_readSets.2.1 114 = .ok (.aload_n 0, 1) := dc9_42 (by decide +kernel)
theorem d_TR_readSets_115 : decode y_TR_readSets.2.1 115 = .ok (.getfield 12, 3) := dc9_180 (by decide +kernel)
theorem d_TR_readSets_118 : decode y_TR_readSets.2.1 118 = .ok (.iconst 2, 1) := dc9_5 (by decide +kernel)
theorem d_TR_readSets_119 : decode y_TR_readSets.2.1 119 = .ok (.aload_n 0, 1) := dc9_42 (by decide +kernel)
theorem d_TR_readSets_120 : decode y_TR_readSets.2.1 120 = .ok (.getfield 12, 3) := dc9_180 (by decide +kernel)
theorem d_TR_readSets_123 : decode y_TR_readSets.2.1 123 = .ok (.getfield 109, 3) := dc9_180 (by decide +kernel)
theorem d_TR_readSets_126 : decode y_TR_readSets.2.1 126 = .ok (.getfield 113, 3) := dc9_180 (by decide +kernel)
theorem d_TR_readSets_129 : decode y_TR_readSets.2.1 129 = .ok (.iload 5, 2) := dc9_21 (by decide +kernel)
theorem d_TR_readSets_131 : decode y_TR_readSets.2.1 131 = .ok (.iaload, 1) := dc9_46 (by decide +kernel)
theorem d_TR_readSets_138 : decode y_TR_readSets.2.1 138 = .ok (.iload_n 2, 1) := dc9_28 (by decide +kernel)
theorem d_TR_readSets_139 : decode y_TR_readSets.2.1 139 = .ok (.iload 6, 2) := dc9_21 (by decide +kernel)
theorem d_TR_readSets_141 : decode y_TR_readSets.2.1 141 = .ok (.ishr, 1) := dc9_122 (by decide +kernel)
theorem d_TR_readSets_142 : decode y_TR_readSets.2.1 142 = .ok (.iconst 1, 1) := dc9_4 (by decide +kernel)
theorem d_TR_readSets_143 : decode y_TR_readSets.2.1 143 = .ok (.iand, 1) := dc9_126 (by decide +kernel)
theorem d_TR_readSets_144 : decode y_TR_readSets.2.1 144 = .ok (.ifCond .eq 24, 3) := dc9_153 (by decide +kernel)
theorem d_TR_readSets_147 : decode y_TR_readSets.2.1 147 = .ok (.aload_n 0, 1) := dc9_42 (by decide +kernel)
theorem d_TR_readSets_148 : decode y_TR_readSets.2.1 148 = .ok (.getfield 12, 3) := dc9_180 (by decide +kernel)
theorem d_TR_readSets_151 : decode y_TR_readSets.2.1 151 = .ok (.iconst 4, 1) := dc9_7 (by decide +kernel)
theorem d_TR_readSets_152 : decode y_TR_readSets.2.1 152 = .ok (.aload_n 0, 1) := dc9_42 (by decide +kernel)
theorem d_TR_readSets_153 : decode y_TR_readSets.2.1 153 = .ok (.getfield 12, 3) := dc9_180 (by decide +kernel)
theorem d_TR_readSets_156 : decode y_TR_readSets.2.1 156 = .ok (.getfield 109, 3) := dc9_180 (by decide +kernel)
theorem d_TR_readSets_159 : decode y_TR_readSets.2.1 159 = .ok (.getfield 113, 3) := dc9_180 (by decide +kernel)
theorem d_TR_readSets_162 : decode y_TR_readSets.2.1 162 = .ok (.iload 5, 2) := dc9_21 (by decide +kernel)
theorem d_TR_readSets_164 : decode y_TR_readSets.2.1 164 = .ok (.iaload, 1) := dc9_46 (by decide +kernel)
theorem d_TR_readSets_132 : decode y_TR_readSets.2.1 132 = .ok (.invokevirtual 95, 3) := dc9_182 (by decide +kernel)
theorem d_TR_readSets_135 : decode y_TR_readSets.2.1 135 = .ok (.goto 33, 3) := dc9_167 (by decide +kernel)
theorem d_TR_readSets_165 : decode y_TR_readSets.2.1 165 = .ok (.invokevirtual 95, 3) := dc9_182 (by decide +kernel)
theorem d_TR_readSets_168 : decode y_TR_readSets.2.1 168 = .ok (.iload_n 2, 1) := dc9_28 (by decide +kernel)
theorem d_TR_readSets_169 : decode y_TR_readSets.2.1 169 = .ok (.iload 6, 2) := dc9_21 (by decide +kernel)
theorem d_TR_readSets_171 : decode y_TR_readSets.2.1 171 = .ok (.iconst (-1), 1) := dc9_2 (by decide +kernel)
theorem d_TR_readSets_172 : decode y_TR_readSets.2.1 172 = .ok (.if_icmp .ne 7, 3) := dc9_160 (by decide +kernel)
theorem d_TR_readSets_175 : decode y_TR_readSets.2.1 175 = .ok (.iconst 0, 1) := dc9_3 (by decide +kernel)
theorem d_TR_readSets_176 : decode y_TR_readSets.2.1 176 = .ok (.goto 7, 3) := dc9_167 (by decide +kernel)
theorem d_TR_readSets_179 : decode y_TR_readSets.2.1 179 = .ok (.iconst 1, 1) := dc9_4 (by decide +kernel)
theorem d_TR_readSets_180 : decode y_TR_readSets.2.1 180 = .ok (.iload 6, 2) := dc9_21 (by decide +kernel)
theorem d_TR_readSets_182 : decode y_TR_readSets.2.1 182 = .ok (.ishl, 1) := dc9_120 (by decide +kernel)
theorem d_TR_readSets_183 : decode y_TR_readSets.2.1 183 = .ok (.ior, 1) := dc9_128 (by decide +kernel)
theorem d_TR_readSets_184 : decode y_TR_readSets.2.1 184 = .ok (.istore_n 2, 1) := dc9_61 (by decide +kernel)
theorem d_TR_readSets_185 : decode y_TR_readSets.2.1 185 = .ok (.aload_n 0, 1) := dc9_42 (by decide +kernel)
theorem d_TR_readSets_186 : decode y_TR_readSets.2.1 186 = .ok (.getfield 12, 3) := dc9_180 (by decide +kernel)
theorem d_TR_readSets_189 : decode y_TR_readSets.2.1 189 = .ok (.dup, 1) := dc9_89 (by decide +kernel)
theorem d_TR_readSets_190 : decode y_TR_readSets.2.1 190 = .ok (.getfield 222, 3) := dc9_180 (by decide +kernel)
theorem d_TR_readSets_193 : decode y_TR_readSets.2.1 193 = .ok (.iconst 1, 1) := dc9_4 (by decide +kernel)
theorem d_TR_readSets_194 : decode y_TR_readSets.2.1 194 = .ok (.iadd, 1) := dc9_96 (by decide +kernel)
theorem d_TR_readSets_195 : decode y_TR_readSets.2.1 195 = .ok (.putfield 222, 3) := dc9_181 (by decide +kernel)
theorem d_TR_readSets_198 : decode y_TR_readSets.2.1 198 = .ok (.aload_n 0, 1) := dc9_42 (by decide +kernel)
theorem d_TR_readSets_199 : decode y_TR_readSets.2.1 199 = .ok (.getfield 12, 3) := dc9_180 (by decide +kernel)
theorem d_TR_readSets_202 : decode y_TR_readSets.2.1 202 = .ok (.bipush 39, 2) := dc9_16 (by decide +kernel)
theorem d_TR_readSets_204 : decode y_TR_readSets.2.1 204 = .ok (.invokevirtual 102, 3) := dc9_182 (by decide +kernel)
theorem d_TR_readSets_207 : decode y_TR_readSets.2.1 207 = .ok (.ifCond .eq 47, 3) := dc9_153 (by decide +kernel)
theorem d_TR_readSets_210 : decode y_TR_readSets.2.1 210 = .ok (.aload_n 0, 1) := dc9_42 (by decide +kernel)
theorem d_TR_readSets_211 : decode y_TR_readSets.2.1 211 = .ok (.getfield 12, 3) := dc9_180 (by decide +kernel)
theorem d_TR_readSets_214 : decode y_TR_readSets.2.1 214 = .ok (.bipush 24, 2) := dc9_16 (by decide +kernel)
theorem d_TR_readSets_254 : decode y_TR_readSets.2.1 254 = .ok (.iconst 0, 1) := dc9_3 (by decide +kernel)
theorem d_TR_readSets_255 : decode y_TR_readSets.2.1 255 = .ok (.ireturn, 1) := dc9_172 (by decide +kernel)
theorem d_TR_readSets_216 : decode y_TR_readSets.2.1 216 = .ok (.invokevirtual 102, 3) := dc9_182 (by decide +kernel)
theorem d_TR_readSets_219 : decode y_TR_readSets.2.1 219 = .ok (.ifCond .eq 35, 3) := dc9_153 (by decide +kernel)
theorem d_TR_readSets_222 : decode y_TR_readSets.2.1 222 = .ok (.aload_n 0, 1) := dc9_42 (by decide +kernel)
theorem d_TR_readSets_223 : decode y_TR_readSets.2.1 223 = .ok (.getfield 12, 3) := dc9_180 (by decide +kernel)
theorem d_TR_readSets_226 : decode y_TR_readSets.2.1 226 = .ok (.aload_n 0, 1) := dc9_42 (by decide +kernel)
theorem d_TR_readSets_227 : decode y_TR_readSets.2.1 227 = .ok (.getfield 12, 3) := dc9_180 (by decide +kernel)
theorem d_TR_readSets_230 : decode y_TR_readSets.2.1 230 = .ok (.iload 5, 2) := dc9_21 (by decide +kernel)
theorem d_TR_readSets_232 : decode y_TR_readSets.2.1 232 = .ok (.invokevirtual 228, 3) := dc9_182 (by decide +kernel)
theorem d_TR_readSets_235 : decode y_TR_readSets.2.1 235 = .ok (.iconst 1, 1) := dc9_4 (by decide +kernel)
theorem d_TR_readSets_236 : decode y_TR_readSets.2.1 236 = .ok (.invokevirtual 117, 3) := dc9_182 (by decide +kernel)
theorem d_TR_readSets_239 : decode y_TR_readSets.2.1 239 = .ok (.ifCond .eq 15, 3) := dc9_153 (by decide +kernel)
theorem d_TR_readSets_242 : decode y_TR_readSets.2.1 242 = .ok (.aload_n 0, 1) := dc9_42 (by decide +kernel)
theorem d_TR_readSets_243 : decode y_TR_readSets.2.1 243 = .ok (.getfield 12, 3) := dc9_180 (by decide +kernel)
theorem d_TR_readSets_246 : decode y_TR_readSets.2.1 246 = .ok (.bipush 38, 2) := dc9_16 (by decide +kernel)
theorem d_TR_readSets_248 : decode y_TR_readSets.2.1 248 = .ok (.invokevirtual 102, 3) := dc9_182 (by decide +kernel)
theorem d_TR_readSets_251 : decode y_TR_readSets.2.1 251 = .ok (.ifCond .ne 5, 3) := dc9_154 (by decide +kernel)
theorem d_TR_readSets_256 : decode y_TR_readSets.2.1 256 = .ok (.aload_n 0, 1) := dc9_42 (by decide +kernel)
theorem d_TR_readSets_257 : decode y_TR_readSets.2.1 257 = .ok (.getfield 12, 3) := dc9_180 (by decide +kernel)
theorem d_TR_readSets_260 : decode y_TR_readSets.2.1 260 = .ok (.dup, 1) := dc9_89 (by decide +kernel)
theorem d_TR_readSets_261 : decode y_TR_readSets.2.1 261 = .ok (.getfield 222, 3) := dc9_180 (by decide +kernel)
theorem d_TR_readSets_264 : decode y_TR_readSets.2.1 264 = .ok (.iconst 1, 1) := dc9_4 (by decide +kernel)
theorem d_TR_readSets_265 : decode y_TR_readSets.2.1 265 = .ok (.isub, 1) := dc9_100 (by decide +kernel)
theorem d_TR_readSets_266 : decode y_TR_readSets.2.1 266 = .ok (.putfield 222, 3) := dc9_181 (by decide +kernel)
theorem d_TR_readSets_269 : decode y_TR_readSets.2.1 269 = .ok (.aload_n 0, 1) := dc9_42 (by decide +kernel)
theorem d_TR_readSets_270 : decode y_TR_readSets.2.1 270 = .ok (.getfield 36, 3) := dc9_180 (by decide +kernel)
theorem d_TR_readSets_273 : decode y_TR_readSets.2.1 273 = .ok (.bipush 43, 2) := dc9_16 (by decide +kernel)
theorem d_TR_readSets_275 : decode y_TR_readSets.2.1 275 = .ok (.iload 4, 2) := dc9_21 (by decide +kernel)
theorem d_TR_readSets_277 : decode y_TR_readSets.2.1 277 = .ok (.bipush 16, 2) := dc9_16 (by decide +kernel)
theorem d_TR_readSets_279 : decode y_TR_readSets.2.1 279 = .ok (.imul, 1) := dc9_104 (by decide +kernel)
theorem d_TR_readSets_280 : decode y_TR_readSets.2.1 280 = .ok (.iload 6, 2) := dc9_21 (by decide +kernel)
theorem d_TR_readSets_282 : decode y_TR_readSets.2.1 282 = .ok (.iconst 0, 1) := dc9_3 (by decide +kernel)
theorem d_TR_readSets_283 : decode y_TR_readSets.2.1 283 = .ok (.invokestatic 231, 3) := dc9_184 (by decide +kernel)
theorem d_TR_readSets_286 : decode y_TR_readSets.2.1 286 = .ok (.iadd, 1) := dc9_96 (by decide +kernel)
theorem d_TR_readSets_287 : decode y_TR_readSets.2.1 287 = .ok (.invokevirtual 121, 3) := dc9_182 (by decide +kernel)
theorem d_TR_readSets_290 : decode y_TR_readSets.2.1 290 = .ok (.pop, 1) := dc9_87 (by decide +kernel)
theorem d_TR_readSets_291 : decode y_TR_readSets.2.1 291 = .ok (.aload_n 0, 1) := dc9_42 (by decide +kernel)
theorem d_TR_readSets_292 : decode y_TR_readSets.2.1 292 = .ok (.getfield 12, 3) := dc9_180 (by decide +kernel)
theorem d_TR_readSets_295 : decode y_TR_readSets.2.1 295 = .ok (.bipush 30, 2) := dc9_16 (by decide +kernel)
theorem d_TR_readSets_297 : decode y_TR_readSets.2.1 297 = .ok (.invokevirtual 102, 3) := dc9_182 (by decide +kernel)
theorem d_TR_readSets_300 : decode y_TR_readSets.2.1 300 = .ok (.istore_n 1, 1) := dc9_60 (by decide +kernel)
theorem d_TR_readSets_301 : decode y_TR_readSets.2.1 301 = .ok (.iinc 3 1, 3) := by decide +kernel
theorem d_TR_readSets_304 : decode y_TR_readSets.2.1 304 = .ok (.goto (-282), 3) := dc9_167 (by decide +kernel)
def h_TR_readSets_22 (G : mG) (d : Nat) (a0 : Nat) (l1 : Int) (l2 : Int) (l3 : Int) (M : mM) (Q : Int → mM → Prop) : Prop := mWm G y_TR_readSets (d + 1) 22 [vr a0, vi l1, vi l2, vi l3, vd, vd, vd] [] M (fun r9 M9 => ∃ x9, r9 = some (vi x9) ∧ Q x9 M9)
def h_TR_readSets_168 (G : mG) (d : Nat) (a0 : Nat) (l2 : Int) (l3 : Int) (l4 : Int) (l5 : Int) (l6 : Int) (M : mM) (Q : Int → mM → Prop) : Prop := mWm G y_TR_readSets (d + 1) 168 [vr a0, vd, vi l2, vi l3, vi l4, vi l5, vi l6] [] M (fun r9 M9 => ∃ x9, r9 = some (vi x9) ∧ Q x9 M9)
theorem k_TR_readSets {G : mG} {d : Nat} {a0 : Nat} {M : mM} {Q : Int → mM → Prop} (hO : mOk M)
    (h : mK M a0 = 3 ∧ mK M (mR M a0 0) = 4 ∧ Ci G y_RR_accept d [vr (mR M a0 0), vi 11] M (fun x4 M3 => i32 x4 ∧ mOk M3 ∧ (∀ v7 : Int, v7 = (if (x4 = 0) then 1 else 0) → h_TR_readSets_22 G d a0 v7 0 0 M3 Q))) :
    Ci G y_TR_readSets (d + 1) [vr a0] M Q := by
  refine wm_open (y := y_TR_readSets) rfl (Nat.le_of_ble_eq_true rfl) (L := [vr a0, vd, vd, vd, vd, vd, vd]) rfl ?_
  obtain ⟨h1, h⟩ := h
  obtain ⟨h2, h⟩ := h
  refine wm_aload_n d_TR_readSets_0 rfl rfl ?_
  refine gf_TR_12 rfl d_TR_readSets_1 h1 ?_
  refine wm_bipush d_TR_readSets_4 (by decide) ?_
  refine cf_TR_102 rfl d_TR_readSets_6 h2 (Nat.le_of_ble_eq_true rfl) (Ci.mono h (fun x4 M3 h => ?_))
  obtain ⟨h5, hOM3, h⟩ := h
  have hJ : ∀ v7 : Int, v7 = (if (x4 = 0) then 1 else 0) → mWm G y_TR_readSets (d + 1) 17 [vr a0, vd, vd, vd, vd, vd, vd] [vi v7] M3 (fun r9 M9 => ∃ x9, r9 = some (vi x9) ∧ Q x9 M9) := by
    intro v7 e9
    have h := h v7 e9
    have h10 : i32 v7 := by rw [e9]; (repeat' split) <;> first | exact ⟨by decide, by decide⟩ | exact ⟨by decide, by decide⟩
    have h11 : (v7 = 0 ∨ v7 = 1) := by rw [e9]; (repeat' split) <;> decide
    refine wm_istore_n d_TR_readSets_17 rfl (by decide) (L' := [vr a0, vi v7, vd, vd, vd, vd, vd]) rfl ?_
    refine wm_iconst d_TR_readSets_18 ?_
    refine wm_istore_n d_TR_readSets_19 rfl (by decide) (L' := [vr a0, vi v7, vi 0, vd, vd, vd, vd]) rfl ?_
    refine wm_iconst d_TR_readSets_20 ?_
    refine wm_istore_n d_TR_readSets_21 rfl (by decide) (L' := [vr a0, vi v7, vi 0, vi 0, vd, vd, vd]) rfl ?_
    exact h
  clear h
  refine wm_if_ne (tgt := 16) d_TR_readSets_9 rfl h5 (fun c6 => ?_) (fun c6 => ?_)
  · refine wm_iconst d_TR_readSets_16 ?_
    exact hJ 0 (if_neg c6).symm
  · replace c6 := Classical.not_not.mp c6
    refine wm_iconst d_TR_readSets_12 ?_
    refine wm_goto (tgt := 17) d_TR_readSets_13 rfl ?_
    exact hJ 1 (if_pos c6).symm
theorem k_TR_readSets_22 {G : mG} {d : Nat} {a0 : Nat} {l1 : Int} {l2 : Int} {l3 : Int} {M : mM} {Q : Int → mM → Prop} (hO : mOk M) (hi_l1 : i32 l1) (hi_l2 : i32 l2) (hi_l3 : i32 l3)
    (h : mK M a0 = 3 ∧ mK M (mR M a0 0) = 4 ∧ mK M (mR M (mR M a0 0) 0) = 2 ∧ (((mI M (mR M (mR M a0 0) 0) 2 ≤ l3) ∨ (l1 = 0)) → (mK M (mR M a0 2) = 6 ∧ Ci G y_Pr_add d [vr (mR M a0 2), vi 0, vi 0] M (fun x22 M21 => i32 x22 ∧ mOk M21 ∧ (Q 1 M21)))) ∧ (¬ ((mI M (mR M (mR M a0 0) 0) 2 ≤ l3) ∨ (l1 = 0)) → (Ci G y_RR_here d [vr (mR M a0 0)] M (fun x26 M25 => i32 x26 ∧ mOk M25 ∧ (mK M25 a0 = 3 ∧ mK M25 (mR M25 a0 0) = 4 ∧ ((40 ≤ mI M25 (mR M25 a0 0) 5) → (Q 0 M25)) ∧ (¬ (40 ≤ mI M25 (mR M25 a0 0) 5) → (Ci G y_RR_accept d [vr (mR M25 a0 0), vi 37] M25 (fun x33 M32 => i32 x33 ∧ mOk M32 ∧ (((x33 = 0) → (Q 0 M32)) ∧ (¬ (x33 = 0) → (mK M32 a0 = 3 ∧ mK M32 (mR M32 a0 0) = 4 ∧ Ci G y_RR_accept d [vr (mR M32 a0 0), vi 2] M32 (fun x40 M39 => i32 x40 ∧ mOk M39 ∧ (((x40 = 0) → (Q 0 M39)) ∧ (¬ (x40 = 0) → (mK M39 a0 = 3 ∧ mK M39 (mR M39 a0 0) = 4 ∧ Ci G y_RR_varOf d [vr (mR M39 a0 0), vi (mI M32 (mR M32 a0 0) 2)] M39 (fun x47 M46 => i32 x47 ∧ mOk M46 ∧ (((x47 = (-1)) → (mK M46 a0 = 3 ∧ mK M46 (mR M46 a0 0) = 4 ∧ mK M46 (mR M46 (mR M46 a0 0) 0) = 2 ∧ mK M46 (mR M46 (mR M46 (mR M46 a0 0) 0) 4) = 30 ∧ ((0 : Int) ≤ mI M32 (mR M32 a0 0) 2 ∧ mI M32 (mR M32 a0 0) 2 < (mN M46 (mR M46 (mR M46 (mR M46 a0 0) 0) 4) : Int)) ∧ Cv G y_RR_note d [vr (mR M46 a0 0), vi 2, vi (mI M46 (mR M46 (mR M46 (mR M46 a0 0) 0) 4) (Int.toNat (mI M32 (mR M32 a0 0) 2)))] M46 (fun M57 => mOk M57 ∧ (h_TR_readSets_168 G d a0 l2 l3 x26 (mI M32 (mR M32 a0 0) 2) x47 M57 Q)))) ∧ (¬ (x47 = (-1)) → (((andI (shrI l2 x47) 1 = 0) → (h_TR_readSets_168 G d a0 l2 l3 x26 (mI M32 (mR M32 a0 0) 2) x47 M46 Q)) ∧ (¬ (andI (shrI l2 x47) 1 = 0) → (mK M46 a0 = 3 ∧ mK M46 (mR M46 a0 0) = 4 ∧ mK M46 (mR M46 (mR M46 a0 0) 0) = 2 ∧ mK M46 (mR M46 (mR M46 (mR M46 a0 0) 0) 4) = 30 ∧ ((0 : Int) ≤ mI M32 (mR M32 a0 0) 2 ∧ mI M32 (mR M32 a0 0) 2 < (mN M46 (mR M46 (mR M46 (mR M46 a0 0) 0) 4) : Int)) ∧ Cv G y_RR_note d [vr (mR M46 a0 0), vi 4, vi (mI M46 (mR M46 (mR M46 (mR M46 a0 0) 0) 4) (Int.toNat (mI M32 (mR M32 a0 0) 2)))] M46 (fun M67 => mOk M67 ∧ (h_TR_readSets_168 G d a0 l2 l3 x26 (mI M32 (mR M32 a0 0) 2) x47 M67 Q))))))))))))))))))))))) :
    h_TR_readSets_22 G d a0 l1 l2 l3 M Q := by
  unfold h_TR_readSets_22
  obtain ⟨h13, h⟩ := h
  obtain ⟨h14, h⟩ := h
  obtain ⟨h15, h⟩ := h
  refine wm_iload_n d_TR_readSets_22 rfl rfl ?_
  refine wm_aload_n d_TR_readSets_23 rfl rfl ?_
  refine gf_TR_12 rfl d_TR_readSets_24 h13 ?_
  refine gf_TR_109 rfl d_TR_readSets_27 h14 ?_
  refine gf_TR_40 rfl d_TR_readSets_30 h15 ?_
  have hE0 : ((mI M (mR M (mR M a0 0) 0) 2 ≤ l3) ∨ (l1 = 0)) → mWm G y_TR_readSets (d + 1) 307 [vr a0, vi l1, vi l2, vi l3, vd, vd, vd] [] M (fun r9 M9 => ∃ x9, r9 = some (vi x9) ∧ Q x9 M9) := by
    intro q19
    have h := h.1 q19
    obtain ⟨h20, h⟩ := h
    refine wm_aload_n d_TR_readSets_307 rfl rfl ?_
    refine gf_TR_36 rfl d_TR_readSets_308 h13 ?_
    refine wm_iconst d_TR_readSets_311 ?_
    refine wm_iconst d_TR_readSets_312 ?_
    refine cf_TR_121 rfl d_TR_readSets_313 h20 (Nat.le_of_ble_eq_true rfl) (Ci.mono h (fun x22 M21 h => ?_))
    obtain ⟨h23, hOM21, h⟩ := h
    refine wm_pop d_TR_readSets_316 rfl ?_
    refine wm_iconst d_TR_readSets_317 ?_
    refine wm_ireturn d_TR_readSets_318 rfl (m_nb (by decide)) ?_
    exact ⟨_, rfl, h⟩
  have hE1 : ¬ ((mI M (mR M (mR M a0 0) 0) 2 ≤ l3) ∨ (l1 = 0)) → mWm G y_TR_readSets (d + 1) 40 [vr a0, vi l1, vi l2, vi l3, vd, vd, vd] [] M (fun r9 M9 => ∃ x9, r9 = some (vi x9) ∧ Q x9 M9) := by
    intro q24
    have h := h.2 q24
    refine wm_aload_n d_TR_readSets_40 rfl rfl ?_
    refine gf_TR_12 rfl d_TR_readSets_41 h13 ?_
    refine cf_TR_79 rfl d_TR_readSets_44 h14 (Nat.le_of_ble_eq_true rfl) (Ci.mono h (fun x26 M25 h => ?_))
    obtain ⟨h27, hOM25, h⟩ := h
    obtain ⟨h28, h⟩ := h
    obtain ⟨h29, h⟩ := h
    refine wm_istore d_TR_readSets_47 (by decide) (L' := [vr a0, vi l1, vi l2, vi l3, vi x26, vd, vd]) rfl ?_
    refine wm_aload_n d_TR_readSets_49 rfl rfl ?_
    refine gf_TR_12 rfl d_TR_readSets_50 h28 ?_
    refine gf_TR_222 rfl d_TR_readSets_53 h29 ?_
    refine wm_bipush d_TR_readSets_56 (by decide) ?_
    refine wm_icmp_ge (tgt := 73) d_TR_readSets_58 rfl (hOM25 _ _).1 ⟨by decide, by decide⟩ (fun c31 => ?_) (fun c31 => ?_)
    · replace h := h.1 c31
      refine wm_iconst d_TR_readSets_73 ?_
      refine wm_ireturn d_TR_readSets_74 rfl (m_nb (by decide)) ?_
      exact ⟨_, rfl, h⟩
    · replace h := h.2 c31
      refine wm_aload_n d_TR_readSets_61 rfl rfl ?_
      refine gf_TR_12 rfl d_TR_readSets_62 h28 ?_
      refine wm_bipush d_TR_readSets_65 (by decide) ?_
      refine cf_TR_102 rfl d_TR_readSets_67 h29 (Nat.le_of_ble_eq_true rfl) (Ci.mono h (fun x33 M32 h => ?_))
      obtain ⟨h34, hOM32, h⟩ := h
      refine wm_if_ne (tgt := 75) d_TR_readSets_70 rfl h34 (fun c36 => ?_) (fun c36 => ?_)
      · replace h := h.2 c36
        obtain ⟨h37, h⟩ := h
        obtain ⟨h38, h⟩ := h
        refine wm_aload_n d_TR_readSets_75 rfl rfl ?_
        refine gf_TR_12 rfl d_TR_readSets_76 h37 ?_
        refine gf_TR_59 rfl d_TR_readSets_79 h38 ?_
        refine wm_istore d_TR_readSets_82 (by decide) (L' := [vr a0, vi l1, vi l2, vi l3, vi x26, vi (mI M32 (mR M32 a0 0) 2), vd]) rfl ?_
        refine wm_aload_n d_TR_readSets_84 rfl rfl ?_
        refine gf_TR_12 rfl d_TR_readSets_85 h37 ?_
        refine wm_iconst d_TR_readSets_88 ?_
        refine cf_TR_102 rfl d_TR_readSets_89 h38 (Nat.le_of_ble_eq_true rfl) (Ci.mono h (fun x40 M39 h => ?_))
        obtain ⟨h41, hOM39, h⟩ := h
        refine wm_if_ne (tgt := 97) d_TR_readSets_92 rfl h41 (fun c43 => ?_) (fun c43 => ?_)
        · replace h := h.2 c43
          obtain ⟨h44, h⟩ := h
          obtain ⟨h45, h⟩ := h
          refine wm_aload_n d_TR_readSets_97 rfl rfl ?_
          refine gf_TR_12 rfl d_TR_readSets_98 h44 ?_
          refine wm_iload d_TR_readSets_101 rfl ?_
          refine cf_TR_225 rfl d_TR_readSets_103 h45 (Nat.le_of_ble_eq_true rfl) (Ci.mono h (fun x47 M46 h => ?_))
          obtain ⟨h48, hOM46, h⟩ := h
          refine wm_istore d_TR_readSets_106 (by decide) (L' := [vr a0, vi l1, vi l2, vi l3, vi x26, vi (mI M32 (mR M32 a0 0) 2), vi x47]) rfl ?_
          refine wm_iload d_TR_readSets_108 rfl ?_
          refine wm_iconst d_TR_readSets_110 ?_
          refine wm_icmp_ne (tgt := 138) d_TR_readSets_111 rfl h48 ⟨by decide, by decide⟩ (fun c51 => ?_) (fun c51 => ?_)
          · replace h := h.2 c51
            refine wm_iload_n d_TR_readSets_138 rfl rfl ?_
            refine wm_iload d_TR_readSets_139 rfl ?_
            refine wm_ishr d_TR_readSets_141 ?_
            refine wm_iconst d_TR_readSets_142 ?_
            refine wm_iand d_TR_readSets_143 ?_
            refine wm_if_eq (tgt := 168) d_TR_readSets_144 rfl (m_i32 _) (fun c61 => ?_) (fun c61 => ?_)
            · replace h := h.1 c61
              refine wm_less (L' := [vr a0, vd, vi l2, vi l3, vi x26, vi (mI M32 (mR M32 a0 0) 2), vi x47]) ⟨Or.inr rfl, Or.inl rfl, Or.inr rfl, Or.inr rfl, Or.inr rfl, Or.inr rfl, Or.inr rfl, trivial⟩ ?_
              exact h
            · replace h := h.2 c61
              obtain ⟨h62, h⟩ := h
              obtain ⟨h63, h⟩ := h
              obtain ⟨h64, h⟩ := h
              obtain ⟨h65, h⟩ := h
              obtain ⟨h66, h⟩ := h
              refine wm_aload_n d_TR_readSets_147 rfl rfl ?_
              refine gf_TR_12 rfl d_TR_readSets_148 h62 ?_
              refine wm_iconst d_TR_readSets_151 ?_
              refine wm_aload_n d_TR_readSets_152 rfl rfl ?_
              refine gf_TR_12 rfl d_TR_readSets_153 h62 ?_
              refine gf_TR_109 rfl d_TR_readSets_156 h63 ?_
              refine gf_TR_113 rfl d_TR_readSets_159 h64 ?_
              refine wm_iload d_TR_readSets_162 rfl ?_
              refine wm_iald d_TR_readSets_164 h65 h66 ?_
              refine cf_TR_95 rfl d_TR_readSets_165 h63 (Nat.le_of_ble_eq_true rfl) (Cv.mono h (fun M67 h => ?_))
              obtain ⟨hOM67, h⟩ := h
              refine wm_less (L' := [vr a0, vd, vi l2, vi l3, vi x26, vi (mI M32 (mR M32 a0 0) 2), vi x47]) ⟨Or.inr rfl, Or.inl rfl, Or.inr rfl, Or.inr rfl, Or.inr rfl, Or.inr rfl, Or.inr rfl, trivial⟩ ?_
              exact h
          · replace c51 := Classical.not_not.mp c51
            replace h := h.1 c51
            obtain ⟨h52, h⟩ := h
            obtain ⟨h53, h⟩ := h
            obtain ⟨h54, h⟩ := h
            obtain ⟨h55, h⟩ := h
            obtain ⟨h56, h⟩ := h
            refine wm_aload_n d_TR_readSets_114 rfl rfl ?_
            refine gf_TR_12 rfl d_TR_readSets_115 h52 ?_
            refine wm_iconst d_TR_readSets_118 ?_
            refine wm_aload_n d_TR_readSets_119 rfl rfl ?_
            refine gf_TR_12 rfl d_TR_readSets_120 h52 ?_
            refine gf_TR_109 rfl d_TR_readSets_123 h53 ?_
            refine gf_TR_113 rfl d_TR_readSets_126 h54 ?_
            refine wm_iload d_TR_readSets_129 rfl ?_
            refine wm_iald d_TR_readSets_131 h55 h56 ?_
            refine cf_TR_95 rfl d_TR_readSets_132 h53 (Nat.le_of_ble_eq_true rfl) (Cv.mono h (fun M57 h => ?_))
            obtain ⟨hOM57, h⟩ := h
            refine wm_goto (tgt := 168) d_TR_readSets_135 rfl ?_
            refine wm_less (L' := [vr a0, vd, vi l2, vi l3, vi x26, vi (mI M32 (mR M32 a0 0) 2), vi x47]) ⟨Or.inr rfl, Or.inl rfl, Or.inr rfl, Or.inr rfl, Or.inr rfl, Or.inr rfl, Or.inr rfl, trivial⟩ ?_
            exact h
        · replace c43 := Classical.not_not.mp c43
          replace h := h.1 c43
          refine wm_iconst d_TR_readSets_95 ?_
          refine wm_ireturn d_TR_readSets_96 rfl (m_nb (by decide)) ?_
          exact ⟨_, rfl, h⟩
      · replace c36 := Classical.not_not.mp c36
        replace h := h.1 c36
        refine wm_iconst d_TR_readSets_73 ?_
        refine wm_ireturn d_TR_readSets_74 rfl (m_nb (by decide)) ?_
        exact ⟨_, rfl, h⟩
  clear h
  refine wm_icmp_ge (tgt := 307) d_TR_readSets_33 rfl hi_l3 (hO _ _).1 (fun c17 => ?_) (fun c17 => ?_)
  · exact hE0 (Or.inl c17)
  · refine wm_iload_n d_TR_readSets_36 rfl rfl ?_
    refine wm_if_eq (tgt := 307) d_TR_readSets_37 rfl hi_l1 (fun c16 => ?_) (fun c16 => ?_)
    · exact hE0 (Or.inr c16)
    · exact hE1 (fun z70 => Or.elim z70 c17 c16)
theorem k_TR_readSets_168 {G : mG} {d : Nat} {a0 : Nat} {l2 : Int} {l3 : Int} {l4 : Int} {l5 : Int} {l6 : Int} {M : mM} {Q : Int → mM → Prop} (hO : mOk M) (hi_l2 : i32 l2) (hi_l3 : i32 l3) (hi_l4 : i32 l4) (hi_l5 : i32 l5) (hi_l6 : i32 l6)
    (h : ∀ v73 : Int, v73 = (if (l6 = (-1)) then 0 else shlI 1 l6) → mK M a0 = 3 ∧ mK M (mR M a0 0) = 4 ∧ i32 ((mI M (mR M a0 0) 5) + 1) ∧ ∀ M80, M80 = mUI M (mR M a0 0) 5 ((mI M (mR M a0 0) 5) + 1) → mK M80 (mR M80 a0 0) = 4 ∧ Ci G y_RR_accept d [vr (mR M80 a0 0), vi 39] M80 (fun x84 M83 => i32 x84 ∧ mOk M83 ∧ (((x84 = 0) → (Q 0 M83)) ∧ (¬ (x84 = 0) → (mK M83 a0 = 3 ∧ mK M83 (mR M83 a0 0) = 4 ∧ Ci G y_RR_accept d [vr (mR M83 a0 0), vi 24] M83 (fun x91 M90 => i32 x91 ∧ mOk M90 ∧ (((x91 = 0) → (Q 0 M90)) ∧ (¬ (x91 = 0) → (mK M90 a0 = 3 ∧ mK M90 (mR M90 a0 0) = 4 ∧ Ci G y_RR_kindOf d [vr (mR M90 a0 0), vi l5] M90 (fun x98 M97 => i32 x98 ∧ mOk M97 ∧ (mK M97 (mR M90 a0 0) = 4 ∧ Ci G y_RR_readRule d [vr (mR M90 a0 0), vi x98, vi 1] M97 (fun x102 M101 => i32 x102 ∧ mOk M101 ∧ (((x102 = 0) → (Q 0 M101)) ∧ (¬ (x102 = 0) → (mK M101 a0 = 3 ∧ mK M101 (mR M101 a0 0) = 4 ∧ Ci G y_RR_accept d [vr (mR M101 a0 0), vi 38] M101 (fun x109 M108 => i32 x109 ∧ mOk M108 ∧ (((x109 = 0) → (Q 0 M108)) ∧ (¬ (x109 = 0) → (mK M108 a0 = 3 ∧ mK M108 (mR M108 a0 0) = 4 ∧ i32 ((mI M108 (mR M108 a0 0) 5) - 1) ∧ ∀ M116, M116 = mUI M108 (mR M108 a0 0) 5 ((mI M108 (mR M108 a0 0) 5) - 1) → mK M116 (mR M116 a0 2) = 6 ∧ Ci G y_Pr_add d [vr (mR M116 a0 2), vi 43, vi ((l4 * 16) + (if l6 < 0 then 0 else l6))] M116 (fun x120 M119 => i32 x120 ∧ mOk M119 ∧ (mK M119 a0 = 3 ∧ mK M119 (mR M119 a0 0) = 4 ∧ Ci G y_RR_accept d [vr (mR M119 a0 0), vi 30] M119 (fun x125 M124 => i32 x125 ∧ mOk M124 ∧ (h_TR_readSets_22 G d a0 x125 (orI l2 v73) (l3 + 1) M124 Q))))))))))))))))))))))) :
    h_TR_readSets_168 G d a0 l2 l3 l4 l5 l6 M Q := by
  unfold h_TR_readSets_168
  refine wm_iload_n d_TR_readSets_168 rfl rfl ?_
  refine wm_iload d_TR_readSets_169 rfl ?_
  refine wm_iconst d_TR_readSets_171 ?_
  have hJ : ∀ v73 : Int, v73 = (if (l6 = (-1)) then 0 else shlI 1 l6) → mWm G y_TR_readSets (d + 1) 183 [vr a0, vd, vd, vi l3, vi l4, vi l5, vi l6] [vi v73, vi l2] M (fun r9 M9 => ∃ x9, r9 = some (vi x9) ∧ Q x9 M9) := by
    intro v73 e75
    have h := h v73 e75
    have h76 : i32 v73 := by rw [e75]; (repeat' split) <;> first | exact ⟨by decide, by decide⟩ | exact (m_i32 _)
    obtain ⟨h77, h⟩ := h
    obtain ⟨h78, h⟩ := h
    obtain ⟨h79, h⟩ := h
    obtain ⟨M80, e81⟩ : ∃ M80, M80 = mUI M (mR M a0 0) 5 ((mI M (mR M a0 0) 5) + 1) := ⟨_, rfl⟩
    replace h := h M80 e81
    obtain ⟨h82, h⟩ := h
    refine wm_ior d_TR_readSets_183 ?_
    refine wm_istore_n d_TR_readSets_184 rfl (by decide) (L' := [vr a0, vd, vi (orI l2 v73), vi l3, vi l4, vi l5, vi l6]) rfl ?_
    refine wm_aload_n d_TR_readSets_185 rfl rfl ?_
    refine gf_TR_12 rfl d_TR_readSets_186 h77 ?_
    refine wm_dup d_TR_readSets_189 rfl ?_
    refine gf_TR_222 rfl d_TR_readSets_190 h78 ?_
    refine wm_iconst d_TR_readSets_193 ?_
    refine wm_iadd d_TR_readSets_194 ?_
    have hOM80 : mOk M80 := by rw [e81]; exact mOk_UI hO h79
    refine pf_TR_222 rfl d_TR_readSets_195 h78 h79 e81 ?_
    refine wm_aload_n d_TR_readSets_198 rfl rfl ?_
    refine gf_TR_12 rfl d_TR_readSets_199 (by rw [e81]; exact h77) ?_
    refine wm_bipush d_TR_readSets_202 (by decide) ?_
    refine cf_TR_102 rfl d_TR_readSets_204 h82 (Nat.le_of_ble_eq_true rfl) (Ci.mono h (fun x84 M83 h => ?_))
    obtain ⟨h85, hOM83, h⟩ := h
    refine wm_if_eq (tgt := 254) d_TR_readSets_207 rfl h85 (fun c87 => ?_) (fun c87 => ?_)
    · replace h := h.1 c87
      refine wm_iconst d_TR_readSets_254 ?_
      refine wm_ireturn d_TR_readSets_255 rfl (m_nb (by decide)) ?_
      exact ⟨_, rfl, h⟩
    · replace h := h.2 c87
      obtain ⟨h88, h⟩ := h
      obtain ⟨h89, h⟩ := h
      refine wm_aload_n d_TR_readSets_210 rfl rfl ?_
      refine gf_TR_12 rfl d_TR_readSets_211 h88 ?_
      refine wm_bipush d_TR_readSets_214 (by decide) ?_
      refine cf_TR_102 rfl d_TR_readSets_216 h89 (Nat.le_of_ble_eq_true rfl) (Ci.mono h (fun x91 M90 h => ?_))
      obtain ⟨h92, hOM90, h⟩ := h
      refine wm_if_eq (tgt := 254) d_TR_readSets_219 rfl h92 (fun c94 => ?_) (fun c94 => ?_)
      · replace h := h.1 c94
        refine wm_iconst d_TR_readSets_254 ?_
        refine wm_ireturn d_TR_readSets_255 rfl (m_nb (by decide)) ?_
        exact ⟨_, rfl, h⟩
      · replace h := h.2 c94
        obtain ⟨h95, h⟩ := h
        obtain ⟨h96, h⟩ := h
        refine wm_aload_n d_TR_readSets_222 rfl rfl ?_
        refine gf_TR_12 rfl d_TR_readSets_223 h95 ?_
        refine wm_aload_n d_TR_readSets_226 rfl rfl ?_
        refine gf_TR_12 rfl d_TR_readSets_227 h95 ?_
        refine wm_iload d_TR_readSets_230 rfl ?_
        refine cf_TR_228 rfl d_TR_readSets_232 h96 (Nat.le_of_ble_eq_true rfl) (Ci.mono h (fun x98 M97 h => ?_))
        obtain ⟨h99, hOM97, h⟩ := h
        obtain ⟨h100, h⟩ := h
        refine wm_iconst d_TR_readSets_235 ?_
        refine cf_TR_117 rfl d_TR_readSets_236 h100 (Nat.le_of_ble_eq_true rfl) (Ci.mono h (fun x102 M101 h => ?_))
        obtain ⟨h103, hOM101, h⟩ := h
        refine wm_if_eq (tgt := 254) d_TR_readSets_239 rfl h103 (fun c105 => ?_) (fun c105 => ?_)
        · replace h := h.1 c105
          refine wm_iconst d_TR_readSets_254 ?_
          refine wm_ireturn d_TR_readSets_255 rfl (m_nb (by decide)) ?_
          exact ⟨_, rfl, h⟩
        · replace h := h.2 c105
          obtain ⟨h106, h⟩ := h
          obtain ⟨h107, h⟩ := h
          refine wm_aload_n d_TR_readSets_242 rfl rfl ?_
          refine gf_TR_12 rfl d_TR_readSets_243 h106 ?_
          refine wm_bipush d_TR_readSets_246 (by decide) ?_
          refine cf_TR_102 rfl d_TR_readSets_248 h107 (Nat.le_of_ble_eq_true rfl) (Ci.mono h (fun x109 M108 h => ?_))
          obtain ⟨h110, hOM108, h⟩ := h
          refine wm_if_ne (tgt := 256) d_TR_readSets_251 rfl h110 (fun c112 => ?_) (fun c112 => ?_)
          · replace h := h.2 c112
            obtain ⟨h113, h⟩ := h
            obtain ⟨h114, h⟩ := h
            obtain ⟨h115, h⟩ := h
            obtain ⟨M116, e117⟩ : ∃ M116, M116 = mUI M108 (mR M108 a0 0) 5 ((mI M108 (mR M108 a0 0) 5) - 1) := ⟨_, rfl⟩
            replace h := h M116 e117
            obtain ⟨h118, h⟩ := h
            refine wm_aload_n d_TR_readSets_256 rfl rfl ?_
            refine gf_TR_12 rfl d_TR_readSets_257 h113 ?_
            refine wm_dup d_TR_readSets_260 rfl ?_
            refine gf_TR_222 rfl d_TR_readSets_261 h114 ?_
            refine wm_iconst d_TR_readSets_264 ?_
            refine wm_isub d_TR_readSets_265 ?_
            have hOM116 : mOk M116 := by rw [e117]; exact mOk_UI hOM108 h115
            refine pf_TR_222 rfl d_TR_readSets_266 h114 h115 e117 ?_
            refine wm_aload_n d_TR_readSets_269 rfl rfl ?_
            refine gf_TR_36 rfl d_TR_readSets_270 (by rw [e117]; exact h113) ?_
            refine wm_bipush d_TR_readSets_273 (by decide) ?_
            refine wm_iload d_TR_readSets_275 rfl ?_
            refine wm_bipush d_TR_readSets_277 (by decide) ?_
            refine wm_imul d_TR_readSets_279 ?_
            refine wm_iload d_TR_readSets_280 rfl ?_
            refine wm_iconst d_TR_readSets_282 ?_
            refine wm_mmax k5_34 (Nat.le_of_ble_eq_true rfl) hi_l6 ⟨by decide, by decide⟩ d_TR_readSets_283 ?_
            refine wm_iadd d_TR_readSets_286 ?_
            refine cf_TR_121 rfl d_TR_readSets_287 h118 (Nat.le_of_ble_eq_true rfl) (Ci.mono h (fun x120 M119 h => ?_))
            obtain ⟨h121, hOM119, h⟩ := h
            obtain ⟨h122, h⟩ := h
            obtain ⟨h123, h⟩ := h
            refine wm_pop d_TR_readSets_290 rfl ?_
            refine wm_aload_n d_TR_readSets_291 rfl rfl ?_
            refine gf_TR_12 rfl d_TR_readSets_292 h122 ?_
            refine wm_bipush d_TR_readSets_295 (by decide) ?_
            refine cf_TR_102 rfl d_TR_readSets_297 h123 (Nat.le_of_ble_eq_true rfl) (Ci.mono h (fun x125 M124 h => ?_))
            obtain ⟨h126, hOM124, h⟩ := h
            refine wm_istore_n d_TR_readSets_300 rfl (by decide) (L' := [vr a0, vi x125, vi (orI l2 v73), vi l3, vi l4, vi l5, vi l6]) rfl ?_
            refine wm_iinc d_TR_readSets_301 (by decide) rfl (L' := [vr a0, vi x125, vi (orI l2 v73), vi (l3 + 1), vi l4, vi l5, vi l6]) rfl ?_
            refine wm_goto (tgt := 22) d_TR_readSets_304 rfl ?_
            refine wm_less (L' := [vr a0, vi x125, vi (orI l2 v73), vi (l3 + 1), vd, vd, vd]) ⟨Or.inr rfl, Or.inr rfl, Or.inr rfl, Or.inr rfl, Or.inl rfl, Or.inl rfl, Or.inl rfl, trivial⟩ ?_
            exact h
          · replace c112 := Classical.not_not.mp c112
            replace h := h.1 c112
            refine wm_iconst d_TR_readSets_254 ?_
            refine wm_ireturn d_TR_readSets_255 rfl (m_nb (by decide)) ?_
            exact ⟨_, rfl, h⟩
  clear h
  refine wm_icmp_ne (tgt := 179) d_TR_readSets_172 rfl hi_l6 ⟨by decide, by decide⟩ (fun c72 => ?_) (fun c72 => ?_)
  · refine wm_iconst d_TR_readSets_179 ?_
    refine wm_iload d_TR_readSets_180 rfl ?_
    refine wm_ishl d_TR_readSets_182 ?_
    refine wm_less (L' := [vr a0, vd, vd, vi l3, vi l4, vi l5, vi l6]) ⟨Or.inr rfl, Or.inl rfl, Or.inl rfl, Or.inr rfl, Or.inr rfl, Or.inr rfl, Or.inr rfl, trivial⟩ ?_
    exact hJ (shlI 1 l6) (if_neg c72).symm
  · replace c72 := Classical.not_not.mp c72
    refine wm_iconst d_TR_readSets_175 ?_
    refine wm_goto (tgt := 183) d_TR_readSets_176 rfl ?_
    refine wm_less (L' := [vr a0, vd, vd, vi l3, vi l4, vi l5, vi l6]) ⟨Or.inr rfl, Or.inl rfl, Or.inl rfl, Or.inr rfl, Or.inr rfl, Or.inr rfl, Or.inr rfl, trivial⟩ ?_
    exact hJ 0 (if_pos c72).symm
theorem d_Wo_init_0 : decode y_Wo_init.2.1 0 = .ok (.aload_n 0, 1) := dc9_42 (by decide +kernel)
theorem d_Wo_init_1 : decode y_Wo_init.2.1 1 = .ok (.invokespecial 3, 3) := dc9_183 (by decide +kernel)
theorem d_Wo_init_4 : decode y_Wo_init.2.1 4 = .ok (.aload_n 0, 1) := dc9_42 (by decide +kernel)
theorem d_Wo_init_5 : decode y_Wo_init.2.1 5 = .ok (.iconst 0, 1) := dc9_3 (by decide +kernel)
theorem d_Wo_init_6 : decode y_Wo_init.2.1 6 = .ok (.newarray .char, 2) := by decide +kernel
theorem d_Wo_init_8 : decode y_Wo_init.2.1 8 = .ok (.putfield 9, 3) := dc9_181 (by decide +kernel)
theorem d_Wo_init_11 : decode y_Wo_init.2.1 11 = .ok (.aload_n 0, 1) := dc9_42 (by decide +kernel)
theorem d_Wo_init_12 : decode y_Wo_init.2.1 12 = .ok (.sipush 128, 3) := dc9_17 (by decide +kernel)
theorem d_Wo_init_15 : decode y_Wo_init.2.1 15 = .ok (.newarray .int, 2) := by decide +kernel
theorem d_Wo_init_17 : decode y_Wo_init.2.1 17 = .ok (.putfield 15, 3) := dc9_181 (by decide +kernel)
theorem d_Wo_init_20 : decode y_Wo_init.2.1 20 = .ok (.aload_n 0, 1) := dc9_42 (by decide +kernel)
theorem d_Wo_init_21 : decode y_Wo_init.2.1 21 = .ok (.sipush 128, 3) := dc9_17 (by decide +kernel)
theorem d_Wo_init_24 : decode y_Wo_init.2.1 24 = .ok (.newarray .int, 2) := by decide +kernel
theorem d_Wo_init_26 : decode y_Wo_init.2.1 26 = .ok (.putfield 19, 3) := dc9_181 (by decide +kernel)
theorem d_Wo_init_29 : decode y_Wo_init.2.1 29 = .ok (.aload_n 0, 1) := dc9_42 (by decide +kernel)
theorem d_Wo_init_30 : decode y_Wo_init.2.1 30 = .ok (.sipush 128, 3) := dc9_17 (by decide +kernel)
theorem d_Wo_init_33 : decode y_Wo_init.2.1 33 = .ok (.newarray .int, 2) := by decide +kernel
theorem d_Wo_init_35 : decode y_Wo_init.2.1 35 = .ok (.putfield 22, 3) := dc9_181 (by decide +kernel)
theorem d_Wo_init_38 : decode y_Wo_init.2.1 38 = .ok (.return_, 1) := dc9_177 (by decide +kernel)
theorem k_Wo_init {G : mG} {d : Nat} {a0 : Nat} {M : mM} {Q : mM → Prop} (hO : mOk M)
    (h : 0 < a0 ∧ ∀ M2, M2 = mNew M 32 0 0 → mK M2 a0 = 2 ∧ ∀ M5, M5 = mUR M2 a0 0 (mZ M) → ∀ M7, M7 = mNew M5 30 128 128 → mK M7 a0 = 2 ∧ ∀ M10, M10 = mUR M7 a0 3 (mZ M5) → ∀ M12, M12 = mNew M10 30 128 128 → mK M12 a0 = 2 ∧ ∀ M15, M15 = mUR M12 a0 4 (mZ M10) → ∀ M17, M17 = mNew M15 30 128 128 → mK M17 a0 = 2 ∧ ∀ M20, M20 = mUR M17 a0 5 (mZ M15) → Q M20) :
    Cv G y_Wo_init (d + 1) [vr a0] M Q := by
  refine wm_open (y := y_Wo_init) rfl (Nat.le_of_ble_eq_true rfl) (L := [vr a0]) rfl ?_
  obtain ⟨h1, h⟩ := h
  obtain ⟨M2, e3⟩ : ∃ M2, M2 = mNew M 32 0 0 := ⟨_, rfl⟩
  replace h := h M2 e3
  obtain ⟨h4, h⟩ := h
  obtain ⟨M5, e6⟩ : ∃ M5, M5 = mUR M2 a0 0 (mZ M) := ⟨_, rfl⟩
  replace h := h M5 e6
  obtain ⟨M7, e8⟩ : ∃ M7, M7 = mNew M5 30 128 128 := ⟨_, rfl⟩
  replace h := h M7 e8
  obtain ⟨h9, h⟩ := h
  obtain ⟨M10, e11⟩ : ∃ M10, M10 = mUR M7 a0 3 (mZ M5) := ⟨_, rfl⟩
  replace h := h M10 e11
  obtain ⟨M12, e13⟩ : ∃ M12, M12 = mNew M10 30 128 128 := ⟨_, rfl⟩
  replace h := h M12 e13
  obtain ⟨h14, h⟩ := h
  obtain ⟨M15, e16⟩ : ∃ M15, M15 = mUR M12 a0 4 (mZ M10) := ⟨_, rfl⟩
  replace h := h M15 e16
  obtain ⟨M17, e18⟩ : ∃ M17, M17 = mNew M15 30 128 128 := ⟨_, rfl⟩
  replace h := h M17 e18
  obtain ⟨h19, h⟩ := h
  obtain ⟨M20, e21⟩ : ∃ M20, M20 = mUR M17 a0 5 (mZ M15) := ⟨_, rfl⟩
  replace h := h M20 e21
  refine wm_aload_n d_Wo_init_0 rfl rfl ?_
  refine wm_objInit trivial k1_53 kO_inst kO_code (Nat.le_of_ble_eq_true rfl) d_Wo_init_1 h1 ?_
  refine wm_aload_n d_Wo_init_4 rfl rfl ?_
  refine wm_iconst d_Wo_init_5 ?_
  have hOM2 : mOk M2 := by rw [e3]; exact mOk_New hO
  refine wm_newarrE 2 (atype := .char) (ty := .char) rfl rfl (fun _ => rfl) rfl rfl (by decide) k1_81 ⟨by decide, by decide⟩ d_Wo_init_6 e3 ?_
  have hOM5 : mOk M5 := by rw [e6]; exact mOk_UR hOM2
  refine pf_Wo_9 rfl d_Wo_init_8 h4 e6 ?_
  refine wm_aload_n d_Wo_init_11 rfl rfl ?_
  refine wm_sipush d_Wo_init_12 (by decide) ?_
  have hOM7 : mOk M7 := by rw [e8]; exact mOk_New hOM5
  refine wm_newarrE 0 (atype := .int) (ty := .int) rfl rfl (fun _ => rfl) rfl rfl (by decide) k1_82 ⟨by decide, by decide⟩ d_Wo_init_15 e8 ?_
  have hOM10 : mOk M10 := by rw [e11]; exact mOk_UR hOM7
  refine pf_Wo_15 rfl d_Wo_init_17 h9 e11 ?_
  refine wm_aload_n d_Wo_init_20 rfl rfl ?_
  refine wm_sipush d_Wo_init_21 (by decide) ?_
  have hOM12 : mOk M12 := by rw [e13]; exact mOk_New hOM10
  refine wm_newarrE 0 (atype := .int) (ty := .int) rfl rfl (fun _ => rfl) rfl rfl (by decide) k1_82 ⟨by decide, by decide⟩ d_Wo_init_24 e13 ?_
  have hOM15 : mOk M15 := by rw [e16]; exact mOk_UR hOM12
  refine pf_Wo_19 rfl d_Wo_init_26 h14 e16 ?_
  refine wm_aload_n d_Wo_init_29 rfl rfl ?_
  refine wm_sipush d_Wo_init_30 (by decide) ?_
  have hOM17 : mOk M17 := by rw [e18]; exact mOk_New hOM15
  refine wm_newarrE 0 (atype := .int) (ty := .int) rfl rfl (fun _ => rfl) rfl rfl (by decide) k1_82 ⟨by decide, by decide⟩ d_Wo_init_33 e18 ?_
  have hOM20 : mOk M20 := by rw [e21]; exact mOk_UR hOM17
  refine pf_Wo_22 rfl d_Wo_init_35 h19 e21 ?_
  refine wm_return d_Wo_init_38 rfl ?_
  exact ⟨rfl, h⟩
end
section
theorem d_Wo_split_0 : decode y_Wo_split.2.1 0 = .ok (.aload_n 0, 1) := dc9_42 (by decide +kernel)
theorem d_Wo_split_1 : decode y_Wo_split.2.1 1 = .ok (.aload_n 1, 1) := dc9_43 (by decide +kernel)
theorem d_Wo_split_2 : decode y_Wo_split.2.1 2 = .ok (.putfield 9, 3) := dc9_181 (by decide +kernel)
theorem d_Wo_split_5 : decode y_Wo_split.2.1 5 = .ok (.aload_n 0, 1) := dc9_42 (by decide +kernel)
theorem d_Wo_split_6 : decode y_Wo_split.2.1 6 = .ok (.iload_n 2, 1) := dc9_28 (by decide +kernel)
theorem d_Wo_split_7 : decode y_Wo_split.2.1 7 = .ok (.putfield 25, 3) := dc9_181 (by decide +kernel)
theorem d_Wo_split_10 : decode y_Wo_split.2.1 10 = .ok (.aload_n 0, 1) := dc9_42 (by decide +kernel)
theorem d_Wo_split_11 : decode y_Wo_split.2.1 11 = .ok (.iconst 0, 1) := dc9_3 (by decide +kernel)
theorem d_Wo_split_12 : decode y_Wo_split.2.1 12 = .ok (.putfield 29, 3) := dc9_181 (by decide +kernel)
theorem d_Wo_split_15 : decode y_Wo_split.2.1 15 = .ok (.aload_n 0, 1) := dc9_42 (by decide +kernel)
theorem d_Wo_split_16 : decode y_Wo_split.2.1 16 = .ok (.aload_n 0, 1) := dc9_42 (by decide +kernel)
theorem d_Wo_split_17 : decode y_Wo_split.2.1 17 = .ok (.getfield 25, 3) := dc9_180 (by decide +kernel)
theorem d_Wo_split_20 : decode y_Wo_split.2.1 20 = .ok (.iconst 2, 1) := dc9_5 (by decide +kernel)
theorem d_Wo_split_21 : decode y_Wo_split.2.1 21 = .ok (.iadd, 1) := dc9_96 (by decide +kernel)
theorem d_Wo_split_22 : decode y_Wo_split.2.1 22 = .ok (.invokevirtual 32, 3) := dc9_182 (by decide +kernel)
theorem d_Wo_split_25 : decode y_Wo_split.2.1 25 = .ok (.aload_n 0, 1) := dc9_42 (by decide +kernel)
theorem d_Wo_split_26 : decode y_Wo_split.2.1 26 = .ok (.iconst 0, 1) := dc9_3 (by decide +kernel)
theorem d_Wo_split_27 : decode y_Wo_split.2.1 27 = .ok (.invokevirtual 36, 3) := dc9_182 (by decide +kernel)
theorem d_Wo_split_30 : decode y_Wo_split.2.1 30 = .ok (.istore_n 3, 1) := dc9_62 (by decide +kernel)
theorem d_Wo_split_31 : decode y_Wo_split.2.1 31 = .ok (.iconst 0, 1) := dc9_3 (by decide +kernel)
theorem d_Wo_split_32 : decode y_Wo_split.2.1 32 = .ok (.istore 4, 2) := dc9_54 (by decide +kernel)
theorem d_Wo_split_34 : decode y_Wo_split.2.1 34 = .ok (.iload 4, 2) := dc9_21 (by decide +kernel)
theorem d_Wo_split_36 : decode y_Wo_split.2.1 36 = .ok (.aload_n 0, 1) := dc9_42 (by decide +kernel)
theorem d_Wo_split_37 : decode y_Wo_split.2.1 37 = .ok (.getfield 25, 3) := dc9_180 (by decide +kernel)
theorem d_Wo_split_40 : decode y_Wo_split.2.1 40 = .ok (.if_icmp .ge 27, 3) := dc9_162 (by decide +kernel)
theorem d_Wo_split_43 : decode y_Wo_split.2.1 43 = .ok (.iload_n 3, 1) := dc9_29 (by decide +kernel)
theorem d_Wo_split_44 : decode y_Wo_split.2.1 44 = .ok (.aload_n 0, 1) := dc9_42 (by decide +kernel)
theorem d_Wo_split_45 : decode y_Wo_split.2.1 45 = .ok (.getfield 25, 3) := dc9_180 (by decide +kernel)
theorem d_Wo_split_48 : decode y_Wo_split.2.1 48 = .ok (.if_icmp .ge 19, 3) := dc9_162 (by decide +kernel)
theorem d_Wo_split_51 : decode y_Wo_split.2.1 51 = .ok (.aload_n 0, 1) := dc9_42 (by decide +kernel)
theorem d_Wo_split_52 : decode y_Wo_split.2.1 52 = .ok (.aload_n 0, 1) := dc9_42 (by decide +kernel)
theorem d_Wo_split_53 : decode y_Wo_split.2.1 53 = .ok (.iload_n 3, 1) := dc9_29 (by decide +kernel)
theorem d_Wo_split_67 : decode y_Wo_split.2.1 67 = .ok (.aload_n 0, 1) := dc9_42 (by decide +kernel)
theorem d_Wo_split_68 : decode y_Wo_split.2.1 68 = .ok (.iconst 0, 1) := dc9_3 (by decide +kernel)
theorem d_Wo_split_69 : decode y_Wo_split.2.1 69 = .ok (.aload_n 0, 1) := dc9_42 (by decide +kernel)
theorem d_Wo_split_70 : decode y_Wo_split.2.1 70 = .ok (.getfield 25, 3) := dc9_180 (by decide +kernel)
theorem d_Wo_split_73 : decode y_Wo_split.2.1 73 = .ok (.iconst 0, 1) := dc9_3 (by decide +kernel)
theorem d_Wo_split_74 : decode y_Wo_split.2.1 74 = .ok (.invokevirtual 43, 3) := dc9_182 (by decide +kernel)
theorem d_Wo_split_77 : decode y_Wo_split.2.1 77 = .ok (.return_, 1) := dc9_177 (by decide +kernel)
theorem d_Wo_split_54 : decode y_Wo_split.2.1 54 = .ok (.invokevirtual 40, 3) := dc9_182 (by decide +kernel)
theorem d_Wo_split_57 : decode y_Wo_split.2.1 57 = .ok (.invokevirtual 36, 3) := dc9_182 (by decide +kernel)
theorem d_Wo_split_60 : decode y_Wo_split.2.1 60 = .ok (.istore_n 3, 1) := dc9_62 (by decide +kernel)
theorem d_Wo_split_61 : decode y_Wo_split.2.1 61 = .ok (.iinc 4 1, 3) := by decide +kernel
theorem d_Wo_split_64 : decode y_Wo_split.2.1 64 = .ok (.goto (-30), 3) := dc9_167 (by decide +kernel)
def h_Wo_split_34 (G : mG) (d : Nat) (a0 : Nat) (l3 : Int) (l4 : Int) (M : mM) (Q : mM → Prop) : Prop := mWm G y_Wo_split (d + 1) 34 [vr a0, vd, vd, vi l3, vi l4] [] M (fun r9 M9 => r9 = none ∧ Q M9)
theorem k_Wo_split {G : mG} {d : Nat} {a0 : Nat} {a1 : Nat} {l2 : Int} {M : mM} {Q : mM → Prop} (hO : mOk M) (hi_l2 : i32 l2)
    (h : mK M a0 = 2 ∧ ∀ M2, M2 = mUR M a0 0 a1 → ∀ M4, M4 = mUI M2 a0 1 l2 → ∀ M6, M6 = mUI M4 a0 2 0 → Cv G y_Wo_reserve d [vr a0, vi ((mI M6 a0 1) + 2)] M6 (fun M8 => mOk M8 ∧ (mK M8 a0 = 2 ∧ Ci G y_Wo_afterBlanks d [vr a0, vi 0] M8 (fun x13 M12 => i32 x13 ∧ mOk M12 ∧ (h_Wo_split_34 G d a0 x13 0 M12 Q))))) :
    Cv G y_Wo_split (d + 1) [vr a0, vr a1, vi l2] M Q := by
  refine wm_open (y := y_Wo_split) rfl (Nat.le_of_ble_eq_true rfl) (L := [vr a0, vr a1, vi l2, vd, vd]) rfl ?_
  obtain ⟨h1, h⟩ := h
  obtain ⟨M2, e3⟩ : ∃ M2, M2 = mUR M a0 0 a1 := ⟨_, rfl⟩
  replace h := h M2 e3
  obtain ⟨M4, e5⟩ : ∃ M4, M4 = mUI M2 a0 1 l2 := ⟨_, rfl⟩
  replace h := h M4 e5
  obtain ⟨M6, e7⟩ : ∃ M6, M6 = mUI M4 a0 2 0 := ⟨_, rfl⟩
  replace h := h M6 e7
  refine wm_aload_n d_Wo_split_0 rfl rfl ?_
  refine wm_aload_n d_Wo_split_1 rfl rfl ?_
  have hOM2 : mOk M2 := by rw [e3]; exact mOk_UR hO
  refine pf_Wo_9 rfl d_Wo_split_2 h1 e3 ?_
  refine wm_aload_n d_Wo_split_5 rfl rfl ?_
  refine wm_iload_n d_Wo_split_6 rfl rfl ?_
  have hOM4 : mOk M4 := by rw [e5]; exact mOk_UI hOM2 hi_l2
  refine pf_Wo_25 rfl d_Wo_split_7 (by rw [e3]; exact h1) hi_l2 e5 ?_
  refine wm_aload_n d_Wo_split_10 rfl rfl ?_
  refine wm_iconst d_Wo_split_11 ?_
  have hOM6 : mOk M6 := by rw [e7]; exact mOk_UI hOM4 ⟨by decide, by decide⟩
  refine pf_Wo_29 rfl d_Wo_split_12 (by rw [e5, e3]; exact h1) ⟨by decide, by decide⟩ e7 ?_
  refine wm_aload_n d_Wo_split_15 rfl rfl ?_
  refine wm_aload_n d_Wo_split_16 rfl rfl ?_
  refine gf_Wo_25 rfl d_Wo_split_17 (by rw [e7, e5, e3]; exact h1) ?_
  refine wm_iconst d_Wo_split_20 ?_
  refine wm_iadd d_Wo_split_21 ?_
  refine cf_Wo_32 rfl d_Wo_split_22 (by rw [e7, e5, e3]; exact h1) (Nat.le_of_ble_eq_true rfl) (Cv.mono h (fun M8 h => ?_))
  obtain ⟨hOM8, h⟩ := h
  obtain ⟨h11, h⟩ := h
  refine wm_aload_n d_Wo_split_25 rfl rfl ?_
  refine wm_iconst d_Wo_split_26 ?_
  refine cf_Wo_36 rfl d_Wo_split_27 h11 (Nat.le_of_ble_eq_true rfl) (Ci.mono h (fun x13 M12 h => ?_))
  obtain ⟨h14, hOM12, h⟩ := h
  refine wm_istore_n d_Wo_split_30 rfl (by decide) (L' := [vr a0, vr a1, vi l2, vi x13, vd]) rfl ?_
  refine wm_iconst d_Wo_split_31 ?_
  refine wm_istore d_Wo_split_32 (by decide) (L' := [vr a0, vr a1, vi l2, vi x13, vi 0]) rfl ?_
  refine wm_less (L' := [vr a0, vd, vd, vi x13, vi 0]) ⟨Or.inr rfl, Or.inl rfl, Or.inl rfl, Or.inr rfl, Or.inr rfl, trivial⟩ ?_
  exact h
theorem k_Wo_split_34 {G : mG} {d : Nat} {a0 : Nat} {l3 : Int} {l4 : Int} {M : mM} {Q : mM → Prop} (hO : mOk M) (hi_l3 : i32 l3) (hi_l4 : i32 l4)
    (h : mK M a0 = 2 ∧ (((mI M a0 1 ≤ l4) ∨ (mI M a0 1 ≤ l3)) → (Cv G y_Wo_add d [vr a0, vi 0, vi (mI M a0 1), vi 0] M (fun M20 => mOk M20 ∧ (Q M20)))) ∧ (¬ ((mI M a0 1 ≤ l4) ∨ (mI M a0 1 ≤ l3)) → (Ci G y_Wo_takeWord d [vr a0, vi l3] M (fun x25 M24 => i32 x25 ∧ mOk M24 ∧ (mK M24 a0 = 2 ∧ Ci G y_Wo_afterBlanks d [vr a0, vi x25] M24 (fun x29 M28 => i32 x29 ∧ mOk M28 ∧ (h_Wo_split_34 G d a0 x29 (l4 + 1) M28 Q))))))) :
    h_Wo_split_34 G d a0 l3 l4 M Q := by
  unfold h_Wo_split_34
  obtain ⟨h15, h⟩ := h
  refine wm_iload d_Wo_split_34 rfl ?_
  refine wm_aload_n d_Wo_split_36 rfl rfl ?_
  refine gf_Wo_25 rfl d_Wo_split_37 h15 ?_
  have hE0 : ((mI M a0 1 ≤ l4) ∨ (mI M a0 1 ≤ l3)) → mWm G y_Wo_split (d + 1) 67 [vr a0, vd, vd, vi l3, vi l4] [] M (fun r9 M9 => r9 = none ∧ Q M9) := by
    intro q19
    have h := h.1 q19
    refine wm_aload_n d_Wo_split_67 rfl rfl ?_
    refine wm_iconst d_Wo_split_68 ?_
    refine wm_aload_n d_Wo_split_69 rfl rfl ?_
    refine gf_Wo_25 rfl d_Wo_split_70 h15 ?_
    refine wm_iconst d_Wo_split_73 ?_
    refine cf_Wo_43 rfl d_Wo_split_74 h15 (Nat.le_of_ble_eq_true rfl) (Cv.mono h (fun M20 h => ?_))
    obtain ⟨hOM20, h⟩ := h
    refine wm_return d_Wo_split_77 rfl ?_
    exact ⟨rfl, h⟩
  have hE1 : ¬ ((mI M a0 1 ≤ l4) ∨ (mI M a0 1 ≤ l3)) → mWm G y_Wo_split (d + 1) 51 [vr a0, vd, vd, vi l3, vi l4] [] M (fun r9 M9 => r9 = none ∧ Q M9) := by
    intro q23
    have h := h.2 q23
    refine wm_aload_n d_Wo_split_51 rfl rfl ?_
    refine wm_aload_n d_Wo_split_52 rfl rfl ?_
    refine wm_iload_n d_Wo_split_53 rfl rfl ?_
    refine cf_Wo_40 rfl d_Wo_split_54 h15 (Nat.le_of_ble_eq_true rfl) (Ci.mono h (fun x25 M24 h => ?_))
    obtain ⟨h26, hOM24, h⟩ := h
    obtain ⟨h27, h⟩ := h
    refine cf_Wo_36 rfl d_Wo_split_57 h27 (Nat.le_of_ble_eq_true rfl) (Ci.mono h (fun x29 M28 h => ?_))
    obtain ⟨h30, hOM28, h⟩ := h
    refine wm_istore_n d_Wo_split_60 rfl (by decide) (L' := [vr a0, vd, vd, vi x29, vi l4]) rfl ?_
    refine wm_iinc d_Wo_split_61 (by decide) rfl (L' := [vr a0, vd, vd, vi x29, vi (l4 + 1)]) rfl ?_
    refine wm_goto (tgt := 34) d_Wo_split_64 rfl ?_
    exact h
  clear h
  refine wm_icmp_ge (tgt := 67) d_Wo_split_40 rfl hi_l4 (hO _ _).1 (fun c17 => ?_) (fun c17 => ?_)
  · exact hE0 (Or.inl c17)
  · refine wm_iload_n d_Wo_split_43 rfl rfl ?_
    refine wm_aload_n d_Wo_split_44 rfl rfl ?_
    refine gf_Wo_25 rfl d_Wo_split_45 h15 ?_
    refine wm_icmp_ge (tgt := 67) d_Wo_split_48 rfl hi_l3 (hO _ _).1 (fun c16 => ?_) (fun c16 => ?_)
    · exact hE0 (Or.inr c16)
    · exact hE1 (fun z31 => Or.elim z31 c17 c16)
theorem d_Wo_reserve_0 : decode y_Wo_reserve.2.1 0 = .ok (.aload_n 0, 1) := dc9_42 (by decide +kernel)
theorem d_Wo_reserve_1 : decode y_Wo_reserve.2.1 1 = .ok (.getfield 15, 3) := dc9_180 (by decide +kernel)
theorem d_Wo_reserve_4 : decode y_Wo_reserve.2.1 4 = .ok (.arraylength, 1) := dc9_190 (by decide +kernel)
theorem d_Wo_reserve_5 : decode y_Wo_reserve.2.1 5 = .ok (.istore_n 2, 1) := dc9_61 (by decide +kernel)
theorem d_Wo_reserve_6 : decode y_Wo_reserve.2.1 6 = .ok (.iconst 0, 1) := dc9_3 (by decide +kernel)
theorem d_Wo_reserve_7 : decode y_Wo_reserve.2.1 7 = .ok (.istore_n 3, 1) := dc9_62 (by decide +kernel)
theorem d_Wo_reserve_8 : decode y_Wo_reserve.2.1 8 = .ok (.iload_n 3, 1) := dc9_29 (by decide +kernel)
theorem d_Wo_reserve_9 : decode y_Wo_reserve.2.1 9 = .ok (.bipush 31, 2) := dc9_16 (by decide +kernel)
theorem d_Wo_reserve_11 : decode y_Wo_reserve.2.1 11 = .ok (.if_icmp .ge 18, 3) := dc9_162 (by decide +kernel)
theorem d_Wo_reserve_14 : decode y_Wo_reserve.2.1 14 = .ok (.iload_n 2, 1) := dc9_28 (by decide +kernel)
theorem d_Wo_reserve_15 : decode y_Wo_reserve.2.1 15 = .ok (.iload_n 1, 1) := dc9_27 (by decide +kernel)
theorem d_Wo_reserve_16 : decode y_Wo_reserve.2.1 16 = .ok (.if_icmp .ge 13, 3) := dc9_162 (by decide +kernel)
theorem d_Wo_reserve_19 : decode y_Wo_reserve.2.1 19 = .ok (.iload_n 2, 1) := dc9_28 (by decide +kernel)
theorem d_Wo_reserve_20 : decode y_Wo_reserve.2.1 20 = .ok (.iconst 2, 1) := dc9_5 (by decide +kernel)
theorem d_Wo_reserve_21 : decode y_Wo_reserve.2.1 21 = .ok (.imul, 1) := dc9_104 (by decide +kernel)
theorem d_Wo_reserve_22 : decode y_Wo_reserve.2.1 22 = .ok (.istore_n 2, 1) := dc9_61 (by decide +kernel)
theorem d_Wo_reserve_23 : decode y_Wo_reserve.2.1 23 = .ok (.iinc 3 1, 3) := by decide +kernel
theorem d_Wo_reserve_26 : decode y_Wo_reserve.2.1 26 = .ok (.goto (-18), 3) := dc9_167 (by decide +kernel)
theorem d_Wo_reserve_29 : decode y_Wo_reserve.2.1 29 = .ok (.iload_n 2, 1) := dc9_28 (by decide +kernel)
theorem d_Wo_reserve_30 : decode y_Wo_reserve.2.1 30 = .ok (.aload_n 0, 1) := dc9_42 (by decide +kernel)
theorem d_Wo_reserve_31 : decode y_Wo_reserve.2.1 31 = .ok (.getfield 15, 3) := dc9_180 (by decide +kernel)
theorem d_Wo_reserve_34 : decode y_Wo_reserve.2.1 34 = .ok (.arraylength, 1) := dc9_190 (by decide +kernel)
theorem d_Wo_reserve_35 : decode y_Wo_reserve.2.1 35 = .ok (.if_icmp .le 24, 3) := dc9_164 (by decide +kernel)
theorem d_Wo_reserve_38 : decode y_Wo_reserve.2.1 38 = .ok (.aload_n 0, 1) := dc9_42 (by decide +kernel)
theorem d_Wo_reserve_39 : decode y_Wo_reserve.2.1 39 = .ok (.iload_n 2, 1) := dc9_28 (by decide +kernel)
theorem d_Wo_reserve_59 : decode y_Wo_reserve.2.1 59 = .ok (.return_, 1) := dc9_177 (by decide +kernel)
theorem d_Wo_reserve_40 : decode y_Wo_reserve.2.1 40 = .ok (.newarray .int, 2) := by decide +kernel
theorem d_Wo_reserve_42 : decode y_Wo_reserve.2.1 42 = .ok (.putfield 15, 3) := dc9_181 (by decide +kernel)
theorem d_Wo_reserve_45 : decode y_Wo_reserve.2.1 45 = .ok (.aload_n 0, 1) := dc9_42 (by decide +kernel)
theorem d_Wo_reserve_46 : decode y_Wo_reserve.2.1 46 = .ok (.iload_n 2, 1) := dc9_28 (by decide +kernel)
theorem d_Wo_reserve_47 : decode y_Wo_reserve.2.1 47 = .ok (.newarray .int, 2) := by decide +kernel
theorem d_Wo_reserve_49 : decode y_Wo_reserve.2.1 49 = .ok (.putfield 19, 3) := dc9_181 (by decide +kernel)
theorem d_Wo_reserve_52 : decode y_Wo_reserve.2.1 52 = .ok (.aload_n 0, 1) := dc9_42 (by decide +kernel)
theorem d_Wo_reserve_53 : decode y_Wo_reserve.2.1 53 = .ok (.iload_n 2, 1) := dc9_28 (by decide +kernel)
theorem d_Wo_reserve_54 : decode y_Wo_reserve.2.1 54 = .ok (.newarray .int, 2) := by decide +kernel
theorem d_Wo_reserve_56 : decode y_Wo_reserve.2.1 56 = .ok (.putfield 22, 3) := dc9_181 (by decide +kernel)
def h_Wo_reserve_8 (G : mG) (d : Nat) (a0 : Nat) (l1 : Int) (l2 : Int) (l3 : Int) (M : mM) (Q : mM → Prop) : Prop := mWm G y_Wo_reserve d 8 [vr a0, vi l1, vi l2, vi l3] [] M (fun r9 M9 => r9 = none ∧ Q M9)
theorem k_Wo_reserve {G : mG} {d : Nat} {a0 : Nat} {l1 : Int} {M : mM} {Q : mM → Prop} (hO : mOk M) (hi_l1 : i32 l1)
    (h : mK M a0 = 2 ∧ mK M (mR M a0 3) = 30 ∧ h_Wo_reserve_8 G d a0 l1 (mN M (mR M a0 3) : Int) 0 M Q) :
    Cv G y_Wo_reserve d [vr a0, vi l1] M Q := by
  refine wm_open (y := y_Wo_reserve) rfl (Nat.le_of_ble_eq_true rfl) (L := [vr a0, vi l1, vd, vd]) rfl ?_
  obtain ⟨h1, h⟩ := h
  obtain ⟨h2, h⟩ := h
  refine wm_aload_n d_Wo_reserve_0 rfl rfl ?_
  refine gf_Wo_15 rfl d_Wo_reserve_1 h1 ?_
  refine wm_alen 0 rfl (fun _ => rfl) d_Wo_reserve_4 h2 ?_
  refine wm_istore_n d_Wo_reserve_5 rfl (by decide) (L' := [vr a0, vi l1, vi (mN M (mR M a0 3) : Int), vd]) rfl ?_
  refine wm_iconst d_Wo_reserve_6 ?_
  refine wm_istore_n d_Wo_reserve_7 rfl (by decide) (L' := [vr a0, vi l1, vi (mN M (mR M a0 3) : Int), vi 0]) rfl ?_
  exact h
theorem k_Wo_reserve_8 {G : mG} {d : Nat} {a0 : Nat} {l1 : Int} {l2 : Int} {l3 : Int} {M : mM} {Q : mM → Prop} (hO : mOk M) (hi_l1 : i32 l1) (hi_l2 : i32 l2) (hi_l3 : i32 l3)
    (h : (((31 ≤ l3) ∨ (l1 ≤ l2)) → (mK M a0 = 2 ∧ mK M (mR M a0 3) = 30 ∧ i32 (mN M (mR M a0 3) : Int) ∧ ((l2 ≤ (mN M (mR M a0 3) : Int)) → (Q M)) ∧ (¬ (l2 ≤ (mN M (mR M a0 3) : Int)) → (((0 : Int) ≤ l2 ∧ l2 ≤ 16777216) ∧ ∀ M16, M16 = mNew M 30 (Int.toNat l2) (Int.toNat l2) → mK M16 a0 = 2 ∧ ∀ M19, M19 = mUR M16 a0 3 (mZ M) → ((0 : Int) ≤ l2 ∧ l2 ≤ 16777216) ∧ ∀ M22, M22 = mNew M19 30 (Int.toNat l2) (Int.toNat l2) → mK M22 a0 = 2 ∧ ∀ M25, M25 = mUR M22 a0 4 (mZ M19) → ((0 : Int) ≤ l2 ∧ l2 ≤ 16777216) ∧ ∀ M28, M28 = mNew M25 30 (Int.toNat l2) (Int.toNat l2) → mK M28 a0 = 2 ∧ ∀ M31, M31 = mUR M28 a0 5 (mZ M25) → Q M31)))) ∧ (¬ ((31 ≤ l3) ∨ (l1 ≤ l2)) → (h_Wo_reserve_8 G d a0 l1 (l2 * 2) (l3 + 1) M Q))) :
    h_Wo_reserve_8 G d a0 l1 l2 l3 M Q := by
  unfold h_Wo_reserve_8
  refine wm_iload_n d_Wo_reserve_8 rfl rfl ?_
  refine wm_bipush d_Wo_reserve_9 (by decide) ?_
  have hE0 : ((31 ≤ l3) ∨ (l1 ≤ l2)) → mWm G y_Wo_reserve d 29 [vr a0, vi l1, vi l2, vi l3] [] M (fun r9 M9 => r9 = none ∧ Q M9) := by
    intro q6
    have h := h.1 q6
    obtain ⟨h7, h⟩ := h
    obtain ⟨h8, h⟩ := h
    obtain ⟨h13, h⟩ := h
    refine wm_iload_n d_Wo_reserve_29 rfl rfl ?_
    refine wm_aload_n d_Wo_reserve_30 rfl rfl ?_
    refine gf_Wo_15 rfl d_Wo_reserve_31 h7 ?_
    refine wm_alen 0 rfl (fun _ => rfl) d_Wo_reserve_34 h8 ?_
    refine wm_icmp_le (tgt := 59) d_Wo_reserve_35 rfl hi_l2 h13 (fun c14 => ?_) (fun c14 => ?_)
    · replace h := h.1 c14
      refine wm_return d_Wo_reserve_59 rfl ?_
      exact ⟨rfl, h⟩
    · replace h := h.2 c14
      obtain ⟨h15, h⟩ := h
      obtain ⟨M16, e17⟩ : ∃ M16, M16 = mNew M 30 (Int.toNat l2) (Int.toNat l2) := ⟨_, rfl⟩
      replace h := h M16 e17
      obtain ⟨h18, h⟩ := h
      obtain ⟨M19, e20⟩ : ∃ M19, M19 = mUR M16 a0 3 (mZ M) := ⟨_, rfl⟩
      replace h := h M19 e20
      obtain ⟨h21, h⟩ := h
      obtain ⟨M22, e23⟩ : ∃ M22, M22 = mNew M19 30 (Int.toNat l2) (Int.toNat l2) := ⟨_, rfl⟩
      replace h := h M22 e23
      obtain ⟨h24, h⟩ := h
      obtain ⟨M25, e26⟩ : ∃ M25, M25 = mUR M22 a0 4 (mZ M19) := ⟨_, rfl⟩
      replace h := h M25 e26
      obtain ⟨h27, h⟩ := h
      obtain ⟨M28, e29⟩ : ∃ M28, M28 = mNew M25 30 (Int.toNat l2) (Int.toNat l2) := ⟨_, rfl⟩
      replace h := h M28 e29
      obtain ⟨h30, h⟩ := h
      obtain ⟨M31, e32⟩ : ∃ M31, M31 = mUR M28 a0 5 (mZ M25) := ⟨_, rfl⟩
      replace h := h M31 e32
      refine wm_aload_n d_Wo_reserve_38 rfl rfl ?_
      refine wm_iload_n d_Wo_reserve_39 rfl rfl ?_
      have hOM16 : mOk M16 := by rw [e17]; exact mOk_New hO
      refine wm_newarrE 0 (atype := .int) (ty := .int) rfl rfl (fun _ => rfl) rfl rfl (by decide) k1_82 h15 d_Wo_reserve_40 e17 ?_
      have hOM19 : mOk M19 := by rw [e20]; exact mOk_UR hOM16
      refine pf_Wo_15 rfl d_Wo_reserve_42 h18 e20 ?_
      refine wm_aload_n d_Wo_reserve_45 rfl rfl ?_
      refine wm_iload_n d_Wo_reserve_46 rfl rfl ?_
      have hOM22 : mOk M22 := by rw [e23]; exact mOk_New hOM19
      refine wm_newarrE 0 (atype := .int) (ty := .int) rfl rfl (fun _ => rfl) rfl rfl (by decide) k1_82 h21 d_Wo_reserve_47 e23 ?_
      have hOM25 : mOk M25 := by rw [e26]; exact mOk_UR hOM22
      refine pf_Wo_19 rfl d_Wo_reserve_49 h24 e26 ?_
      refine wm_aload_n d_Wo_reserve_52 rfl rfl ?_
      refine wm_iload_n d_Wo_reserve_53 rfl rfl ?_
      have hOM28 : mOk M28 := by rw [e29]; exact mOk_New hOM25
      refine wm_newarrE 0 (atype := .int) (ty := .int) rfl rfl (fun _ => rfl) rfl rfl (by decide) k1_82 h27 d_Wo_reserve_54 e29 ?_
      have hOM31 : mOk M31 := by rw [e32]; exact mOk_UR hOM28
      refine pf_Wo_22 rfl d_Wo_reserve_56 h30 e32 ?_
      refine wm_return d_Wo_reserve_59 rfl ?_
      exact ⟨rfl, h⟩
  have hE1 : ¬ ((31 ≤ l3) ∨ (l1 ≤ l2)) → mWm G y_Wo_reserve d 19 [vr a0, vi l1, vi l2, vi l3] [] M (fun r9 M9 => r9 = none ∧ Q M9) := by
    intro q33
    have h := h.2 q33
    refine wm_iload_n d_Wo_reserve_19 rfl rfl ?_
    refine wm_iconst d_Wo_reserve_20 ?_
    refine wm_imul d_Wo_reserve_21 ?_
    refine wm_istore_n d_Wo_reserve_22 rfl (by decide) (L' := [vr a0, vi l1, vi (l2 * 2), vi l3]) rfl ?_
    refine wm_iinc d_Wo_reserve_23 (by decide) rfl (L' := [vr a0, vi l1, vi (l2 * 2), vi (l3 + 1)]) rfl ?_
    refine wm_goto (tgt := 8) d_Wo_reserve_26 rfl ?_
    exact h
  clear h
  refine wm_icmp_ge (tgt := 29) d_Wo_reserve_11 rfl hi_l3 ⟨by decide, by decide⟩ (fun c4 => ?_) (fun c4 => ?_)
  · exact hE0 (Or.inl c4)
  · refine wm_iload_n d_Wo_reserve_14 rfl rfl ?_
    refine wm_iload_n d_Wo_reserve_15 rfl rfl ?_
    refine wm_icmp_ge (tgt := 29) d_Wo_reserve_16 rfl hi_l2 hi_l1 (fun c3 => ?_) (fun c3 => ?_)
    · exact hE0 (Or.inr c3)
    · exact hE1 (fun z34 => Or.elim z34 c4 c3)
theorem d_Wo_add_0 : decode y_Wo_add.2.1 0 = .ok (.aload_n 0, 1) := dc9_42 (by decide +kernel)
theorem d_Wo_add_1 : decode y_Wo_add.2.1 1 = .ok (.getfield 15, 3) := dc9_180 (by decide +kernel)
theorem d_Wo_add_4 : decode y_Wo_add.2.1 4 = .ok (.aload_n 0, 1) := dc9_42 (by decide +kernel)
theorem d_Wo_add_5 : decode y_Wo_add.2.1 5 = .ok (.getfield 29, 3) := dc9_180 (by decide +kernel)
theorem d_Wo_add_8 : decode y_Wo_add.2.1 8 = .ok (.iload_n 1, 1) := dc9_27 (by decide +kernel)
theorem d_Wo_add_9 : decode y_Wo_add.2.1 9 = .ok (.iastore, 1) := dc9_79 (by decide +kernel)
theorem d_Wo_add_10 : decode y_Wo_add.2.1 10 = .ok (.aload_n 0, 1) := dc9_42 (by decide +kernel)
theorem d_Wo_add_11 : decode y_Wo_add.2.1 11 = .ok (.getfield 19, 3) := dc9_180 (by decide +kernel)
theorem d_Wo_add_14 : decode y_Wo_add.2.1 14 = .ok (.aload_n 0, 1) := dc9_42 (by decide +kernel)
theorem d_Wo_add_15 : decode y_Wo_add.2.1 15 = .ok (.getfield 29, 3) := dc9_180 (by decide +kernel)
theorem d_Wo_add_18 : decode y_Wo_add.2.1 18 = .ok (.iload_n 2, 1) := dc9_28 (by decide +kernel)
theorem d_Wo_add_19 : decode y_Wo_add.2.1 19 = .ok (.iastore, 1) := dc9_79 (by decide +kernel)
theorem d_Wo_add_20 : decode y_Wo_add.2.1 20 = .ok (.aload_n 0, 1) := dc9_42 (by decide +kernel)
theorem d_Wo_add_21 : decode y_Wo_add.2.1 21 = .ok (.getfield 22, 3) := dc9_180 (by decide +kernel)
theorem d_Wo_add_24 : decode y_Wo_add.2.1 24 = .ok (.aload_n 0, 1) := dc9_42 (by decide +kernel)
theorem d_Wo_add_25 : decode y_Wo_add.2.1 25 = .ok (.getfield 29, 3) := dc9_180 (by decide +kernel)
theorem d_Wo_add_28 : decode y_Wo_add.2.1 28 = .ok (.iload_n 3, 1) := dc9_29 (by decide +kernel)
theorem d_Wo_add_29 : decode y_Wo_add.2.1 29 = .ok (.iastore, 1) := dc9_79 (by decide +kernel)
theorem d_Wo_add_30 : decode y_Wo_add.2.1 30 = .ok (.aload_n 0, 1) := dc9_42 (by decide +kernel)
theorem d_Wo_add_31 : decode y_Wo_add.2.1 31 = .ok (.dup, 1) := dc9_89 (by decide +kernel)
theorem d_Wo_add_32 : decode y_Wo_add.2.1 32 = .ok (.getfield 29, 3) := dc9_180 (by decide +kernel)
theorem d_Wo_add_35 : decode y_Wo_add.2.1 35 = .ok (.iconst 1, 1) := dc9_4 (by decide +kernel)
theorem d_Wo_add_36 : decode y_Wo_add.2.1 36 = .ok (.iadd, 1) := dc9_96 (by decide +kernel)
theorem d_Wo_add_37 : decode y_Wo_add.2.1 37 = .ok (.putfield 29, 3) := dc9_181 (by decide +kernel)
theorem d_Wo_add_40 : decode y_Wo_add.2.1 40 = .ok (.return_, 1) := dc9_177 (by decide +kernel)
theorem k_Wo_add {G : mG} {d : Nat} {a0 : Nat} {l1 : Int} {l2 : Int} {l3 : Int} {M : mM} {Q : mM → Prop} (hO : mOk M) (hi_l1 : i32 l1) (hi_l2 : i32 l2) (hi_l3 : i32 l3)
    (h : mK M a0 = 2 ∧ mK M (mR M a0 3) = 30 ∧ ((0 : Int) ≤ mI M a0 2 ∧ mI M a0 2 < (mN M (mR M a0 3) : Int)) ∧ ∀ M4, M4 = mUI M (mR M a0 3) (Int.toNat (mI M a0 2)) l1 → mK M4 (mR M4 a0 4) = 30 ∧ ((0 : Int) ≤ mI M4 a0 2 ∧ mI M4 a0 2 < (mN M4 (mR M4 a0 4) : Int)) ∧ ∀ M8, M8 = mUI M4 (mR M4 a0 4) (Int.toNat (mI M4 a0 2)) l2 → mK M8 (mR M8 a0 5) = 30 ∧ ((0 : Int) ≤ mI M8 a0 2 ∧ mI M8 a0 2 < (mN M8 (mR M8 a0 5) : Int)) ∧ ∀ M12, M12 = mUI M8 (mR M8 a0 5) (Int.toNat (mI M8 a0 2)) l3 → i32 ((mI M12 a0 2) + 1) ∧ ∀ M15, M15 = mUI M12 a0 2 ((mI M12 a0 2) + 1) → Q M15) :
    Cv G y_Wo_add d [vr a0, vi l1, vi l2, vi l3] M Q := by
  refine wm_open (y := y_Wo_add) rfl (Nat.le_of_ble_eq_true rfl) (L := [vr a0, vi l1, vi l2, vi l3]) rfl ?_
  obtain ⟨h1, h⟩ := h
  obtain ⟨h2, h⟩ := h
  obtain ⟨h3, h⟩ := h
  obtain ⟨M4, e5⟩ : ∃ M4, M4 = mUI M (mR M a0 3) (Int.toNat (mI M a0 2)) l1 := ⟨_, rfl⟩
  replace h := h M4 e5
  obtain ⟨h6, h⟩ := h
  obtain ⟨h7, h⟩ := h
  obtain ⟨M8, e9⟩ : ∃ M8, M8 = mUI M4 (mR M4 a0 4) (Int.toNat (mI M4 a0 2)) l2 := ⟨_, rfl⟩
  replace h := h M8 e9
  obtain ⟨h10, h⟩ := h
  obtain ⟨h11, h⟩ := h
  obtain ⟨M12, e13⟩ : ∃ M12, M12 = mUI M8 (mR M8 a0 5) (Int.toNat (mI M8 a0 2)) l3 := ⟨_, rfl⟩
  replace h := h M12 e13
  obtain ⟨h14, h⟩ := h
  obtain ⟨M15, e16⟩ : ∃ M15, M15 = mUI M12 a0 2 ((mI M12 a0 2) + 1) := ⟨_, rfl⟩
  replace h := h M15 e16
  refine wm_aload_n d_Wo_add_0 rfl rfl ?_
  refine gf_Wo_15 rfl d_Wo_add_1 h1 ?_
  refine wm_aload_n d_Wo_add_4 rfl rfl ?_
  refine gf_Wo_29 rfl d_Wo_add_5 h1 ?_
  refine wm_iload_n d_Wo_add_8 rfl rfl ?_
  have hOM4 : mOk M4 := by rw [e5]; exact mOk_UI hO hi_l1
  refine wm_iastE d_Wo_add_9 h2 h3 hi_l1 e5 ?_
  refine wm_aload_n d_Wo_add_10 rfl rfl ?_
  refine gf_Wo_19 rfl d_Wo_add_11 (by rw [e5]; exact h1) ?_
  refine wm_aload_n d_Wo_add_14 rfl rfl ?_
  refine gf_Wo_29 rfl d_Wo_add_15 (by rw [e5]; exact h1) ?_
  refine wm_iload_n d_Wo_add_18 rfl rfl ?_
  have hOM8 : mOk M8 := by rw [e9]; exact mOk_UI hOM4 hi_l2
  refine wm_iastE d_Wo_add_19 h6 h7 hi_l2 e9 ?_
  refine wm_aload_n d_Wo_add_20 rfl rfl ?_
  refine gf_Wo_22 rfl d_Wo_add_21 (by rw [e9, e5]; exact h1) ?_
  refine wm_aload_n d_Wo_add_24 rfl rfl ?_
  refine gf_Wo_29 rfl d_Wo_add_25 (by rw [e9, e5]; exact h1) ?_
  refine wm_iload_n d_Wo_add_28 rfl rfl ?_
  have hOM12 : mOk M12 := by rw [e13]; exact mOk_UI hOM8 hi_l3
  refine wm_iastE d_Wo_add_29 h10 h11 hi_l3 e13 ?_
  refine wm_aload_n d_Wo_add_30 rfl rfl ?_
  refine wm_dup d_Wo_add_31 rfl ?_
  refine gf_Wo_29 rfl d_Wo_add_32 (by rw [e13, e9, e5]; exact h1) ?_
  refine wm_iconst d_Wo_add_35 ?_
  refine wm_iadd d_Wo_add_36 ?_
  have hOM15 : mOk M15 := by rw [e16]; exact mOk_UI hOM12 h14
  refine pf_Wo_29 rfl d_Wo_add_37 (by rw [e13, e9, e5]; exact h1) h14 e16 ?_
  refine wm_return d_Wo_add_40 rfl ?_
  exact ⟨rfl, h⟩
theorem d_Wo_afterBlanks_0 : decode y_Wo_afterBlanks.2.1 0 = .ok (.iconst 0, 1) := dc9_3 (by decide +kernel)
theorem d_Wo_afterBlanks_1 : decode y_Wo_afterBlanks.2.1 1 = .ok (.istore_n 2, 1) := dc9_61 (by decide +kernel)
theorem d_Wo_afterBlanks_2 : decode y_Wo_afterBlanks.2.1 2 = .ok (.iload_n 1, 1) := dc9_27 (by decide +kernel)
theorem d_Wo_afterBlanks_3 : decode y_Wo_afterBlanks.2.1 3 = .ok (.istore_n 3, 1) := dc9_62 (by decide +kernel)
theorem d_Wo_afterBlanks_4 : decode y_Wo_afterBlanks.2.1 4 = .ok (.iload_n 3, 1) := dc9_29 (by decide +kernel)
theorem d_Wo_afterBlanks_5 : decode y_Wo_afterBlanks.2.1 5 = .ok (.aload_n 0, 1) := dc9_42 (by decide +kernel)
theorem d_Wo_afterBlanks_6 : decode y_Wo_afterBlanks.2.1 6 = .ok (.getfield 25, 3) := dc9_180 (by decide +kernel)
theorem d_Wo_afterBlanks_9 : decode y_Wo_afterBlanks.2.1 9 = .ok (.if_icmp .ge 75, 3) := dc9_162 (by decide +kernel)
theorem d_Wo_afterBlanks_84 : decode y_Wo_afterBlanks.2.1 84 = .ok (.aload_n 0, 1) := dc9_42 (by decide +kernel)
theorem d_Wo_afterBlanks_85 : decode y_Wo_afterBlanks.2.1 85 = .ok (.getfield 25, 3) := dc9_180 (by decide +kernel)
theorem d_Wo_afterBlanks_88 : decode y_Wo_afterBlanks.2.1 88 = .ok (.ireturn, 1) := dc9_172 (by decide +kernel)
theorem d_Wo_afterBlanks_12 : decode y_Wo_afterBlanks.2.1 12 = .ok (.aload_n 0, 1) := dc9_42 (by decide +kernel)
theorem d_Wo_afterBlanks_13 : decode y_Wo_afterBlanks.2.1 13 = .ok (.getfield 9, 3) := dc9_180 (by decide +kernel)
theorem d_Wo_afterBlanks_16 : decode y_Wo_afterBlanks.2.1 16 = .ok (.iload_n 3, 1) := dc9_29 (by decide +kernel)
theorem d_Wo_afterBlanks_17 : decode y_Wo_afterBlanks.2.1 17 = .ok (.caload, 1) := dc9_52 (by decide +kernel)
theorem d_Wo_afterBlanks_18 : decode y_Wo_afterBlanks.2.1 18 = .ok (.istore 4, 2) := dc9_54 (by decide +kernel)
theorem d_Wo_afterBlanks_20 : decode y_Wo_afterBlanks.2.1 20 = .ok (.iload 4, 2) := dc9_21 (by decide +kernel)
theorem d_Wo_afterBlanks_22 : decode y_Wo_afterBlanks.2.1 22 = .ok (.bipush 35, 2) := dc9_16 (by decide +kernel)
theorem d_Wo_afterBlanks_24 : decode y_Wo_afterBlanks.2.1 24 = .ok (.if_icmp .eq 14, 3) := dc9_159 (by decide +kernel)
theorem d_Wo_afterBlanks_38 : decode y_Wo_afterBlanks.2.1 38 = .ok (.iconst 1, 1) := dc9_4 (by decide +kernel)
theorem d_Wo_afterBlanks_39 : decode y_Wo_afterBlanks.2.1 39 = .ok (.goto 4, 3) := dc9_167 (by decide +kernel)
theorem d_Wo_afterBlanks_27 : decode y_Wo_afterBlanks.2.1 27 = .ok (.iload_n 2, 1) := dc9_28 (by decide +kernel)
theorem d_Wo_afterBlanks_28 : decode y_Wo_afterBlanks.2.1 28 = .ok (.ifCond .eq 14, 3) := dc9_153 (by decide +kernel)
theorem d_Wo_afterBlanks_42 : decode y_Wo_afterBlanks.2.1 42 = .ok (.iconst 0, 1) := dc9_3 (by decide +kernel)
theorem d_Wo_afterBlanks_31 : decode y_Wo_afterBlanks.2.1 31 = .ok (.iload 4, 2) := dc9_21 (by decide +kernel)
theorem d_Wo_afterBlanks_33 : decode y_Wo_afterBlanks.2.1 33 = .ok (.bipush 10, 2) := dc9_16 (by decide +kernel)
theorem d_Wo_afterBlanks_35 : decode y_Wo_afterBlanks.2.1 35 = .ok (.if_icmp .eq 7, 3) := dc9_159 (by decide +kernel)
theorem d_Wo_afterBlanks_43 : decode y_Wo_afterBlanks.2.1 43 = .ok (.istore_n 2, 1) := dc9_61 (by decide +kernel)
theorem d_Wo_afterBlanks_44 : decode y_Wo_afterBlanks.2.1 44 = .ok (.iload_n 2, 1) := dc9_28 (by decide +kernel)
theorem d_Wo_afterBlanks_45 : decode y_Wo_afterBlanks.2.1 45 = .ok (.ifCond .ne 33, 3) := dc9_154 (by decide +kernel)
theorem d_Wo_afterBlanks_48 : decode y_Wo_afterBlanks.2.1 48 = .ok (.iload 4, 2) := dc9_21 (by decide +kernel)
theorem d_Wo_afterBlanks_50 : decode y_Wo_afterBlanks.2.1 50 = .ok (.bipush 9, 2) := dc9_16 (by decide +kernel)
theorem d_Wo_afterBlanks_52 : decode y_Wo_afterBlanks.2.1 52 = .ok (.if_icmp .eq 26, 3) := dc9_159 (by decide +kernel)
theorem d_Wo_afterBlanks_55 : decode y_Wo_afterBlanks.2.1 55 = .ok (.iload 4, 2) := dc9_21 (by decide +kernel)
theorem d_Wo_afterBlanks_57 : decode y_Wo_afterBlanks.2.1 57 = .ok (.bipush 10, 2) := dc9_16 (by decide +kernel)
theorem d_Wo_afterBlanks_59 : decode y_Wo_afterBlanks.2.1 59 = .ok (.if_icmp .eq 19, 3) := dc9_159 (by decide +kernel)
theorem d_Wo_afterBlanks_62 : decode y_Wo_afterBlanks.2.1 62 = .ok (.iload 4, 2) := dc9_21 (by decide +kernel)
theorem d_Wo_afterBlanks_64 : decode y_Wo_afterBlanks.2.1 64 = .ok (.bipush 13, 2) := dc9_16 (by decide +kernel)
theorem d_Wo_afterBlanks_66 : decode y_Wo_afterBlanks.2.1 66 = .ok (.if_icmp .eq 12, 3) := dc9_159 (by decide +kernel)
theorem d_Wo_afterBlanks_69 : decode y_Wo_afterBlanks.2.1 69 = .ok (.iload 4, 2) := dc9_21 (by decide +kernel)
theorem d_Wo_afterBlanks_71 : decode y_Wo_afterBlanks.2.1 71 = .ok (.bipush 32, 2) := dc9_16 (by decide +kernel)
theorem d_Wo_afterBlanks_73 : decode y_Wo_afterBlanks.2.1 73 = .ok (.if_icmp .eq 5, 3) := dc9_159 (by decide +kernel)
theorem d_Wo_afterBlanks_76 : decode y_Wo_afterBlanks.2.1 76 = .ok (.iload_n 3, 1) := dc9_29 (by decide +kernel)
theorem d_Wo_afterBlanks_77 : decode y_Wo_afterBlanks.2.1 77 = .ok (.ireturn, 1) := dc9_172 (by decide +kernel)
theorem d_Wo_afterBlanks_78 : decode y_Wo_afterBlanks.2.1 78 = .ok (.iinc 3 1, 3) := by decide +kernel
theorem d_Wo_afterBlanks_81 : decode y_Wo_afterBlanks.2.1 81 = .ok (.goto (-77), 3) := dc9_167 (by decide +kernel)
def h_Wo_afterBlanks_4 (G : mG) (d : Nat) (a0 : Nat) (l2 : Int) (l3 : Int) (M : mM) (Q : Int → mM → Prop) : Prop := mWm G y_Wo_afterBlanks d 4 [vr a0, vd, vi l2, vi l3, vd] [] M (fun r9 M9 => ∃ x9, r9 = some (vi x9) ∧ Q x9 M9)
theorem k_Wo_afterBlanks {G : mG} {d : Nat} {a0 : Nat} {l1 : Int} {M : mM} {Q : Int → mM → Prop} (hO : mOk M) (hi_l1 : i32 l1)
    (h : h_Wo_afterBlanks_4 G d a0 0 l1 M Q) :
    Ci G y_Wo_afterBlanks d [vr a0, vi l1] M Q := by
  refine wm_open (y := y_Wo_afterBlanks) rfl (Nat.le_of_ble_eq_true rfl) (L := [vr a0, vi l1, vd, vd, vd]) rfl ?_
  refine wm_iconst d_Wo_afterBlanks_0 ?_
  refine wm_istore_n d_Wo_afterBlanks_1 rfl (by decide) (L' := [vr a0, vi l1, vi 0, vd, vd]) rfl ?_
  refine wm_iload_n d_Wo_afterBlanks_2 rfl rfl ?_
  refine wm_istore_n d_Wo_afterBlanks_3 rfl (by decide) (L' := [vr a0, vi l1, vi 0, vi l1, vd]) rfl ?_
  refine wm_less (L' := [vr a0, vd, vi 0, vi l1, vd]) ⟨Or.inr rfl, Or.inl rfl, Or.inr rfl, Or.inr rfl, Or.inl rfl, trivial⟩ ?_
  exact h
theorem k_Wo_afterBlanks_4 {G : mG} {d : Nat} {a0 : Nat} {l2 : Int} {l3 : Int} {M : mM} {Q : Int → mM → Prop} (hO : mOk M) (hi_l2 : i32 l2) (hi_l3 : i32 l3)
    (h : mK M a0 = 2 ∧ ((mI M a0 1 ≤ l3) → (Q (mI M a0 1) M)) ∧ (¬ (mI M a0 1 ≤ l3) → (mK M (mR M a0 0) = 32 ∧ ((0 : Int) ≤ l3 ∧ l3 < (mN M (mR M a0 0) : Int)) ∧ ∀ v11 : Int, v11 = (if ((mI M (mR M a0 0) (Int.toNat l3) = 35) ∨ ((¬ (l2 = 0)) ∧ (¬ (mI M (mR M a0 0) (Int.toNat l3) = 10)))) then 1 else 0) → (((¬ (v11 = 0)) ∨ ((mI M (mR M a0 0) (Int.toNat l3) = 9) ∨ ((mI M (mR M a0 0) (Int.toNat l3) = 10) ∨ ((mI M (mR M a0 0) (Int.toNat l3) = 13) ∨ (mI M (mR M a0 0) (Int.toNat l3) = 32))))) → (h_Wo_afterBlanks_4 G d a0 v11 (l3 + 1) M Q)) ∧ (¬ ((¬ (v11 = 0)) ∨ ((mI M (mR M a0 0) (Int.toNat l3) = 9) ∨ ((mI M (mR M a0 0) (Int.toNat l3) = 10) ∨ ((mI M (mR M a0 0) (Int.toNat l3) = 13) ∨ (mI M (mR M a0 0) (Int.toNat l3) = 32))))) → (Q l3 M))))) :
    h_Wo_afterBlanks_4 G d a0 l2 l3 M Q := by
  unfold h_Wo_afterBlanks_4
  obtain ⟨h1, h⟩ := h
  refine wm_iload_n d_Wo_afterBlanks_4 rfl rfl ?_
  refine wm_aload_n d_Wo_afterBlanks_5 rfl rfl ?_
  refine gf_Wo_25 rfl d_Wo_afterBlanks_6 h1 ?_
  refine wm_icmp_ge (tgt := 84) d_Wo_afterBlanks_9 rfl hi_l3 (hO _ _).1 (fun c5 => ?_) (fun c5 => ?_)
  · replace h := h.1 c5
    refine wm_aload_n d_Wo_afterBlanks_84 rfl rfl ?_
    refine gf_Wo_25 rfl d_Wo_afterBlanks_85 h1 ?_
    refine wm_ireturn d_Wo_afterBlanks_88 rfl rfl ?_
    exact ⟨_, rfl, h⟩
  · replace h := h.2 c5
    obtain ⟨h6, h⟩ := h
    obtain ⟨h7, h⟩ := h
    refine wm_aload_n d_Wo_afterBlanks_12 rfl rfl ?_
    refine gf_Wo_9 rfl d_Wo_afterBlanks_13 h1 ?_
    refine wm_iload_n d_Wo_afterBlanks_16 rfl rfl ?_
    refine wm_cald d_Wo_afterBlanks_17 h6 h7 ?_
    refine wm_istore d_Wo_afterBlanks_18 (by decide) (L' := [vr a0, vd, vi l2, vi l3, vi (mI M (mR M a0 0) (Int.toNat l3))]) rfl ?_
    refine wm_iload d_Wo_afterBlanks_20 rfl ?_
    refine wm_bipush d_Wo_afterBlanks_22 (by decide) ?_
    have hJ : ∀ v11 : Int, v11 = (if ((mI M (mR M a0 0) (Int.toNat l3) = 35) ∨ ((¬ (l2 = 0)) ∧ (¬ (mI M (mR M a0 0) (Int.toNat l3) = 10)))) then 1 else 0) → mWm G y_Wo_afterBlanks d 43 [vr a0, vd, vd, vi l3, vi (mI M (mR M a0 0) (Int.toNat l3))] [vi v11] M (fun r9 M9 => ∃ x9, r9 = some (vi x9) ∧ Q x9 M9) := by
      intro v11 e13
      have h := h v11 e13
      have h14 : i32 v11 := by rw [e13]; (repeat' split) <;> first | exact ⟨by decide, by decide⟩ | exact ⟨by decide, by decide⟩
      have h15 : (v11 = 0 ∨ v11 = 1) := by rw [e13]; (repeat' split) <;> decide
      refine wm_istore_n d_Wo_afterBlanks_43 rfl (by decide) (L' := [vr a0, vd, vi v11, vi l3, vi (mI M (mR M a0 0) (Int.toNat l3))]) rfl ?_
      refine wm_iload_n d_Wo_afterBlanks_44 rfl rfl ?_
      have hE0 : ((¬ (v11 = 0)) ∨ ((mI M (mR M a0 0) (Int.toNat l3) = 9) ∨ ((mI M (mR M a0 0) (Int.toNat l3) = 10) ∨ ((mI M (mR M a0 0) (Int.toNat l3) = 13) ∨ (mI M (mR M a0 0) (Int.toNat l3) = 32))))) → mWm G y_Wo_afterBlanks d 78 [vr a0, vd, vi v11, vi l3, vi (mI M (mR M a0 0) (Int.toNat l3))] [] M (fun r9 M9 => ∃ x9, r9 = some (vi x9) ∧ Q x9 M9) := by
        intro q22
        have h := h.1 q22
        refine wm_iinc d_Wo_afterBlanks_78 (by decide) rfl (L' := [vr a0, vd, vi v11, vi (l3 + 1), vi (mI M (mR M a0 0) (Int.toNat l3))]) rfl ?_
        refine wm_goto (tgt := 4) d_Wo_afterBlanks_81 rfl ?_
        refine wm_less (L' := [vr a0, vd, vi v11, vi (l3 + 1), vd]) ⟨Or.inr rfl, Or.inl rfl, Or.inr rfl, Or.inr rfl, Or.inl rfl, trivial⟩ ?_
        exact h
      have hE1 : ¬ ((¬ (v11 = 0)) ∨ ((mI M (mR M a0 0) (Int.toNat l3) = 9) ∨ ((mI M (mR M a0 0) (Int.toNat l3) = 10) ∨ ((mI M (mR M a0 0) (Int.toNat l3) = 13) ∨ (mI M (mR M a0 0) (Int.toNat l3) = 32))))) → mWm G y_Wo_afterBlanks d 76 [vr a0, vd, vi v11, vi l3, vi (mI M (mR M a0 0) (Int.toNat l3))] [] M (fun r9 M9 => ∃ x9, r9 = some (vi x9) ∧ Q x9 M9) := by
        intro q23
        have h := h.2 q23
        refine wm_iload_n d_Wo_afterBlanks_76 rfl rfl ?_
        refine wm_ireturn d_Wo_afterBlanks_77 rfl rfl ?_
        exact ⟨_, rfl, h⟩
      clear h
      refine wm_if_ne (tgt := 78) d_Wo_afterBlanks_45 rfl h14 (fun c20 => ?_) (fun c20 => ?_)
      · exact hE0 (Or.inl c20)
      · replace c20 := Classical.not_not.mp c20
        refine wm_iload d_Wo_afterBlanks_48 rfl ?_
        refine wm_bipush d_Wo_afterBlanks_50 (by decide) ?_
        refine wm_icmp_eq (tgt := 78) d_Wo_afterBlanks_52 rfl (hO _ _).1 ⟨by decide, by decide⟩ (fun c19 => ?_) (fun c19 => ?_)
        · exact hE0 (Or.inr (Or.inl c19))
        · refine wm_iload d_Wo_afterBlanks_55 rfl ?_
          refine wm_bipush d_Wo_afterBlanks_57 (by decide) ?_
          refine wm_icmp_eq (tgt := 78) d_Wo_afterBlanks_59 rfl (hO _ _).1 ⟨by decide, by decide⟩ (fun c18 => ?_) (fun c18 => ?_)
          · exact hE0 (Or.inr (Or.inr (Or.inl c18)))
          · refine wm_iload d_Wo_afterBlanks_62 rfl ?_
            refine wm_bipush d_Wo_afterBlanks_64 (by decide) ?_
            refine wm_icmp_eq (tgt := 78) d_Wo_afterBlanks_66 rfl (hO _ _).1 ⟨by decide, by decide⟩ (fun c17 => ?_) (fun c17 => ?_)
            · exact hE0 (Or.inr (Or.inr (Or.inr (Or.inl c17))))
            · refine wm_iload d_Wo_afterBlanks_69 rfl ?_
              refine wm_bipush d_Wo_afterBlanks_71 (by decide) ?_
              refine wm_icmp_eq (tgt := 78) d_Wo_afterBlanks_73 rfl (hO _ _).1 ⟨by decide, by decide⟩ (fun c16 => ?_) (fun c16 => ?_)
              · exact hE0 (Or.inr (Or.inr (Or.inr (Or.inr c16))))
              · exact hE1 (fun z24 => Or.elim z24 (fun w => w c20) (fun z25 => Or.elim z25 c19 (fun z26 => Or.elim z26 c18 (fun z27 => Or.elim z27 c17 c16))))
    clear h
    refine wm_icmp_eq (tgt := 38) d_Wo_afterBlanks_24 rfl (hO _ _).1 ⟨by decide, by decide⟩ (fun c8 => ?_) (fun c8 => ?_)
    · refine wm_iconst d_Wo_afterBlanks_38 ?_
      refine wm_goto (tgt := 43) d_Wo_afterBlanks_39 rfl ?_
      refine wm_less (L' := [vr a0, vd, vd, vi l3, vi (mI M (mR M a0 0) (Int.toNat l3))]) ⟨Or.inr rfl, Or.inl rfl, Or.inl rfl, Or.inr rfl, Or.inr rfl, trivial⟩ ?_
      exact hJ 1 (if_pos (Or.inl c8)).symm
    · refine wm_iload_n d_Wo_afterBlanks_27 rfl rfl ?_
      refine wm_if_eq (tgt := 42) d_Wo_afterBlanks_28 rfl hi_l2 (fun c9 => ?_) (fun c9 => ?_)
      · refine wm_iconst d_Wo_afterBlanks_42 ?_
        refine wm_less (L' := [vr a0, vd, vd, vi l3, vi (mI M (mR M a0 0) (Int.toNat l3))]) ⟨Or.inr rfl, Or.inl rfl, Or.inl rfl, Or.inr rfl, Or.inr rfl, trivial⟩ ?_
        exact hJ 0 (if_neg (fun z29 => Or.elim z29 c8 (fun z30 => z30.1 c9))).symm
      · refine wm_iload d_Wo_afterBlanks_31 rfl ?_
        refine wm_bipush d_Wo_afterBlanks_33 (by decide) ?_
        refine wm_icmp_eq (tgt := 42) d_Wo_afterBlanks_35 rfl (hO _ _).1 ⟨by decide, by decide⟩ (fun c10 => ?_) (fun c10 => ?_)
        · refine wm_iconst d_Wo_afterBlanks_42 ?_
          refine wm_less (L' := [vr a0, vd, vd, vi l3, vi (mI M (mR M a0 0) (Int.toNat l3))]) ⟨Or.inr rfl, Or.inl rfl, Or.inl rfl, Or.inr rfl, Or.inr rfl, trivial⟩ ?_
          exact hJ 0 (if_neg (fun z31 => Or.elim z31 c8 (fun z32 => (fun z33 => z33 c10) z32.2))).symm
        · refine wm_iconst d_Wo_afterBlanks_38 ?_
          refine wm_goto (tgt := 43) d_Wo_afterBlanks_39 rfl ?_
          refine wm_less (L' := [vr a0, vd, vd, vi l3, vi (mI M (mR M a0 0) (Int.toNat l3))]) ⟨Or.inr rfl, Or.inl rfl, Or.inl rfl, Or.inr rfl, Or.inr rfl, trivial⟩ ?_
          exact hJ 1 (if_pos (Or.inr ⟨c9, c10⟩)).symm
theorem d_Wo_takeWord_0 : decode y_Wo_takeWord.2.1 0 = .ok (.aload_n 0, 1) := dc9_42 (by decide +kernel)
theorem d_Wo_takeWord_1 : decode y_Wo_takeWord.2.1 1 = .ok (.getfield 9, 3) := dc9_180 (by decide +kernel)
theorem d_Wo_takeWord_4 : decode y_Wo_takeWord.2.1 4 = .ok (.iload_n 1, 1) := dc9_27 (by decide +kernel)
theorem d_Wo_takeWord_5 : decode y_Wo_takeWord.2.1 5 = .ok (.caload, 1) := dc9_52 (by decide +kernel)
theorem d_Wo_takeWord_6 : decode y_Wo_takeWord.2.1 6 = .ok (.istore_n 2, 1) := dc9_61 (by decide +kernel)
theorem d_Wo_takeWord_7 : decode y_Wo_takeWord.2.1 7 = .ok (.iload_n 2, 1) := dc9_28 (by decide +kernel)
theorem d_Wo_takeWord_8 : decode y_Wo_takeWord.2.1 8 = .ok (.invokestatic 47, 3) := dc9_184 (by decide +kernel)
theorem d_Wo_takeWord_11 : decode y_Wo_takeWord.2.1 11 = .ok (.ifCond .eq 9, 3) := dc9_153 (by decide +kernel)
theorem d_Wo_takeWord_20 : decode y_Wo_takeWord.2.1 20 = .ok (.iload_n 2, 1) := dc9_28 (by decide +kernel)
theorem d_Wo_takeWord_14 : decode y_Wo_takeWord.2.1 14 = .ok (.aload_n 0, 1) := dc9_42 (by decide +kernel)
theorem d_Wo_takeWord_15 : decode y_Wo_takeWord.2.1 15 = .ok (.iload_n 1, 1) := dc9_27 (by decide +kernel)
theorem d_Wo_takeWord_21 : decode y_Wo_takeWord.2.1 21 = .ok (.invokestatic 54, 3) := dc9_184 (by decide +kernel)
theorem d_Wo_takeWord_24 : decode y_Wo_takeWord.2.1 24 = .ok (.ifCond .eq 9, 3) := dc9_153 (by decide +kernel)
theorem d_Wo_takeWord_33 : decode y_Wo_takeWord.2.1 33 = .ok (.iload_n 1, 1) := dc9_27 (by decide +kernel)
theorem d_Wo_takeWord_34 : decode y_Wo_takeWord.2.1 34 = .ok (.iconst 1, 1) := dc9_4 (by decide +kernel)
theorem d_Wo_takeWord_35 : decode y_Wo_takeWord.2.1 35 = .ok (.iadd, 1) := dc9_96 (by decide +kernel)
theorem d_Wo_takeWord_36 : decode y_Wo_takeWord.2.1 36 = .ok (.aload_n 0, 1) := dc9_42 (by decide +kernel)
theorem d_Wo_takeWord_37 : decode y_Wo_takeWord.2.1 37 = .ok (.getfield 25, 3) := dc9_180 (by decide +kernel)
theorem d_Wo_takeWord_27 : decode y_Wo_takeWord.2.1 27 = .ok (.aload_n 0, 1) := dc9_42 (by decide +kernel)
theorem d_Wo_takeWord_28 : decode y_Wo_takeWord.2.1 28 = .ok (.iload_n 1, 1) := dc9_27 (by decide +kernel)
theorem d_Wo_takeWord_40 : decode y_Wo_takeWord.2.1 40 = .ok (.if_icmp .ge 14, 3) := dc9_162 (by decide +kernel)
theorem d_Wo_takeWord_54 : decode y_Wo_takeWord.2.1 54 = .ok (.bipush 32, 2) := dc9_16 (by decide +kernel)
theorem d_Wo_takeWord_56 : decode y_Wo_takeWord.2.1 56 = .ok (.istore_n 3, 1) := dc9_62 (by decide +kernel)
theorem d_Wo_takeWord_57 : decode y_Wo_takeWord.2.1 57 = .ok (.iload_n 2, 1) := dc9_28 (by decide +kernel)
theorem d_Wo_takeWord_58 : decode y_Wo_takeWord.2.1 58 = .ok (.iload_n 3, 1) := dc9_29 (by decide +kernel)
theorem d_Wo_takeWord_43 : decode y_Wo_takeWord.2.1 43 = .ok (.aload_n 0, 1) := dc9_42 (by decide +kernel)
theorem d_Wo_takeWord_44 : decode y_Wo_takeWord.2.1 44 = .ok (.getfield 9, 3) := dc9_180 (by decide +kernel)
theorem d_Wo_takeWord_47 : decode y_Wo_takeWord.2.1 47 = .ok (.iload_n 1, 1) := dc9_27 (by decide +kernel)
theorem d_Wo_takeWord_48 : decode y_Wo_takeWord.2.1 48 = .ok (.iconst 1, 1) := dc9_4 (by decide +kernel)
theorem d_Wo_takeWord_49 : decode y_Wo_takeWord.2.1 49 = .ok (.iadd, 1) := dc9_96 (by decide +kernel)
theorem d_Wo_takeWord_50 : decode y_Wo_takeWord.2.1 50 = .ok (.caload, 1) := dc9_52 (by decide +kernel)
theorem d_Wo_takeWord_51 : decode y_Wo_takeWord.2.1 51 = .ok (.goto 5, 3) := dc9_167 (by decide +kernel)
theorem d_Wo_takeWord_59 : decode y_Wo_takeWord.2.1 59 = .ok (.invokestatic 60, 3) := dc9_184 (by decide +kernel)
theorem d_Wo_takeWord_62 : decode y_Wo_takeWord.2.1 62 = .ok (.istore 4, 2) := dc9_54 (by decide +kernel)
theorem d_Wo_takeWord_64 : decode y_Wo_takeWord.2.1 64 = .ok (.iload_n 1, 1) := dc9_27 (by decide +kernel)
theorem d_Wo_takeWord_65 : decode y_Wo_takeWord.2.1 65 = .ok (.iconst 2, 1) := dc9_5 (by decide +kernel)
theorem d_Wo_takeWord_66 : decode y_Wo_takeWord.2.1 66 = .ok (.iadd, 1) := dc9_96 (by decide +kernel)
theorem d_Wo_takeWord_67 : decode y_Wo_takeWord.2.1 67 = .ok (.istore 5, 2) := dc9_54 (by decide +kernel)
theorem d_Wo_takeWord_69 : decode y_Wo_takeWord.2.1 69 = .ok (.iload 4, 2) := dc9_21 (by decide +kernel)
theorem d_Wo_takeWord_71 : decode y_Wo_takeWord.2.1 71 = .ok (.iconst 1, 1) := dc9_4 (by decide +kernel)
theorem d_Wo_takeWord_72 : decode y_Wo_takeWord.2.1 72 = .ok (.if_icmp .ne 14, 3) := dc9_160 (by decide +kernel)
theorem d_Wo_takeWord_75 : decode y_Wo_takeWord.2.1 75 = .ok (.iload_n 2, 1) := dc9_28 (by decide +kernel)
theorem d_Wo_takeWord_76 : decode y_Wo_takeWord.2.1 76 = .ok (.invokestatic 64, 3) := dc9_184 (by decide +kernel)
theorem d_Wo_takeWord_79 : decode y_Wo_takeWord.2.1 79 = .ok (.istore 4, 2) := dc9_54 (by decide +kernel)
theorem d_Wo_takeWord_81 : decode y_Wo_takeWord.2.1 81 = .ok (.iload_n 1, 1) := dc9_27 (by decide +kernel)
theorem d_Wo_takeWord_82 : decode y_Wo_takeWord.2.1 82 = .ok (.iconst 1, 1) := dc9_4 (by decide +kernel)
theorem d_Wo_takeWord_83 : decode y_Wo_takeWord.2.1 83 = .ok (.iadd, 1) := dc9_96 (by decide +kernel)
theorem d_Wo_takeWord_84 : decode y_Wo_takeWord.2.1 84 = .ok (.istore 5, 2) := dc9_54 (by decide +kernel)
theorem d_Wo_takeWord_29 : decode y_Wo_takeWord.2.1 29 = .ok (.invokevirtual 57, 3) := dc9_182 (by decide +kernel)
theorem d_Wo_takeWord_32 : decode y_Wo_takeWord.2.1 32 = .ok (.ireturn, 1) := dc9_172 (by decide +kernel)
theorem d_Wo_takeWord_16 : decode y_Wo_takeWord.2.1 16 = .ok (.invokevirtual 51, 3) := dc9_182 (by decide +kernel)
theorem d_Wo_takeWord_19 : decode y_Wo_takeWord.2.1 19 = .ok (.ireturn, 1) := dc9_172 (by decide +kernel)
theorem d_Wo_takeWord_86 : decode y_Wo_takeWord.2.1 86 = .ok (.aload_n 0, 1) := dc9_42 (by decide +kernel)
theorem d_Wo_takeWord_87 : decode y_Wo_takeWord.2.1 87 = .ok (.iload 4, 2) := dc9_21 (by decide +kernel)
theorem d_Wo_takeWord_89 : decode y_Wo_takeWord.2.1 89 = .ok (.iload_n 1, 1) := dc9_27 (by decide +kernel)
theorem d_Wo_takeWord_90 : decode y_Wo_takeWord.2.1 90 = .ok (.iconst 0, 1) := dc9_3 (by decide +kernel)
theorem d_Wo_takeWord_91 : decode y_Wo_takeWord.2.1 91 = .ok (.invokevirtual 43, 3) := dc9_182 (by decide +kernel)
theorem d_Wo_takeWord_94 : decode y_Wo_takeWord.2.1 94 = .ok (.iload 4, 2) := dc9_21 (by decide +kernel)
theorem d_Wo_takeWord_96 : decode y_Wo_takeWord.2.1 96 = .ok (.iconst 1, 1) := dc9_4 (by decide +kernel)
theorem d_Wo_takeWord_97 : decode y_Wo_takeWord.2.1 97 = .ok (.if_icmp .ne 10, 3) := dc9_160 (by decide +kernel)
theorem d_Wo_takeWord_100 : decode y_Wo_takeWord.2.1 100 = .ok (.aload_n 0, 1) := dc9_42 (by decide +kernel)
theorem d_Wo_takeWord_101 : decode y_Wo_takeWord.2.1 101 = .ok (.getfield 25, 3) := dc9_180 (by decide +kernel)
theorem d_Wo_takeWord_104 : decode y_Wo_takeWord.2.1 104 = .ok (.goto 5, 3) := dc9_167 (by decide +kernel)
theorem d_Wo_takeWord_107 : decode y_Wo_takeWord.2.1 107 = .ok (.iload 5, 2) := dc9_21 (by decide +kernel)
theorem d_Wo_takeWord_109 : decode y_Wo_takeWord.2.1 109 = .ok (.ireturn, 1) := dc9_172 (by decide +kernel)
def h_Wo_takeWord_86 (G : mG) (d : Nat) (a0 : Nat) (l1 : Int) (l4 : Int) (l5 : Int) (M : mM) (Q : Int → mM → Prop) : Prop := mWm G y_Wo_takeWord (d + 1) 86 [vr a0, vi l1, vd, vd, vi l4, vi l5] [] M (fun r9 M9 => ∃ x9, r9 = some (vi x9) ∧ Q x9 M9)
theorem k_Wo_takeWord {G : mG} {d : Nat} {a0 : Nat} {l1 : Int} {M : mM} {Q : Int → mM → Prop} (hO : mOk M) (hi_l1 : i32 l1)
    (h : mK M a0 = 2 ∧ mK M (mR M a0 0) = 32 ∧ ((0 : Int) ≤ l1 ∧ l1 < (mN M (mR M a0 0) : Int)) ∧ Ci G y_Wo_isLetter d [vi (mI M (mR M a0 0) (Int.toNat l1))] M (fun x5 M4 => i32 x5 ∧ mOk M4 ∧ (((x5 = 0) → (Ci G y_Wo_isDigit d [vi (mI M (mR M a0 0) (Int.toNat l1))] M4 (fun x10 M9 => i32 x10 ∧ mOk M9 ∧ (((x10 = 0) → (mK M9 a0 = 2 ∧ i32 (l1 + 1) ∧ (¬ (mI M9 a0 1 ≤ l1 + 1) → (mK M9 (mR M9 a0 0) = 32 ∧ ((0 : Int) ≤ l1 + 1 ∧ l1 + 1 < (mN M9 (mR M9 a0 0) : Int)))) ∧ ∀ v22 : Int, v22 = (if (mI M9 a0 1 ≤ l1 + 1) then 32 else mI M9 (mR M9 a0 0) (Int.toNat (l1 + 1))) → Ci G y_Wo_longSign d [vi (mI M (mR M a0 0) (Int.toNat l1)), vi v22] M9 (fun x26 M25 => i32 x26 ∧ mOk M25 ∧ (((x26 = 1) → (Ci G y_Wo_shortSign d [vi (mI M (mR M a0 0) (Int.toNat l1))] M25 (fun x31 M30 => i32 x31 ∧ mOk M30 ∧ (h_Wo_takeWord_86 G d a0 l1 x31 (l1 + 1) M30 Q)))) ∧ (¬ (x26 = 1) → (h_Wo_takeWord_86 G d a0 l1 x26 (l1 + 2) M25 Q)))))) ∧ (¬ (x10 = 0) → (mK M9 a0 = 2 ∧ Ci G y_Wo_takeNumber d [vr a0, vi l1] M9 (fun x37 M36 => i32 x37 ∧ mOk M36 ∧ (Q x37 M36)))))))) ∧ (¬ (x5 = 0) → (mK M4 a0 = 2 ∧ Ci G y_Wo_takeName d [vr a0, vi l1] M4 (fun x41 M40 => i32 x41 ∧ mOk M40 ∧ (Q x41 M40))))))) :
    Ci G y_Wo_takeWord (d + 1) [vr a0, vi l1] M Q := by
  refine wm_open (y := y_Wo_takeWord) rfl (Nat.le_of_ble_eq_true rfl) (L := [vr a0, vi l1, vd, vd, vd, vd]) rfl ?_
  obtain ⟨h1, h⟩ := h
  obtain ⟨h2, h⟩ := h
  obtain ⟨h3, h⟩ := h
  refine wm_aload_n d_Wo_takeWord_0 rfl rfl ?_
  refine gf_Wo_9 rfl d_Wo_takeWord_1 h1 ?_
  refine wm_iload_n d_Wo_takeWord_4 rfl rfl ?_
  refine wm_cald d_Wo_takeWord_5 h2 h3 ?_
  refine wm_istore_n d_Wo_takeWord_6 rfl (by decide) (L' := [vr a0, vi l1, vi (mI M (mR M a0 0) (Int.toNat l1)), vd, vd, vd]) rfl ?_
  refine wm_iload_n d_Wo_takeWord_7 rfl rfl ?_
  refine cf_Wo_47 rfl d_Wo_takeWord_8 (Nat.le_of_ble_eq_true rfl) (Ci.mono h (fun x5 M4 h => ?_))
  obtain ⟨h6, hOM4, h⟩ := h
  refine wm_if_eq (tgt := 20) d_Wo_takeWord_11 rfl h6 (fun c8 => ?_) (fun c8 => ?_)
  · replace h := h.1 c8
    refine wm_iload_n d_Wo_takeWord_20 rfl rfl ?_
    refine cf_Wo_54 rfl d_Wo_takeWord_21 (Nat.le_of_ble_eq_true rfl) (Ci.mono h (fun x10 M9 h => ?_))
    obtain ⟨h11, hOM9, h⟩ := h
    refine wm_if_eq (tgt := 33) d_Wo_takeWord_24 rfl h11 (fun c16 => ?_) (fun c16 => ?_)
    · replace h := h.1 c16
      obtain ⟨h17, h⟩ := h
      obtain ⟨h18, h⟩ := h
      refine wm_iload_n d_Wo_takeWord_33 rfl rfl ?_
      refine wm_iconst d_Wo_takeWord_34 ?_
      refine wm_iadd d_Wo_takeWord_35 ?_
      refine wm_aload_n d_Wo_takeWord_36 rfl rfl ?_
      refine gf_Wo_25 rfl d_Wo_takeWord_37 h17 ?_
      obtain ⟨s23, h⟩ := h
      have hJ : ∀ v22 : Int, v22 = (if (mI M9 a0 1 ≤ l1 + 1) then 32 else mI M9 (mR M9 a0 0) (Int.toNat (l1 + 1))) → mWm G y_Wo_takeWord (d + 1) 56 [vr a0, vi l1, vi (mI M (mR M a0 0) (Int.toNat l1)), vd, vd, vd] [vi v22] M9 (fun r9 M9 => ∃ x9, r9 = some (vi x9) ∧ Q x9 M9) := by
        intro v22 e24
        have h := h v22 e24
        refine wm_istore_n d_Wo_takeWord_56 rfl (by decide) (L' := [vr a0, vi l1, vi (mI M (mR M a0 0) (Int.toNat l1)), vi v22, vd, vd]) rfl ?_
        refine wm_iload_n d_Wo_takeWord_57 rfl rfl ?_
        refine wm_iload_n d_Wo_takeWord_58 rfl rfl ?_
        refine cf_Wo_60 rfl d_Wo_takeWord_59 (Nat.le_of_ble_eq_true rfl) (Ci.mono h (fun x26 M25 h => ?_))
        obtain ⟨h27, hOM25, h⟩ := h
        refine wm_istore d_Wo_takeWord_62 (by decide) (L' := [vr a0, vi l1, vi (mI M (mR M a0 0) (Int.toNat l1)), vi v22, vi x26, vd]) rfl ?_
        refine wm_iload_n d_Wo_takeWord_64 rfl rfl ?_
        refine wm_iconst d_Wo_takeWord_65 ?_
        refine wm_iadd d_Wo_takeWord_66 ?_
        refine wm_istore d_Wo_takeWord_67 (by decide) (L' := [vr a0, vi l1, vi (mI M (mR M a0 0) (Int.toNat l1)), vi v22, vi x26, vi (l1 + 2)]) rfl ?_
        refine wm_iload d_Wo_takeWord_69 rfl ?_
        refine wm_iconst d_Wo_takeWord_71 ?_
        refine wm_icmp_ne (tgt := 86) d_Wo_takeWord_72 rfl h27 ⟨by decide, by decide⟩ (fun c29 => ?_) (fun c29 => ?_)
        · replace h := h.2 c29
          refine wm_less (L' := [vr a0, vi l1, vd, vd, vi x26, vi (l1 + 2)]) ⟨Or.inr rfl, Or.inr rfl, Or.inl rfl, Or.inl rfl, Or.inr rfl, Or.inr rfl, trivial⟩ ?_
          exact h
        · replace c29 := Classical.not_not.mp c29
          replace h := h.1 c29
          refine wm_iload_n d_Wo_takeWord_75 rfl rfl ?_
          refine cf_Wo_64 rfl d_Wo_takeWord_76 (Nat.le_of_ble_eq_true rfl) (Ci.mono h (fun x31 M30 h => ?_))
          obtain ⟨h32, hOM30, h⟩ := h
          refine wm_istore d_Wo_takeWord_79 (by decide) (L' := [vr a0, vi l1, vi (mI M (mR M a0 0) (Int.toNat l1)), vi v22, vi x31, vi (l1 + 2)]) rfl ?_
          refine wm_iload_n d_Wo_takeWord_81 rfl rfl ?_
          refine wm_iconst d_Wo_takeWord_82 ?_
          refine wm_iadd d_Wo_takeWord_83 ?_
          refine wm_istore d_Wo_takeWord_84 (by decide) (L' := [vr a0, vi l1, vi (mI M (mR M a0 0) (Int.toNat l1)), vi v22, vi x31, vi (l1 + 1)]) rfl ?_
          refine wm_less (L' := [vr a0, vi l1, vd, vd, vi x31, vi (l1 + 1)]) ⟨Or.inr rfl, Or.inr rfl, Or.inl rfl, Or.inl rfl, Or.inr rfl, Or.inr rfl, trivial⟩ ?_
          exact h
      clear h
      have s33 := s23
      refine wm_icmp_ge (tgt := 54) d_Wo_takeWord_40 rfl h18 (hOM9 _ _).1 (fun c19 => ?_) (fun c19 => ?_)
      · refine wm_bipush d_Wo_takeWord_54 (by decide) ?_
        exact hJ 32 (if_pos c19).symm
      · have s33 := s33 c19
        obtain ⟨h20, h21⟩ := s33
        refine wm_aload_n d_Wo_takeWord_43 rfl rfl ?_
        refine gf_Wo_9 rfl d_Wo_takeWord_44 h17 ?_
        refine wm_iload_n d_Wo_takeWord_47 rfl rfl ?_
        refine wm_iconst d_Wo_takeWord_48 ?_
        refine wm_iadd d_Wo_takeWord_49 ?_
        refine wm_cald d_Wo_takeWord_50 h20 h21 ?_
        refine wm_goto (tgt := 56) d_Wo_takeWord_51 rfl ?_
        exact hJ (mI M9 (mR M9 a0 0) (Int.toNat (l1 + 1))) (if_neg c19).symm
    · replace h := h.2 c16
      obtain ⟨h35, h⟩ := h
      refine wm_aload_n d_Wo_takeWord_27 rfl rfl ?_
      refine wm_iload_n d_Wo_takeWord_28 rfl rfl ?_
      refine cf_Wo_57 rfl d_Wo_takeWord_29 h35 (Nat.le_of_ble_eq_true rfl) (Ci.mono h (fun x37 M36 h => ?_))
      obtain ⟨h38, hOM36, h⟩ := h
      refine wm_ireturn d_Wo_takeWord_32 rfl rfl ?_
      exact ⟨_, rfl, h⟩
  · replace h := h.2 c8
    obtain ⟨h39, h⟩ := h
    refine wm_aload_n d_Wo_takeWord_14 rfl rfl ?_
    refine wm_iload_n d_Wo_takeWord_15 rfl rfl ?_
    refine cf_Wo_51 rfl d_Wo_takeWord_16 h39 (Nat.le_of_ble_eq_true rfl) (Ci.mono h (fun x41 M40 h => ?_))
    obtain ⟨h42, hOM40, h⟩ := h
    refine wm_ireturn d_Wo_takeWord_19 rfl rfl ?_
    exact ⟨_, rfl, h⟩
theorem k_Wo_takeWord_86 {G : mG} {d : Nat} {a0 : Nat} {l1 : Int} {l4 : Int} {l5 : Int} {M : mM} {Q : Int → mM → Prop} (hO : mOk M) (hi_l1 : i32 l1) (hi_l4 : i32 l4) (hi_l5 : i32 l5)
    (h : mK M a0 = 2 ∧ Cv G y_Wo_add d [vr a0, vi l4, vi l1, vi 0] M (fun M44 => mOk M44 ∧ (((l4 = 1) → mK M44 a0 = 2) ∧ ∀ v49 : Int, v49 = (if (l4 = 1) then mI M44 a0 1 else l5) → Q v49 M44))) :
    h_Wo_takeWord_86 G d a0 l1 l4 l5 M Q := by
  unfold h_Wo_takeWord_86
  obtain ⟨h43, h⟩ := h
  refine wm_aload_n d_Wo_takeWord_86 rfl rfl ?_
  refine wm_iload d_Wo_takeWord_87 rfl ?_
  refine wm_iload_n d_Wo_takeWord_89 rfl rfl ?_
  refine wm_iconst d_Wo_takeWord_90 ?_
  refine cf_Wo_43 rfl d_Wo_takeWord_91 h43 (Nat.le_of_ble_eq_true rfl) (Cv.mono h (fun M44 h => ?_))
  obtain ⟨hOM44, h⟩ := h
  refine wm_iload d_Wo_takeWord_94 rfl ?_
  refine wm_iconst d_Wo_takeWord_96 ?_
  obtain ⟨s50, h⟩ := h
  have hJ : ∀ v49 : Int, v49 = (if (l4 = 1) then mI M44 a0 1 else l5) → mWm G y_Wo_takeWord (d + 1) 109 [vd, vd, vd, vd, vd, vd] [vi v49] M44 (fun r9 M9 => ∃ x9, r9 = some (vi x9) ∧ Q x9 M9) := by
    intro v49 e51
    have h := h v49 e51
    refine wm_ireturn d_Wo_takeWord_109 rfl rfl ?_
    exact ⟨_, rfl, h⟩
  clear h
  have s52 := s50
  refine wm_icmp_ne (tgt := 107) d_Wo_takeWord_97 rfl hi_l4 ⟨by decide, by decide⟩ (fun c47 => ?_) (fun c47 => ?_)
  · refine wm_iload d_Wo_takeWord_107 rfl ?_
    refine wm_less (L' := [vd, vd, vd, vd, vd, vd]) ⟨Or.inl rfl, Or.inl rfl, Or.inl rfl, Or.inl rfl, Or.inl rfl, Or.inl rfl, trivial⟩ ?_
    exact hJ l5 (if_neg c47).symm
  · replace c47 := Classical.not_not.mp c47
    have s52 := s52 c47
    have h48 := s52
    refine wm_aload_n d_Wo_takeWord_100 rfl rfl ?_
    refine gf_Wo_25 rfl d_Wo_takeWord_101 h48 ?_
    refine wm_goto (tgt := 109) d_Wo_takeWord_104 rfl ?_
    refine wm_less (L' := [vd, vd, vd, vd, vd, vd]) ⟨Or.inl rfl, Or.inl rfl, Or.inl rfl, Or.inl rfl, Or.inl rfl, Or.inl rfl, trivial⟩ ?_
    exact hJ (mI M44 a0 1) (if_pos c47).symm
theorem d_Wo_takeName_0 : decode y_Wo_takeName.2.1 0 = .ok (.iload_n 1, 1) := dc9_27 (by decide +kernel)
theorem d_Wo_takeName_1 : decode y_Wo_takeName.2.1 1 = .ok (.iconst 1, 1) := dc9_4 (by decide +kernel)
theorem d_Wo_takeName_2 : decode y_Wo_takeName.2.1 2 = .ok (.iadd, 1) := dc9_96 (by decide +kernel)
theorem d_Wo_takeName_3 : decode y_Wo_takeName.2.1 3 = .ok (.istore_n 2, 1) := dc9_61 (by decide +kernel)
theorem d_Wo_takeName_4 : decode y_Wo_takeName.2.1 4 = .ok (.iload_n 2, 1) := dc9_28 (by decide +kernel)
theorem d_Wo_takeName_5 : decode y_Wo_takeName.2.1 5 = .ok (.aload_n 0, 1) := dc9_42 (by decide +kernel)
theorem d_Wo_takeName_6 : decode y_Wo_takeName.2.1 6 = .ok (.getfield 25, 3) := dc9_180 (by decide +kernel)
theorem d_Wo_takeName_9 : decode y_Wo_takeName.2.1 9 = .ok (.if_icmp .ge 44, 3) := dc9_162 (by decide +kernel)
theorem d_Wo_takeName_12 : decode y_Wo_takeName.2.1 12 = .ok (.aload_n 0, 1) := dc9_42 (by decide +kernel)
theorem d_Wo_takeName_13 : decode y_Wo_takeName.2.1 13 = .ok (.getfield 9, 3) := dc9_180 (by decide +kernel)
theorem d_Wo_takeName_16 : decode y_Wo_takeName.2.1 16 = .ok (.iload_n 2, 1) := dc9_28 (by decide +kernel)
theorem d_Wo_takeName_17 : decode y_Wo_takeName.2.1 17 = .ok (.caload, 1) := dc9_52 (by decide +kernel)
theorem d_Wo_takeName_53 : decode y_Wo_takeName.2.1 53 = .ok (.iload_n 2, 1) := dc9_28 (by decide +kernel)
theorem d_Wo_takeName_54 : decode y_Wo_takeName.2.1 54 = .ok (.iload_n 1, 1) := dc9_27 (by decide +kernel)
theorem d_Wo_takeName_55 : decode y_Wo_takeName.2.1 55 = .ok (.isub, 1) := dc9_100 (by decide +kernel)
theorem d_Wo_takeName_56 : decode y_Wo_takeName.2.1 56 = .ok (.bipush 40, 2) := dc9_16 (by decide +kernel)
theorem d_Wo_takeName_58 : decode y_Wo_takeName.2.1 58 = .ok (.if_icmp .gt 7, 3) := dc9_163 (by decide +kernel)
theorem d_Wo_takeName_65 : decode y_Wo_takeName.2.1 65 = .ok (.iconst 0, 1) := dc9_3 (by decide +kernel)
theorem d_Wo_takeName_61 : decode y_Wo_takeName.2.1 61 = .ok (.iconst 1, 1) := dc9_4 (by decide +kernel)
theorem d_Wo_takeName_62 : decode y_Wo_takeName.2.1 62 = .ok (.goto 4, 3) := dc9_167 (by decide +kernel)
theorem d_Wo_takeName_66 : decode y_Wo_takeName.2.1 66 = .ok (.istore_n 3, 1) := dc9_62 (by decide +kernel)
theorem d_Wo_takeName_67 : decode y_Wo_takeName.2.1 67 = .ok (.aload_n 0, 1) := dc9_42 (by decide +kernel)
theorem d_Wo_takeName_68 : decode y_Wo_takeName.2.1 68 = .ok (.iload_n 3, 1) := dc9_29 (by decide +kernel)
theorem d_Wo_takeName_69 : decode y_Wo_takeName.2.1 69 = .ok (.ifCond .eq 14, 3) := dc9_153 (by decide +kernel)
theorem d_Wo_takeName_83 : decode y_Wo_takeName.2.1 83 = .ok (.iconst 1, 1) := dc9_4 (by decide +kernel)
theorem d_Wo_takeName_72 : decode y_Wo_takeName.2.1 72 = .ok (.aload_n 0, 1) := dc9_42 (by decide +kernel)
theorem d_Wo_takeName_73 : decode y_Wo_takeName.2.1 73 = .ok (.iload_n 1, 1) := dc9_27 (by decide +kernel)
theorem d_Wo_takeName_74 : decode y_Wo_takeName.2.1 74 = .ok (.iload_n 2, 1) := dc9_28 (by decide +kernel)
theorem d_Wo_takeName_75 : decode y_Wo_takeName.2.1 75 = .ok (.iload_n 1, 1) := dc9_27 (by decide +kernel)
theorem d_Wo_takeName_76 : decode y_Wo_takeName.2.1 76 = .ok (.isub, 1) := dc9_100 (by decide +kernel)
theorem d_Wo_takeName_77 : decode y_Wo_takeName.2.1 77 = .ok (.invokevirtual 68, 3) := dc9_182 (by decide +kernel)
theorem d_Wo_takeName_80 : decode y_Wo_takeName.2.1 80 = .ok (.goto 4, 3) := dc9_167 (by decide +kernel)
theorem d_Wo_takeName_18 : decode y_Wo_takeName.2.1 18 = .ok (.invokestatic 47, 3) := dc9_184 (by decide +kernel)
theorem d_Wo_takeName_21 : decode y_Wo_takeName.2.1 21 = .ok (.ifCond .ne 26, 3) := dc9_154 (by decide +kernel)
theorem d_Wo_takeName_24 : decode y_Wo_takeName.2.1 24 = .ok (.aload_n 0, 1) := dc9_42 (by decide +kernel)
theorem d_Wo_takeName_25 : decode y_Wo_takeName.2.1 25 = .ok (.getfield 9, 3) := dc9_180 (by decide +kernel)
theorem d_Wo_takeName_28 : decode y_Wo_takeName.2.1 28 = .ok (.iload_n 2, 1) := dc9_28 (by decide +kernel)
theorem d_Wo_takeName_29 : decode y_Wo_takeName.2.1 29 = .ok (.caload, 1) := dc9_52 (by decide +kernel)
theorem d_Wo_takeName_30 : decode y_Wo_takeName.2.1 30 = .ok (.invokestatic 54, 3) := dc9_184 (by decide +kernel)
theorem d_Wo_takeName_33 : decode y_Wo_takeName.2.1 33 = .ok (.ifCond .ne 14, 3) := dc9_154 (by decide +kernel)
theorem d_Wo_takeName_36 : decode y_Wo_takeName.2.1 36 = .ok (.aload_n 0, 1) := dc9_42 (by decide +kernel)
theorem d_Wo_takeName_37 : decode y_Wo_takeName.2.1 37 = .ok (.getfield 9, 3) := dc9_180 (by decide +kernel)
theorem d_Wo_takeName_40 : decode y_Wo_takeName.2.1 40 = .ok (.iload_n 2, 1) := dc9_28 (by decide +kernel)
theorem d_Wo_takeName_41 : decode y_Wo_takeName.2.1 41 = .ok (.caload, 1) := dc9_52 (by decide +kernel)
theorem d_Wo_takeName_42 : decode y_Wo_takeName.2.1 42 = .ok (.bipush 95, 2) := dc9_16 (by decide +kernel)
theorem d_Wo_takeName_44 : decode y_Wo_takeName.2.1 44 = .ok (.if_icmp .ne 9, 3) := dc9_160 (by decide +kernel)
theorem d_Wo_takeName_47 : decode y_Wo_takeName.2.1 47 = .ok (.iinc 2 1, 3) := by decide +kernel
theorem d_Wo_takeName_50 : decode y_Wo_takeName.2.1 50 = .ok (.goto (-46), 3) := dc9_167 (by decide +kernel)
theorem d_Wo_takeName_84 : decode y_Wo_takeName.2.1 84 = .ok (.iload_n 1, 1) := dc9_27 (by decide +kernel)
theorem d_Wo_takeName_85 : decode y_Wo_takeName.2.1 85 = .ok (.iload_n 2, 1) := dc9_28 (by decide +kernel)
theorem d_Wo_takeName_86 : decode y_Wo_takeName.2.1 86 = .ok (.iload_n 1, 1) := dc9_27 (by decide +kernel)
theorem d_Wo_takeName_87 : decode y_Wo_takeName.2.1 87 = .ok (.isub, 1) := dc9_100 (by decide +kernel)
theorem d_Wo_takeName_88 : decode y_Wo_takeName.2.1 88 = .ok (.invokevirtual 43, 3) := dc9_182 (by decide +kernel)
theorem d_Wo_takeName_91 : decode y_Wo_takeName.2.1 91 = .ok (.iload_n 3, 1) := dc9_29 (by decide +kernel)
theorem d_Wo_takeName_92 : decode y_Wo_takeName.2.1 92 = .ok (.ifCond .eq 7, 3) := dc9_153 (by decide +kernel)
theorem d_Wo_takeName_99 : decode y_Wo_takeName.2.1 99 = .ok (.aload_n 0, 1) := dc9_42 (by decide +kernel)
theorem d_Wo_takeName_100 : decode y_Wo_takeName.2.1 100 = .ok (.getfield 25, 3) := dc9_180 (by decide +kernel)
theorem d_Wo_takeName_95 : decode y_Wo_takeName.2.1 95 = .ok (.iload_n 2, 1) := dc9_28 (by decide +kernel)
theorem d_Wo_takeName_96 : decode y_Wo_takeName.2.1 96 = .ok (.goto 7, 3) := dc9_167 (by decide +kernel)
theorem d_Wo_takeName_103 : decode y_Wo_takeName.2.1 103 = .ok (.ireturn, 1) := dc9_172 (by decide +kernel)
def h_Wo_takeName_4 (G : mG) (d : Nat) (a0 : Nat) (l1 : Int) (l2 : Int) (M : mM) (Q : Int → mM → Prop) : Prop := mWm G y_Wo_takeName (d + 1) 4 [vr a0, vi l1, vi l2, vd] [] M (fun r9 M9 => ∃ x9, r9 = some (vi x9) ∧ Q x9 M9)
def h_Wo_takeName_84 (G : mG) (d : Nat) (a0 : Nat) (l1 : Int) (l2 : Int) (l3 : Int) (k0 : Nat) (k1 : Int) (M : mM) (Q : Int → mM → Prop) : Prop := mWm G y_Wo_takeName (d + 1) 84 [vr a0, vi l1, vi l2, vi l3] [vi k1, vr k0] M (fun r9 M9 => ∃ x9, r9 = some (vi x9) ∧ Q x9 M9)
theorem k_Wo_takeName {G : mG} {d : Nat} {a0 : Nat} {l1 : Int} {M : mM} {Q : Int → mM → Prop} (hO : mOk M) (hi_l1 : i32 l1)
    (h : h_Wo_takeName_4 G d a0 l1 (l1 + 1) M Q) :
    Ci G y_Wo_takeName (d + 1) [vr a0, vi l1] M Q := by
  refine wm_open (y := y_Wo_takeName) rfl (Nat.le_of_ble_eq_true rfl) (L := [vr a0, vi l1, vd, vd]) rfl ?_
  refine wm_iload_n d_Wo_takeName_0 rfl rfl ?_
  refine wm_iconst d_Wo_takeName_1 ?_
  refine wm_iadd d_Wo_takeName_2 ?_
  refine wm_istore_n d_Wo_takeName_3 rfl (by decide) (L' := [vr a0, vi l1, vi (l1 + 1), vd]) rfl ?_
  exact h
theorem k_Wo_takeName_4 {G : mG} {d : Nat} {a0 : Nat} {l1 : Int} {l2 : Int} {M : mM} {Q : Int → mM → Prop} (hO : mOk M) (hi_l1 : i32 l1) (hi_l2 : i32 l2)
    (h : mK M a0 = 2 ∧ ((mI M a0 1 ≤ l2) → (i32 (l2 - l1) ∧ ∀ v6 : Int, v6 = (if (40 < l2 - l1) then 0 else 1) → ((v6 = 0) → (h_Wo_takeName_84 G d a0 l1 l2 v6 a0 1 M Q)) ∧ (¬ (v6 = 0) → (Ci G y_Wo_nameSort d [vr a0, vi l1, vi (l2 - l1)] M (fun x14 M13 => i32 x14 ∧ mOk M13 ∧ (h_Wo_takeName_84 G d a0 l1 l2 v6 a0 x14 M13 Q)))))) ∧ (¬ (mI M a0 1 ≤ l2) → (mK M (mR M a0 0) = 32 ∧ ((0 : Int) ≤ l2 ∧ l2 < (mN M (mR M a0 0) : Int)) ∧ Ci G y_Wo_isLetter d [vi (mI M (mR M a0 0) (Int.toNat l2))] M (fun x20 M19 => i32 x20 ∧ mOk M19 ∧ (((x20 = 0) → (mK M19 a0 = 2 ∧ mK M19 (mR M19 a0 0) = 32 ∧ ((0 : Int) ≤ l2 ∧ l2 < (mN M19 (mR M19 a0 0) : Int)) ∧ Ci G y_Wo_isDigit d [vi (mI M19 (mR M19 a0 0) (Int.toNat l2))] M19 (fun x28 M27 => i32 x28 ∧ mOk M27 ∧ (((x28 = 0) → (mK M27 a0 = 2 ∧ mK M27 (mR M27 a0 0) = 32 ∧ ((0 : Int) ≤ l2 ∧ l2 < (mN M27 (mR M27 a0 0) : Int)))) ∧ (((¬ (x28 = 0)) ∨ (mI M27 (mR M27 a0 0) (Int.toNat l2) = 95)) → (h_Wo_takeName_4 G d a0 l1 (l2 + 1) M27 Q)) ∧ (¬ ((¬ (x28 = 0)) ∨ (mI M27 (mR M27 a0 0) (Int.toNat l2) = 95)) → (i32 (l2 - l1) ∧ ∀ v40 : Int, v40 = (if (40 < l2 - l1) then 0 else 1) → ((v40 = 0) → (h_Wo_takeName_84 G d a0 l1 l2 v40 a0 1 M27 Q)) ∧ (¬ (v40 = 0) → (mK M27 a0 = 2 ∧ Ci G y_Wo_nameSort d [vr a0, vi l1, vi (l2 - l1)] M27 (fun x49 M48 => i32 x49 ∧ mOk M48 ∧ (h_Wo_takeName_84 G d a0 l1 l2 v40 a0 x49 M48 Q)))))))))) ∧ (¬ (x20 = 0) → (h_Wo_takeName_4 G d a0 l1 (l2 + 1) M19 Q))))))) :
    h_Wo_takeName_4 G d a0 l1 l2 M Q := by
  unfold h_Wo_takeName_4
  obtain ⟨h1, h⟩ := h
  refine wm_iload_n d_Wo_takeName_4 rfl rfl ?_
  refine wm_aload_n d_Wo_takeName_5 rfl rfl ?_
  refine gf_Wo_25 rfl d_Wo_takeName_6 h1 ?_
  refine wm_icmp_ge (tgt := 53) d_Wo_takeName_9 rfl hi_l2 (hO _ _).1 (fun c3 => ?_) (fun c3 => ?_)
  · replace h := h.1 c3
    obtain ⟨h4, h⟩ := h
    refine wm_iload_n d_Wo_takeName_53 rfl rfl ?_
    refine wm_iload_n d_Wo_takeName_54 rfl rfl ?_
    refine wm_isub d_Wo_takeName_55 ?_
    refine wm_bipush d_Wo_takeName_56 (by decide) ?_
    have hJ : ∀ v6 : Int, v6 = (if (40 < l2 - l1) then 0 else 1) → mWm G y_Wo_takeName (d + 1) 66 [vr a0, vi l1, vi l2, vd] [vi v6] M (fun r9 M9 => ∃ x9, r9 = some (vi x9) ∧ Q x9 M9) := by
      intro v6 e8
      have h := h v6 e8
      have h9 : i32 v6 := by rw [e8]; (repeat' split) <;> first | exact ⟨by decide, by decide⟩ | exact ⟨by decide, by decide⟩
      have h10 : (v6 = 0 ∨ v6 = 1) := by rw [e8]; (repeat' split) <;> decide
      refine wm_istore_n d_Wo_takeName_66 rfl (by decide) (L' := [vr a0, vi l1, vi l2, vi v6]) rfl ?_
      refine wm_aload_n d_Wo_takeName_67 rfl rfl ?_
      refine wm_iload_n d_Wo_takeName_68 rfl rfl ?_
      refine wm_if_eq (tgt := 83) d_Wo_takeName_69 rfl h9 (fun c12 => ?_) (fun c12 => ?_)
      · replace h := h.1 c12
        refine wm_iconst d_Wo_takeName_83 ?_
        exact h
      · replace h := h.2 c12
        refine wm_aload_n d_Wo_takeName_72 rfl rfl ?_
        refine wm_iload_n d_Wo_takeName_73 rfl rfl ?_
        refine wm_iload_n d_Wo_takeName_74 rfl rfl ?_
        refine wm_iload_n d_Wo_takeName_75 rfl rfl ?_
        refine wm_isub d_Wo_takeName_76 ?_
        refine cf_Wo_68 rfl d_Wo_takeName_77 h1 (Nat.le_of_ble_eq_true rfl) (Ci.mono h (fun x14 M13 h => ?_))
        obtain ⟨h15, hOM13, h⟩ := h
        refine wm_goto (tgt := 84) d_Wo_takeName_80 rfl ?_
        exact h
    clear h
    refine wm_icmp_gt (tgt := 65) d_Wo_takeName_58 rfl h4 ⟨by decide, by decide⟩ (fun c5 => ?_) (fun c5 => ?_)
    · refine wm_iconst d_Wo_takeName_65 ?_
      exact hJ 0 (if_pos c5).symm
    · refine wm_iconst d_Wo_takeName_61 ?_
      refine wm_goto (tgt := 66) d_Wo_takeName_62 rfl ?_
      exact hJ 1 (if_neg c5).symm
  · replace h := h.2 c3
    obtain ⟨h17, h⟩ := h
    obtain ⟨h18, h⟩ := h
    refine wm_aload_n d_Wo_takeName_12 rfl rfl ?_
    refine gf_Wo_9 rfl d_Wo_takeName_13 h1 ?_
    refine wm_iload_n d_Wo_takeName_16 rfl rfl ?_
    refine wm_cald d_Wo_takeName_17 h17 h18 ?_
    refine cf_Wo_47 rfl d_Wo_takeName_18 (Nat.le_of_ble_eq_true rfl) (Ci.mono h (fun x20 M19 h => ?_))
    obtain ⟨h21, hOM19, h⟩ := h
    refine wm_if_ne (tgt := 47) d_Wo_takeName_21 rfl h21 (fun c23 => ?_) (fun c23 => ?_)
    · replace h := h.2 c23
      refine wm_iinc d_Wo_takeName_47 (by decide) rfl (L' := [vr a0, vi l1, vi (l2 + 1), vd]) rfl ?_
      refine wm_goto (tgt := 4) d_Wo_takeName_50 rfl ?_
      exact h
    · replace c23 := Classical.not_not.mp c23
      replace h := h.1 c23
      obtain ⟨h24, h⟩ := h
      obtain ⟨h25, h⟩ := h
      obtain ⟨h26, h⟩ := h
      refine wm_aload_n d_Wo_takeName_24 rfl rfl ?_
      refine gf_Wo_9 rfl d_Wo_takeName_25 h24 ?_
      refine wm_iload_n d_Wo_takeName_28 rfl rfl ?_
      refine wm_cald d_Wo_takeName_29 h25 h26 ?_
      refine cf_Wo_54 rfl d_Wo_takeName_30 (Nat.le_of_ble_eq_true rfl) (Ci.mono h (fun x28 M27 h => ?_))
      obtain ⟨h29, hOM27, h⟩ := h
      obtain ⟨s35, h⟩ := h
      have hE0 : ((¬ (x28 = 0)) ∨ (mI M27 (mR M27 a0 0) (Int.toNat l2) = 95)) → mWm G y_Wo_takeName (d + 1) 47 [vr a0, vi l1, vi l2, vd] [] M27 (fun r9 M9 => ∃ x9, r9 = some (vi x9) ∧ Q x9 M9) := by
        intro q36
        have h := h.1 q36
        refine wm_iinc d_Wo_takeName_47 (by decide) rfl (L' := [vr a0, vi l1, vi (l2 + 1), vd]) rfl ?_
        refine wm_goto (tgt := 4) d_Wo_takeName_50 rfl ?_
        exact h
      have hE1 : ¬ ((¬ (x28 = 0)) ∨ (mI M27 (mR M27 a0 0) (Int.toNat l2) = 95)) → mWm G y_Wo_takeName (d + 1) 53 [vr a0, vi l1, vi l2, vd] [] M27 (fun r9 M9 => ∃ x9, r9 = some (vi x9) ∧ Q x9 M9) := by
        intro q37
        have h := h.2 q37
        obtain ⟨h38, h⟩ := h
        refine wm_iload_n d_Wo_takeName_53 rfl rfl ?_
        refine wm_iload_n d_Wo_takeName_54 rfl rfl ?_
        refine wm_isub d_Wo_takeName_55 ?_
        refine wm_bipush d_Wo_takeName_56 (by decide) ?_
        have hJ : ∀ v40 : Int, v40 = (if (40 < l2 - l1) then 0 else 1) → mWm G y_Wo_takeName (d + 1) 66 [vr a0, vi l1, vi l2, vd] [vi v40] M27 (fun r9 M9 => ∃ x9, r9 = some (vi x9) ∧ Q x9 M9) := by
          intro v40 e42
          have h := h v40 e42
          have h43 : i32 v40 := by rw [e42]; (repeat' split) <;> first | exact ⟨by decide, by decide⟩ | exact ⟨by decide, by decide⟩
          have h44 : (v40 = 0 ∨ v40 = 1) := by rw [e42]; (repeat' split) <;> decide
          refine wm_istore_n d_Wo_takeName_66 rfl (by decide) (L' := [vr a0, vi l1, vi l2, vi v40]) rfl ?_
          refine wm_aload_n d_Wo_takeName_67 rfl rfl ?_
          refine wm_iload_n d_Wo_takeName_68 rfl rfl ?_
          refine wm_if_eq (tgt := 83) d_Wo_takeName_69 rfl h43 (fun c46 => ?_) (fun c46 => ?_)
          · replace h := h.1 c46
            refine wm_iconst d_Wo_takeName_83 ?_
            exact h
          · replace h := h.2 c46
            obtain ⟨h47, h⟩ := h
            refine wm_aload_n d_Wo_takeName_72 rfl rfl ?_
            refine wm_iload_n d_Wo_takeName_73 rfl rfl ?_
            refine wm_iload_n d_Wo_takeName_74 rfl rfl ?_
            refine wm_iload_n d_Wo_takeName_75 rfl rfl ?_
            refine wm_isub d_Wo_takeName_76 ?_
            refine cf_Wo_68 rfl d_Wo_takeName_77 h47 (Nat.le_of_ble_eq_true rfl) (Ci.mono h (fun x49 M48 h => ?_))
            obtain ⟨h50, hOM48, h⟩ := h
            refine wm_goto (tgt := 84) d_Wo_takeName_80 rfl ?_
            exact h
        clear h
        refine wm_icmp_gt (tgt := 65) d_Wo_takeName_58 rfl h38 ⟨by decide, by decide⟩ (fun c39 => ?_) (fun c39 => ?_)
        · refine wm_iconst d_Wo_takeName_65 ?_
          exact hJ 0 (if_pos c39).symm
        · refine wm_iconst d_Wo_takeName_61 ?_
          refine wm_goto (tgt := 66) d_Wo_takeName_62 rfl ?_
          exact hJ 1 (if_neg c39).symm
      clear h
      have s52 := s35
      refine wm_if_ne (tgt := 47) d_Wo_takeName_33 rfl h29 (fun c34 => ?_) (fun c34 => ?_)
      · exact hE0 (Or.inl c34)
      · replace c34 := Classical.not_not.mp c34
        have s52 := s52 c34
        obtain ⟨h30, h31, h32⟩ := s52
        refine wm_aload_n d_Wo_takeName_36 rfl rfl ?_
        refine gf_Wo_9 rfl d_Wo_takeName_37 h30 ?_
        refine wm_iload_n d_Wo_takeName_40 rfl rfl ?_
        refine wm_cald d_Wo_takeName_41 h31 h32 ?_
        refine wm_bipush d_Wo_takeName_42 (by decide) ?_
        refine wm_icmp_ne (tgt := 53) d_Wo_takeName_44 rfl (hOM27 _ _).1 ⟨by decide, by decide⟩ (fun c33 => ?_) (fun c33 => ?_)
        · exact hE1 (fun z53 => Or.elim z53 (fun w => w c34) c33)
        · replace c33 := Classical.not_not.mp c33
          exact hE0 (Or.inr c33)
theorem k_Wo_takeName_84 {G : mG} {d : Nat} {a0 : Nat} {l1 : Int} {l2 : Int} {l3 : Int} {k0 : Nat} {k1 : Int} {M : mM} {Q : Int → mM → Prop} (hO : mOk M) (hi_l1 : i32 l1) (hi_l2 : i32 l2) (hi_l3 : i32 l3) (hi_k1 : i32 k1)
    (h : mK M k0 = 2 ∧ Cv G y_Wo_add d [vr k0, vi k1, vi l1, vi (l2 - l1)] M (fun M56 => mOk M56 ∧ (((l3 = 0) → mK M56 a0 = 2) ∧ ∀ v61 : Int, v61 = (if (l3 = 0) then mI M56 a0 1 else l2) → Q v61 M56))) :
    h_Wo_takeName_84 G d a0 l1 l2 l3 k0 k1 M Q := by
  unfold h_Wo_takeName_84
  obtain ⟨h55, h⟩ := h
  refine wm_iload_n d_Wo_takeName_84 rfl rfl ?_
  refine wm_iload_n d_Wo_takeName_85 rfl rfl ?_
  refine wm_iload_n d_Wo_takeName_86 rfl rfl ?_
  refine wm_isub d_Wo_takeName_87 ?_
  refine cf_Wo_43 rfl d_Wo_takeName_88 h55 (Nat.le_of_ble_eq_true rfl) (Cv.mono h (fun M56 h => ?_))
  obtain ⟨hOM56, h⟩ := h
  refine wm_iload_n d_Wo_takeName_91 rfl rfl ?_
  obtain ⟨s62, h⟩ := h
  have hJ : ∀ v61 : Int, v61 = (if (l3 = 0) then mI M56 a0 1 else l2) → mWm G y_Wo_takeName (d + 1) 103 [vd, vd, vd, vd] [vi v61] M56 (fun r9 M9 => ∃ x9, r9 = some (vi x9) ∧ Q x9 M9) := by
    intro v61 e63
    have h := h v61 e63
    refine wm_ireturn d_Wo_takeName_103 rfl rfl ?_
    exact ⟨_, rfl, h⟩
  clear h
  have s64 := s62
  refine wm_if_eq (tgt := 99) d_Wo_takeName_92 rfl hi_l3 (fun c59 => ?_) (fun c59 => ?_)
  · have s64 := s64 c59
    have h60 := s64
    refine wm_aload_n d_Wo_takeName_99 rfl rfl ?_
    refine gf_Wo_25 rfl d_Wo_takeName_100 h60 ?_
    refine wm_less (L' := [vd, vd, vd, vd]) ⟨Or.inl rfl, Or.inl rfl, Or.inl rfl, Or.inl rfl, trivial⟩ ?_
    exact hJ (mI M56 a0 1) (if_pos c59).symm
  · refine wm_iload_n d_Wo_takeName_95 rfl rfl ?_
    refine wm_goto (tgt := 103) d_Wo_takeName_96 rfl ?_
    refine wm_less (L' := [vd, vd, vd, vd]) ⟨Or.inl rfl, Or.inl rfl, Or.inl rfl, Or.inl rfl, trivial⟩ ?_
    exact hJ l2 (if_neg c59).symm
theorem d_Wo_takeNumber_0 : decode y_Wo_takeNumber.2.1 0 = .ok (.iconst 0, 1) := dc9_3 (by decide +kernel)
theorem d_Wo_takeNumber_1 : decode y_Wo_takeNumber.2.1 1 = .ok (.istore_n 2, 1) := dc9_61 (by decide +kernel)
theorem d_Wo_takeNumber_2 : decode y_Wo_takeNumber.2.1 2 = .ok (.iload_n 1, 1) := dc9_27 (by decide +kernel)
theorem d_Wo_takeNumber_3 : decode y_Wo_takeNumber.2.1 3 = .ok (.istore_n 3, 1) := dc9_62 (by decide +kernel)
theorem d_Wo_takeNumber_4 : decode y_Wo_takeNumber.2.1 4 = .ok (.iload_n 3, 1) := dc9_29 (by decide +kernel)
theorem d_Wo_takeNumber_5 : decode y_Wo_takeNumber.2.1 5 = .ok (.aload_n 0, 1) := dc9_42 (by decide +kernel)
theorem d_Wo_takeNumber_6 : decode y_Wo_takeNumber.2.1 6 = .ok (.getfield 25, 3) := dc9_180 (by decide +kernel)
theorem d_Wo_takeNumber_9 : decode y_Wo_takeNumber.2.1 9 = .ok (.if_icmp .ge 48, 3) := dc9_162 (by decide +kernel)
theorem d_Wo_takeNumber_12 : decode y_Wo_takeNumber.2.1 12 = .ok (.aload_n 0, 1) := dc9_42 (by decide +kernel)
theorem d_Wo_takeNumber_13 : decode y_Wo_takeNumber.2.1 13 = .ok (.getfield 9, 3) := dc9_180 (by decide +kernel)
theorem d_Wo_takeNumber_16 : decode y_Wo_takeNumber.2.1 16 = .ok (.iload_n 3, 1) := dc9_29 (by decide +kernel)
theorem d_Wo_takeNumber_17 : decode y_Wo_takeNumber.2.1 17 = .ok (.caload, 1) := dc9_52 (by decide +kernel)
theorem d_Wo_takeNumber_57 : decode y_Wo_takeNumber.2.1 57 = .ok (.iload_n 3, 1) := dc9_29 (by decide +kernel)
theorem d_Wo_takeNumber_58 : decode y_Wo_takeNumber.2.1 58 = .ok (.iload_n 1, 1) := dc9_27 (by decide +kernel)
theorem d_Wo_takeNumber_59 : decode y_Wo_takeNumber.2.1 59 = .ok (.isub, 1) := dc9_100 (by decide +kernel)
theorem d_Wo_takeNumber_60 : decode y_Wo_takeNumber.2.1 60 = .ok (.bipush 9, 2) := dc9_16 (by decide +kernel)
theorem d_Wo_takeNumber_62 : decode y_Wo_takeNumber.2.1 62 = .ok (.if_icmp .gt 7, 3) := dc9_163 (by decide +kernel)
theorem d_Wo_takeNumber_69 : decode y_Wo_takeNumber.2.1 69 = .ok (.iconst 0, 1) := dc9_3 (by decide +kernel)
theorem d_Wo_takeNumber_65 : decode y_Wo_takeNumber.2.1 65 = .ok (.iconst 1, 1) := dc9_4 (by decide +kernel)
theorem d_Wo_takeNumber_66 : decode y_Wo_takeNumber.2.1 66 = .ok (.goto 4, 3) := dc9_167 (by decide +kernel)
theorem d_Wo_takeNumber_70 : decode y_Wo_takeNumber.2.1 70 = .ok (.istore 4, 2) := dc9_54 (by decide +kernel)
theorem d_Wo_takeNumber_72 : decode y_Wo_takeNumber.2.1 72 = .ok (.aload_n 0, 1) := dc9_42 (by decide +kernel)
theorem d_Wo_takeNumber_73 : decode y_Wo_takeNumber.2.1 73 = .ok (.iload 4, 2) := dc9_21 (by decide +kernel)
theorem d_Wo_takeNumber_75 : decode y_Wo_takeNumber.2.1 75 = .ok (.ifCond .eq 7, 3) := dc9_153 (by decide +kernel)
theorem d_Wo_takeNumber_82 : decode y_Wo_takeNumber.2.1 82 = .ok (.iconst 1, 1) := dc9_4 (by decide +kernel)
theorem d_Wo_takeNumber_78 : decode y_Wo_takeNumber.2.1 78 = .ok (.iconst 3, 1) := dc9_6 (by decide +kernel)
theorem d_Wo_takeNumber_79 : decode y_Wo_takeNumber.2.1 79 = .ok (.goto 4, 3) := dc9_167 (by decide +kernel)
theorem d_Wo_takeNumber_83 : decode y_Wo_takeNumber.2.1 83 = .ok (.iload_n 1, 1) := dc9_27 (by decide +kernel)
theorem d_Wo_takeNumber_84 : decode y_Wo_takeNumber.2.1 84 = .ok (.iload_n 2, 1) := dc9_28 (by decide +kernel)
theorem d_Wo_takeNumber_85 : decode y_Wo_takeNumber.2.1 85 = .ok (.invokevirtual 43, 3) := dc9_182 (by decide +kernel)
theorem d_Wo_takeNumber_88 : decode y_Wo_takeNumber.2.1 88 = .ok (.iload 4, 2) := dc9_21 (by decide +kernel)
theorem d_Wo_takeNumber_90 : decode y_Wo_takeNumber.2.1 90 = .ok (.ifCond .eq 7, 3) := dc9_153 (by decide +kernel)
theorem d_Wo_takeNumber_97 : decode y_Wo_takeNumber.2.1 97 = .ok (.aload_n 0, 1) := dc9_42 (by decide +kernel)
theorem d_Wo_takeNumber_98 : decode y_Wo_takeNumber.2.1 98 = .ok (.getfield 25, 3) := dc9_180 (by decide +kernel)
theorem d_Wo_takeNumber_93 : decode y_Wo_takeNumber.2.1 93 = .ok (.iload_n 3, 1) := dc9_29 (by decide +kernel)
theorem d_Wo_takeNumber_94 : decode y_Wo_takeNumber.2.1 94 = .ok (.goto 7, 3) := dc9_167 (by decide +kernel)
theorem d_Wo_takeNumber_101 : decode y_Wo_takeNumber.2.1 101 = .ok (.ireturn, 1) := dc9_172 (by decide +kernel)
theorem d_Wo_takeNumber_18 : decode y_Wo_takeNumber.2.1 18 = .ok (.invokestatic 54, 3) := dc9_184 (by decide +kernel)
theorem d_Wo_takeNumber_21 : decode y_Wo_takeNumber.2.1 21 = .ok (.ifCond .eq 36, 3) := dc9_153 (by decide +kernel)
theorem d_Wo_takeNumber_24 : decode y_Wo_takeNumber.2.1 24 = .ok (.iload_n 3, 1) := dc9_29 (by decide +kernel)
theorem d_Wo_takeNumber_25 : decode y_Wo_takeNumber.2.1 25 = .ok (.iload_n 1, 1) := dc9_27 (by decide +kernel)
theorem d_Wo_takeNumber_26 : decode y_Wo_takeNumber.2.1 26 = .ok (.isub, 1) := dc9_100 (by decide +kernel)
theorem d_Wo_takeNumber_27 : decode y_Wo_takeNumber.2.1 27 = .ok (.bipush 9, 2) := dc9_16 (by decide +kernel)
theorem d_Wo_takeNumber_29 : decode y_Wo_takeNumber.2.1 29 = .ok (.if_icmp .ge 20, 3) := dc9_162 (by decide +kernel)
theorem d_Wo_takeNumber_49 : decode y_Wo_takeNumber.2.1 49 = .ok (.iconst 0, 1) := dc9_3 (by decide +kernel)
theorem d_Wo_takeNumber_50 : decode y_Wo_takeNumber.2.1 50 = .ok (.istore_n 2, 1) := dc9_61 (by decide +kernel)
theorem d_Wo_takeNumber_51 : decode y_Wo_takeNumber.2.1 51 = .ok (.iinc 3 1, 3) := by decide +kernel
theorem d_Wo_takeNumber_54 : decode y_Wo_takeNumber.2.1 54 = .ok (.goto (-50), 3) := dc9_167 (by decide +kernel)
theorem d_Wo_takeNumber_32 : decode y_Wo_takeNumber.2.1 32 = .ok (.bipush 10, 2) := dc9_16 (by decide +kernel)
theorem d_Wo_takeNumber_34 : decode y_Wo_takeNumber.2.1 34 = .ok (.iload_n 2, 1) := dc9_28 (by decide +kernel)
theorem d_Wo_takeNumber_35 : decode y_Wo_takeNumber.2.1 35 = .ok (.imul, 1) := dc9_104 (by decide +kernel)
theorem d_Wo_takeNumber_36 : decode y_Wo_takeNumber.2.1 36 = .ok (.aload_n 0, 1) := dc9_42 (by decide +kernel)
theorem d_Wo_takeNumber_37 : decode y_Wo_takeNumber.2.1 37 = .ok (.getfield 9, 3) := dc9_180 (by decide +kernel)
theorem d_Wo_takeNumber_40 : decode y_Wo_takeNumber.2.1 40 = .ok (.iload_n 3, 1) := dc9_29 (by decide +kernel)
theorem d_Wo_takeNumber_41 : decode y_Wo_takeNumber.2.1 41 = .ok (.caload, 1) := dc9_52 (by decide +kernel)
theorem d_Wo_takeNumber_42 : decode y_Wo_takeNumber.2.1 42 = .ok (.bipush 48, 2) := dc9_16 (by decide +kernel)
theorem d_Wo_takeNumber_44 : decode y_Wo_takeNumber.2.1 44 = .ok (.isub, 1) := dc9_100 (by decide +kernel)
theorem d_Wo_takeNumber_45 : decode y_Wo_takeNumber.2.1 45 = .ok (.iadd, 1) := dc9_96 (by decide +kernel)
theorem d_Wo_takeNumber_46 : decode y_Wo_takeNumber.2.1 46 = .ok (.goto 4, 3) := dc9_167 (by decide +kernel)
def h_Wo_takeNumber_4 (G : mG) (d : Nat) (a0 : Nat) (l1 : Int) (l2 : Int) (l3 : Int) (M : mM) (Q : Int → mM → Prop) : Prop := mWm G y_Wo_takeNumber (d + 1) 4 [vr a0, vi l1, vi l2, vi l3, vd] [] M (fun r9 M9 => ∃ x9, r9 = some (vi x9) ∧ Q x9 M9)
theorem k_Wo_takeNumber {G : mG} {d : Nat} {a0 : Nat} {l1 : Int} {M : mM} {Q : Int → mM → Prop} (hO : mOk M) (hi_l1 : i32 l1)
    (h : h_Wo_takeNumber_4 G d a0 l1 0 l1 M Q) :
    Ci G y_Wo_takeNumber (d + 1) [vr a0, vi l1] M Q := by
  refine wm_open (y := y_Wo_takeNumber) rfl (Nat.le_of_ble_eq_true rfl) (L := [vr a0, vi l1, vd, vd, vd]) rfl ?_
  refine wm_iconst d_Wo_takeNumber_0 ?_
  refine wm_istore_n d_Wo_takeNumber_1 rfl (by decide) (L' := [vr a0, vi l1, vi 0, vd, vd]) rfl ?_
  refine wm_iload_n d_Wo_takeNumber_2 rfl rfl ?_
  refine wm_istore_n d_Wo_takeNumber_3 rfl (by decide) (L' := [vr a0, vi l1, vi 0, vi l1, vd]) rfl ?_
  exact h
theorem k_Wo_takeNumber_4 {G : mG} {d : Nat} {a0 : Nat} {l1 : Int} {l2 : Int} {l3 : Int} {M : mM} {Q : Int → mM → Prop} (hO : mOk M) (hi_l1 : i32 l1) (hi_l2 : i32 l2) (hi_l3 : i32 l3)
    (h : mK M a0 = 2 ∧ ((mI M a0 1 ≤ l3) → (i32 (l3 - l1) ∧ ∀ v6 : Int, v6 = (if (9 < l3 - l1) then 0 else 1) → ∀ v12 : Int, v12 = (if (v6 = 0) then 1 else 3) → Cv G y_Wo_add d [vr a0, vi v12, vi l1, vi l2] M (fun M16 => mOk M16 ∧ (((v6 = 0) → mK M16 a0 = 2) ∧ ∀ v21 : Int, v21 = (if (v6 = 0) then mI M16 a0 1 else l3) → Q v21 M16)))) ∧ (¬ (mI M a0 1 ≤ l3) → (mK M (mR M a0 0) = 32 ∧ ((0 : Int) ≤ l3 ∧ l3 < (mN M (mR M a0 0) : Int)) ∧ Ci G y_Wo_isDigit d [vi (mI M (mR M a0 0) (Int.toNat l3))] M (fun x31 M30 => i32 x31 ∧ mOk M30 ∧ (((x31 = 0) → (i32 (l3 - l1) ∧ ∀ v42 : Int, v42 = (if (9 < l3 - l1) then 0 else 1) → ∀ v48 : Int, v48 = (if (v42 = 0) then 1 else 3) → mK M30 a0 = 2 ∧ Cv G y_Wo_add d [vr a0, vi v48, vi l1, vi l2] M30 (fun M53 => mOk M53 ∧ (((v42 = 0) → mK M53 a0 = 2) ∧ ∀ v58 : Int, v58 = (if (v42 = 0) then mI M53 a0 1 else l3) → Q v58 M53)))) ∧ (¬ (x31 = 0) → (i32 (l3 - l1) ∧ (¬ (9 ≤ l3 - l1) → (mK M30 a0 = 2 ∧ mK M30 (mR M30 a0 0) = 32 ∧ ((0 : Int) ≤ l3 ∧ l3 < (mN M30 (mR M30 a0 0) : Int)))) ∧ ∀ v70 : Int, v70 = (if (9 ≤ l3 - l1) then 0 else (10 * l2) + ((mI M30 (mR M30 a0 0) (Int.toNat l3)) - 48)) → h_Wo_takeNumber_4 G d a0 l1 v70 (l3 + 1) M30 Q))))))) :
    h_Wo_takeNumber_4 G d a0 l1 l2 l3 M Q := by
  unfold h_Wo_takeNumber_4
  obtain ⟨h1, h⟩ := h
  refine wm_iload_n d_Wo_takeNumber_4 rfl rfl ?_
  refine wm_aload_n d_Wo_takeNumber_5 rfl rfl ?_
  refine gf_Wo_25 rfl d_Wo_takeNumber_6 h1 ?_
  refine wm_icmp_ge (tgt := 57) d_Wo_takeNumber_9 rfl hi_l3 (hO _ _).1 (fun c3 => ?_) (fun c3 => ?_)
  · replace h := h.1 c3
    obtain ⟨h4, h⟩ := h
    refine wm_iload_n d_Wo_takeNumber_57 rfl rfl ?_
    refine wm_iload_n d_Wo_takeNumber_58 rfl rfl ?_
    refine wm_isub d_Wo_takeNumber_59 ?_
    refine wm_bipush d_Wo_takeNumber_60 (by decide) ?_
    have hJ : ∀ v6 : Int, v6 = (if (9 < l3 - l1) then 0 else 1) → mWm G y_Wo_takeNumber (d + 1) 70 [vr a0, vi l1, vi l2, vi l3, vd] [vi v6] M (fun r9 M9 => ∃ x9, r9 = some (vi x9) ∧ Q x9 M9) := by
      intro v6 e8
      have h := h v6 e8
      have h9 : i32 v6 := by rw [e8]; (repeat' split) <;> first | exact ⟨by decide, by decide⟩ | exact ⟨by decide, by decide⟩
      have h10 : (v6 = 0 ∨ v6 = 1) := by rw [e8]; (repeat' split) <;> decide
      refine wm_istore d_Wo_takeNumber_70 (by decide) (L' := [vr a0, vi l1, vi l2, vi l3, vi v6]) rfl ?_
      refine wm_aload_n d_Wo_takeNumber_72 rfl rfl ?_
      refine wm_iload d_Wo_takeNumber_73 rfl ?_
      have hJ : ∀ v12 : Int, v12 = (if (v6 = 0) then 1 else 3) → mWm G y_Wo_takeNumber (d + 1) 83 [vr a0, vi l1, vi l2, vi l3, vi v6] [vi v12, vr a0] M (fun r9 M9 => ∃ x9, r9 = some (vi x9) ∧ Q x9 M9) := by
        intro v12 e14
        have h := h v12 e14
        have h15 : i32 v12 := by rw [e14]; (repeat' split) <;> first | exact ⟨by decide, by decide⟩ | exact ⟨by decide, by decide⟩
        refine wm_iload_n d_Wo_takeNumber_83 rfl rfl ?_
        refine wm_iload_n d_Wo_takeNumber_84 rfl rfl ?_
        refine cf_Wo_43 rfl d_Wo_takeNumber_85 h1 (Nat.le_of_ble_eq_true rfl) (Cv.mono h (fun M16 h => ?_))
        obtain ⟨hOM16, h⟩ := h
        refine wm_iload d_Wo_takeNumber_88 rfl ?_
        obtain ⟨s22, h⟩ := h
        have hJ : ∀ v21 : Int, v21 = (if (v6 = 0) then mI M16 a0 1 else l3) → mWm G y_Wo_takeNumber (d + 1) 101 [vd, vd, vd, vd, vd] [vi v21] M16 (fun r9 M9 => ∃ x9, r9 = some (vi x9) ∧ Q x9 M9) := by
          intro v21 e23
          have h := h v21 e23
          refine wm_ireturn d_Wo_takeNumber_101 rfl rfl ?_
          exact ⟨_, rfl, h⟩
        clear h
        have s24 := s22
        refine wm_if_eq (tgt := 97) d_Wo_takeNumber_90 rfl h9 (fun c19 => ?_) (fun c19 => ?_)
        · have s24 := s24 c19
          have h20 := s24
          refine wm_aload_n d_Wo_takeNumber_97 rfl rfl ?_
          refine gf_Wo_25 rfl d_Wo_takeNumber_98 h20 ?_
          refine wm_less (L' := [vd, vd, vd, vd, vd]) ⟨Or.inl rfl, Or.inl rfl, Or.inl rfl, Or.inl rfl, Or.inl rfl, trivial⟩ ?_
          exact hJ (mI M16 a0 1) (if_pos c19).symm
        · refine wm_iload_n d_Wo_takeNumber_93 rfl rfl ?_
          refine wm_goto (tgt := 101) d_Wo_takeNumber_94 rfl ?_
          refine wm_less (L' := [vd, vd, vd, vd, vd]) ⟨Or.inl rfl, Or.inl rfl, Or.inl rfl, Or.inl rfl, Or.inl rfl, trivial⟩ ?_
          exact hJ l3 (if_neg c19).symm
      clear h
      refine wm_if_eq (tgt := 82) d_Wo_takeNumber_75 rfl h9 (fun c11 => ?_) (fun c11 => ?_)
      · refine wm_iconst d_Wo_takeNumber_82 ?_
        exact hJ 1 (if_pos c11).symm
      · refine wm_iconst d_Wo_takeNumber_78 ?_
        refine wm_goto (tgt := 83) d_Wo_takeNumber_79 rfl ?_
        exact hJ 3 (if_neg c11).symm
    clear h
    refine wm_icmp_gt (tgt := 69) d_Wo_takeNumber_62 rfl h4 ⟨by decide, by decide⟩ (fun c5 => ?_) (fun c5 => ?_)
    · refine wm_iconst d_Wo_takeNumber_69 ?_
      exact hJ 0 (if_pos c5).symm
    · refine wm_iconst d_Wo_takeNumber_65 ?_
      refine wm_goto (tgt := 70) d_Wo_takeNumber_66 rfl ?_
      exact hJ 1 (if_neg c5).symm
  · replace h := h.2 c3
    obtain ⟨h28, h⟩ := h
    obtain ⟨h29, h⟩ := h
    refine wm_aload_n d_Wo_takeNumber_12 rfl rfl ?_
    refine gf_Wo_9 rfl d_Wo_takeNumber_13 h1 ?_
    refine wm_iload_n d_Wo_takeNumber_16 rfl rfl ?_
    refine wm_cald d_Wo_takeNumber_17 h28 h29 ?_
    refine cf_Wo_54 rfl d_Wo_takeNumber_18 (Nat.le_of_ble_eq_true rfl) (Ci.mono h (fun x31 M30 h => ?_))
    obtain ⟨h32, hOM30, h⟩ := h
    refine wm_if_eq (tgt := 57) d_Wo_takeNumber_21 rfl h32 (fun c39 => ?_) (fun c39 => ?_)
    · replace h := h.1 c39
      obtain ⟨h40, h⟩ := h
      refine wm_iload_n d_Wo_takeNumber_57 rfl rfl ?_
      refine wm_iload_n d_Wo_takeNumber_58 rfl rfl ?_
      refine wm_isub d_Wo_takeNumber_59 ?_
      refine wm_bipush d_Wo_takeNumber_60 (by decide) ?_
      have hJ : ∀ v42 : Int, v42 = (if (9 < l3 - l1) then 0 else 1) → mWm G y_Wo_takeNumber (d + 1) 70 [vr a0, vi l1, vi l2, vi l3, vd] [vi v42] M30 (fun r9 M9 => ∃ x9, r9 = some (vi x9) ∧ Q x9 M9) := by
        intro v42 e44
        have h := h v42 e44
        have h45 : i32 v42 := by rw [e44]; (repeat' split) <;> first | exact ⟨by decide, by decide⟩ | exact ⟨by decide, by decide⟩
        have h46 : (v42 = 0 ∨ v42 = 1) := by rw [e44]; (repeat' split) <;> decide
        refine wm_istore d_Wo_takeNumber_70 (by decide) (L' := [vr a0, vi l1, vi l2, vi l3, vi v42]) rfl ?_
        refine wm_aload_n d_Wo_takeNumber_72 rfl rfl ?_
        refine wm_iload d_Wo_takeNumber_73 rfl ?_
        have hJ : ∀ v48 : Int, v48 = (if (v42 = 0) then 1 else 3) → mWm G y_Wo_takeNumber (d + 1) 83 [vr a0, vi l1, vi l2, vi l3, vi v42] [vi v48, vr a0] M30 (fun r9 M9 => ∃ x9, r9 = some (vi x9) ∧ Q x9 M9) := by
          intro v48 e50
          have h := h v48 e50
          have h51 : i32 v48 := by rw [e50]; (repeat' split) <;> first | exact ⟨by decide, by decide⟩ | exact ⟨by decide, by decide⟩
          obtain ⟨h52, h⟩ := h
          refine wm_iload_n d_Wo_takeNumber_83 rfl rfl ?_
          refine wm_iload_n d_Wo_takeNumber_84 rfl rfl ?_
          refine cf_Wo_43 rfl d_Wo_takeNumber_85 h52 (Nat.le_of_ble_eq_true rfl) (Cv.mono h (fun M53 h => ?_))
          obtain ⟨hOM53, h⟩ := h
          refine wm_iload d_Wo_takeNumber_88 rfl ?_
          obtain ⟨s59, h⟩ := h
          have hJ : ∀ v58 : Int, v58 = (if (v42 = 0) then mI M53 a0 1 else l3) → mWm G y_Wo_takeNumber (d + 1) 101 [vd, vd, vd, vd, vd] [vi v58] M53 (fun r9 M9 => ∃ x9, r9 = some (vi x9) ∧ Q x9 M9) := by
            intro v58 e60
            have h := h v58 e60
            refine wm_ireturn d_Wo_takeNumber_101 rfl rfl ?_
            exact ⟨_, rfl, h⟩
          clear h
          have s61 := s59
          refine wm_if_eq (tgt := 97) d_Wo_takeNumber_90 rfl h45 (fun c56 => ?_) (fun c56 => ?_)
          · have s61 := s61 c56
            have h57 := s61
            refine wm_aload_n d_Wo_takeNumber_97 rfl rfl ?_
            refine gf_Wo_25 rfl d_Wo_takeNumber_98 h57 ?_
            refine wm_less (L' := [vd, vd, vd, vd, vd]) ⟨Or.inl rfl, Or.inl rfl, Or.inl rfl, Or.inl rfl, Or.inl rfl, trivial⟩ ?_
            exact hJ (mI M53 a0 1) (if_pos c56).symm
          · refine wm_iload_n d_Wo_takeNumber_93 rfl rfl ?_
            refine wm_goto (tgt := 101) d_Wo_takeNumber_94 rfl ?_
            refine wm_less (L' := [vd, vd, vd, vd, vd]) ⟨Or.inl rfl, Or.inl rfl, Or.inl rfl, Or.inl rfl, Or.inl rfl, trivial⟩ ?_
            exact hJ l3 (if_neg c56).symm
        clear h
        refine wm_if_eq (tgt := 82) d_Wo_takeNumber_75 rfl h45 (fun c47 => ?_) (fun c47 => ?_)
        · refine wm_iconst d_Wo_takeNumber_82 ?_
          exact hJ 1 (if_pos c47).symm
        · refine wm_iconst d_Wo_takeNumber_78 ?_
          refine wm_goto (tgt := 83) d_Wo_takeNumber_79 rfl ?_
          exact hJ 3 (if_neg c47).symm
      clear h
      refine wm_icmp_gt (tgt := 69) d_Wo_takeNumber_62 rfl h40 ⟨by decide, by decide⟩ (fun c41 => ?_) (fun c41 => ?_)
      · refine wm_iconst d_Wo_takeNumber_69 ?_
        exact hJ 0 (if_pos c41).symm
      · refine wm_iconst d_Wo_takeNumber_65 ?_
        refine wm_goto (tgt := 70) d_Wo_takeNumber_66 rfl ?_
        exact hJ 1 (if_neg c41).symm
    · replace h := h.2 c39
      obtain ⟨h65, h⟩ := h
      refine wm_iload_n d_Wo_takeNumber_24 rfl rfl ?_
      refine wm_iload_n d_Wo_takeNumber_25 rfl rfl ?_
      refine wm_isub d_Wo_takeNumber_26 ?_
      refine wm_bipush d_Wo_takeNumber_27 (by decide) ?_
      obtain ⟨s71, h⟩ := h
      have hJ : ∀ v70 : Int, v70 = (if (9 ≤ l3 - l1) then 0 else (10 * l2) + ((mI M30 (mR M30 a0 0) (Int.toNat l3)) - 48)) → mWm G y_Wo_takeNumber (d + 1) 50 [vr a0, vi l1, vd, vi l3, vd] [vi v70] M30 (fun r9 M9 => ∃ x9, r9 = some (vi x9) ∧ Q x9 M9) := by
        intro v70 e72
        have h := h v70 e72
        refine wm_istore_n d_Wo_takeNumber_50 rfl (by decide) (L' := [vr a0, vi l1, vi v70, vi l3, vd]) rfl ?_
        refine wm_iinc d_Wo_takeNumber_51 (by decide) rfl (L' := [vr a0, vi l1, vi v70, vi (l3 + 1), vd]) rfl ?_
        refine wm_goto (tgt := 4) d_Wo_takeNumber_54 rfl ?_
        exact h
      clear h
      have s73 := s71
      refine wm_icmp_ge (tgt := 49) d_Wo_takeNumber_29 rfl h65 ⟨by decide, by decide⟩ (fun c66 => ?_) (fun c66 => ?_)
      · refine wm_iconst d_Wo_takeNumber_49 ?_
        refine wm_less (L' := [vr a0, vi l1, vd, vi l3, vd]) ⟨Or.inr rfl, Or.inr rfl, Or.inl rfl, Or.inr rfl, Or.inl rfl, trivial⟩ ?_
        exact hJ 0 (if_pos c66).symm
      · have s73 := s73 c66
        obtain ⟨h67, h68, h69⟩ := s73
        refine wm_bipush d_Wo_takeNumber_32 (by decide) ?_
        refine wm_iload_n d_Wo_takeNumber_34 rfl rfl ?_
        refine wm_imul d_Wo_takeNumber_35 ?_
        refine wm_aload_n d_Wo_takeNumber_36 rfl rfl ?_
        refine gf_Wo_9 rfl d_Wo_takeNumber_37 h67 ?_
        refine wm_iload_n d_Wo_takeNumber_40 rfl rfl ?_
        refine wm_cald d_Wo_takeNumber_41 h68 h69 ?_
        refine wm_bipush d_Wo_takeNumber_42 (by decide) ?_
        refine wm_isub d_Wo_takeNumber_44 ?_
        refine wm_iadd d_Wo_takeNumber_45 ?_
        refine wm_goto (tgt := 50) d_Wo_takeNumber_46 rfl ?_
        refine wm_less (L' := [vr a0, vi l1, vd, vi l3, vd]) ⟨Or.inr rfl, Or.inr rfl, Or.inl rfl, Or.inr rfl, Or.inl rfl, trivial⟩ ?_
        exact hJ ((10 * l2) + ((mI M30 (mR M30 a0 0) (Int.toNat l3)) - 48)) (if_neg c66).symm
theorem d_Wo_isLetter_0 : decode y_Wo_isLetter.2.1 0 = .ok (.iload_n 0, 1) := dc9_26 (by decide +kernel)
theorem d_Wo_isLetter_1 : decode y_Wo_isLetter.2.1 1 = .ok (.bipush 97, 2) := dc9_16 (by decide +kernel)
theorem d_Wo_isLetter_3 : decode y_Wo_isLetter.2.1 3 = .ok (.if_icmp .lt 9, 3) := dc9_161 (by decide +kernel)
theorem d_Wo_isLetter_12 : decode y_Wo_isLetter.2.1 12 = .ok (.iload_n 0, 1) := dc9_26 (by decide +kernel)
theorem d_Wo_isLetter_13 : decode y_Wo_isLetter.2.1 13 = .ok (.bipush 65, 2) := dc9_16 (by decide +kernel)
theorem d_Wo_isLetter_15 : decode y_Wo_isLetter.2.1 15 = .ok (.if_icmp .lt 13, 3) := dc9_161 (by decide +kernel)
theorem d_Wo_isLetter_28 : decode y_Wo_isLetter.2.1 28 = .ok (.iconst 0, 1) := dc9_3 (by decide +kernel)
theorem d_Wo_isLetter_18 : decode y_Wo_isLetter.2.1 18 = .ok (.iload_n 0, 1) := dc9_26 (by decide +kernel)
theorem d_Wo_isLetter_19 : decode y_Wo_isLetter.2.1 19 = .ok (.bipush 90, 2) := dc9_16 (by decide +kernel)
theorem d_Wo_isLetter_21 : decode y_Wo_isLetter.2.1 21 = .ok (.if_icmp .gt 7, 3) := dc9_163 (by decide +kernel)
theorem d_Wo_isLetter_24 : decode y_Wo_isLetter.2.1 24 = .ok (.iconst 1, 1) := dc9_4 (by decide +kernel)
theorem d_Wo_isLetter_25 : decode y_Wo_isLetter.2.1 25 = .ok (.goto 4, 3) := dc9_167 (by decide +kernel)
theorem d_Wo_isLetter_6 : decode y_Wo_isLetter.2.1 6 = .ok (.iload_n 0, 1) := dc9_26 (by decide +kernel)
theorem d_Wo_isLetter_7 : decode y_Wo_isLetter.2.1 7 = .ok (.bipush 122, 2) := dc9_16 (by decide +kernel)
theorem d_Wo_isLetter_9 : decode y_Wo_isLetter.2.1 9 = .ok (.if_icmp .le 15, 3) := dc9_164 (by decide +kernel)
theorem d_Wo_isLetter_29 : decode y_Wo_isLetter.2.1 29 = .ok (.ireturn, 1) := dc9_172 (by decide +kernel)
theorem k_Wo_isLetter {G : mG} {d : Nat} {l0 : Int} {M : mM} {Q : Int → mM → Prop} (hO : mOk M) (hi_l0 : i32 l0)
    (h : ∀ v7 : Int, v7 = (if (((l0 < 97) ∧ ((l0 < 65) ∨ (90 < l0))) ∨ ((¬ (l0 < 97)) ∧ ((¬ (l0 ≤ 122)) ∧ ((l0 < 65) ∨ (90 < l0))))) then 0 else 1) → Q v7 M) :
    Ci G y_Wo_isLetter d [vi l0] M Q := by
  refine wm_open (y := y_Wo_isLetter) rfl (Nat.le_of_ble_eq_true rfl) (L := [vi l0]) rfl ?_
  refine wm_iload_n d_Wo_isLetter_0 rfl rfl ?_
  refine wm_bipush d_Wo_isLetter_1 (by decide) ?_
  have hJ : ∀ v7 : Int, v7 = (if (((l0 < 97) ∧ ((l0 < 65) ∨ (90 < l0))) ∨ ((¬ (l0 < 97)) ∧ ((¬ (l0 ≤ 122)) ∧ ((l0 < 65) ∨ (90 < l0))))) then 0 else 1) → mWm G y_Wo_isLetter d 29 [vd] [vi v7] M (fun r9 M9 => ∃ x9, r9 = some (vi x9) ∧ Q x9 M9) := by
    intro v7 e9
    have h := h v7 e9
    have h10 : i32 v7 := by rw [e9]; (repeat' split) <;> first | exact ⟨by decide, by decide⟩ | exact ⟨by decide, by decide⟩
    have h11 : (v7 = 0 ∨ v7 = 1) := by rw [e9]; (repeat' split) <;> decide
    refine wm_ireturn d_Wo_isLetter_29 rfl (m_nb h11) ?_
    exact ⟨_, rfl, h⟩
  clear h
  refine wm_icmp_lt (tgt := 12) d_Wo_isLetter_3 rfl hi_l0 ⟨by decide, by decide⟩ (fun c1 => ?_) (fun c1 => ?_)
  · refine wm_iload_n d_Wo_isLetter_12 rfl rfl ?_
    refine wm_bipush d_Wo_isLetter_13 (by decide) ?_
    refine wm_icmp_lt (tgt := 28) d_Wo_isLetter_15 rfl hi_l0 ⟨by decide, by decide⟩ (fun c2 => ?_) (fun c2 => ?_)
    · refine wm_iconst d_Wo_isLetter_28 ?_
      refine wm_less (L' := [vd]) ⟨Or.inl rfl, trivial⟩ ?_
      exact hJ 0 (if_pos (Or.inl ⟨c1, (Or.inl c2)⟩)).symm
    · refine wm_iload_n d_Wo_isLetter_18 rfl rfl ?_
      refine wm_bipush d_Wo_isLetter_19 (by decide) ?_
      refine wm_icmp_gt (tgt := 28) d_Wo_isLetter_21 rfl hi_l0 ⟨by decide, by decide⟩ (fun c3 => ?_) (fun c3 => ?_)
      · refine wm_iconst d_Wo_isLetter_28 ?_
        refine wm_less (L' := [vd]) ⟨Or.inl rfl, trivial⟩ ?_
        exact hJ 0 (if_pos (Or.inl ⟨c1, (Or.inr c3)⟩)).symm
      · refine wm_iconst d_Wo_isLetter_24 ?_
        refine wm_goto (tgt := 29) d_Wo_isLetter_25 rfl ?_
        refine wm_less (L' := [vd]) ⟨Or.inl rfl, trivial⟩ ?_
        exact hJ 1 (if_neg (fun z12 => Or.elim z12 (fun w => (fun z13 => Or.elim z13 c2 c3) w.2) (fun w => w.1 c1))).symm
  · refine wm_iload_n d_Wo_isLetter_6 rfl rfl ?_
    refine wm_bipush d_Wo_isLetter_7 (by decide) ?_
    refine wm_icmp_le (tgt := 24) d_Wo_isLetter_9 rfl hi_l0 ⟨by decide, by decide⟩ (fun c4 => ?_) (fun c4 => ?_)
    · refine wm_iconst d_Wo_isLetter_24 ?_
      refine wm_goto (tgt := 29) d_Wo_isLetter_25 rfl ?_
      refine wm_less (L' := [vd]) ⟨Or.inl rfl, trivial⟩ ?_
      exact hJ 1 (if_neg (fun z15 => Or.elim z15 (fun w => c1 w.1) (fun w => (fun z16 => z16.1 c4) w.2))).symm
    · refine wm_iload_n d_Wo_isLetter_12 rfl rfl ?_
      refine wm_bipush d_Wo_isLetter_13 (by decide) ?_
      refine wm_icmp_lt (tgt := 28) d_Wo_isLetter_15 rfl hi_l0 ⟨by decide, by decide⟩ (fun c5 => ?_) (fun c5 => ?_)
      · refine wm_iconst d_Wo_isLetter_28 ?_
        refine wm_less (L' := [vd]) ⟨Or.inl rfl, trivial⟩ ?_
        exact hJ 0 (if_pos (Or.inr ⟨c1, ⟨c4, (Or.inl c5)⟩⟩)).symm
      · refine wm_iload_n d_Wo_isLetter_18 rfl rfl ?_
        refine wm_bipush d_Wo_isLetter_19 (by decide) ?_
        refine wm_icmp_gt (tgt := 28) d_Wo_isLetter_21 rfl hi_l0 ⟨by decide, by decide⟩ (fun c6 => ?_) (fun c6 => ?_)
        · refine wm_iconst d_Wo_isLetter_28 ?_
          refine wm_less (L' := [vd]) ⟨Or.inl rfl, trivial⟩ ?_
          exact hJ 0 (if_pos (Or.inr ⟨c1, ⟨c4, (Or.inr c6)⟩⟩)).symm
        · refine wm_iconst d_Wo_isLetter_24 ?_
          refine wm_goto (tgt := 29) d_Wo_isLetter_25 rfl ?_
          refine wm_less (L' := [vd]) ⟨Or.inl rfl, trivial⟩ ?_
          exact hJ 1 (if_neg (fun z17 => Or.elim z17 (fun w => c1 w.1) (fun w => (fun z18 => (fun z19 => Or.elim z19 c5 c6) z18.2) w.2))).symm
theorem d_Wo_isDigit_0 : decode y_Wo_isDigit.2.1 0 = .ok (.iload_n 0, 1) := dc9_26 (by decide +kernel)
theorem d_Wo_isDigit_1 : decode y_Wo_isDigit.2.1 1 = .ok (.bipush 48, 2) := dc9_16 (by decide +kernel)
theorem d_Wo_isDigit_3 : decode y_Wo_isDigit.2.1 3 = .ok (.if_icmp .lt 13, 3) := dc9_161 (by decide +kernel)
theorem d_Wo_isDigit_16 : decode y_Wo_isDigit.2.1 16 = .ok (.iconst 0, 1) := dc9_3 (by decide +kernel)
theorem d_Wo_isDigit_6 : decode y_Wo_isDigit.2.1 6 = .ok (.iload_n 0, 1) := dc9_26 (by decide +kernel)
theorem d_Wo_isDigit_7 : decode y_Wo_isDigit.2.1 7 = .ok (.bipush 57, 2) := dc9_16 (by decide +kernel)
theorem d_Wo_isDigit_9 : decode y_Wo_isDigit.2.1 9 = .ok (.if_icmp .gt 7, 3) := dc9_163 (by decide +kernel)
theorem d_Wo_isDigit_12 : decode y_Wo_isDigit.2.1 12 = .ok (.iconst 1, 1) := dc9_4 (by decide +kernel)
theorem d_Wo_isDigit_13 : decode y_Wo_isDigit.2.1 13 = .ok (.goto 4, 3) := dc9_167 (by decide +kernel)
theorem d_Wo_isDigit_17 : decode y_Wo_isDigit.2.1 17 = .ok (.ireturn, 1) := dc9_172 (by decide +kernel)
theorem k_Wo_isDigit {G : mG} {d : Nat} {l0 : Int} {M : mM} {Q : Int → mM → Prop} (hO : mOk M) (hi_l0 : i32 l0)
    (h : ∀ v3 : Int, v3 = (if ((l0 < 48) ∨ (57 < l0)) then 0 else 1) → Q v3 M) :
    Ci G y_Wo_isDigit d [vi l0] M Q := by
  refine wm_open (y := y_Wo_isDigit) rfl (Nat.le_of_ble_eq_true rfl) (L := [vi l0]) rfl ?_
  refine wm_iload_n d_Wo_isDigit_0 rfl rfl ?_
  refine wm_bipush d_Wo_isDigit_1 (by decide) ?_
  have hJ : ∀ v3 : Int, v3 = (if ((l0 < 48) ∨ (57 < l0)) then 0 else 1) → mWm G y_Wo_isDigit d 17 [vd] [vi v3] M (fun r9 M9 => ∃ x9, r9 = some (vi x9) ∧ Q x9 M9) := by
    intro v3 e5
    have h := h v3 e5
    have h6 : i32 v3 := by rw [e5]; (repeat' split) <;> first | exact ⟨by decide, by decide⟩ | exact ⟨by decide, by decide⟩
    have h7 : (v3 = 0 ∨ v3 = 1) := by rw [e5]; (repeat' split) <;> decide
    refine wm_ireturn d_Wo_isDigit_17 rfl (m_nb h7) ?_
    exact ⟨_, rfl, h⟩
  clear h
  refine wm_icmp_lt (tgt := 16) d_Wo_isDigit_3 rfl hi_l0 ⟨by decide, by decide⟩ (fun c1 => ?_) (fun c1 => ?_)
  · refine wm_iconst d_Wo_isDigit_16 ?_
    refine wm_less (L' := [vd]) ⟨Or.inl rfl, trivial⟩ ?_
    exact hJ 0 (if_pos (Or.inl c1)).symm
  · refine wm_iload_n d_Wo_isDigit_6 rfl rfl ?_
    refine wm_bipush d_Wo_isDigit_7 (by decide) ?_
    refine wm_icmp_gt (tgt := 16) d_Wo_isDigit_9 rfl hi_l0 ⟨by decide, by decide⟩ (fun c2 => ?_) (fun c2 => ?_)
    · refine wm_iconst d_Wo_isDigit_16 ?_
      refine wm_less (L' := [vd]) ⟨Or.inl rfl, trivial⟩ ?_
      exact hJ 0 (if_pos (Or.inr c2)).symm
    · refine wm_iconst d_Wo_isDigit_12 ?_
      refine wm_goto (tgt := 17) d_Wo_isDigit_13 rfl ?_
      refine wm_less (L' := [vd]) ⟨Or.inl rfl, trivial⟩ ?_
      exact hJ 1 (if_neg (fun z8 => Or.elim z8 c1 c2)).symm
theorem d_Wo_longSign_0 : decode y_Wo_longSign.2.1 0 = .ok (.iload_n 0, 1) := dc9_26 (by decide +kernel)
theorem d_Wo_longSign_1 : decode y_Wo_longSign.2.1 1 = .ok (.bipush 46, 2) := dc9_16 (by decide +kernel)
theorem d_Wo_longSign_3 : decode y_Wo_longSign.2.1 3 = .ok (.if_icmp .ne 12, 3) := dc9_160 (by decide +kernel)
theorem d_Wo_longSign_6 : decode y_Wo_longSign.2.1 6 = .ok (.iload_n 1, 1) := dc9_27 (by decide +kernel)
theorem d_Wo_longSign_7 : decode y_Wo_longSign.2.1 7 = .ok (.bipush 46, 2) := dc9_16 (by decide +kernel)
theorem d_Wo_longSign_9 : decode y_Wo_longSign.2.1 9 = .ok (.if_icmp .ne 6, 3) := dc9_160 (by decide +kernel)
theorem d_Wo_longSign_12 : decode y_Wo_longSign.2.1 12 = .ok (.bipush 17, 2) := dc9_16 (by decide +kernel)
theorem d_Wo_longSign_14 : decode y_Wo_longSign.2.1 14 = .ok (.ireturn, 1) := dc9_172 (by decide +kernel)
theorem d_Wo_longSign_15 : decode y_Wo_longSign.2.1 15 = .ok (.iload_n 0, 1) := dc9_26 (by decide +kernel)
theorem d_Wo_longSign_16 : decode y_Wo_longSign.2.1 16 = .ok (.bipush 45, 2) := dc9_16 (by decide +kernel)
theorem d_Wo_longSign_18 : decode y_Wo_longSign.2.1 18 = .ok (.if_icmp .ne 12, 3) := dc9_160 (by decide +kernel)
theorem d_Wo_longSign_21 : decode y_Wo_longSign.2.1 21 = .ok (.iload_n 1, 1) := dc9_27 (by decide +kernel)
theorem d_Wo_longSign_22 : decode y_Wo_longSign.2.1 22 = .ok (.bipush 62, 2) := dc9_16 (by decide +kernel)
theorem d_Wo_longSign_24 : decode y_Wo_longSign.2.1 24 = .ok (.if_icmp .ne 6, 3) := dc9_160 (by decide +kernel)
theorem d_Wo_longSign_27 : decode y_Wo_longSign.2.1 27 = .ok (.bipush 18, 2) := dc9_16 (by decide +kernel)
theorem d_Wo_longSign_29 : decode y_Wo_longSign.2.1 29 = .ok (.ireturn, 1) := dc9_172 (by decide +kernel)
theorem d_Wo_longSign_30 : decode y_Wo_longSign.2.1 30 = .ok (.iload_n 1, 1) := dc9_27 (by decide +kernel)
theorem d_Wo_longSign_31 : decode y_Wo_longSign.2.1 31 = .ok (.bipush 61, 2) := dc9_16 (by decide +kernel)
theorem d_Wo_longSign_33 : decode y_Wo_longSign.2.1 33 = .ok (.if_icmp .eq 5, 3) := dc9_159 (by decide +kernel)
theorem d_Wo_longSign_38 : decode y_Wo_longSign.2.1 38 = .ok (.iload_n 0, 1) := dc9_26 (by decide +kernel)
theorem d_Wo_longSign_39 : decode y_Wo_longSign.2.1 39 = .ok (.bipush 33, 2) := dc9_16 (by decide +kernel)
theorem d_Wo_longSign_36 : decode y_Wo_longSign.2.1 36 = .ok (.iconst 1, 1) := dc9_4 (by decide +kernel)
theorem d_Wo_longSign_37 : decode y_Wo_longSign.2.1 37 = .ok (.ireturn, 1) := dc9_172 (by decide +kernel)
theorem d_Wo_longSign_41 : decode y_Wo_longSign.2.1 41 = .ok (.if_icmp .ne 8, 3) := dc9_160 (by decide +kernel)
theorem d_Wo_longSign_44 : decode y_Wo_longSign.2.1 44 = .ok (.bipush 19, 2) := dc9_16 (by decide +kernel)
theorem d_Wo_longSign_46 : decode y_Wo_longSign.2.1 46 = .ok (.goto 26, 3) := dc9_167 (by decide +kernel)
theorem d_Wo_longSign_72 : decode y_Wo_longSign.2.1 72 = .ok (.ireturn, 1) := dc9_172 (by decide +kernel)
theorem d_Wo_longSign_49 : decode y_Wo_longSign.2.1 49 = .ok (.iload_n 0, 1) := dc9_26 (by decide +kernel)
theorem d_Wo_longSign_50 : decode y_Wo_longSign.2.1 50 = .ok (.bipush 60, 2) := dc9_16 (by decide +kernel)
theorem d_Wo_longSign_52 : decode y_Wo_longSign.2.1 52 = .ok (.if_icmp .ne 8, 3) := dc9_160 (by decide +kernel)
theorem d_Wo_longSign_55 : decode y_Wo_longSign.2.1 55 = .ok (.bipush 20, 2) := dc9_16 (by decide +kernel)
theorem d_Wo_longSign_57 : decode y_Wo_longSign.2.1 57 = .ok (.goto 15, 3) := dc9_167 (by decide +kernel)
theorem d_Wo_longSign_60 : decode y_Wo_longSign.2.1 60 = .ok (.iload_n 0, 1) := dc9_26 (by decide +kernel)
theorem d_Wo_longSign_61 : decode y_Wo_longSign.2.1 61 = .ok (.bipush 62, 2) := dc9_16 (by decide +kernel)
theorem d_Wo_longSign_63 : decode y_Wo_longSign.2.1 63 = .ok (.if_icmp .ne 8, 3) := dc9_160 (by decide +kernel)
theorem d_Wo_longSign_66 : decode y_Wo_longSign.2.1 66 = .ok (.bipush 21, 2) := dc9_16 (by decide +kernel)
theorem d_Wo_longSign_68 : decode y_Wo_longSign.2.1 68 = .ok (.goto 4, 3) := dc9_167 (by decide +kernel)
theorem d_Wo_longSign_71 : decode y_Wo_longSign.2.1 71 = .ok (.iconst 1, 1) := dc9_4 (by decide +kernel)
theorem k_Wo_longSign {G : mG} {d : Nat} {l0 : Int} {l1 : Int} {M : mM} {Q : Int → mM → Prop} (hO : mOk M) (hi_l0 : i32 l0) (hi_l1 : i32 l1)
    (h : (((l0 = 46) ∧ (l1 = 46)) → (Q 17 M)) ∧ (¬ ((l0 = 46) ∧ (l1 = 46)) → ((((l0 = 45) ∧ (l1 = 62)) → (Q 18 M)) ∧ (¬ ((l0 = 45) ∧ (l1 = 62)) → (((l1 = 61) → (∀ v19 : Int, v19 = (if l0 = 33 then 19 else (if l0 = 60 then 20 else (if l0 = 62 then 21 else 1))) → Q v19 M)) ∧ (¬ (l1 = 61) → (Q 1 M))))))) :
    Ci G y_Wo_longSign d [vi l0, vi l1] M Q := by
  refine wm_open (y := y_Wo_longSign) rfl (Nat.le_of_ble_eq_true rfl) (L := [vi l0, vi l1]) rfl ?_
  refine wm_iload_n d_Wo_longSign_0 rfl rfl ?_
  refine wm_bipush d_Wo_longSign_1 (by decide) ?_
  have hE0 : ((l0 = 46) ∧ (l1 = 46)) → mWm G y_Wo_longSign d 12 [vi l0, vi l1] [] M (fun r9 M9 => ∃ x9, r9 = some (vi x9) ∧ Q x9 M9) := by
    intro q4
    have h := h.1 q4
    refine wm_bipush d_Wo_longSign_12 (by decide) ?_
    refine wm_ireturn d_Wo_longSign_14 rfl rfl ?_
    exact ⟨_, rfl, h⟩
  have hE1 : ¬ ((l0 = 46) ∧ (l1 = 46)) → mWm G y_Wo_longSign d 15 [vi l0, vi l1] [] M (fun r9 M9 => ∃ x9, r9 = some (vi x9) ∧ Q x9 M9) := by
    intro q5
    have h := h.2 q5
    refine wm_iload_n d_Wo_longSign_15 rfl rfl ?_
    refine wm_bipush d_Wo_longSign_16 (by decide) ?_
    have hE0 : ((l0 = 45) ∧ (l1 = 62)) → mWm G y_Wo_longSign d 27 [vi l0, vi l1] [] M (fun r9 M9 => ∃ x9, r9 = some (vi x9) ∧ Q x9 M9) := by
      intro q9
      have h := h.1 q9
      refine wm_bipush d_Wo_longSign_27 (by decide) ?_
      refine wm_ireturn d_Wo_longSign_29 rfl rfl ?_
      exact ⟨_, rfl, h⟩
    have hE1 : ¬ ((l0 = 45) ∧ (l1 = 62)) → mWm G y_Wo_longSign d 30 [vi l0, vi l1] [] M (fun r9 M9 => ∃ x9, r9 = some (vi x9) ∧ Q x9 M9) := by
      intro q10
      have h := h.2 q10
      refine wm_iload_n d_Wo_longSign_30 rfl rfl ?_
      refine wm_bipush d_Wo_longSign_31 (by decide) ?_
      refine wm_icmp_eq (tgt := 38) d_Wo_longSign_33 rfl hi_l1 ⟨by decide, by decide⟩ (fun c15 => ?_) (fun c15 => ?_)
      · replace h := h.1 c15
        refine wm_iload_n d_Wo_longSign_38 rfl rfl ?_
        refine wm_bipush d_Wo_longSign_39 (by decide) ?_
        have hJ : ∀ v19 : Int, v19 = (if l0 = 33 then 19 else (if l0 = 60 then 20 else (if l0 = 62 then 21 else 1))) → mWm G y_Wo_longSign d 72 [vd, vd] [vi v19] M (fun r9 M9 => ∃ x9, r9 = some (vi x9) ∧ Q x9 M9) := by
          intro v19 e21
          have h := h v19 e21
          have h22 : i32 v19 := by rw [e21]; (repeat' split) <;> first | exact ⟨by decide, by decide⟩ | exact ⟨by decide, by decide⟩ | exact ⟨by decide, by decide⟩ | exact ⟨by decide, by decide⟩
          refine wm_ireturn d_Wo_longSign_72 rfl rfl ?_
          exact ⟨_, rfl, h⟩
        clear h
        refine wm_icmp_ne (tgt := 49) d_Wo_longSign_41 rfl hi_l0 ⟨by decide, by decide⟩ (fun c16 => ?_) (fun c16 => ?_)
        · refine wm_iload_n d_Wo_longSign_49 rfl rfl ?_
          refine wm_bipush d_Wo_longSign_50 (by decide) ?_
          refine wm_icmp_ne (tgt := 60) d_Wo_longSign_52 rfl hi_l0 ⟨by decide, by decide⟩ (fun c17 => ?_) (fun c17 => ?_)
          · refine wm_iload_n d_Wo_longSign_60 rfl rfl ?_
            refine wm_bipush d_Wo_longSign_61 (by decide) ?_
            refine wm_icmp_ne (tgt := 71) d_Wo_longSign_63 rfl hi_l0 ⟨by decide, by decide⟩ (fun c18 => ?_) (fun c18 => ?_)
            · refine wm_iconst d_Wo_longSign_71 ?_
              refine wm_less (L' := [vd, vd]) ⟨Or.inl rfl, Or.inl rfl, trivial⟩ ?_
              exact hJ 1 (by rw [if_neg c16, if_neg c17, if_neg c18])
            · replace c18 := Classical.not_not.mp c18
              refine wm_bipush d_Wo_longSign_66 (by decide) ?_
              refine wm_goto (tgt := 72) d_Wo_longSign_68 rfl ?_
              refine wm_less (L' := [vd, vd]) ⟨Or.inl rfl, Or.inl rfl, trivial⟩ ?_
              exact hJ 21 (by rw [if_neg c16, if_neg c17, if_pos c18])
          · replace c17 := Classical.not_not.mp c17
            refine wm_bipush d_Wo_longSign_55 (by decide) ?_
            refine wm_goto (tgt := 72) d_Wo_longSign_57 rfl ?_
            refine wm_less (L' := [vd, vd]) ⟨Or.inl rfl, Or.inl rfl, trivial⟩ ?_
            exact hJ 20 (by rw [if_neg c16, if_pos c17])
        · replace c16 := Classical.not_not.mp c16
          refine wm_bipush d_Wo_longSign_44 (by decide) ?_
          refine wm_goto (tgt := 72) d_Wo_longSign_46 rfl ?_
          refine wm_less (L' := [vd, vd]) ⟨Or.inl rfl, Or.inl rfl, trivial⟩ ?_
          exact hJ 19 (by rw [if_pos c16])
      · replace h := h.2 c15
        refine wm_iconst d_Wo_longSign_36 ?_
        refine wm_ireturn d_Wo_longSign_37 rfl rfl ?_
        exact ⟨_, rfl, h⟩
    clear h
    refine wm_icmp_ne (tgt := 30) d_Wo_longSign_18 rfl hi_l0 ⟨by decide, by decide⟩ (fun c7 => ?_) (fun c7 => ?_)
    · exact hE1 (fun z25 => c7 z25.1)
    · replace c7 := Classical.not_not.mp c7
      refine wm_iload_n d_Wo_longSign_21 rfl rfl ?_
      refine wm_bipush d_Wo_longSign_22 (by decide) ?_
      refine wm_icmp_ne (tgt := 30) d_Wo_longSign_24 rfl hi_l1 ⟨by decide, by decide⟩ (fun c6 => ?_) (fun c6 => ?_)
      · exact hE1 (fun z23 => c6 z23.2)
      · replace c6 := Classical.not_not.mp c6
        exact hE0 ⟨c7, c6⟩
  clear h
  refine wm_icmp_ne (tgt := 15) d_Wo_longSign_3 rfl hi_l0 ⟨by decide, by decide⟩ (fun c2 => ?_) (fun c2 => ?_)
  · exact hE1 (fun z28 => c2 z28.1)
  · replace c2 := Classical.not_not.mp c2
    refine wm_iload_n d_Wo_longSign_6 rfl rfl ?_
    refine wm_bipush d_Wo_longSign_7 (by decide) ?_
    refine wm_icmp_ne (tgt := 15) d_Wo_longSign_9 rfl hi_l1 ⟨by decide, by decide⟩ (fun c1 => ?_) (fun c1 => ?_)
    · exact hE1 (fun z26 => c1 z26.2)
    · replace c1 := Classical.not_not.mp c1
      exact hE0 ⟨c2, c1⟩
theorem d_Wo_shortSign_0 : decode y_Wo_shortSign.2.1 0 = .ok (.iload_n 0, 1) := dc9_26 (by decide +kernel)
theorem d_Wo_shortSign_1 : decode y_Wo_shortSign.2.1 1 = .ok (.lookupswitch 209 #[(33, 185), (37, 176), (38, 179), (39, 206), (40, 200), (41, 203), (42, 170), (43, 164), (44, 197), (45, 167), (47, 173), (58, 191), (59, 194), (60, 155), (61, 161), (62, 158), (63, 188), (124, 182)], 155) := by decide +kernel
theorem z_Wo_shortSign_1_s : lkS #[(33, 185), (37, 176), (38, 179), (39, 206), (40, 200), (41, 203), (42, 170), (43, 164), (44, 197), (45, 167), (47, 173), (58, 191), (59, 194), (60, 155), (61, 161), (62, 158), (63, 188), (124, 182)] := by unfold lkS; decide
theorem d_Wo_shortSign_186 : decode y_Wo_shortSign.2.1 186 = .ok (.bipush 32, 2) := dc9_16 (by decide +kernel)
theorem d_Wo_shortSign_188 : decode y_Wo_shortSign.2.1 188 = .ok (.ireturn, 1) := dc9_172 (by decide +kernel)
theorem d_Wo_shortSign_177 : decode y_Wo_shortSign.2.1 177 = .ok (.bipush 29, 2) := dc9_16 (by decide +kernel)
theorem d_Wo_shortSign_179 : decode y_Wo_shortSign.2.1 179 = .ok (.ireturn, 1) := dc9_172 (by decide +kernel)
theorem d_Wo_shortSign_180 : decode y_Wo_shortSign.2.1 180 = .ok (.bipush 30, 2) := dc9_16 (by decide +kernel)
theorem d_Wo_shortSign_182 : decode y_Wo_shortSign.2.1 182 = .ok (.ireturn, 1) := dc9_172 (by decide +kernel)
theorem d_Wo_shortSign_207 : decode y_Wo_shortSign.2.1 207 = .ok (.bipush 39, 2) := dc9_16 (by decide +kernel)
theorem d_Wo_shortSign_209 : decode y_Wo_shortSign.2.1 209 = .ok (.ireturn, 1) := dc9_172 (by decide +kernel)
theorem d_Wo_shortSign_201 : decode y_Wo_shortSign.2.1 201 = .ok (.bipush 37, 2) := dc9_16 (by decide +kernel)
theorem d_Wo_shortSign_203 : decode y_Wo_shortSign.2.1 203 = .ok (.ireturn, 1) := dc9_172 (by decide +kernel)
theorem d_Wo_shortSign_204 : decode y_Wo_shortSign.2.1 204 = .ok (.bipush 38, 2) := dc9_16 (by decide +kernel)
theorem d_Wo_shortSign_206 : decode y_Wo_shortSign.2.1 206 = .ok (.ireturn, 1) := dc9_172 (by decide +kernel)
theorem d_Wo_shortSign_171 : decode y_Wo_shortSign.2.1 171 = .ok (.bipush 27, 2) := dc9_16 (by decide +kernel)
theorem d_Wo_shortSign_173 : decode y_Wo_shortSign.2.1 173 = .ok (.ireturn, 1) := dc9_172 (by decide +kernel)
theorem d_Wo_shortSign_165 : decode y_Wo_shortSign.2.1 165 = .ok (.bipush 25, 2) := dc9_16 (by decide +kernel)
theorem d_Wo_shortSign_167 : decode y_Wo_shortSign.2.1 167 = .ok (.ireturn, 1) := dc9_172 (by decide +kernel)
theorem d_Wo_shortSign_198 : decode y_Wo_shortSign.2.1 198 = .ok (.bipush 36, 2) := dc9_16 (by decide +kernel)
theorem d_Wo_shortSign_200 : decode y_Wo_shortSign.2.1 200 = .ok (.ireturn, 1) := dc9_172 (by decide +kernel)
theorem d_Wo_shortSign_168 : decode y_Wo_shortSign.2.1 168 = .ok (.bipush 26, 2) := dc9_16 (by decide +kernel)
theorem d_Wo_shortSign_170 : decode y_Wo_shortSign.2.1 170 = .ok (.ireturn, 1) := dc9_172 (by decide +kernel)
theorem d_Wo_shortSign_174 : decode y_Wo_shortSign.2.1 174 = .ok (.bipush 28, 2) := dc9_16 (by decide +kernel)
theorem d_Wo_shortSign_176 : decode y_Wo_shortSign.2.1 176 = .ok (.ireturn, 1) := dc9_172 (by decide +kernel)
theorem d_Wo_shortSign_192 : decode y_Wo_shortSign.2.1 192 = .ok (.bipush 34, 2) := dc9_16 (by decide +kernel)
theorem d_Wo_shortSign_194 : decode y_Wo_shortSign.2.1 194 = .ok (.ireturn, 1) := dc9_172 (by decide +kernel)
theorem d_Wo_shortSign_195 : decode y_Wo_shortSign.2.1 195 = .ok (.bipush 35, 2) := dc9_16 (by decide +kernel)
theorem d_Wo_shortSign_197 : decode y_Wo_shortSign.2.1 197 = .ok (.ireturn, 1) := dc9_172 (by decide +kernel)
theorem d_Wo_shortSign_156 : decode y_Wo_shortSign.2.1 156 = .ok (.bipush 22, 2) := dc9_16 (by decide +kernel)
theorem d_Wo_shortSign_158 : decode y_Wo_shortSign.2.1 158 = .ok (.ireturn, 1) := dc9_172 (by decide +kernel)
theorem d_Wo_shortSign_162 : decode y_Wo_shortSign.2.1 162 = .ok (.bipush 24, 2) := dc9_16 (by decide +kernel)
theorem d_Wo_shortSign_164 : decode y_Wo_shortSign.2.1 164 = .ok (.ireturn, 1) := dc9_172 (by decide +kernel)
theorem d_Wo_shortSign_159 : decode y_Wo_shortSign.2.1 159 = .ok (.bipush 23, 2) := dc9_16 (by decide +kernel)
theorem d_Wo_shortSign_161 : decode y_Wo_shortSign.2.1 161 = .ok (.ireturn, 1) := dc9_172 (by decide +kernel)
theorem d_Wo_shortSign_189 : decode y_Wo_shortSign.2.1 189 = .ok (.bipush 33, 2) := dc9_16 (by decide +kernel)
theorem d_Wo_shortSign_191 : decode y_Wo_shortSign.2.1 191 = .ok (.ireturn, 1) := dc9_172 (by decide +kernel)
theorem d_Wo_shortSign_183 : decode y_Wo_shortSign.2.1 183 = .ok (.bipush 31, 2) := dc9_16 (by decide +kernel)
theorem d_Wo_shortSign_185 : decode y_Wo_shortSign.2.1 185 = .ok (.ireturn, 1) := dc9_172 (by decide +kernel)
theorem d_Wo_shortSign_210 : decode y_Wo_shortSign.2.1 210 = .ok (.iconst 1, 1) := dc9_4 (by decide +kernel)
theorem d_Wo_shortSign_211 : decode y_Wo_shortSign.2.1 211 = .ok (.ireturn, 1) := dc9_172 (by decide +kernel)
theorem k_Wo_shortSign {G : mG} {d : Nat} {l0 : Int} {M : mM} {Q : Int → mM → Prop} (hO : mOk M) (hi_l0 : i32 l0)
    (h : ((l0 = 33) → (Q 32 M)) ∧ (¬ (l0 = 33) → (((l0 = 37) → (Q 29 M)) ∧ (¬ (l0 = 37) → (((l0 = 38) → (Q 30 M)) ∧ (¬ (l0 = 38) → (((l0 = 39) → (Q 39 M)) ∧ (¬ (l0 = 39) → (((l0 = 40) → (Q 37 M)) ∧ (¬ (l0 = 40) → (((l0 = 41) → (Q 38 M)) ∧ (¬ (l0 = 41) → (((l0 = 42) → (Q 27 M)) ∧ (¬ (l0 = 42) → (((l0 = 43) → (Q 25 M)) ∧ (¬ (l0 = 43) → (((l0 = 44) → (Q 36 M)) ∧ (¬ (l0 = 44) → (((l0 = 45) → (Q 26 M)) ∧ (¬ (l0 = 45) → (((l0 = 47) → (Q 28 M)) ∧ (¬ (l0 = 47) → (((l0 = 58) → (Q 34 M)) ∧ (¬ (l0 = 58) → (((l0 = 59) → (Q 35 M)) ∧ (¬ (l0 = 59) → (((l0 = 60) → (Q 22 M)) ∧ (¬ (l0 = 60) → (((l0 = 61) → (Q 24 M)) ∧ (¬ (l0 = 61) → (((l0 = 62) → (Q 23 M)) ∧ (¬ (l0 = 62) → (((l0 = 63) → (Q 33 M)) ∧ (¬ (l0 = 63) → (((l0 = 124) → (Q 31 M)) ∧ (¬ (l0 = 124) → (Q 1 M))))))))))))))))))))))))))))))))))))) :
    Ci G y_Wo_shortSign d [vi l0] M Q := by
  refine wm_open (y := y_Wo_shortSign) rfl (Nat.le_of_ble_eq_true rfl) (L := [vi l0]) rfl ?_
  refine wm_iload_n d_Wo_shortSign_0 rfl rfl ?_
  by_cases c1 : l0 = 33
  · replace h := h.1 c1
    refine wm_lookup (tgt := 186) (off := 185) d_Wo_shortSign_1 z_Wo_shortSign_1_s hi_l0 (by rw [c1]; rfl) rfl ?_
    refine wm_bipush d_Wo_shortSign_186 (by decide) ?_
    refine wm_ireturn d_Wo_shortSign_188 rfl rfl ?_
    exact ⟨_, rfl, h⟩
  · replace h := h.2 c1
    by_cases c2 : l0 = 37
    · replace h := h.1 c2
      refine wm_lookup (tgt := 177) (off := 176) d_Wo_shortSign_1 z_Wo_shortSign_1_s hi_l0 (by rw [c2]; rfl) rfl ?_
      refine wm_bipush d_Wo_shortSign_177 (by decide) ?_
      refine wm_ireturn d_Wo_shortSign_179 rfl rfl ?_
      exact ⟨_, rfl, h⟩
    · replace h := h.2 c2
      by_cases c3 : l0 = 38
      · replace h := h.1 c3
        refine wm_lookup (tgt := 180) (off := 179) d_Wo_shortSign_1 z_Wo_shortSign_1_s hi_l0 (by rw [c3]; rfl) rfl ?_
        refine wm_bipush d_Wo_shortSign_180 (by decide) ?_
        refine wm_ireturn d_Wo_shortSign_182 rfl rfl ?_
        exact ⟨_, rfl, h⟩
      · replace h := h.2 c3
        by_cases c4 : l0 = 39
        · replace h := h.1 c4
          refine wm_lookup (tgt := 207) (off := 206) d_Wo_shortSign_1 z_Wo_shortSign_1_s hi_l0 (by rw [c4]; rfl) rfl ?_
          refine wm_bipush d_Wo_shortSign_207 (by decide) ?_
          refine wm_ireturn d_Wo_shortSign_209 rfl rfl ?_
          exact ⟨_, rfl, h⟩
        · replace h := h.2 c4
          by_cases c5 : l0 = 40
          · replace h := h.1 c5
            refine wm_lookup (tgt := 201) (off := 200) d_Wo_shortSign_1 z_Wo_shortSign_1_s hi_l0 (by rw [c5]; rfl) rfl ?_
            refine wm_bipush d_Wo_shortSign_201 (by decide) ?_
            refine wm_ireturn d_Wo_shortSign_203 rfl rfl ?_
            exact ⟨_, rfl, h⟩
          · replace h := h.2 c5
            by_cases c6 : l0 = 41
            · replace h := h.1 c6
              refine wm_lookup (tgt := 204) (off := 203) d_Wo_shortSign_1 z_Wo_shortSign_1_s hi_l0 (by rw [c6]; rfl) rfl ?_
              refine wm_bipush d_Wo_shortSign_204 (by decide) ?_
              refine wm_ireturn d_Wo_shortSign_206 rfl rfl ?_
              exact ⟨_, rfl, h⟩
            · replace h := h.2 c6
              by_cases c7 : l0 = 42
              · replace h := h.1 c7
                refine wm_lookup (tgt := 171) (off := 170) d_Wo_shortSign_1 z_Wo_shortSign_1_s hi_l0 (by rw [c7]; rfl) rfl ?_
                refine wm_bipush d_Wo_shortSign_171 (by decide) ?_
                refine wm_ireturn d_Wo_shortSign_173 rfl rfl ?_
                exact ⟨_, rfl, h⟩
              · replace h := h.2 c7
                by_cases c8 : l0 = 43
                · replace h := h.1 c8
                  refine wm_lookup (tgt := 165) (off := 164) d_Wo_shortSign_1 z_Wo_shortSign_1_s hi_l0 (by rw [c8]; rfl) rfl ?_
                  refine wm_bipush d_Wo_shortSign_165 (by decide) ?_
                  refine wm_ireturn d_Wo_shortSign_167 rfl rfl ?_
                  exact ⟨_, rfl, h⟩
                · replace h := h.2 c8
                  by_cases c9 : l0 = 44
                  · replace h := h.1 c9
                    refine wm_lookup (tgt := 198) (off := 197) d_Wo_shortSign_1 z_Wo_shortSign_1_s hi_l0 (by rw [c9]; rfl) rfl ?_
                    refine wm_bipush d_Wo_shortSign_198 (by decide) ?_
                    refine wm_ireturn d_Wo_shortSign_200 rfl rfl ?_
                    exact ⟨_, rfl, h⟩
                  · replace h := h.2 c9
                    by_cases c10 : l0 = 45
                    · replace h := h.1 c10
                      refine wm_lookup (tgt := 168) (off := 167) d_Wo_shortSign_1 z_Wo_shortSign_1_s hi_l0 (by rw [c10]; rfl) rfl ?_
                      refine wm_bipush d_Wo_shortSign_168 (by decide) ?_
                      refine wm_ireturn d_Wo_shortSign_170 rfl rfl ?_
                      exact ⟨_, rfl, h⟩
                    · replace h := h.2 c10
                      by_cases c11 : l0 = 47
                      · replace h := h.1 c11
                        refine wm_lookup (tgt := 174) (off := 173) d_Wo_shortSign_1 z_Wo_shortSign_1_s hi_l0 (by rw [c11]; rfl) rfl ?_
                        refine wm_bipush d_Wo_shortSign_174 (by decide) ?_
                        refine wm_ireturn d_Wo_shortSign_176 rfl rfl ?_
                        exact ⟨_, rfl, h⟩
                      · replace h := h.2 c11
                        by_cases c12 : l0 = 58
                        · replace h := h.1 c12
                          refine wm_lookup (tgt := 192) (off := 191) d_Wo_shortSign_1 z_Wo_shortSign_1_s hi_l0 (by rw [c12]; rfl) rfl ?_
                          refine wm_bipush d_Wo_shortSign_192 (by decide) ?_
                          refine wm_ireturn d_Wo_shortSign_194 rfl rfl ?_
                          exact ⟨_, rfl, h⟩
                        · replace h := h.2 c12
                          by_cases c13 : l0 = 59
                          · replace h := h.1 c13
                            refine wm_lookup (tgt := 195) (off := 194) d_Wo_shortSign_1 z_Wo_shortSign_1_s hi_l0 (by rw [c13]; rfl) rfl ?_
                            refine wm_bipush d_Wo_shortSign_195 (by decide) ?_
                            refine wm_ireturn d_Wo_shortSign_197 rfl rfl ?_
                            exact ⟨_, rfl, h⟩
                          · replace h := h.2 c13
                            by_cases c14 : l0 = 60
                            · replace h := h.1 c14
                              refine wm_lookup (tgt := 156) (off := 155) d_Wo_shortSign_1 z_Wo_shortSign_1_s hi_l0 (by rw [c14]; rfl) rfl ?_
                              refine wm_bipush d_Wo_shortSign_156 (by decide) ?_
                              refine wm_ireturn d_Wo_shortSign_158 rfl rfl ?_
                              exact ⟨_, rfl, h⟩
                            · replace h := h.2 c14
                              by_cases c15 : l0 = 61
                              · replace h := h.1 c15
                                refine wm_lookup (tgt := 162) (off := 161) d_Wo_shortSign_1 z_Wo_shortSign_1_s hi_l0 (by rw [c15]; rfl) rfl ?_
                                refine wm_bipush d_Wo_shortSign_162 (by decide) ?_
                                refine wm_ireturn d_Wo_shortSign_164 rfl rfl ?_
                                exact ⟨_, rfl, h⟩
                              · replace h := h.2 c15
                                by_cases c16 : l0 = 62
                                · replace h := h.1 c16
                                  refine wm_lookup (tgt := 159) (off := 158) d_Wo_shortSign_1 z_Wo_shortSign_1_s hi_l0 (by rw [c16]; rfl) rfl ?_
                                  refine wm_bipush d_Wo_shortSign_159 (by decide) ?_
                                  refine wm_ireturn d_Wo_shortSign_161 rfl rfl ?_
                                  exact ⟨_, rfl, h⟩
                                · replace h := h.2 c16
                                  by_cases c17 : l0 = 63
                                  · replace h := h.1 c17
                                    refine wm_lookup (tgt := 189) (off := 188) d_Wo_shortSign_1 z_Wo_shortSign_1_s hi_l0 (by rw [c17]; rfl) rfl ?_
                                    refine wm_bipush d_Wo_shortSign_189 (by decide) ?_
                                    refine wm_ireturn d_Wo_shortSign_191 rfl rfl ?_
                                    exact ⟨_, rfl, h⟩
                                  · replace h := h.2 c17
                                    by_cases c18 : l0 = 124
                                    · replace h := h.1 c18
                                      refine wm_lookup (tgt := 183) (off := 182) d_Wo_shortSign_1 z_Wo_shortSign_1_s hi_l0 (by rw [c18]; rfl) rfl ?_
                                      refine wm_bipush d_Wo_shortSign_183 (by decide) ?_
                                      refine wm_ireturn d_Wo_shortSign_185 rfl rfl ?_
                                      exact ⟨_, rfl, h⟩
                                    · replace h := h.2 c18
                                      refine wm_lookup (tgt := 210) (off := 209) d_Wo_shortSign_1 z_Wo_shortSign_1_s hi_l0 (by simp [Op.lookupswitch.offset]; repeat rw [if_neg (by omega)]) rfl ?_
                                      refine wm_iconst d_Wo_shortSign_210 ?_
                                      refine wm_ireturn d_Wo_shortSign_211 rfl rfl ?_
                                      exact ⟨_, rfl, h⟩
theorem d_Wo_same_0 : decode y_Wo_same.2.1 0 = .ok (.iconst 0, 1) := dc9_3 (by decide +kernel)
theorem d_Wo_same_1 : decode y_Wo_same.2.1 1 = .ok (.istore 4, 2) := dc9_54 (by decide +kernel)
theorem d_Wo_same_3 : decode y_Wo_same.2.1 3 = .ok (.iload 4, 2) := dc9_21 (by decide +kernel)
theorem d_Wo_same_5 : decode y_Wo_same.2.1 5 = .ok (.iload_n 3, 1) := dc9_29 (by decide +kernel)
theorem d_Wo_same_6 : decode y_Wo_same.2.1 6 = .ok (.if_icmp .ge 32, 3) := dc9_162 (by decide +kernel)
theorem d_Wo_same_38 : decode y_Wo_same.2.1 38 = .ok (.iconst 1, 1) := dc9_4 (by decide +kernel)
theorem d_Wo_same_39 : decode y_Wo_same.2.1 39 = .ok (.ireturn, 1) := dc9_172 (by decide +kernel)
theorem d_Wo_same_9 : decode y_Wo_same.2.1 9 = .ok (.aload_n 0, 1) := dc9_42 (by decide +kernel)
theorem d_Wo_same_10 : decode y_Wo_same.2.1 10 = .ok (.getfield 9, 3) := dc9_180 (by decide +kernel)
theorem d_Wo_same_13 : decode y_Wo_same.2.1 13 = .ok (.iload_n 1, 1) := dc9_27 (by decide +kernel)
theorem d_Wo_same_14 : decode y_Wo_same.2.1 14 = .ok (.iload 4, 2) := dc9_21 (by decide +kernel)
theorem d_Wo_same_16 : decode y_Wo_same.2.1 16 = .ok (.iadd, 1) := dc9_96 (by decide +kernel)
theorem d_Wo_same_17 : decode y_Wo_same.2.1 17 = .ok (.caload, 1) := dc9_52 (by decide +kernel)
theorem d_Wo_same_18 : decode y_Wo_same.2.1 18 = .ok (.aload_n 0, 1) := dc9_42 (by decide +kernel)
theorem d_Wo_same_19 : decode y_Wo_same.2.1 19 = .ok (.getfield 9, 3) := dc9_180 (by decide +kernel)
theorem d_Wo_same_22 : decode y_Wo_same.2.1 22 = .ok (.iload_n 2, 1) := dc9_28 (by decide +kernel)
theorem d_Wo_same_23 : decode y_Wo_same.2.1 23 = .ok (.iload 4, 2) := dc9_21 (by decide +kernel)
theorem d_Wo_same_25 : decode y_Wo_same.2.1 25 = .ok (.iadd, 1) := dc9_96 (by decide +kernel)
theorem d_Wo_same_26 : decode y_Wo_same.2.1 26 = .ok (.caload, 1) := dc9_52 (by decide +kernel)
theorem d_Wo_same_27 : decode y_Wo_same.2.1 27 = .ok (.if_icmp .eq 5, 3) := dc9_159 (by decide +kernel)
theorem d_Wo_same_32 : decode y_Wo_same.2.1 32 = .ok (.iinc 4 1, 3) := by decide +kernel
theorem d_Wo_same_35 : decode y_Wo_same.2.1 35 = .ok (.goto (-32), 3) := dc9_167 (by decide +kernel)
theorem d_Wo_same_30 : decode y_Wo_same.2.1 30 = .ok (.iconst 0, 1) := dc9_3 (by decide +kernel)
theorem d_Wo_same_31 : decode y_Wo_same.2.1 31 = .ok (.ireturn, 1) := dc9_172 (by decide +kernel)
def h_Wo_same_3 (G : mG) (d : Nat) (a0 : Nat) (l1 : Int) (l2 : Int) (l3 : Int) (l4 : Int) (M : mM) (Q : Int → mM → Prop) : Prop := mWm G y_Wo_same d 3 [vr a0, vi l1, vi l2, vi l3, vi l4] [] M (fun r9 M9 => ∃ x9, r9 = some (vi x9) ∧ Q x9 M9)
theorem k_Wo_same {G : mG} {d : Nat} {a0 : Nat} {l1 : Int} {l2 : Int} {l3 : Int} {M : mM} {Q : Int → mM → Prop} (hO : mOk M) (hi_l1 : i32 l1) (hi_l2 : i32 l2) (hi_l3 : i32 l3)
    (h : h_Wo_same_3 G d a0 l1 l2 l3 0 M Q) :
    Ci G y_Wo_same d [vr a0, vi l1, vi l2, vi l3] M Q := by
  refine wm_open (y := y_Wo_same) rfl (Nat.le_of_ble_eq_true rfl) (L := [vr a0, vi l1, vi l2, vi l3, vd]) rfl ?_
  refine wm_iconst d_Wo_same_0 ?_
  refine wm_istore d_Wo_same_1 (by decide) (L' := [vr a0, vi l1, vi l2, vi l3, vi 0]) rfl ?_
  exact h
theorem k_Wo_same_3 {G : mG} {d : Nat} {a0 : Nat} {l1 : Int} {l2 : Int} {l3 : Int} {l4 : Int} {M : mM} {Q : Int → mM → Prop} (hO : mOk M) (hi_l1 : i32 l1) (hi_l2 : i32 l2) (hi_l3 : i32 l3) (hi_l4 : i32 l4)
    (h : ((l3 ≤ l4) → (Q 1 M)) ∧ (¬ (l3 ≤ l4) → (mK M a0 = 2 ∧ mK M (mR M a0 0) = 32 ∧ ((0 : Int) ≤ l1 + l4 ∧ l1 + l4 < (mN M (mR M a0 0) : Int)) ∧ ((0 : Int) ≤ l2 + l4 ∧ l2 + l4 < (mN M (mR M a0 0) : Int)) ∧ ((mI M (mR M a0 0) (Int.toNat (l1 + l4)) = mI M (mR M a0 0) (Int.toNat (l2 + l4))) → (h_Wo_same_3 G d a0 l1 l2 l3 (l4 + 1) M Q)) ∧ (¬ (mI M (mR M a0 0) (Int.toNat (l1 + l4)) = mI M (mR M a0 0) (Int.toNat (l2 + l4))) → (Q 0 M))))) :
    h_Wo_same_3 G d a0 l1 l2 l3 l4 M Q := by
  unfold h_Wo_same_3
  refine wm_iload d_Wo_same_3 rfl ?_
  refine wm_iload_n d_Wo_same_5 rfl rfl ?_
  refine wm_icmp_ge (tgt := 38) d_Wo_same_6 rfl hi_l4 hi_l3 (fun c7 => ?_) (fun c7 => ?_)
  · replace h := h.1 c7
    refine wm_iconst d_Wo_same_38 ?_
    refine wm_ireturn d_Wo_same_39 rfl (m_nb (by decide)) ?_
    exact ⟨_, rfl, h⟩
  · replace h := h.2 c7
    obtain ⟨h8, h⟩ := h
    obtain ⟨h9, h⟩ := h
    obtain ⟨h10, h⟩ := h
    obtain ⟨h11, h⟩ := h
    refine wm_aload_n d_Wo_same_9 rfl rfl ?_
    refine gf_Wo_9 rfl d_Wo_same_10 h8 ?_
    refine wm_iload_n d_Wo_same_13 rfl rfl ?_
    refine wm_iload d_Wo_same_14 rfl ?_
    refine wm_iadd d_Wo_same_16 ?_
    refine wm_cald d_Wo_same_17 h9 h10 ?_
    refine wm_aload_n d_Wo_same_18 rfl rfl ?_
    refine gf_Wo_9 rfl d_Wo_same_19 h8 ?_
    refine wm_iload_n d_Wo_same_22 rfl rfl ?_
    refine wm_iload d_Wo_same_23 rfl ?_
    refine wm_iadd d_Wo_same_25 ?_
    refine wm_cald d_Wo_same_26 h9 h11 ?_
    refine wm_icmp_eq (tgt := 32) d_Wo_same_27 rfl (hO _ _).1 (hO _ _).1 (fun c13 => ?_) (fun c13 => ?_)
    · replace h := h.1 c13
      refine wm_iinc d_Wo_same_32 (by decide) rfl (L' := [vr a0, vi l1, vi l2, vi l3, vi (l4 + 1)]) rfl ?_
      refine wm_goto (tgt := 3) d_Wo_same_35 rfl ?_
      exact h
    · replace h := h.2 c13
      refine wm_iconst d_Wo_same_30 ?_
      refine wm_ireturn d_Wo_same_31 rfl (m_nb (by decide)) ?_
      exact ⟨_, rfl, h⟩
theorem d_MF_init_0 : decode y_MF_init.2.1 0 = .ok (.aload_n 0, 1) := dc9_42 (by decide +kernel)
theorem d_MF_init_1 : decode y_MF_init.2.1 1 = .ok (.invokespecial 1, 3) := dc9_183 (by decide +kernel)
theorem d_MF_init_4 : decode y_MF_init.2.1 4 = .ok (.aload_n 0, 1) := dc9_42 (by decide +kernel)
theorem d_MF_init_5 : decode y_MF_init.2.1 5 = .ok (.new 7, 3) := dc9_187 (by decide +kernel)
theorem d_MF_init_8 : decode y_MF_init.2.1 8 = .ok (.dup, 1) := dc9_89 (by decide +kernel)
theorem d_MF_init_9 : decode y_MF_init.2.1 9 = .ok (.iload_n 1, 1) := dc9_27 (by decide +kernel)
theorem d_MF_init_10 : decode y_MF_init.2.1 10 = .ok (.invokespecial 9, 3) := dc9_183 (by decide +kernel)
theorem d_MF_init_13 : decode y_MF_init.2.1 13 = .ok (.putfield 12, 3) := dc9_181 (by decide +kernel)
theorem d_MF_init_16 : decode y_MF_init.2.1 16 = .ok (.aload_n 0, 1) := dc9_42 (by decide +kernel)
theorem d_MF_init_17 : decode y_MF_init.2.1 17 = .ok (.new 7, 3) := dc9_187 (by decide +kernel)
theorem d_MF_init_20 : decode y_MF_init.2.1 20 = .ok (.dup, 1) := dc9_89 (by decide +kernel)
theorem d_MF_init_21 : decode y_MF_init.2.1 21 = .ok (.iload_n 1, 1) := dc9_27 (by decide +kernel)
theorem d_MF_init_22 : decode y_MF_init.2.1 22 = .ok (.invokespecial 9, 3) := dc9_183 (by decide +kernel)
theorem d_MF_init_25 : decode y_MF_init.2.1 25 = .ok (.putfield 18, 3) := dc9_181 (by decide +kernel)
theorem d_MF_init_28 : decode y_MF_init.2.1 28 = .ok (.aload_n 0, 1) := dc9_42 (by decide +kernel)
theorem d_MF_init_29 : decode y_MF_init.2.1 29 = .ok (.getfield 18, 3) := dc9_180 (by decide +kernel)
theorem d_MF_init_32 : decode y_MF_init.2.1 32 = .ok (.lconst 1, 1) := dc9_10 (by decide +kernel)
theorem d_MF_init_33 : decode y_MF_init.2.1 33 = .ok (.invokevirtual 21, 3) := dc9_182 (by decide +kernel)
theorem d_MF_init_36 : decode y_MF_init.2.1 36 = .ok (.return_, 1) := dc9_177 (by decide +kernel)
theorem k_MF_init {G : mG} {d : Nat} {a0 : Nat} {l1 : Int} {M : mM} {Q : mM → Prop} (hO : mOk M) (hi_l1 : i32 l1)
    (h : 0 < a0 ∧ ∀ M2, M2 = mNew M 20 0 2 → Cv G y_MW_init d [vr (mZ M), vi l1] M2 (fun M4 => mOk M4 ∧ (mK M4 a0 = 19 ∧ ∀ M8, M8 = mUR M4 a0 0 (mZ M) → ∀ M10, M10 = mNew M8 20 0 2 → Cv G y_MW_init d [vr (mZ M8), vi l1] M10 (fun M12 => mOk M12 ∧ (mK M12 a0 = 19 ∧ ∀ M16, M16 = mUR M12 a0 1 (mZ M8) → mK M16 (mR M16 a0 1) = 20 ∧ Cv G y_MW_set d [vr (mR M16 a0 1), vl 1] M16 (fun M19 => mOk M19 ∧ (Q M19))))))) :
    Cv G y_MF_init (d + 1) [vr a0, vi l1] M Q := by
  refine wm_open (y := y_MF_init) rfl (Nat.le_of_ble_eq_true rfl) (L := [vr a0, vi l1]) rfl ?_
  obtain ⟨h1, h⟩ := h
  obtain ⟨M2, e3⟩ : ∃ M2, M2 = mNew M 20 0 2 := ⟨_, rfl⟩
  replace h := h M2 e3
  refine wm_aload_n d_MF_init_0 rfl rfl ?_
  refine wm_objInit trivial k9_162 kO_inst kO_code (Nat.le_of_ble_eq_true rfl) d_MF_init_1 h1 ?_
  refine wm_aload_n d_MF_init_4 rfl rfl ?_
  have hOM2 : mOk M2 := by rw [e3]; exact mOk_New hO
  refine nf_MF_7 rfl d_MF_init_5 e3 ?_
  refine wm_dup d_MF_init_8 rfl ?_
  refine wm_iload_n d_MF_init_9 rfl rfl ?_
  refine cf_MF_9 rfl d_MF_init_10 (by rw [e3]; exact if_pos rfl) (Nat.le_of_ble_eq_true rfl) (Cv.mono h (fun M4 h => ?_))
  obtain ⟨hOM4, h⟩ := h
  obtain ⟨h7, h⟩ := h
  obtain ⟨M8, e9⟩ : ∃ M8, M8 = mUR M4 a0 0 (mZ M) := ⟨_, rfl⟩
  replace h := h M8 e9
  obtain ⟨M10, e11⟩ : ∃ M10, M10 = mNew M8 20 0 2 := ⟨_, rfl⟩
  replace h := h M10 e11
  have hOM8 : mOk M8 := by rw [e9]; exact mOk_UR hOM4
  refine pf_MF_12 rfl rfl d_MF_init_13 h7 e9 ?_
  refine wm_aload_n d_MF_init_16 rfl rfl ?_
  have hOM10 : mOk M10 := by rw [e11]; exact mOk_New hOM8
  refine nf_MF_7 rfl d_MF_init_17 e11 ?_
  refine wm_dup d_MF_init_20 rfl ?_
  refine wm_iload_n d_MF_init_21 rfl rfl ?_
  refine cf_MF_9 rfl d_MF_init_22 (by rw [e11]; exact if_pos rfl) (Nat.le_of_ble_eq_true rfl) (Cv.mono h (fun M12 h => ?_))
  obtain ⟨hOM12, h⟩ := h
  obtain ⟨h15, h⟩ := h
  obtain ⟨M16, e17⟩ : ∃ M16, M16 = mUR M12 a0 1 (mZ M8) := ⟨_, rfl⟩
  replace h := h M16 e17
  obtain ⟨h18, h⟩ := h
  have hOM16 : mOk M16 := by rw [e17]; exact mOk_UR hOM12
  refine pf_MF_18 rfl rfl d_MF_init_25 h15 e17 ?_
  refine wm_aload_n d_MF_init_28 rfl rfl ?_
  refine gf_MF_18 rfl d_MF_init_29 (by rw [e17]; exact h15) ?_
  refine wm_lconst (x := 1) d_MF_init_32 rfl ?_
  refine cf_MF_21 rfl d_MF_init_33 h18 (Nat.le_of_ble_eq_true rfl) (Cv.mono h (fun M19 h => ?_))
  obtain ⟨hOM19, h⟩ := h
  refine wm_return d_MF_init_36 rfl ?_
  exact ⟨rfl, h⟩
theorem d_MF_set_0 : decode y_MF_set.2.1 0 = .ok (.aload_n 0, 1) := dc9_42 (by decide +kernel)
theorem d_MF_set_1 : decode y_MF_set.2.1 1 = .ok (.lload_n 1, 1) := dc9_31 (by decide +kernel)
theorem d_MF_set_2 : decode y_MF_set.2.1 2 = .ok (.lconst 0, 1) := dc9_9 (by decide +kernel)
theorem d_MF_set_3 : decode y_MF_set.2.1 3 = .ok (.lcmp, 1) := dc9_148 (by decide +kernel)
theorem d_MF_set_4 : decode y_MF_set.2.1 4 = .ok (.ifCond .ge 7, 3) := dc9_156 (by decide +kernel)
theorem d_MF_set_11 : decode y_MF_set.2.1 11 = .ok (.iconst 0, 1) := dc9_3 (by decide +kernel)
theorem d_MF_set_7 : decode y_MF_set.2.1 7 = .ok (.iconst 1, 1) := dc9_4 (by decide +kernel)
theorem d_MF_set_8 : decode y_MF_set.2.1 8 = .ok (.goto 4, 3) := dc9_167 (by decide +kernel)
theorem d_MF_set_12 : decode y_MF_set.2.1 12 = .ok (.putfield 25, 3) := dc9_181 (by decide +kernel)
theorem d_MF_set_15 : decode y_MF_set.2.1 15 = .ok (.aload_n 0, 1) := dc9_42 (by decide +kernel)
theorem d_MF_set_16 : decode y_MF_set.2.1 16 = .ok (.getfield 12, 3) := dc9_180 (by decide +kernel)
theorem d_MF_set_19 : decode y_MF_set.2.1 19 = .ok (.lload_n 1, 1) := dc9_31 (by decide +kernel)
theorem d_MF_set_20 : decode y_MF_set.2.1 20 = .ok (.lconst 0, 1) := dc9_9 (by decide +kernel)
theorem d_MF_set_21 : decode y_MF_set.2.1 21 = .ok (.lcmp, 1) := dc9_148 (by decide +kernel)
theorem d_MF_set_22 : decode y_MF_set.2.1 22 = .ok (.ifCond .ge 8, 3) := dc9_156 (by decide +kernel)
theorem d_MF_set_30 : decode y_MF_set.2.1 30 = .ok (.lload_n 1, 1) := dc9_31 (by decide +kernel)
theorem d_MF_set_25 : decode y_MF_set.2.1 25 = .ok (.lload_n 1, 1) := dc9_31 (by decide +kernel)
theorem d_MF_set_26 : decode y_MF_set.2.1 26 = .ok (.lneg, 1) := dc9_117 (by decide +kernel)
theorem d_MF_set_27 : decode y_MF_set.2.1 27 = .ok (.goto 4, 3) := dc9_167 (by decide +kernel)
theorem d_MF_set_31 : decode y_MF_set.2.1 31 = .ok (.invokevirtual 21, 3) := dc9_182 (by decide +kernel)
theorem d_MF_set_34 : decode y_MF_set.2.1 34 = .ok (.aload_n 0, 1) := dc9_42 (by decide +kernel)
theorem d_MF_set_35 : decode y_MF_set.2.1 35 = .ok (.getfield 18, 3) := dc9_180 (by decide +kernel)
theorem d_MF_set_38 : decode y_MF_set.2.1 38 = .ok (.lload_n 3, 1) := dc9_33 (by decide +kernel)
theorem d_MF_set_39 : decode y_MF_set.2.1 39 = .ok (.invokevirtual 21, 3) := dc9_182 (by decide +kernel)
theorem d_MF_set_42 : decode y_MF_set.2.1 42 = .ok (.return_, 1) := dc9_177 (by decide +kernel)
theorem k_MF_set {G : mG} {d : Nat} {a0 : Nat} {j1 : Int} {j3 : Int} {M : mM} {Q : mM → Prop} (hO : mOk M) (hi_j1 : i64 j1) (hi_j3 : i64 j3)
    (h : ∀ v2 : Int, v2 = (if (0 ≤ cmpL j1 0) then 0 else 1) → mK M a0 = 19 ∧ ∀ M8, M8 = mUI M a0 2 v2 → ∀ v11 : Int, v11 = (if (0 ≤ cmpL j1 0) then j1 else -j1) → mK M8 (mR M8 a0 0) = 20 ∧ Cv G y_MW_set d [vr (mR M8 a0 0), vl v11] M8 (fun M15 => mOk M15 ∧ (mK M15 a0 = 19 ∧ mK M15 (mR M15 a0 1) = 20 ∧ Cv G y_MW_set d [vr (mR M15 a0 1), vl j3] M15 (fun M20 => mOk M20 ∧ (Q M20))))) :
    Cv G y_MF_set (d + 1) [vr a0, vl j1, vl j3] M Q := by
  refine wm_open (y := y_MF_set) rfl (Nat.le_of_ble_eq_true rfl) (L := [vr a0, vl j1, vd, vl j3, vd]) rfl ?_
  refine wm_aload_n d_MF_set_0 rfl rfl ?_
  refine wm_lload_n d_MF_set_1 rfl rfl ?_
  refine wm_lconst (x := 0) d_MF_set_2 rfl ?_
  refine wm_lcmp d_MF_set_3 hi_j1 ⟨by decide, by decide⟩ ?_
  have hJ : ∀ v2 : Int, v2 = (if (0 ≤ cmpL j1 0) then 0 else 1) → mWm G y_MF_set (d + 1) 12 [vr a0, vl j1, vd, vl j3, vd] [vi v2, vr a0] M (fun r9 M9 => r9 = none ∧ Q M9) := by
    intro v2 e4
    have h := h v2 e4
    have h5 : i32 v2 := by rw [e4]; (repeat' split) <;> first | exact ⟨by decide, by decide⟩ | exact ⟨by decide, by decide⟩
    have h6 : (v2 = 0 ∨ v2 = 1) := by rw [e4]; (repeat' split) <;> decide
    obtain ⟨h7, h⟩ := h
    obtain ⟨M8, e9⟩ : ∃ M8, M8 = mUI M a0 2 v2 := ⟨_, rfl⟩
    replace h := h M8 e9
    have hOM8 : mOk M8 := by rw [e9]; exact mOk_UI hO (m_b32 h6)
    refine pf_MF_25 rfl d_MF_set_12 h7 h6 e9 ?_
    refine wm_aload_n d_MF_set_15 rfl rfl ?_
    refine gf_MF_12 rfl d_MF_set_16 (by rw [e9]; exact h7) ?_
    refine wm_lload_n d_MF_set_19 rfl rfl ?_
    refine wm_lconst (x := 0) d_MF_set_20 rfl ?_
    refine wm_lcmp d_MF_set_21 hi_j1 ⟨by decide, by decide⟩ ?_
    have hJ : ∀ v11 : Int, v11 = (if (0 ≤ cmpL j1 0) then j1 else -j1) → mWm G y_MF_set (d + 1) 31 [vr a0, vd, vd, vl j3, vd] [vl v11, vr (mR M8 a0 0)] M8 (fun r9 M9 => r9 = none ∧ Q M9) := by
      intro v11 e13
      have h := h v11 e13
      obtain ⟨h14, h⟩ := h
      refine cf_MF_21 rfl d_MF_set_31 h14 (Nat.le_of_ble_eq_true rfl) (Cv.mono h (fun M15 h => ?_))
      obtain ⟨hOM15, h⟩ := h
      obtain ⟨h18, h⟩ := h
      obtain ⟨h19, h⟩ := h
      refine wm_aload_n d_MF_set_34 rfl rfl ?_
      refine gf_MF_18 rfl d_MF_set_35 h18 ?_
      refine wm_lload_n d_MF_set_38 rfl rfl ?_
      refine cf_MF_21 rfl d_MF_set_39 h19 (Nat.le_of_ble_eq_true rfl) (Cv.mono h (fun M20 h => ?_))
      obtain ⟨hOM20, h⟩ := h
      refine wm_return d_MF_set_42 rfl ?_
      exact ⟨rfl, h⟩
    clear h
    refine wm_if_ge (tgt := 30) d_MF_set_22 rfl (m_cmp32 _ _) (fun c10 => ?_) (fun c10 => ?_)
    · refine wm_lload_n d_MF_set_30 rfl rfl ?_
      refine wm_less (L' := [vr a0, vd, vd, vl j3, vd]) ⟨Or.inr rfl, Or.inl rfl, Or.inl rfl, Or.inr rfl, Or.inl rfl, trivial⟩ ?_
      exact hJ j1 (if_pos c10).symm
    · refine wm_lload_n d_MF_set_25 rfl rfl ?_
      refine wm_lneg d_MF_set_26 ?_
      refine wm_goto (tgt := 31) d_MF_set_27 rfl ?_
      refine wm_less (L' := [vr a0, vd, vd, vl j3, vd]) ⟨Or.inr rfl, Or.inl rfl, Or.inl rfl, Or.inr rfl, Or.inl rfl, trivial⟩ ?_
      exact hJ (-j1) (if_neg c10).symm
  clear h
  refine wm_if_ge (tgt := 11) d_MF_set_4 rfl (m_cmp32 _ _) (fun c1 => ?_) (fun c1 => ?_)
  · refine wm_iconst d_MF_set_11 ?_
    exact hJ 0 (if_pos c1).symm
  · refine wm_iconst d_MF_set_7 ?_
    refine wm_goto (tgt := 12) d_MF_set_8 rfl ?_
    exact hJ 1 (if_neg c1).symm
theorem d_MF_copy_0 : decode y_MF_copy.2.1 0 = .ok (.aload_n 0, 1) := dc9_42 (by decide +kernel)
theorem d_MF_copy_1 : decode y_MF_copy.2.1 1 = .ok (.aload_n 1, 1) := dc9_43 (by decide +kernel)
theorem d_MF_copy_2 : decode y_MF_copy.2.1 2 = .ok (.getfield 25, 3) := dc9_180 (by decide +kernel)
theorem d_MF_copy_5 : decode y_MF_copy.2.1 5 = .ok (.putfield 25, 3) := dc9_181 (by decide +kernel)
theorem d_MF_copy_8 : decode y_MF_copy.2.1 8 = .ok (.aload_n 0, 1) := dc9_42 (by decide +kernel)
theorem d_MF_copy_9 : decode y_MF_copy.2.1 9 = .ok (.getfield 12, 3) := dc9_180 (by decide +kernel)
theorem d_MF_copy_12 : decode y_MF_copy.2.1 12 = .ok (.aload_n 1, 1) := dc9_43 (by decide +kernel)
theorem d_MF_copy_13 : decode y_MF_copy.2.1 13 = .ok (.getfield 12, 3) := dc9_180 (by decide +kernel)
theorem d_MF_copy_16 : decode y_MF_copy.2.1 16 = .ok (.invokevirtual 29, 3) := dc9_182 (by decide +kernel)
theorem d_MF_copy_19 : decode y_MF_copy.2.1 19 = .ok (.aload_n 0, 1) := dc9_42 (by decide +kernel)
theorem d_MF_copy_20 : decode y_MF_copy.2.1 20 = .ok (.getfield 18, 3) := dc9_180 (by decide +kernel)
theorem d_MF_copy_23 : decode y_MF_copy.2.1 23 = .ok (.aload_n 1, 1) := dc9_43 (by decide +kernel)
theorem d_MF_copy_24 : decode y_MF_copy.2.1 24 = .ok (.getfield 18, 3) := dc9_180 (by decide +kernel)
theorem d_MF_copy_27 : decode y_MF_copy.2.1 27 = .ok (.invokevirtual 29, 3) := dc9_182 (by decide +kernel)
theorem d_MF_copy_30 : decode y_MF_copy.2.1 30 = .ok (.return_, 1) := dc9_177 (by decide +kernel)
theorem k_MF_copy {G : mG} {d : Nat} {a0 : Nat} {a1 : Nat} {M : mM} {Q : mM → Prop} (hO : mOk M)
    (h : mK M a1 = 19 ∧ mK M a0 = 19 ∧ ((mI M a1 2) = 0 ∨ (mI M a1 2) = 1) ∧ ∀ M4, M4 = mUI M a0 2 (mI M a1 2) → mK M4 (mR M4 a0 0) = 20 ∧ Cv G y_MW_copy d [vr (mR M4 a0 0), vr (mR M4 a1 0)] M4 (fun M7 => mOk M7 ∧ (mK M7 a0 = 19 ∧ mK M7 a1 = 19 ∧ mK M7 (mR M7 a0 1) = 20 ∧ Cv G y_MW_copy d [vr (mR M7 a0 1), vr (mR M7 a1 1)] M7 (fun M13 => mOk M13 ∧ (Q M13))))) :
    Cv G y_MF_copy (d + 1) [vr a0, vr a1] M Q := by
  refine wm_open (y := y_MF_copy) rfl (Nat.le_of_ble_eq_true rfl) (L := [vr a0, vr a1]) rfl ?_
  obtain ⟨h1, h⟩ := h
  obtain ⟨h2, h⟩ := h
  obtain ⟨h3, h⟩ := h
  obtain ⟨M4, e5⟩ : ∃ M4, M4 = mUI M a0 2 (mI M a1 2) := ⟨_, rfl⟩
  replace h := h M4 e5
  obtain ⟨h6, h⟩ := h
  refine wm_aload_n d_MF_copy_0 rfl rfl ?_
  refine wm_aload_n d_MF_copy_1 rfl rfl ?_
  refine gf_MF_25 rfl d_MF_copy_2 h1 ?_
  have hOM4 : mOk M4 := by rw [e5]; exact mOk_UI hO (m_b32 h3)
  refine pf_MF_25 rfl d_MF_copy_5 h2 h3 e5 ?_
  refine wm_aload_n d_MF_copy_8 rfl rfl ?_
  refine gf_MF_12 rfl d_MF_copy_9 (by rw [e5]; exact h2) ?_
  refine wm_aload_n d_MF_copy_12 rfl rfl ?_
  refine gf_MF_12 rfl d_MF_copy_13 (by rw [e5]; exact h1) ?_
  refine cf_MF_29 rfl d_MF_copy_16 h6 (Nat.le_of_ble_eq_true rfl) (Cv.mono h (fun M7 h => ?_))
  obtain ⟨hOM7, h⟩ := h
  obtain ⟨h10, h⟩ := h
  obtain ⟨h11, h⟩ := h
  obtain ⟨h12, h⟩ := h
  refine wm_aload_n d_MF_copy_19 rfl rfl ?_
  refine gf_MF_18 rfl d_MF_copy_20 h10 ?_
  refine wm_aload_n d_MF_copy_23 rfl rfl ?_
  refine gf_MF_18 rfl d_MF_copy_24 h11 ?_
  refine cf_MF_29 rfl d_MF_copy_27 h12 (Nat.le_of_ble_eq_true rfl) (Cv.mono h (fun M13 h => ?_))
  obtain ⟨hOM13, h⟩ := h
  refine wm_return d_MF_copy_30 rfl ?_
  exact ⟨rfl, h⟩
theorem d_MF_isZero_0 : decode y_MF_isZero.2.1 0 = .ok (.aload_n 0, 1) := dc9_42 (by decide +kernel)
theorem d_MF_isZero_1 : decode y_MF_isZero.2.1 1 = .ok (.getfield 12, 3) := dc9_180 (by decide +kernel)
theorem d_MF_isZero_4 : decode y_MF_isZero.2.1 4 = .ok (.invokevirtual 33, 3) := dc9_182 (by decide +kernel)
theorem d_MF_isZero_7 : decode y_MF_isZero.2.1 7 = .ok (.ireturn, 1) := dc9_172 (by decide +kernel)
theorem k_MF_isZero {G : mG} {d : Nat} {a0 : Nat} {M : mM} {Q : Int → mM → Prop} (hO : mOk M)
    (h : mK M a0 = 19 ∧ mK M (mR M a0 0) = 20 ∧ Ci G y_MW_isZero d [vr (mR M a0 0)] M (fun x4 M3 => i32 x4 ∧ mOk M3 ∧ ((x4 = 0 ∨ x4 = 1) ∧ Q x4 M3))) :
    Ci G y_MF_isZero (d + 1) [vr a0] M Q := by
  refine wm_open (y := y_MF_isZero) rfl (Nat.le_of_ble_eq_true rfl) (L := [vr a0]) rfl ?_
  obtain ⟨h1, h⟩ := h
  obtain ⟨h2, h⟩ := h
  refine wm_aload_n d_MF_isZero_0 rfl rfl ?_
  refine gf_MF_12 rfl d_MF_isZero_1 h1 ?_
  refine cf_MF_33 rfl d_MF_isZero_4 h2 (Nat.le_of_ble_eq_true rfl) (Ci.mono h (fun x4 M3 h => ?_))
  obtain ⟨h5, hOM3, h⟩ := h
  obtain ⟨h6, h⟩ := h
  refine wm_ireturn d_MF_isZero_7 rfl (m_nb h6) ?_
  exact ⟨_, rfl, h⟩
end
section
theorem d_MG_init_0 : decode y_MG_init.2.1 0 = .ok (.aload_n 0, 1) := dc9_42 (by decide +kernel)
theorem d_MG_init_1 : decode y_MG_init.2.1 1 = .ok (.invokespecial 3, 3) := dc9_183 (by decide +kernel)
theorem d_MG_init_4 : decode y_MG_init.2.1 4 = .ok (.aload_n 0, 1) := dc9_42 (by decide +kernel)
theorem d_MG_init_5 : decode y_MG_init.2.1 5 = .ok (.new 9, 3) := dc9_187 (by decide +kernel)
theorem d_MG_init_8 : decode y_MG_init.2.1 8 = .ok (.dup, 1) := dc9_89 (by decide +kernel)
theorem d_MG_init_9 : decode y_MG_init.2.1 9 = .ok (.invokespecial 11, 3) := dc9_183 (by decide +kernel)
theorem d_MG_init_12 : decode y_MG_init.2.1 12 = .ok (.putfield 12, 3) := dc9_181 (by decide +kernel)
theorem d_MG_init_15 : decode y_MG_init.2.1 15 = .ok (.aload_n 0, 1) := dc9_42 (by decide +kernel)
theorem d_MG_init_16 : decode y_MG_init.2.1 16 = .ok (.new 9, 3) := dc9_187 (by decide +kernel)
theorem d_MG_init_19 : decode y_MG_init.2.1 19 = .ok (.dup, 1) := dc9_89 (by decide +kernel)
theorem d_MG_init_20 : decode y_MG_init.2.1 20 = .ok (.invokespecial 11, 3) := dc9_183 (by decide +kernel)
theorem d_MG_init_23 : decode y_MG_init.2.1 23 = .ok (.putfield 18, 3) := dc9_181 (by decide +kernel)
theorem d_MG_init_26 : decode y_MG_init.2.1 26 = .ok (.aload_n 0, 1) := dc9_42 (by decide +kernel)
theorem d_MG_init_27 : decode y_MG_init.2.1 27 = .ok (.new 9, 3) := dc9_187 (by decide +kernel)
theorem d_MG_init_30 : decode y_MG_init.2.1 30 = .ok (.dup, 1) := dc9_89 (by decide +kernel)
theorem d_MG_init_31 : decode y_MG_init.2.1 31 = .ok (.invokespecial 11, 3) := dc9_183 (by decide +kernel)
theorem d_MG_init_34 : decode y_MG_init.2.1 34 = .ok (.putfield 21, 3) := dc9_181 (by decide +kernel)
theorem d_MG_init_37 : decode y_MG_init.2.1 37 = .ok (.aload_n 0, 1) := dc9_42 (by decide +kernel)
theorem d_MG_init_38 : decode y_MG_init.2.1 38 = .ok (.new 9, 3) := dc9_187 (by decide +kernel)
theorem d_MG_init_41 : decode y_MG_init.2.1 41 = .ok (.dup, 1) := dc9_89 (by decide +kernel)
theorem d_MG_init_42 : decode y_MG_init.2.1 42 = .ok (.invokespecial 11, 3) := dc9_183 (by decide +kernel)
theorem d_MG_init_45 : decode y_MG_init.2.1 45 = .ok (.putfield 24, 3) := dc9_181 (by decide +kernel)
theorem d_MG_init_48 : decode y_MG_init.2.1 48 = .ok (.aload_n 0, 1) := dc9_42 (by decide +kernel)
theorem d_MG_init_49 : decode y_MG_init.2.1 49 = .ok (.new 9, 3) := dc9_187 (by decide +kernel)
theorem d_MG_init_52 : decode y_MG_init.2.1 52 = .ok (.dup, 1) := dc9_89 (by decide +kernel)
theorem d_MG_init_53 : decode y_MG_init.2.1 53 = .ok (.invokespecial 11, 3) := dc9_183 (by decide +kernel)
theorem d_MG_init_56 : decode y_MG_init.2.1 56 = .ok (.putfield 27, 3) := dc9_181 (by decide +kernel)
theorem d_MG_init_59 : decode y_MG_init.2.1 59 = .ok (.aload_n 0, 1) := dc9_42 (by decide +kernel)
theorem d_MG_init_60 : decode y_MG_init.2.1 60 = .ok (.new 9, 3) := dc9_187 (by decide +kernel)
theorem d_MG_init_63 : decode y_MG_init.2.1 63 = .ok (.dup, 1) := dc9_89 (by decide +kernel)
theorem d_MG_init_64 : decode y_MG_init.2.1 64 = .ok (.invokespecial 11, 3) := dc9_183 (by decide +kernel)
theorem d_MG_init_67 : decode y_MG_init.2.1 67 = .ok (.putfield 30, 3) := dc9_181 (by decide +kernel)
theorem d_MG_init_70 : decode y_MG_init.2.1 70 = .ok (.aload_n 0, 1) := dc9_42 (by decide +kernel)
theorem d_MG_init_71 : decode y_MG_init.2.1 71 = .ok (.bipush 60, 2) := dc9_16 (by decide +kernel)
theorem d_MG_init_73 : decode y_MG_init.2.1 73 = .ok (.newarray .boolean, 2) := by decide +kernel
theorem d_MG_init_75 : decode y_MG_init.2.1 75 = .ok (.putfield 33, 3) := dc9_181 (by decide +kernel)
theorem d_MG_init_78 : decode y_MG_init.2.1 78 = .ok (.aload_n 0, 1) := dc9_42 (by decide +kernel)
theorem d_MG_init_79 : decode y_MG_init.2.1 79 = .ok (.bipush 60, 2) := dc9_16 (by decide +kernel)
theorem d_MG_init_81 : decode y_MG_init.2.1 81 = .ok (.newarray .boolean, 2) := by decide +kernel
theorem d_MG_init_83 : decode y_MG_init.2.1 83 = .ok (.putfield 37, 3) := dc9_181 (by decide +kernel)
theorem d_MG_init_86 : decode y_MG_init.2.1 86 = .ok (.aload_n 0, 1) := dc9_42 (by decide +kernel)
theorem d_MG_init_87 : decode y_MG_init.2.1 87 = .ok (.bipush 60, 2) := dc9_16 (by decide +kernel)
theorem d_MG_init_89 : decode y_MG_init.2.1 89 = .ok (.newarray .int, 2) := by decide +kernel
theorem d_MG_init_91 : decode y_MG_init.2.1 91 = .ok (.putfield 40, 3) := dc9_181 (by decide +kernel)
theorem d_MG_init_94 : decode y_MG_init.2.1 94 = .ok (.aload_n 0, 1) := dc9_42 (by decide +kernel)
theorem d_MG_init_95 : decode y_MG_init.2.1 95 = .ok (.bipush 60, 2) := dc9_16 (by decide +kernel)
theorem d_MG_init_97 : decode y_MG_init.2.1 97 = .ok (.newarray .long, 2) := by decide +kernel
theorem d_MG_init_99 : decode y_MG_init.2.1 99 = .ok (.putfield 44, 3) := dc9_181 (by decide +kernel)
theorem d_MG_init_102 : decode y_MG_init.2.1 102 = .ok (.aload_n 0, 1) := dc9_42 (by decide +kernel)
theorem d_MG_init_103 : decode y_MG_init.2.1 103 = .ok (.bipush 60, 2) := dc9_16 (by decide +kernel)
theorem d_MG_init_105 : decode y_MG_init.2.1 105 = .ok (.newarray .long, 2) := by decide +kernel
theorem d_MG_init_107 : decode y_MG_init.2.1 107 = .ok (.putfield 48, 3) := dc9_181 (by decide +kernel)
theorem d_MG_init_110 : decode y_MG_init.2.1 110 = .ok (.aload_n 0, 1) := dc9_42 (by decide +kernel)
theorem d_MG_init_111 : decode y_MG_init.2.1 111 = .ok (.bipush 12, 2) := dc9_16 (by decide +kernel)
theorem d_MG_init_113 : decode y_MG_init.2.1 113 = .ok (.newarray .boolean, 2) := by decide +kernel
theorem d_MG_init_115 : decode y_MG_init.2.1 115 = .ok (.putfield 51, 3) := dc9_181 (by decide +kernel)
theorem d_MG_init_118 : decode y_MG_init.2.1 118 = .ok (.aload_n 0, 1) := dc9_42 (by decide +kernel)
theorem d_MG_init_119 : decode y_MG_init.2.1 119 = .ok (.bipush 12, 2) := dc9_16 (by decide +kernel)
theorem d_MG_init_121 : decode y_MG_init.2.1 121 = .ok (.newarray .int, 2) := by decide +kernel
theorem d_MG_init_123 : decode y_MG_init.2.1 123 = .ok (.putfield 54, 3) := dc9_181 (by decide +kernel)
theorem d_MG_init_126 : decode y_MG_init.2.1 126 = .ok (.aload_n 0, 1) := dc9_42 (by decide +kernel)
theorem d_MG_init_127 : decode y_MG_init.2.1 127 = .ok (.bipush 12, 2) := dc9_16 (by decide +kernel)
theorem d_MG_init_129 : decode y_MG_init.2.1 129 = .ok (.newarray .int, 2) := by decide +kernel
theorem d_MG_init_131 : decode y_MG_init.2.1 131 = .ok (.putfield 57, 3) := dc9_181 (by decide +kernel)
theorem d_MG_init_134 : decode y_MG_init.2.1 134 = .ok (.aload_n 0, 1) := dc9_42 (by decide +kernel)
theorem d_MG_init_135 : decode y_MG_init.2.1 135 = .ok (.bipush 12, 2) := dc9_16 (by decide +kernel)
theorem d_MG_init_137 : decode y_MG_init.2.1 137 = .ok (.newarray .int, 2) := by decide +kernel
theorem d_MG_init_139 : decode y_MG_init.2.1 139 = .ok (.putfield 60, 3) := dc9_181 (by decide +kernel)
theorem d_MG_init_142 : decode y_MG_init.2.1 142 = .ok (.aload_n 0, 1) := dc9_42 (by decide +kernel)
theorem d_MG_init_143 : decode y_MG_init.2.1 143 = .ok (.bipush 60, 2) := dc9_16 (by decide +kernel)
theorem d_MG_init_145 : decode y_MG_init.2.1 145 = .ok (.newarray .boolean, 2) := by decide +kernel
theorem d_MG_init_147 : decode y_MG_init.2.1 147 = .ok (.putfield 63, 3) := dc9_181 (by decide +kernel)
theorem d_MG_init_150 : decode y_MG_init.2.1 150 = .ok (.aload_n 0, 1) := dc9_42 (by decide +kernel)
theorem d_MG_init_151 : decode y_MG_init.2.1 151 = .ok (.bipush 60, 2) := dc9_16 (by decide +kernel)
theorem d_MG_init_153 : decode y_MG_init.2.1 153 = .ok (.newarray .int, 2) := by decide +kernel
theorem d_MG_init_155 : decode y_MG_init.2.1 155 = .ok (.putfield 66, 3) := dc9_181 (by decide +kernel)
theorem d_MG_init_158 : decode y_MG_init.2.1 158 = .ok (.aload_n 0, 1) := dc9_42 (by decide +kernel)
theorem d_MG_init_159 : decode y_MG_init.2.1 159 = .ok (.bipush 60, 2) := dc9_16 (by decide +kernel)
theorem d_MG_init_161 : decode y_MG_init.2.1 161 = .ok (.newarray .int, 2) := by decide +kernel
theorem d_MG_init_163 : decode y_MG_init.2.1 163 = .ok (.putfield 69, 3) := dc9_181 (by decide +kernel)
theorem d_MG_init_166 : decode y_MG_init.2.1 166 = .ok (.aload_n 0, 1) := dc9_42 (by decide +kernel)
theorem d_MG_init_167 : decode y_MG_init.2.1 167 = .ok (.bipush 60, 2) := dc9_16 (by decide +kernel)
theorem d_MG_init_169 : decode y_MG_init.2.1 169 = .ok (.newarray .int, 2) := by decide +kernel
theorem d_MG_init_171 : decode y_MG_init.2.1 171 = .ok (.putfield 72, 3) := dc9_181 (by decide +kernel)
theorem d_MG_init_174 : decode y_MG_init.2.1 174 = .ok (.aload_n 0, 1) := dc9_42 (by decide +kernel)
theorem d_MG_init_175 : decode y_MG_init.2.1 175 = .ok (.sipush 480, 3) := dc9_17 (by decide +kernel)
theorem d_MG_init_178 : decode y_MG_init.2.1 178 = .ok (.newarray .int, 2) := by decide +kernel
theorem d_MG_init_180 : decode y_MG_init.2.1 180 = .ok (.putfield 75, 3) := dc9_181 (by decide +kernel)
theorem d_MG_init_183 : decode y_MG_init.2.1 183 = .ok (.aload_n 0, 1) := dc9_42 (by decide +kernel)
theorem d_MG_init_184 : decode y_MG_init.2.1 184 = .ok (.sipush 480, 3) := dc9_17 (by decide +kernel)
theorem d_MG_init_187 : decode y_MG_init.2.1 187 = .ok (.newarray .int, 2) := by decide +kernel
theorem d_MG_init_189 : decode y_MG_init.2.1 189 = .ok (.putfield 78, 3) := dc9_181 (by decide +kernel)
theorem d_MG_init_192 : decode y_MG_init.2.1 192 = .ok (.aload_n 0, 1) := dc9_42 (by decide +kernel)
theorem d_MG_init_193 : decode y_MG_init.2.1 193 = .ok (.sipush 480, 3) := dc9_17 (by decide +kernel)
theorem d_MG_init_196 : decode y_MG_init.2.1 196 = .ok (.newarray .int, 2) := by decide +kernel
theorem d_MG_init_198 : decode y_MG_init.2.1 198 = .ok (.putfield 81, 3) := dc9_181 (by decide +kernel)
theorem d_MG_init_201 : decode y_MG_init.2.1 201 = .ok (.aload_n 0, 1) := dc9_42 (by decide +kernel)
theorem d_MG_init_202 : decode y_MG_init.2.1 202 = .ok (.sipush 480, 3) := dc9_17 (by decide +kernel)
theorem d_MG_init_205 : decode y_MG_init.2.1 205 = .ok (.newarray .int, 2) := by decide +kernel
theorem d_MG_init_207 : decode y_MG_init.2.1 207 = .ok (.putfield 84, 3) := dc9_181 (by decide +kernel)
theorem d_MG_init_210 : decode y_MG_init.2.1 210 = .ok (.aload_n 0, 1) := dc9_42 (by decide +kernel)
theorem d_MG_init_211 : decode y_MG_init.2.1 211 = .ok (.new 9, 3) := dc9_187 (by decide +kernel)
theorem d_MG_init_214 : decode y_MG_init.2.1 214 = .ok (.dup, 1) := dc9_89 (by decide +kernel)
theorem d_MG_init_215 : decode y_MG_init.2.1 215 = .ok (.invokespecial 11, 3) := dc9_183 (by decide +kernel)
theorem d_MG_init_218 : decode y_MG_init.2.1 218 = .ok (.putfield 87, 3) := dc9_181 (by decide +kernel)
theorem d_MG_init_221 : decode y_MG_init.2.1 221 = .ok (.aload_n 0, 1) := dc9_42 (by decide +kernel)
theorem d_MG_init_222 : decode y_MG_init.2.1 222 = .ok (.new 9, 3) := dc9_187 (by decide +kernel)
theorem d_MG_init_225 : decode y_MG_init.2.1 225 = .ok (.dup, 1) := dc9_89 (by decide +kernel)
theorem d_MG_init_226 : decode y_MG_init.2.1 226 = .ok (.invokespecial 11, 3) := dc9_183 (by decide +kernel)
theorem d_MG_init_229 : decode y_MG_init.2.1 229 = .ok (.putfield 90, 3) := dc9_181 (by decide +kernel)
theorem d_MG_init_232 : decode y_MG_init.2.1 232 = .ok (.aload_n 0, 1) := dc9_42 (by decide +kernel)
theorem d_MG_init_233 : decode y_MG_init.2.1 233 = .ok (.new 9, 3) := dc9_187 (by decide +kernel)
theorem d_MG_init_236 : decode y_MG_init.2.1 236 = .ok (.dup, 1) := dc9_89 (by decide +kernel)
theorem d_MG_init_237 : decode y_MG_init.2.1 237 = .ok (.invokespecial 11, 3) := dc9_183 (by decide +kernel)
theorem d_MG_init_240 : decode y_MG_init.2.1 240 = .ok (.putfield 93, 3) := dc9_181 (by decide +kernel)
theorem d_MG_init_243 : decode y_MG_init.2.1 243 = .ok (.return_, 1) := dc9_177 (by decide +kernel)
theorem k_MG_init {G : mG} {d : Nat} {a0 : Nat} {M : mM} {Q : mM → Prop} (hO : mOk M)
    (h : 0 < a0 ∧ ∀ M2, M2 = mNew M 15 0 2 → Cv G y_MN_init d [vr (mZ M)] M2 (fun M4 => mOk M4 ∧ (mK M4 a0 = 16 ∧ ∀ M8, M8 = mUR M4 a0 0 (mZ M) → ∀ M10, M10 = mNew M8 15 0 2 → Cv G y_MN_init d [vr (mZ M8)] M10 (fun M12 => mOk M12 ∧ (mK M12 a0 = 16 ∧ ∀ M16, M16 = mUR M12 a0 1 (mZ M8) → ∀ M18, M18 = mNew M16 15 0 2 → Cv G y_MN_init d [vr (mZ M16)] M18 (fun M20 => mOk M20 ∧ (mK M20 a0 = 16 ∧ ∀ M24, M24 = mUR M20 a0 2 (mZ M16) → ∀ M26, M26 = mNew M24 15 0 2 → Cv G y_MN_init d [vr (mZ M24)] M26 (fun M28 => mOk M28 ∧ (mK M28 a0 = 16 ∧ ∀ M32, M32 = mUR M28 a0 3 (mZ M24) → ∀ M34, M34 = mNew M32 15 0 2 → Cv G y_MN_init d [vr (mZ M32)] M34 (fun M36 => mOk M36 ∧ (mK M36 a0 = 16 ∧ ∀ M40, M40 = mUR M36 a0 4 (mZ M32) → ∀ M42, M42 = mNew M40 15 0 2 → Cv G y_MN_init d [vr (mZ M40)] M42 (fun M44 => mOk M44 ∧ (mK M44 a0 = 16 ∧ ∀ M48, M48 = mUR M44 a0 5 (mZ M40) → ∀ M50, M50 = mNew M48 31 60 60 → mK M50 a0 = 16 ∧ ∀ M53, M53 = mUR M50 a0 7 (mZ M48) → ∀ M55, M55 = mNew M53 31 60 60 → mK M55 a0 = 16 ∧ ∀ M58, M58 = mUR M55 a0 8 (mZ M53) → ∀ M60, M60 = mNew M58 30 60 60 → mK M60 a0 = 16 ∧ ∀ M63, M63 = mUR M60 a0 9 (mZ M58) → ∀ M65, M65 = mNew M63 33 60 60 → mK M65 a0 = 16 ∧ ∀ M68, M68 = mUR M65 a0 10 (mZ M63) → ∀ M70, M70 = mNew M68 33 60 60 → mK M70 a0 = 16 ∧ ∀ M73, M73 = mUR M70 a0 11 (mZ M68) → ∀ M75, M75 = mNew M73 31 12 12 → mK M75 a0 = 16 ∧ ∀ M78, M78 = mUR M75 a0 13 (mZ M73) → ∀ M80, M80 = mNew M78 30 12 12 → mK M80 a0 = 16 ∧ ∀ M83, M83 = mUR M80 a0 14 (mZ M78) → ∀ M85, M85 = mNew M83 30 12 12 → mK M85 a0 = 16 ∧ ∀ M88, M88 = mUR M85 a0 15 (mZ M83) → ∀ M90, M90 = mNew M88 30 12 12 → mK M90 a0 = 16 ∧ ∀ M93, M93 = mUR M90 a0 16 (mZ M88) → ∀ M95, M95 = mNew M93 31 60 60 → mK M95 a0 = 16 ∧ ∀ M98, M98 = mUR M95 a0 19 (mZ M93) → ∀ M100, M100 = mNew M98 30 60 60 → mK M100 a0 = 16 ∧ ∀ M103, M103 = mUR M100 a0 20 (mZ M98) → ∀ M105, M105 = mNew M103 30 60 60 → mK M105 a0 = 16 ∧ ∀ M108, M108 = mUR M105 a0 21 (mZ M103) → ∀ M110, M110 = mNew M108 30 60 60 → mK M110 a0 = 16 ∧ ∀ M113, M113 = mUR M110 a0 22 (mZ M108) → ∀ M115, M115 = mNew M113 30 480 480 → mK M115 a0 = 16 ∧ ∀ M118, M118 = mUR M115 a0 23 (mZ M113) → ∀ M120, M120 = mNew M118 30 480 480 → mK M120 a0 = 16 ∧ ∀ M123, M123 = mUR M120 a0 24 (mZ M118) → ∀ M125, M125 = mNew M123 30 480 480 → mK M125 a0 = 16 ∧ ∀ M128, M128 = mUR M125 a0 25 (mZ M123) → ∀ M130, M130 = mNew M128 30 480 480 → mK M130 a0 = 16 ∧ ∀ M133, M133 = mUR M130 a0 26 (mZ M128) → ∀ M135, M135 = mNew M133 15 0 2 → Cv G y_MN_init d [vr (mZ M133)] M135 (fun M137 => mOk M137 ∧ (mK M137 a0 = 16 ∧ ∀ M141, M141 = mUR M137 a0 27 (mZ M133) → ∀ M143, M143 = mNew M141 15 0 2 → Cv G y_MN_init d [vr (mZ M141)] M143 (fun M145 => mOk M145 ∧ (mK M145 a0 = 16 ∧ ∀ M149, M149 = mUR M145 a0 28 (mZ M141) → ∀ M151, M151 = mNew M149 15 0 2 → Cv G y_MN_init d [vr (mZ M149)] M151 (fun M153 => mOk M153 ∧ (mK M153 a0 = 16 ∧ ∀ M157, M157 = mUR M153 a0 29 (mZ M149) → Q M157))))))))))))))))))) :
    Cv G y_MG_init (d + 1) [vr a0] M Q := by
  refine wm_open (y := y_MG_init) rfl (Nat.le_of_ble_eq_true rfl) (L := [vr a0]) rfl ?_
  obtain ⟨h1, h⟩ := h
  obtain ⟨M2, e3⟩ : ∃ M2, M2 = mNew M 15 0 2 := ⟨_, rfl⟩
  replace h := h M2 e3
  refine wm_aload_n d_MG_init_0 rfl rfl ?_
  refine wm_objInit trivial k9_21 kO_inst kO_code (Nat.le_of_ble_eq_true rfl) d_MG_init_1 h1 ?_
  refine wm_aload_n d_MG_init_4 rfl rfl ?_
  have hOM2 : mOk M2 := by rw [e3]; exact mOk_New hO
  refine nf_MG_9 rfl d_MG_init_5 e3 ?_
  refine wm_dup d_MG_init_8 rfl ?_
  refine cf_MG_11 rfl d_MG_init_9 (by rw [e3]; exact if_pos rfl) (Nat.le_of_ble_eq_true rfl) (Cv.mono h (fun M4 h => ?_))
  obtain ⟨hOM4, h⟩ := h
  obtain ⟨h7, h⟩ := h
  obtain ⟨M8, e9⟩ : ∃ M8, M8 = mUR M4 a0 0 (mZ M) := ⟨_, rfl⟩
  replace h := h M8 e9
  obtain ⟨M10, e11⟩ : ∃ M10, M10 = mNew M8 15 0 2 := ⟨_, rfl⟩
  replace h := h M10 e11
  have hOM8 : mOk M8 := by rw [e9]; exact mOk_UR hOM4
  refine pf_MG_12 rfl rfl d_MG_init_12 h7 e9 ?_
  refine wm_aload_n d_MG_init_15 rfl rfl ?_
  have hOM10 : mOk M10 := by rw [e11]; exact mOk_New hOM8
  refine nf_MG_9 rfl d_MG_init_16 e11 ?_
  refine wm_dup d_MG_init_19 rfl ?_
  refine cf_MG_11 rfl d_MG_init_20 (by rw [e11]; exact if_pos rfl) (Nat.le_of_ble_eq_true rfl) (Cv.mono h (fun M12 h => ?_))
  obtain ⟨hOM12, h⟩ := h
  obtain ⟨h15, h⟩ := h
  obtain ⟨M16, e17⟩ : ∃ M16, M16 = mUR M12 a0 1 (mZ M8) := ⟨_, rfl⟩
  replace h := h M16 e17
  obtain ⟨M18, e19⟩ : ∃ M18, M18 = mNew M16 15 0 2 := ⟨_, rfl⟩
  replace h := h M18 e19
  have hOM16 : mOk M16 := by rw [e17]; exact mOk_UR hOM12
  refine pf_MG_18 rfl rfl d_MG_init_23 h15 e17 ?_
  refine wm_aload_n d_MG_init_26 rfl rfl ?_
  have hOM18 : mOk M18 := by rw [e19]; exact mOk_New hOM16
  refine nf_MG_9 rfl d_MG_init_27 e19 ?_
  refine wm_dup d_MG_init_30 rfl ?_
  refine cf_MG_11 rfl d_MG_init_31 (by rw [e19]; exact if_pos rfl) (Nat.le_of_ble_eq_true rfl) (Cv.mono h (fun M20 h => ?_))
  obtain ⟨hOM20, h⟩ := h
  obtain ⟨h23, h⟩ := h
  obtain ⟨M24, e25⟩ : ∃ M24, M24 = mUR M20 a0 2 (mZ M16) := ⟨_, rfl⟩
  replace h := h M24 e25
  obtain ⟨M26, e27⟩ : ∃ M26, M26 = mNew M24 15 0 2 := ⟨_, rfl⟩
  replace h := h M26 e27
  have hOM24 : mOk M24 := by rw [e25]; exact mOk_UR hOM20
  refine pf_MG_21 rfl rfl d_MG_init_34 h23 e25 ?_
  refine wm_aload_n d_MG_init_37 rfl rfl ?_
  have hOM26 : mOk M26 := by rw [e27]; exact mOk_New hOM24
  refine nf_MG_9 rfl d_MG_init_38 e27 ?_
  refine wm_dup d_MG_init_41 rfl ?_
  refine cf_MG_11 rfl d_MG_init_42 (by rw [e27]; exact if_pos rfl) (Nat.le_of_ble_eq_true rfl) (Cv.mono h (fun M28 h => ?_))
  obtain ⟨hOM28, h⟩ := h
  obtain ⟨h31, h⟩ := h
  obtain ⟨M32, e33⟩ : ∃ M32, M32 = mUR M28 a0 3 (mZ M24) := ⟨_, rfl⟩
  replace h := h M32 e33
  obtain ⟨M34, e35⟩ : ∃ M34, M34 = mNew M32 15 0 2 := ⟨_, rfl⟩
  replace h := h M34 e35
  have hOM32 : mOk M32 := by rw [e33]; exact mOk_UR hOM28
  refine pf_MG_24 rfl rfl d_MG_init_45 h31 e33 ?_
  refine wm_aload_n d_MG_init_48 rfl rfl ?_
  have hOM34 : mOk M34 := by rw [e35]; exact mOk_New hOM32
  refine nf_MG_9 rfl d_MG_init_49 e35 ?_
  refine wm_dup d_MG_init_52 rfl ?_
  refine cf_MG_11 rfl d_MG_init_53 (by rw [e35]; exact if_pos rfl) (Nat.le_of_ble_eq_true rfl) (Cv.mono h (fun M36 h => ?_))
  obtain ⟨hOM36, h⟩ := h
  obtain ⟨h39, h⟩ := h
  obtain ⟨M40, e41⟩ : ∃ M40, M40 = mUR M36 a0 4 (mZ M32) := ⟨_, rfl⟩
  replace h := h M40 e41
  obtain ⟨M42, e43⟩ : ∃ M42, M42 = mNew M40 15 0 2 := ⟨_, rfl⟩
  replace h := h M42 e43
  have hOM40 : mOk M40 := by rw [e41]; exact mOk_UR hOM36
  refine pf_MG_27 rfl rfl d_MG_init_56 h39 e41 ?_
  refine wm_aload_n d_MG_init_59 rfl rfl ?_
  have hOM42 : mOk M42 := by rw [e43]; exact mOk_New hOM40
  refine nf_MG_9 rfl d_MG_init_60 e43 ?_
  refine wm_dup d_MG_init_63 rfl ?_
  refine cf_MG_11 rfl d_MG_init_64 (by rw [e43]; exact if_pos rfl) (Nat.le_of_ble_eq_true rfl) (Cv.mono h (fun M44 h => ?_))
  obtain ⟨hOM44, h⟩ := h
  obtain ⟨h47, h⟩ := h
  obtain ⟨M48, e49⟩ : ∃ M48, M48 = mUR M44 a0 5 (mZ M40) := ⟨_, rfl⟩
  replace h := h M48 e49
  obtain ⟨M50, e51⟩ : ∃ M50, M50 = mNew M48 31 60 60 := ⟨_, rfl⟩
  replace h := h M50 e51
  obtain ⟨h52, h⟩ := h
  obtain ⟨M53, e54⟩ : ∃ M53, M53 = mUR M50 a0 7 (mZ M48) := ⟨_, rfl⟩
  replace h := h M53 e54
  obtain ⟨M55, e56⟩ : ∃ M55, M55 = mNew M53 31 60 60 := ⟨_, rfl⟩
  replace h := h M55 e56
  obtain ⟨h57, h⟩ := h
  obtain ⟨M58, e59⟩ : ∃ M58, M58 = mUR M55 a0 8 (mZ M53) := ⟨_, rfl⟩
  replace h := h M58 e59
  obtain ⟨M60, e61⟩ : ∃ M60, M60 = mNew M58 30 60 60 := ⟨_, rfl⟩
  replace h := h M60 e61
  obtain ⟨h62, h⟩ := h
  obtain ⟨M63, e64⟩ : ∃ M63, M63 = mUR M60 a0 9 (mZ M58) := ⟨_, rfl⟩
  replace h := h M63 e64
  obtain ⟨M65, e66⟩ : ∃ M65, M65 = mNew M63 33 60 60 := ⟨_, rfl⟩
  replace h := h M65 e66
  obtain ⟨h67, h⟩ := h
  obtain ⟨M68, e69⟩ : ∃ M68, M68 = mUR M65 a0 10 (mZ M63) := ⟨_, rfl⟩
  replace h := h M68 e69
  obtain ⟨M70, e71⟩ : ∃ M70, M70 = mNew M68 33 60 60 := ⟨_, rfl⟩
  replace h := h M70 e71
  obtain ⟨h72, h⟩ := h
  obtain ⟨M73, e74⟩ : ∃ M73, M73 = mUR M70 a0 11 (mZ M68) := ⟨_, rfl⟩
  replace h := h M73 e74
  obtain ⟨M75, e76⟩ : ∃ M75, M75 = mNew M73 31 12 12 := ⟨_, rfl⟩
  replace h := h M75 e76
  obtain ⟨h77, h⟩ := h
  obtain ⟨M78, e79⟩ : ∃ M78, M78 = mUR M75 a0 13 (mZ M73) := ⟨_, rfl⟩
  replace h := h M78 e79
  obtain ⟨M80, e81⟩ : ∃ M80, M80 = mNew M78 30 12 12 := ⟨_, rfl⟩
  replace h := h M80 e81
  obtain ⟨h82, h⟩ := h
  obtain ⟨M83, e84⟩ : ∃ M83, M83 = mUR M80 a0 14 (mZ M78) := ⟨_, rfl⟩
  replace h := h M83 e84
  obtain ⟨M85, e86⟩ : ∃ M85, M85 = mNew M83 30 12 12 := ⟨_, rfl⟩
  replace h := h M85 e86
  obtain ⟨h87, h⟩ := h
  obtain ⟨M88, e89⟩ : ∃ M88, M88 = mUR M85 a0 15 (mZ M83) := ⟨_, rfl⟩
  replace h := h M88 e89
  obtain ⟨M90, e91⟩ : ∃ M90, M90 = mNew M88 30 12 12 := ⟨_, rfl⟩
  replace h := h M90 e91
  obtain ⟨h92, h⟩ := h
  obtain ⟨M93, e94⟩ : ∃ M93, M93 = mUR M90 a0 16 (mZ M88) := ⟨_, rfl⟩
  replace h := h M93 e94
  obtain ⟨M95, e96⟩ : ∃ M95, M95 = mNew M93 31 60 60 := ⟨_, rfl⟩
  replace h := h M95 e96
  obtain ⟨h97, h⟩ := h
  obtain ⟨M98, e99⟩ : ∃ M98, M98 = mUR M95 a0 19 (mZ M93) := ⟨_, rfl⟩
  replace h := h M98 e99
  obtain ⟨M100, e101⟩ : ∃ M100, M100 = mNew M98 30 60 60 := ⟨_, rfl⟩
  replace h := h M100 e101
  obtain ⟨h102, h⟩ := h
  obtain ⟨M103, e104⟩ : ∃ M103, M103 = mUR M100 a0 20 (mZ M98) := ⟨_, rfl⟩
  replace h := h M103 e104
  obtain ⟨M105, e106⟩ : ∃ M105, M105 = mNew M103 30 60 60 := ⟨_, rfl⟩
  replace h := h M105 e106
  obtain ⟨h107, h⟩ := h
  obtain ⟨M108, e109⟩ : ∃ M108, M108 = mUR M105 a0 21 (mZ M103) := ⟨_, rfl⟩
  replace h := h M108 e109
  obtain ⟨M110, e111⟩ : ∃ M110, M110 = mNew M108 30 60 60 := ⟨_, rfl⟩
  replace h := h M110 e111
  obtain ⟨h112, h⟩ := h
  obtain ⟨M113, e114⟩ : ∃ M113, M113 = mUR M110 a0 22 (mZ M108) := ⟨_, rfl⟩
  replace h := h M113 e114
  obtain ⟨M115, e116⟩ : ∃ M115, M115 = mNew M113 30 480 480 := ⟨_, rfl⟩
  replace h := h M115 e116
  obtain ⟨h117, h⟩ := h
  obtain ⟨M118, e119⟩ : ∃ M118, M118 = mUR M115 a0 23 (mZ M113) := ⟨_, rfl⟩
  replace h := h M118 e119
  obtain ⟨M120, e121⟩ : ∃ M120, M120 = mNew M118 30 480 480 := ⟨_, rfl⟩
  replace h := h M120 e121
  obtain ⟨h122, h⟩ := h
  obtain ⟨M123, e124⟩ : ∃ M123, M123 = mUR M120 a0 24 (mZ M118) := ⟨_, rfl⟩
  replace h := h M123 e124
  obtain ⟨M125, e126⟩ : ∃ M125, M125 = mNew M123 30 480 480 := ⟨_, rfl⟩
  replace h := h M125 e126
  obtain ⟨h127, h⟩ := h
  obtain ⟨M128, e129⟩ : ∃ M128, M128 = mUR M125 a0 25 (mZ M123) := ⟨_, rfl⟩
  replace h := h M128 e129
  obtain ⟨M130, e131⟩ : ∃ M130, M130 = mNew M128 30 480 480 := ⟨_, rfl⟩
  replace h := h M130 e131
  obtain ⟨h132, h⟩ := h
  obtain ⟨M133, e134⟩ : ∃ M133, M133 = mUR M130 a0 26 (mZ M128) := ⟨_, rfl⟩
  replace h := h M133 e134
  obtain ⟨M135, e136⟩ : ∃ M135, M135 = mNew M133 15 0 2 := ⟨_, rfl⟩
  replace h := h M135 e136
  have hOM48 : mOk M48 := by rw [e49]; exact mOk_UR hOM44
  refine pf_MG_30 rfl rfl d_MG_init_67 h47 e49 ?_
  refine wm_aload_n d_MG_init_70 rfl rfl ?_
  refine wm_bipush d_MG_init_71 (by decide) ?_
  have hOM50 : mOk M50 := by rw [e51]; exact mOk_New hOM48
  refine wm_newarrE 1 (atype := .boolean) (ty := .boolean) rfl rfl (fun _ => rfl) rfl rfl (by decide) k1_162 ⟨by decide, by decide⟩ d_MG_init_73 e51 ?_
  have hOM53 : mOk M53 := by rw [e54]; exact mOk_UR hOM50
  refine pf_MG_33 rfl rfl d_MG_init_75 h52 e54 ?_
  refine wm_aload_n d_MG_init_78 rfl rfl ?_
  refine wm_bipush d_MG_init_79 (by decide) ?_
  have hOM55 : mOk M55 := by rw [e56]; exact mOk_New hOM53
  refine wm_newarrE 1 (atype := .boolean) (ty := .boolean) rfl rfl (fun _ => rfl) rfl rfl (by decide) k1_162 ⟨by decide, by decide⟩ d_MG_init_81 e56 ?_
  have hOM58 : mOk M58 := by rw [e59]; exact mOk_UR hOM55
  refine pf_MG_37 rfl rfl d_MG_init_83 h57 e59 ?_
  refine wm_aload_n d_MG_init_86 rfl rfl ?_
  refine wm_bipush d_MG_init_87 (by decide) ?_
  have hOM60 : mOk M60 := by rw [e61]; exact mOk_New hOM58
  refine wm_newarrE 0 (atype := .int) (ty := .int) rfl rfl (fun _ => rfl) rfl rfl (by decide) k1_82 ⟨by decide, by decide⟩ d_MG_init_89 e61 ?_
  have hOM63 : mOk M63 := by rw [e64]; exact mOk_UR hOM60
  refine pf_MG_40 rfl rfl d_MG_init_91 h62 e64 ?_
  refine wm_aload_n d_MG_init_94 rfl rfl ?_
  refine wm_bipush d_MG_init_95 (by decide) ?_
  have hOM65 : mOk M65 := by rw [e66]; exact mOk_New hOM63
  refine wm_newarrE 3 (atype := .long) (ty := .long) rfl rfl (fun _ => rfl) rfl rfl (by decide) k3_35 ⟨by decide, by decide⟩ d_MG_init_97 e66 ?_
  have hOM68 : mOk M68 := by rw [e69]; exact mOk_UR hOM65
  refine pf_MG_44 rfl rfl d_MG_init_99 h67 e69 ?_
  refine wm_aload_n d_MG_init_102 rfl rfl ?_
  refine wm_bipush d_MG_init_103 (by decide) ?_
  have hOM70 : mOk M70 := by rw [e71]; exact mOk_New hOM68
  refine wm_newarrE 3 (atype := .long) (ty := .long) rfl rfl (fun _ => rfl) rfl rfl (by decide) k3_35 ⟨by decide, by decide⟩ d_MG_init_105 e71 ?_
  have hOM73 : mOk M73 := by rw [e74]; exact mOk_UR hOM70
  refine pf_MG_48 rfl rfl d_MG_init_107 h72 e74 ?_
  refine wm_aload_n d_MG_init_110 rfl rfl ?_
  refine wm_bipush d_MG_init_111 (by decide) ?_
  have hOM75 : mOk M75 := by rw [e76]; exact mOk_New hOM73
  refine wm_newarrE 1 (atype := .boolean) (ty := .boolean) rfl rfl (fun _ => rfl) rfl rfl (by decide) k1_162 ⟨by decide, by decide⟩ d_MG_init_113 e76 ?_
  have hOM78 : mOk M78 := by rw [e79]; exact mOk_UR hOM75
  refine pf_MG_51 rfl rfl d_MG_init_115 h77 e79 ?_
  refine wm_aload_n d_MG_init_118 rfl rfl ?_
  refine wm_bipush d_MG_init_119 (by decide) ?_
  have hOM80 : mOk M80 := by rw [e81]; exact mOk_New hOM78
  refine wm_newarrE 0 (atype := .int) (ty := .int) rfl rfl (fun _ => rfl) rfl rfl (by decide) k1_82 ⟨by decide, by decide⟩ d_MG_init_121 e81 ?_
  have hOM83 : mOk M83 := by rw [e84]; exact mOk_UR hOM80
  refine pf_MG_54 rfl rfl d_MG_init_123 h82 e84 ?_
  refine wm_aload_n d_MG_init_126 rfl rfl ?_
  refine wm_bipush d_MG_init_127 (by decide) ?_
  have hOM85 : mOk M85 := by rw [e86]; exact mOk_New hOM83
  refine wm_newarrE 0 (atype := .int) (ty := .int) rfl rfl (fun _ => rfl) rfl rfl (by decide) k1_82 ⟨by decide, by decide⟩ d_MG_init_129 e86 ?_
  have hOM88 : mOk M88 := by rw [e89]; exact mOk_UR hOM85
  refine pf_MG_57 rfl rfl d_MG_init_131 h87 e89 ?_
  refine wm_aload_n d_MG_init_134 rfl rfl ?_
  refine wm_bipush d_MG_init_135 (by decide) ?_
  have hOM90 : mOk M90 := by rw [e91]; exact mOk_New hOM88
  refine wm_newarrE 0 (atype := .int) (ty := .int) rfl rfl (fun _ => rfl) rfl rfl (by decide) k1_82 ⟨by decide, by decide⟩ d_MG_init_137 e91 ?_
  have hOM93 : mOk M93 := by rw [e94]; exact mOk_UR hOM90
  refine pf_MG_60 rfl rfl d_MG_init_139 h92 e94 ?_
  refine wm_aload_n d_MG_init_142 rfl rfl ?_
  refine wm_bipush d_MG_init_143 (by decide) ?_
  have hOM95 : mOk M95 := by rw [e96]; exact mOk_New hOM93
  refine wm_newarrE 1 (atype := .boolean) (ty := .boolean) rfl rfl (fun _ => rfl) rfl rfl (by decide) k1_162 ⟨by decide, by decide⟩ d_MG_init_145 e96 ?_
  have hOM98 : mOk M98 := by rw [e99]; exact mOk_UR hOM95
  refine pf_MG_63 rfl rfl d_MG_init_147 h97 e99 ?_
  refine wm_aload_n d_MG_init_150 rfl rfl ?_
  refine wm_bipush d_MG_init_151 (by decide) ?_
  have hOM100 : mOk M100 := by rw [e101]; exact mOk_New hOM98
  refine wm_newarrE 0 (atype := .int) (ty := .int) rfl rfl (fun _ => rfl) rfl rfl (by decide) k1_82 ⟨by decide, by decide⟩ d_MG_init_153 e101 ?_
  have hOM103 : mOk M103 := by rw [e104]; exact mOk_UR hOM100
  refine pf_MG_66 rfl rfl d_MG_init_155 h102 e104 ?_
  refine wm_aload_n d_MG_init_158 rfl rfl ?_
  refine wm_bipush d_MG_init_159 (by decide) ?_
  have hOM105 : mOk M105 := by rw [e106]; exact mOk_New hOM103
  refine wm_newarrE 0 (atype := .int) (ty := .int) rfl rfl (fun _ => rfl) rfl rfl (by decide) k1_82 ⟨by decide, by decide⟩ d_MG_init_161 e106 ?_
  have hOM108 : mOk M108 := by rw [e109]; exact mOk_UR hOM105
  refine pf_MG_69 rfl rfl d_MG_init_163 h107 e109 ?_
  refine wm_aload_n d_MG_init_166 rfl rfl ?_
  refine wm_bipush d_MG_init_167 (by decide) ?_
  have hOM110 : mOk M110 := by rw [e111]; exact mOk_New hOM108
  refine wm_newarrE 0 (atype := .int) (ty := .int) rfl rfl (fun _ => rfl) rfl rfl (by decide) k1_82 ⟨by decide, by decide⟩ d_MG_init_169 e111 ?_
  have hOM113 : mOk M113 := by rw [e114]; exact mOk_UR hOM110
  refine pf_MG_72 rfl rfl d_MG_init_171 h112 e114 ?_
  refine wm_aload_n d_MG_init_174 rfl rfl ?_
  refine wm_sipush d_MG_init_175 (by decide) ?_
  have hOM115 : mOk M115 := by rw [e116]; exact mOk_New hOM113
  refine wm_newarrE 0 (atype := .int) (ty := .int) rfl rfl (fun _ => rfl) rfl rfl (by decide) k1_82 ⟨by decide, by decide⟩ d_MG_init_178 e116 ?_
  have hOM118 : mOk M118 := by rw [e119]; exact mOk_UR hOM115
  refine pf_MG_75 rfl rfl d_MG_init_180 h117 e119 ?_
  refine wm_aload_n d_MG_init_183 rfl rfl ?_
  refine wm_sipush d_MG_init_184 (by decide) ?_
  have hOM120 : mOk M120 := by rw [e121]; exact mOk_New hOM118
  refine wm_newarrE 0 (atype := .int) (ty := .int) rfl rfl (fun _ => rfl) rfl rfl (by decide) k1_82 ⟨by decide, by decide⟩ d_MG_init_187 e121 ?_
  have hOM123 : mOk M123 := by rw [e124]; exact mOk_UR hOM120
  refine pf_MG_78 rfl rfl d_MG_init_189 h122 e124 ?_
  refine wm_aload_n d_MG_init_192 rfl rfl ?_
  refine wm_sipush d_MG_init_193 (by decide) ?_
  have hOM125 : mOk M125 := by rw [e126]; exact mOk_New hOM123
  refine wm_newarrE 0 (atype := .int) (ty := .int) rfl rfl (fun _ => rfl) rfl rfl (by decide) k1_82 ⟨by decide, by decide⟩ d_MG_init_196 e126 ?_
  have hOM128 : mOk M128 := by rw [e129]; exact mOk_UR hOM125
  refine pf_MG_81 rfl rfl d_MG_init_198 h127 e129 ?_
  refine wm_aload_n d_MG_init_201 rfl rfl ?_
  refine wm_sipush d_MG_init_202 (by decide) ?_
  have hOM130 : mOk M130 := by rw [e131]; exact mOk_New hOM128
  refine wm_newarrE 0 (atype := .int) (ty := .int) rfl rfl (fun _ => rfl) rfl rfl (by decide) k1_82 ⟨by decide, by decide⟩ d_MG_init_205 e131 ?_
  have hOM133 : mOk M133 := by rw [e134]; exact mOk_UR hOM130
  refine pf_MG_84 rfl rfl d_MG_init_207 h132 e134 ?_
  refine wm_aload_n d_MG_init_210 rfl rfl ?_
  have hOM135 : mOk M135 := by rw [e136]; exact mOk_New hOM133
  refine nf_MG_9 rfl d_MG_init_211 e136 ?_
  refine wm_dup d_MG_init_214 rfl ?_
  refine cf_MG_11 rfl d_MG_init_215 (by rw [e136]; exact if_pos rfl) (Nat.le_of_ble_eq_true rfl) (Cv.mono h (fun M137 h => ?_))
  obtain ⟨hOM137, h⟩ := h
  obtain ⟨h140, h⟩ := h
  obtain ⟨M141, e142⟩ : ∃ M141, M141 = mUR M137 a0 27 (mZ M133) := ⟨_, rfl⟩
  replace h := h M141 e142
  obtain ⟨M143, e144⟩ : ∃ M143, M143 = mNew M141 15 0 2 := ⟨_, rfl⟩
  replace h := h M143 e144
  have hOM141 : mOk M141 := by rw [e142]; exact mOk_UR hOM137
  refine pf_MG_87 rfl rfl d_MG_init_218 h140 e142 ?_
  refine wm_aload_n d_MG_init_221 rfl rfl ?_
  have hOM143 : mOk M143 := by rw [e144]; exact mOk_New hOM141
  refine nf_MG_9 rfl d_MG_init_222 e144 ?_
  refine wm_dup d_MG_init_225 rfl ?_
  refine cf_MG_11 rfl d_MG_init_226 (by rw [e144]; exact if_pos rfl) (Nat.le_of_ble_eq_true rfl) (Cv.mono h (fun M145 h => ?_))
  obtain ⟨hOM145, h⟩ := h
  obtain ⟨h148, h⟩ := h
  obtain ⟨M149, e150⟩ : ∃ M149, M149 = mUR M145 a0 28 (mZ M141) := ⟨_, rfl⟩
  replace h := h M149 e150
  obtain ⟨M151, e152⟩ : ∃ M151, M151 = mNew M149 15 0 2 := ⟨_, rfl⟩
  replace h := h M151 e152
  have hOM149 : mOk M149 := by rw [e150]; exact mOk_UR hOM145
  refine pf_MG_90 rfl rfl d_MG_init_229 h148 e150 ?_
  refine wm_aload_n d_MG_init_232 rfl rfl ?_
  have hOM151 : mOk M151 := by rw [e152]; exact mOk_New hOM149
  refine nf_MG_9 rfl d_MG_init_233 e152 ?_
  refine wm_dup d_MG_init_236 rfl ?_
  refine cf_MG_11 rfl d_MG_init_237 (by rw [e152]; exact if_pos rfl) (Nat.le_of_ble_eq_true rfl) (Cv.mono h (fun M153 h => ?_))
  obtain ⟨hOM153, h⟩ := h
  obtain ⟨h156, h⟩ := h
  obtain ⟨M157, e158⟩ : ∃ M157, M157 = mUR M153 a0 29 (mZ M149) := ⟨_, rfl⟩
  replace h := h M157 e158
  have hOM157 : mOk M157 := by rw [e158]; exact mOk_UR hOM153
  refine pf_MG_93 rfl rfl d_MG_init_240 h156 e158 ?_
  refine wm_return d_MG_init_243 rfl ?_
  exact ⟨rfl, h⟩
theorem d_MG_clear_0 : decode y_MG_clear.2.1 0 = .ok (.aload_n 0, 1) := dc9_42 (by decide +kernel)
theorem d_MG_clear_1 : decode y_MG_clear.2.1 1 = .ok (.getfield 12, 3) := dc9_180 (by decide +kernel)
theorem d_MG_clear_4 : decode y_MG_clear.2.1 4 = .ok (.iconst 0, 1) := dc9_3 (by decide +kernel)
theorem d_MG_clear_5 : decode y_MG_clear.2.1 5 = .ok (.putfield 96, 3) := dc9_181 (by decide +kernel)
theorem d_MG_clear_8 : decode y_MG_clear.2.1 8 = .ok (.aload_n 0, 1) := dc9_42 (by decide +kernel)
theorem d_MG_clear_9 : decode y_MG_clear.2.1 9 = .ok (.getfield 18, 3) := dc9_180 (by decide +kernel)
theorem d_MG_clear_12 : decode y_MG_clear.2.1 12 = .ok (.iconst 0, 1) := dc9_3 (by decide +kernel)
theorem d_MG_clear_13 : decode y_MG_clear.2.1 13 = .ok (.putfield 96, 3) := dc9_181 (by decide +kernel)
theorem d_MG_clear_16 : decode y_MG_clear.2.1 16 = .ok (.aload_n 0, 1) := dc9_42 (by decide +kernel)
theorem d_MG_clear_17 : decode y_MG_clear.2.1 17 = .ok (.getfield 21, 3) := dc9_180 (by decide +kernel)
theorem d_MG_clear_20 : decode y_MG_clear.2.1 20 = .ok (.iconst 0, 1) := dc9_3 (by decide +kernel)
theorem d_MG_clear_21 : decode y_MG_clear.2.1 21 = .ok (.putfield 96, 3) := dc9_181 (by decide +kernel)
theorem d_MG_clear_24 : decode y_MG_clear.2.1 24 = .ok (.aload_n 0, 1) := dc9_42 (by decide +kernel)
theorem d_MG_clear_25 : decode y_MG_clear.2.1 25 = .ok (.getfield 24, 3) := dc9_180 (by decide +kernel)
theorem d_MG_clear_28 : decode y_MG_clear.2.1 28 = .ok (.iconst 0, 1) := dc9_3 (by decide +kernel)
theorem d_MG_clear_29 : decode y_MG_clear.2.1 29 = .ok (.putfield 96, 3) := dc9_181 (by decide +kernel)
theorem d_MG_clear_32 : decode y_MG_clear.2.1 32 = .ok (.aload_n 0, 1) := dc9_42 (by decide +kernel)
theorem d_MG_clear_33 : decode y_MG_clear.2.1 33 = .ok (.getfield 27, 3) := dc9_180 (by decide +kernel)
theorem d_MG_clear_36 : decode y_MG_clear.2.1 36 = .ok (.iconst 0, 1) := dc9_3 (by decide +kernel)
theorem d_MG_clear_37 : decode y_MG_clear.2.1 37 = .ok (.putfield 96, 3) := dc9_181 (by decide +kernel)
theorem d_MG_clear_40 : decode y_MG_clear.2.1 40 = .ok (.aload_n 0, 1) := dc9_42 (by decide +kernel)
theorem d_MG_clear_41 : decode y_MG_clear.2.1 41 = .ok (.getfield 30, 3) := dc9_180 (by decide +kernel)
theorem d_MG_clear_44 : decode y_MG_clear.2.1 44 = .ok (.iconst 0, 1) := dc9_3 (by decide +kernel)
theorem d_MG_clear_45 : decode y_MG_clear.2.1 45 = .ok (.putfield 96, 3) := dc9_181 (by decide +kernel)
theorem d_MG_clear_48 : decode y_MG_clear.2.1 48 = .ok (.aload_n 0, 1) := dc9_42 (by decide +kernel)
theorem d_MG_clear_49 : decode y_MG_clear.2.1 49 = .ok (.iconst 0, 1) := dc9_3 (by decide +kernel)
theorem d_MG_clear_50 : decode y_MG_clear.2.1 50 = .ok (.putfield 100, 3) := dc9_181 (by decide +kernel)
theorem d_MG_clear_53 : decode y_MG_clear.2.1 53 = .ok (.aload_n 0, 1) := dc9_42 (by decide +kernel)
theorem d_MG_clear_54 : decode y_MG_clear.2.1 54 = .ok (.iconst 0, 1) := dc9_3 (by decide +kernel)
theorem d_MG_clear_55 : decode y_MG_clear.2.1 55 = .ok (.putfield 103, 3) := dc9_181 (by decide +kernel)
theorem d_MG_clear_58 : decode y_MG_clear.2.1 58 = .ok (.aload_n 0, 1) := dc9_42 (by decide +kernel)
theorem d_MG_clear_59 : decode y_MG_clear.2.1 59 = .ok (.iconst (-1), 1) := dc9_2 (by decide +kernel)
theorem d_MG_clear_60 : decode y_MG_clear.2.1 60 = .ok (.putfield 106, 3) := dc9_181 (by decide +kernel)
theorem d_MG_clear_63 : decode y_MG_clear.2.1 63 = .ok (.aload_n 0, 1) := dc9_42 (by decide +kernel)
theorem d_MG_clear_64 : decode y_MG_clear.2.1 64 = .ok (.iconst 0, 1) := dc9_3 (by decide +kernel)
theorem d_MG_clear_65 : decode y_MG_clear.2.1 65 = .ok (.putfield 109, 3) := dc9_181 (by decide +kernel)
theorem d_MG_clear_68 : decode y_MG_clear.2.1 68 = .ok (.aload_n 0, 1) := dc9_42 (by decide +kernel)
theorem d_MG_clear_69 : decode y_MG_clear.2.1 69 = .ok (.getfield 87, 3) := dc9_180 (by decide +kernel)
theorem d_MG_clear_72 : decode y_MG_clear.2.1 72 = .ok (.iconst 0, 1) := dc9_3 (by decide +kernel)
theorem d_MG_clear_73 : decode y_MG_clear.2.1 73 = .ok (.putfield 96, 3) := dc9_181 (by decide +kernel)
theorem d_MG_clear_76 : decode y_MG_clear.2.1 76 = .ok (.aload_n 0, 1) := dc9_42 (by decide +kernel)
theorem d_MG_clear_77 : decode y_MG_clear.2.1 77 = .ok (.getfield 90, 3) := dc9_180 (by decide +kernel)
theorem d_MG_clear_80 : decode y_MG_clear.2.1 80 = .ok (.iconst 0, 1) := dc9_3 (by decide +kernel)
theorem d_MG_clear_81 : decode y_MG_clear.2.1 81 = .ok (.putfield 96, 3) := dc9_181 (by decide +kernel)
theorem d_MG_clear_84 : decode y_MG_clear.2.1 84 = .ok (.aload_n 0, 1) := dc9_42 (by decide +kernel)
theorem d_MG_clear_85 : decode y_MG_clear.2.1 85 = .ok (.getfield 93, 3) := dc9_180 (by decide +kernel)
theorem d_MG_clear_88 : decode y_MG_clear.2.1 88 = .ok (.iconst 0, 1) := dc9_3 (by decide +kernel)
theorem d_MG_clear_89 : decode y_MG_clear.2.1 89 = .ok (.putfield 96, 3) := dc9_181 (by decide +kernel)
theorem d_MG_clear_92 : decode y_MG_clear.2.1 92 = .ok (.return_, 1) := dc9_177 (by decide +kernel)
theorem k_MG_clear {G : mG} {d : Nat} {a0 : Nat} {M : mM} {Q : mM → Prop} (hO : mOk M)
    (h : mK M a0 = 16 ∧ mK M (mR M a0 0) = 15 ∧ ∀ M3, M3 = mUI M (mR M a0 0) 1 0 → mK M3 (mR M3 a0 1) = 15 ∧ ∀ M6, M6 = mUI M3 (mR M3 a0 1) 1 0 → mK M6 (mR M6 a0 2) = 15 ∧ ∀ M9, M9 = mUI M6 (mR M6 a0 2) 1 0 → mK M9 (mR M9 a0 3) = 15 ∧ ∀ M12, M12 = mUI M9 (mR M9 a0 3) 1 0 → mK M12 (mR M12 a0 4) = 15 ∧ ∀ M15, M15 = mUI M12 (mR M12 a0 4) 1 0 → mK M15 (mR M15 a0 5) = 15 ∧ ∀ M18, M18 = mUI M15 (mR M15 a0 5) 1 0 → ∀ M20, M20 = mUI M18 a0 6 0 → ∀ M22, M22 = mUI M20 a0 12 0 → ∀ M24, M24 = mUI M22 a0 17 (-1) → ∀ M26, M26 = mUI M24 a0 18 0 → mK M26 (mR M26 a0 27) = 15 ∧ ∀ M29, M29 = mUI M26 (mR M26 a0 27) 1 0 → mK M29 (mR M29 a0 28) = 15 ∧ ∀ M32, M32 = mUI M29 (mR M29 a0 28) 1 0 → mK M32 (mR M32 a0 29) = 15 ∧ ∀ M35, M35 = mUI M32 (mR M32 a0 29) 1 0 → Q M35) :
    Cv G y_MG_clear d [vr a0] M Q := by
  refine wm_open (y := y_MG_clear) rfl (Nat.le_of_ble_eq_true rfl) (L := [vr a0]) rfl ?_
  obtain ⟨h1, h⟩ := h
  obtain ⟨h2, h⟩ := h
  obtain ⟨M3, e4⟩ : ∃ M3, M3 = mUI M (mR M a0 0) 1 0 := ⟨_, rfl⟩
  replace h := h M3 e4
  obtain ⟨h5, h⟩ := h
  obtain ⟨M6, e7⟩ : ∃ M6, M6 = mUI M3 (mR M3 a0 1) 1 0 := ⟨_, rfl⟩
  replace h := h M6 e7
  obtain ⟨h8, h⟩ := h
  obtain ⟨M9, e10⟩ : ∃ M9, M9 = mUI M6 (mR M6 a0 2) 1 0 := ⟨_, rfl⟩
  replace h := h M9 e10
  obtain ⟨h11, h⟩ := h
  obtain ⟨M12, e13⟩ : ∃ M12, M12 = mUI M9 (mR M9 a0 3) 1 0 := ⟨_, rfl⟩
  replace h := h M12 e13
  obtain ⟨h14, h⟩ := h
  obtain ⟨M15, e16⟩ : ∃ M15, M15 = mUI M12 (mR M12 a0 4) 1 0 := ⟨_, rfl⟩
  replace h := h M15 e16
  obtain ⟨h17, h⟩ := h
  obtain ⟨M18, e19⟩ : ∃ M18, M18 = mUI M15 (mR M15 a0 5) 1 0 := ⟨_, rfl⟩
  replace h := h M18 e19
  obtain ⟨M20, e21⟩ : ∃ M20, M20 = mUI M18 a0 6 0 := ⟨_, rfl⟩
  replace h := h M20 e21
  obtain ⟨M22, e23⟩ : ∃ M22, M22 = mUI M20 a0 12 0 := ⟨_, rfl⟩
  replace h := h M22 e23
  obtain ⟨M24, e25⟩ : ∃ M24, M24 = mUI M22 a0 17 (-1) := ⟨_, rfl⟩
  replace h := h M24 e25
  obtain ⟨M26, e27⟩ : ∃ M26, M26 = mUI M24 a0 18 0 := ⟨_, rfl⟩
  replace h := h M26 e27
  obtain ⟨h28, h⟩ := h
  obtain ⟨M29, e30⟩ : ∃ M29, M29 = mUI M26 (mR M26 a0 27) 1 0 := ⟨_, rfl⟩
  replace h := h M29 e30
  obtain ⟨h31, h⟩ := h
  obtain ⟨M32, e33⟩ : ∃ M32, M32 = mUI M29 (mR M29 a0 28) 1 0 := ⟨_, rfl⟩
  replace h := h M32 e33
  obtain ⟨h34, h⟩ := h
  obtain ⟨M35, e36⟩ : ∃ M35, M35 = mUI M32 (mR M32 a0 29) 1 0 := ⟨_, rfl⟩
  replace h := h M35 e36
  refine wm_aload_n d_MG_clear_0 rfl rfl ?_
  refine gf_MG_12 rfl d_MG_clear_1 h1 ?_
  refine wm_iconst d_MG_clear_4 ?_
  have hOM3 : mOk M3 := by rw [e4]; exact mOk_UI hO ⟨by decide, by decide⟩
  refine pf_MG_96 rfl d_MG_clear_5 h2 ⟨by decide, by decide⟩ e4 ?_
  refine wm_aload_n d_MG_clear_8 rfl rfl ?_
  refine gf_MG_18 rfl d_MG_clear_9 (by rw [e4]; exact h1) ?_
  refine wm_iconst d_MG_clear_12 ?_
  have hOM6 : mOk M6 := by rw [e7]; exact mOk_UI hOM3 ⟨by decide, by decide⟩
  refine pf_MG_96 rfl d_MG_clear_13 h5 ⟨by decide, by decide⟩ e7 ?_
  refine wm_aload_n d_MG_clear_16 rfl rfl ?_
  refine gf_MG_21 rfl d_MG_clear_17 (by rw [e7, e4]; exact h1) ?_
  refine wm_iconst d_MG_clear_20 ?_
  have hOM9 : mOk M9 := by rw [e10]; exact mOk_UI hOM6 ⟨by decide, by decide⟩
  refine pf_MG_96 rfl d_MG_clear_21 h8 ⟨by decide, by decide⟩ e10 ?_
  refine wm_aload_n d_MG_clear_24 rfl rfl ?_
  refine gf_MG_24 rfl d_MG_clear_25 (by rw [e10, e7, e4]; exact h1) ?_
  refine wm_iconst d_MG_clear_28 ?_
  have hOM12 : mOk M12 := by rw [e13]; exact mOk_UI hOM9 ⟨by decide, by decide⟩
  refine pf_MG_96 rfl d_MG_clear_29 h11 ⟨by decide, by decide⟩ e13 ?_
  refine wm_aload_n d_MG_clear_32 rfl rfl ?_
  refine gf_MG_27 rfl d_MG_clear_33 (by rw [e13, e10, e7, e4]; exact h1) ?_
  refine wm_iconst d_MG_clear_36 ?_
  have hOM15 : mOk M15 := by rw [e16]; exact mOk_UI hOM12 ⟨by decide, by decide⟩
  refine pf_MG_96 rfl d_MG_clear_37 h14 ⟨by decide, by decide⟩ e16 ?_
  refine wm_aload_n d_MG_clear_40 rfl rfl ?_
  refine gf_MG_30 rfl d_MG_clear_41 (by rw [e16, e13, e10, e7, e4]; exact h1) ?_
  refine wm_iconst d_MG_clear_44 ?_
  have hOM18 : mOk M18 := by rw [e19]; exact mOk_UI hOM15 ⟨by decide, by decide⟩
  refine pf_MG_96 rfl d_MG_clear_45 h17 ⟨by decide, by decide⟩ e19 ?_
  refine wm_aload_n d_MG_clear_48 rfl rfl ?_
  refine wm_iconst d_MG_clear_49 ?_
  have hOM20 : mOk M20 := by rw [e21]; exact mOk_UI hOM18 ⟨by decide, by decide⟩
  refine pf_MG_100 rfl d_MG_clear_50 (by rw [e19, e16, e13, e10, e7, e4]; exact h1) ⟨by decide, by decide⟩ e21 ?_
  refine wm_aload_n d_MG_clear_53 rfl rfl ?_
  refine wm_iconst d_MG_clear_54 ?_
  have hOM22 : mOk M22 := by rw [e23]; exact mOk_UI hOM20 ⟨by decide, by decide⟩
  refine pf_MG_103 rfl d_MG_clear_55 (by rw [e21, e19, e16, e13, e10, e7, e4]; exact h1) ⟨by decide, by decide⟩ e23 ?_
  refine wm_aload_n d_MG_clear_58 rfl rfl ?_
  refine wm_iconst d_MG_clear_59 ?_
  have hOM24 : mOk M24 := by rw [e25]; exact mOk_UI hOM22 ⟨by decide, by decide⟩
  refine pf_MG_106 rfl d_MG_clear_60 (by rw [e23, e21, e19, e16, e13, e10, e7, e4]; exact h1) ⟨by decide, by decide⟩ e25 ?_
  refine wm_aload_n d_MG_clear_63 rfl rfl ?_
  refine wm_iconst d_MG_clear_64 ?_
  have hOM26 : mOk M26 := by rw [e27]; exact mOk_UI hOM24 ⟨by decide, by decide⟩
  refine pf_MG_109 rfl d_MG_clear_65 (by rw [e25, e23, e21, e19, e16, e13, e10, e7, e4]; exact h1) ⟨by decide, by decide⟩ e27 ?_
  refine wm_aload_n d_MG_clear_68 rfl rfl ?_
  refine gf_MG_87 rfl d_MG_clear_69 (by rw [e27, e25, e23, e21, e19, e16, e13, e10, e7, e4]; exact h1) ?_
  refine wm_iconst d_MG_clear_72 ?_
  have hOM29 : mOk M29 := by rw [e30]; exact mOk_UI hOM26 ⟨by decide, by decide⟩
  refine pf_MG_96 rfl d_MG_clear_73 h28 ⟨by decide, by decide⟩ e30 ?_
  refine wm_aload_n d_MG_clear_76 rfl rfl ?_
  refine gf_MG_90 rfl d_MG_clear_77 (by rw [e30, e27, e25, e23, e21, e19, e16, e13, e10, e7, e4]; exact h1) ?_
  refine wm_iconst d_MG_clear_80 ?_
  have hOM32 : mOk M32 := by rw [e33]; exact mOk_UI hOM29 ⟨by decide, by decide⟩
  refine pf_MG_96 rfl d_MG_clear_81 h31 ⟨by decide, by decide⟩ e33 ?_
  refine wm_aload_n d_MG_clear_84 rfl rfl ?_
  refine gf_MG_93 rfl d_MG_clear_85 (by rw [e33, e30, e27, e25, e23, e21, e19, e16, e13, e10, e7, e4]; exact h1) ?_
  refine wm_iconst d_MG_clear_88 ?_
  have hOM35 : mOk M35 := by rw [e36]; exact mOk_UI hOM32 ⟨by decide, by decide⟩
  refine pf_MG_96 rfl d_MG_clear_89 h34 ⟨by decide, by decide⟩ e36 ?_
  refine wm_return d_MG_clear_92 rfl ?_
  exact ⟨rfl, h⟩
theorem d_MN_init_0 : decode y_MN_init.2.1 0 = .ok (.aload_n 0, 1) := dc9_42 (by decide +kernel)
theorem d_MN_init_1 : decode y_MN_init.2.1 1 = .ok (.invokespecial 1, 3) := dc9_183 (by decide +kernel)
theorem d_MN_init_4 : decode y_MN_init.2.1 4 = .ok (.aload_n 0, 1) := dc9_42 (by decide +kernel)
theorem d_MN_init_5 : decode y_MN_init.2.1 5 = .ok (.bipush 16, 2) := dc9_16 (by decide +kernel)
theorem d_MN_init_7 : decode y_MN_init.2.1 7 = .ok (.newarray .int, 2) := by decide +kernel
theorem d_MN_init_9 : decode y_MN_init.2.1 9 = .ok (.putfield 7, 3) := dc9_181 (by decide +kernel)
theorem d_MN_init_12 : decode y_MN_init.2.1 12 = .ok (.return_, 1) := dc9_177 (by decide +kernel)
theorem k_MN_init {G : mG} {d : Nat} {a0 : Nat} {M : mM} {Q : mM → Prop} (hO : mOk M)
    (h : 0 < a0 ∧ ∀ M2, M2 = mNew M 30 16 16 → mK M2 a0 = 15 ∧ ∀ M5, M5 = mUR M2 a0 0 (mZ M) → Q M5) :
    Cv G y_MN_init (d + 1) [vr a0] M Q := by
  refine wm_open (y := y_MN_init) rfl (Nat.le_of_ble_eq_true rfl) (L := [vr a0]) rfl ?_
  obtain ⟨h1, h⟩ := h
  obtain ⟨M2, e3⟩ : ∃ M2, M2 = mNew M 30 16 16 := ⟨_, rfl⟩
  replace h := h M2 e3
  obtain ⟨h4, h⟩ := h
  obtain ⟨M5, e6⟩ : ∃ M5, M5 = mUR M2 a0 0 (mZ M) := ⟨_, rfl⟩
  replace h := h M5 e6
  refine wm_aload_n d_MN_init_0 rfl rfl ?_
  refine wm_objInit trivial k9_5 kO_inst kO_code (Nat.le_of_ble_eq_true rfl) d_MN_init_1 h1 ?_
  refine wm_aload_n d_MN_init_4 rfl rfl ?_
  refine wm_bipush d_MN_init_5 (by decide) ?_
  have hOM2 : mOk M2 := by rw [e3]; exact mOk_New hO
  refine wm_newarrE 0 (atype := .int) (ty := .int) rfl rfl (fun _ => rfl) rfl rfl (by decide) k1_82 ⟨by decide, by decide⟩ d_MN_init_7 e3 ?_
  have hOM5 : mOk M5 := by rw [e6]; exact mOk_UR hOM2
  refine pf_MN_7 rfl d_MN_init_9 h4 e6 ?_
  refine wm_return d_MN_init_12 rfl ?_
  exact ⟨rfl, h⟩
theorem d_MN_add_0 : decode y_MN_add.2.1 0 = .ok (.aload_n 0, 1) := dc9_42 (by decide +kernel)
theorem d_MN_add_1 : decode y_MN_add.2.1 1 = .ok (.getfield 13, 3) := dc9_180 (by decide +kernel)
theorem d_MN_add_4 : decode y_MN_add.2.1 4 = .ok (.aload_n 0, 1) := dc9_42 (by decide +kernel)
theorem d_MN_add_5 : decode y_MN_add.2.1 5 = .ok (.getfield 7, 3) := dc9_180 (by decide +kernel)
theorem d_MN_add_8 : decode y_MN_add.2.1 8 = .ok (.arraylength, 1) := dc9_190 (by decide +kernel)
theorem d_MN_add_9 : decode y_MN_add.2.1 9 = .ok (.if_icmp .ne 42, 3) := dc9_160 (by decide +kernel)
theorem d_MN_add_12 : decode y_MN_add.2.1 12 = .ok (.iconst 2, 1) := dc9_5 (by decide +kernel)
theorem d_MN_add_13 : decode y_MN_add.2.1 13 = .ok (.aload_n 0, 1) := dc9_42 (by decide +kernel)
theorem d_MN_add_14 : decode y_MN_add.2.1 14 = .ok (.getfield 13, 3) := dc9_180 (by decide +kernel)
theorem d_MN_add_17 : decode y_MN_add.2.1 17 = .ok (.imul, 1) := dc9_104 (by decide +kernel)
theorem d_MN_add_18 : decode y_MN_add.2.1 18 = .ok (.newarray .int, 2) := by decide +kernel
theorem d_MN_add_20 : decode y_MN_add.2.1 20 = .ok (.astore_n 2, 1) := dc9_77 (by decide +kernel)
theorem d_MN_add_21 : decode y_MN_add.2.1 21 = .ok (.iconst 0, 1) := dc9_3 (by decide +kernel)
theorem d_MN_add_22 : decode y_MN_add.2.1 22 = .ok (.istore_n 3, 1) := dc9_62 (by decide +kernel)
theorem d_MN_add_51 : decode y_MN_add.2.1 51 = .ok (.aload_n 0, 1) := dc9_42 (by decide +kernel)
theorem d_MN_add_52 : decode y_MN_add.2.1 52 = .ok (.getfield 7, 3) := dc9_180 (by decide +kernel)
theorem d_MN_add_55 : decode y_MN_add.2.1 55 = .ok (.aload_n 0, 1) := dc9_42 (by decide +kernel)
theorem d_MN_add_56 : decode y_MN_add.2.1 56 = .ok (.getfield 13, 3) := dc9_180 (by decide +kernel)
theorem d_MN_add_59 : decode y_MN_add.2.1 59 = .ok (.iload_n 1, 1) := dc9_27 (by decide +kernel)
theorem d_MN_add_60 : decode y_MN_add.2.1 60 = .ok (.iastore, 1) := dc9_79 (by decide +kernel)
theorem d_MN_add_61 : decode y_MN_add.2.1 61 = .ok (.aload_n 0, 1) := dc9_42 (by decide +kernel)
theorem d_MN_add_62 : decode y_MN_add.2.1 62 = .ok (.aload_n 0, 1) := dc9_42 (by decide +kernel)
theorem d_MN_add_63 : decode y_MN_add.2.1 63 = .ok (.getfield 13, 3) := dc9_180 (by decide +kernel)
theorem d_MN_add_66 : decode y_MN_add.2.1 66 = .ok (.iconst 1, 1) := dc9_4 (by decide +kernel)
theorem d_MN_add_67 : decode y_MN_add.2.1 67 = .ok (.iadd, 1) := dc9_96 (by decide +kernel)
theorem d_MN_add_68 : decode y_MN_add.2.1 68 = .ok (.putfield 13, 3) := dc9_181 (by decide +kernel)
theorem d_MN_add_71 : decode y_MN_add.2.1 71 = .ok (.return_, 1) := dc9_177 (by decide +kernel)
theorem d_MN_add_23 : decode y_MN_add.2.1 23 = .ok (.iload_n 3, 1) := dc9_29 (by decide +kernel)
theorem d_MN_add_24 : decode y_MN_add.2.1 24 = .ok (.aload_n 0, 1) := dc9_42 (by decide +kernel)
theorem d_MN_add_25 : decode y_MN_add.2.1 25 = .ok (.getfield 13, 3) := dc9_180 (by decide +kernel)
theorem d_MN_add_28 : decode y_MN_add.2.1 28 = .ok (.if_icmp .ge 18, 3) := dc9_162 (by decide +kernel)
theorem d_MN_add_46 : decode y_MN_add.2.1 46 = .ok (.aload_n 0, 1) := dc9_42 (by decide +kernel)
theorem d_MN_add_47 : decode y_MN_add.2.1 47 = .ok (.aload_n 2, 1) := dc9_44 (by decide +kernel)
theorem d_MN_add_48 : decode y_MN_add.2.1 48 = .ok (.putfield 7, 3) := dc9_181 (by decide +kernel)
theorem d_MN_add_31 : decode y_MN_add.2.1 31 = .ok (.aload_n 2, 1) := dc9_44 (by decide +kernel)
theorem d_MN_add_32 : decode y_MN_add.2.1 32 = .ok (.iload_n 3, 1) := dc9_29 (by decide +kernel)
theorem d_MN_add_33 : decode y_MN_add.2.1 33 = .ok (.aload_n 0, 1) := dc9_42 (by decide +kernel)
theorem d_MN_add_34 : decode y_MN_add.2.1 34 = .ok (.getfield 7, 3) := dc9_180 (by decide +kernel)
theorem d_MN_add_37 : decode y_MN_add.2.1 37 = .ok (.iload_n 3, 1) := dc9_29 (by decide +kernel)
theorem d_MN_add_38 : decode y_MN_add.2.1 38 = .ok (.iaload, 1) := dc9_46 (by decide +kernel)
theorem d_MN_add_39 : decode y_MN_add.2.1 39 = .ok (.iastore, 1) := dc9_79 (by decide +kernel)
theorem d_MN_add_40 : decode y_MN_add.2.1 40 = .ok (.iinc 3 1, 3) := by decide +kernel
theorem d_MN_add_43 : decode y_MN_add.2.1 43 = .ok (.goto (-20), 3) := dc9_167 (by decide +kernel)
def h_MN_add_23 (G : mG) (d : Nat) (a0 : Nat) (l1 : Int) (a2 : Nat) (l3 : Int) (M : mM) (Q : mM → Prop) : Prop := mWm G y_MN_add d 23 [vr a0, vi l1, vr a2, vi l3] [] M (fun r9 M9 => r9 = none ∧ Q M9)
theorem k_MN_add {G : mG} {d : Nat} {a0 : Nat} {l1 : Int} {M : mM} {Q : mM → Prop} (hO : mOk M) (hi_l1 : i32 l1)
    (h : mK M a0 = 15 ∧ mK M (mR M a0 0) = 30 ∧ i32 (mN M (mR M a0 0) : Int) ∧ ((mI M a0 1 = (mN M (mR M a0 0) : Int)) → (((0 : Int) ≤ 2 * (mI M a0 1) ∧ 2 * (mI M a0 1) ≤ 16777216) ∧ ∀ M8, M8 = mNew M 30 (Int.toNat (2 * (mI M a0 1))) (Int.toNat (2 * (mI M a0 1))) → h_MN_add_23 G d a0 l1 (mZ M) 0 M8 Q)) ∧ (¬ (mI M a0 1 = (mN M (mR M a0 0) : Int)) → (((0 : Int) ≤ mI M a0 1 ∧ mI M a0 1 < (mN M (mR M a0 0) : Int)) ∧ ∀ M11, M11 = mUI M (mR M a0 0) (Int.toNat (mI M a0 1)) l1 → i32 ((mI M11 a0 1) + 1) ∧ ∀ M14, M14 = mUI M11 a0 1 ((mI M11 a0 1) + 1) → Q M14))) :
    Cv G y_MN_add d [vr a0, vi l1] M Q := by
  refine wm_open (y := y_MN_add) rfl (Nat.le_of_ble_eq_true rfl) (L := [vr a0, vi l1, vd, vd]) rfl ?_
  obtain ⟨h1, h⟩ := h
  obtain ⟨h2, h⟩ := h
  obtain ⟨h5, h⟩ := h
  refine wm_aload_n d_MN_add_0 rfl rfl ?_
  refine gf_MN_13 rfl d_MN_add_1 h1 ?_
  refine wm_aload_n d_MN_add_4 rfl rfl ?_
  refine gf_MN_7 rfl d_MN_add_5 h1 ?_
  refine wm_alen 0 rfl (fun _ => rfl) d_MN_add_8 h2 ?_
  refine wm_icmp_ne (tgt := 51) d_MN_add_9 rfl (hO _ _).1 h5 (fun c6 => ?_) (fun c6 => ?_)
  · replace h := h.2 c6
    obtain ⟨h10, h⟩ := h
    obtain ⟨M11, e12⟩ : ∃ M11, M11 = mUI M (mR M a0 0) (Int.toNat (mI M a0 1)) l1 := ⟨_, rfl⟩
    replace h := h M11 e12
    obtain ⟨h13, h⟩ := h
    obtain ⟨M14, e15⟩ : ∃ M14, M14 = mUI M11 a0 1 ((mI M11 a0 1) + 1) := ⟨_, rfl⟩
    replace h := h M14 e15
    refine wm_aload_n d_MN_add_51 rfl rfl ?_
    refine gf_MN_7 rfl d_MN_add_52 h1 ?_
    refine wm_aload_n d_MN_add_55 rfl rfl ?_
    refine gf_MN_13 rfl d_MN_add_56 h1 ?_
    refine wm_iload_n d_MN_add_59 rfl rfl ?_
    have hOM11 : mOk M11 := by rw [e12]; exact mOk_UI hO hi_l1
    refine wm_iastE d_MN_add_60 h2 h10 hi_l1 e12 ?_
    refine wm_aload_n d_MN_add_61 rfl rfl ?_
    refine wm_aload_n d_MN_add_62 rfl rfl ?_
    refine gf_MN_13 rfl d_MN_add_63 (by rw [e12]; exact h1) ?_
    refine wm_iconst d_MN_add_66 ?_
    refine wm_iadd d_MN_add_67 ?_
    have hOM14 : mOk M14 := by rw [e15]; exact mOk_UI hOM11 h13
    refine pf_MN_13 rfl d_MN_add_68 (by rw [e12]; exact h1) h13 e15 ?_
    refine wm_return d_MN_add_71 rfl ?_
    exact ⟨rfl, h⟩
  · replace c6 := Classical.not_not.mp c6
    replace h := h.1 c6
    obtain ⟨h7, h⟩ := h
    obtain ⟨M8, e9⟩ : ∃ M8, M8 = mNew M 30 (Int.toNat (2 * (mI M a0 1))) (Int.toNat (2 * (mI M a0 1))) := ⟨_, rfl⟩
    replace h := h M8 e9
    refine wm_iconst d_MN_add_12 ?_
    refine wm_aload_n d_MN_add_13 rfl rfl ?_
    refine gf_MN_13 rfl d_MN_add_14 h1 ?_
    refine wm_imul d_MN_add_17 ?_
    have hOM8 : mOk M8 := by rw [e9]; exact mOk_New hO
    refine wm_newarrE 0 (atype := .int) (ty := .int) rfl rfl (fun _ => rfl) rfl rfl (by decide) k1_82 h7 d_MN_add_18 e9 ?_
    refine wm_astore_n d_MN_add_20 rfl (by decide) (L' := [vr a0, vi l1, vr (mZ M), vd]) rfl ?_
    refine wm_iconst d_MN_add_21 ?_
    refine wm_istore_n d_MN_add_22 rfl (by decide) (L' := [vr a0, vi l1, vr (mZ M), vi 0]) rfl ?_
    exact h
theorem k_MN_add_23 {G : mG} {d : Nat} {a0 : Nat} {l1 : Int} {a2 : Nat} {l3 : Int} {M : mM} {Q : mM → Prop} (hO : mOk M) (hi_l1 : i32 l1) (hi_l3 : i32 l3)
    (h : mK M a0 = 15 ∧ ((mI M a0 1 ≤ l3) → (∀ M23, M23 = mUR M a0 0 a2 → mK M23 (mR M23 a0 0) = 30 ∧ ((0 : Int) ≤ mI M23 a0 1 ∧ mI M23 a0 1 < (mN M23 (mR M23 a0 0) : Int)) ∧ ∀ M27, M27 = mUI M23 (mR M23 a0 0) (Int.toNat (mI M23 a0 1)) l1 → i32 ((mI M27 a0 1) + 1) ∧ ∀ M30, M30 = mUI M27 a0 1 ((mI M27 a0 1) + 1) → Q M30)) ∧ (¬ (mI M a0 1 ≤ l3) → (mK M (mR M a0 0) = 30 ∧ ((0 : Int) ≤ l3 ∧ l3 < (mN M (mR M a0 0) : Int)) ∧ mK M a2 = 30 ∧ ((0 : Int) ≤ l3 ∧ l3 < (mN M a2 : Int)) ∧ ∀ M36, M36 = mUI M a2 (Int.toNat l3) (mI M (mR M a0 0) (Int.toNat l3)) → h_MN_add_23 G d a0 l1 a2 (l3 + 1) M36 Q))) :
    h_MN_add_23 G d a0 l1 a2 l3 M Q := by
  unfold h_MN_add_23
  obtain ⟨h16, h⟩ := h
  refine wm_iload_n d_MN_add_23 rfl rfl ?_
  refine wm_aload_n d_MN_add_24 rfl rfl ?_
  refine gf_MN_13 rfl d_MN_add_25 h16 ?_
  refine wm_icmp_ge (tgt := 46) d_MN_add_28 rfl hi_l3 (hO _ _).1 (fun c22 => ?_) (fun c22 => ?_)
  · replace h := h.1 c22
    obtain ⟨M23, e24⟩ : ∃ M23, M23 = mUR M a0 0 a2 := ⟨_, rfl⟩
    replace h := h M23 e24
    obtain ⟨h25, h⟩ := h
    obtain ⟨h26, h⟩ := h
    obtain ⟨M27, e28⟩ : ∃ M27, M27 = mUI M23 (mR M23 a0 0) (Int.toNat (mI M23 a0 1)) l1 := ⟨_, rfl⟩
    replace h := h M27 e28
    obtain ⟨h29, h⟩ := h
    obtain ⟨M30, e31⟩ : ∃ M30, M30 = mUI M27 a0 1 ((mI M27 a0 1) + 1) := ⟨_, rfl⟩
    replace h := h M30 e31
    refine wm_aload_n d_MN_add_46 rfl rfl ?_
    refine wm_aload_n d_MN_add_47 rfl rfl ?_
    have hOM23 : mOk M23 := by rw [e24]; exact mOk_UR hO
    refine pf_MN_7 rfl d_MN_add_48 h16 e24 ?_
    refine wm_aload_n d_MN_add_51 rfl rfl ?_
    refine gf_MN_7 rfl d_MN_add_52 (by rw [e24]; exact h16) ?_
    refine wm_aload_n d_MN_add_55 rfl rfl ?_
    refine gf_MN_13 rfl d_MN_add_56 (by rw [e24]; exact h16) ?_
    refine wm_iload_n d_MN_add_59 rfl rfl ?_
    have hOM27 : mOk M27 := by rw [e28]; exact mOk_UI hOM23 hi_l1
    refine wm_iastE d_MN_add_60 h25 h26 hi_l1 e28 ?_
    refine wm_aload_n d_MN_add_61 rfl rfl ?_
    refine wm_aload_n d_MN_add_62 rfl rfl ?_
    refine gf_MN_13 rfl d_MN_add_63 (by rw [e28, e24]; exact h16) ?_
    refine wm_iconst d_MN_add_66 ?_
    refine wm_iadd d_MN_add_67 ?_
    have hOM30 : mOk M30 := by rw [e31]; exact mOk_UI hOM27 h29
    refine pf_MN_13 rfl d_MN_add_68 (by rw [e28, e24]; exact h16) h29 e31 ?_
    refine wm_return d_MN_add_71 rfl ?_
    exact ⟨rfl, h⟩
  · replace h := h.2 c22
    obtain ⟨h32, h⟩ := h
    obtain ⟨h33, h⟩ := h
    obtain ⟨h34, h⟩ := h
    obtain ⟨h35, h⟩ := h
    obtain ⟨M36, e37⟩ : ∃ M36, M36 = mUI M a2 (Int.toNat l3) (mI M (mR M a0 0) (Int.toNat l3)) := ⟨_, rfl⟩
    replace h := h M36 e37
    refine wm_aload_n d_MN_add_31 rfl rfl ?_
    refine wm_iload_n d_MN_add_32 rfl rfl ?_
    refine wm_aload_n d_MN_add_33 rfl rfl ?_
    refine gf_MN_7 rfl d_MN_add_34 h16 ?_
    refine wm_iload_n d_MN_add_37 rfl rfl ?_
    refine wm_iald d_MN_add_38 h32 h33 ?_
    have hOM36 : mOk M36 := by rw [e37]; exact mOk_UI hO (hO _ _).1
    refine wm_iastE d_MN_add_39 h34 h35 (hO _ _).1 e37 ?_
    refine wm_iinc d_MN_add_40 (by decide) rfl (L' := [vr a0, vi l1, vr a2, vi (l3 + 1)]) rfl ?_
    refine wm_goto (tgt := 23) d_MN_add_43 rfl ?_
    exact h
theorem d_MN_at_0 : decode y_MN_at.2.1 0 = .ok (.aload_n 0, 1) := dc9_42 (by decide +kernel)
theorem d_MN_at_1 : decode y_MN_at.2.1 1 = .ok (.getfield 7, 3) := dc9_180 (by decide +kernel)
theorem d_MN_at_4 : decode y_MN_at.2.1 4 = .ok (.iload_n 1, 1) := dc9_27 (by decide +kernel)
theorem d_MN_at_5 : decode y_MN_at.2.1 5 = .ok (.iaload, 1) := dc9_46 (by decide +kernel)
theorem d_MN_at_6 : decode y_MN_at.2.1 6 = .ok (.ireturn, 1) := dc9_172 (by decide +kernel)
theorem k_MN_at {G : mG} {d : Nat} {a0 : Nat} {l1 : Int} {M : mM} {Q : Int → mM → Prop} (hO : mOk M) (hi_l1 : i32 l1)
    (h : mK M a0 = 15 ∧ mK M (mR M a0 0) = 30 ∧ ((0 : Int) ≤ l1 ∧ l1 < (mN M (mR M a0 0) : Int)) ∧ Q (mI M (mR M a0 0) (Int.toNat l1)) M) :
    Ci G y_MN_at d [vr a0, vi l1] M Q := by
  refine wm_open (y := y_MN_at) rfl (Nat.le_of_ble_eq_true rfl) (L := [vr a0, vi l1]) rfl ?_
  obtain ⟨h1, h⟩ := h
  obtain ⟨h2, h⟩ := h
  obtain ⟨h3, h⟩ := h
  refine wm_aload_n d_MN_at_0 rfl rfl ?_
  refine gf_MN_7 rfl d_MN_at_1 h1 ?_
  refine wm_iload_n d_MN_at_4 rfl rfl ?_
  refine wm_iald d_MN_at_5 h2 h3 ?_
  refine wm_ireturn d_MN_at_6 rfl rfl ?_
  exact ⟨_, rfl, h⟩
theorem d_MN_last_0 : decode y_MN_last.2.1 0 = .ok (.aload_n 0, 1) := dc9_42 (by decide +kernel)
theorem d_MN_last_1 : decode y_MN_last.2.1 1 = .ok (.getfield 7, 3) := dc9_180 (by decide +kernel)
theorem d_MN_last_4 : decode y_MN_last.2.1 4 = .ok (.aload_n 0, 1) := dc9_42 (by decide +kernel)
theorem d_MN_last_5 : decode y_MN_last.2.1 5 = .ok (.getfield 13, 3) := dc9_180 (by decide +kernel)
theorem d_MN_last_8 : decode y_MN_last.2.1 8 = .ok (.iconst 1, 1) := dc9_4 (by decide +kernel)
theorem d_MN_last_9 : decode y_MN_last.2.1 9 = .ok (.isub, 1) := dc9_100 (by decide +kernel)
theorem d_MN_last_10 : decode y_MN_last.2.1 10 = .ok (.iaload, 1) := dc9_46 (by decide +kernel)
theorem d_MN_last_11 : decode y_MN_last.2.1 11 = .ok (.ireturn, 1) := dc9_172 (by decide +kernel)
theorem k_MN_last {G : mG} {d : Nat} {a0 : Nat} {M : mM} {Q : Int → mM → Prop} (hO : mOk M)
    (h : mK M a0 = 15 ∧ mK M (mR M a0 0) = 30 ∧ ((0 : Int) ≤ (mI M a0 1) - 1 ∧ (mI M a0 1) - 1 < (mN M (mR M a0 0) : Int)) ∧ Q (mI M (mR M a0 0) (Int.toNat ((mI M a0 1) - 1))) M) :
    Ci G y_MN_last d [vr a0] M Q := by
  refine wm_open (y := y_MN_last) rfl (Nat.le_of_ble_eq_true rfl) (L := [vr a0]) rfl ?_
  obtain ⟨h1, h⟩ := h
  obtain ⟨h2, h⟩ := h
  obtain ⟨h3, h⟩ := h
  refine wm_aload_n d_MN_last_0 rfl rfl ?_
  refine gf_MN_7 rfl d_MN_last_1 h1 ?_
  refine wm_aload_n d_MN_last_4 rfl rfl ?_
  refine gf_MN_13 rfl d_MN_last_5 h1 ?_
  refine wm_iconst d_MN_last_8 ?_
  refine wm_isub d_MN_last_9 ?_
  refine wm_iald d_MN_last_10 h2 h3 ?_
  refine wm_ireturn d_MN_last_11 rfl rfl ?_
  exact ⟨_, rfl, h⟩
theorem d_MN_take_0 : decode y_MN_take.2.1 0 = .ok (.aload_n 0, 1) := dc9_42 (by decide +kernel)
theorem d_MN_take_1 : decode y_MN_take.2.1 1 = .ok (.aload_n 0, 1) := dc9_42 (by decide +kernel)
theorem d_MN_take_2 : decode y_MN_take.2.1 2 = .ok (.getfield 13, 3) := dc9_180 (by decide +kernel)
theorem d_MN_take_5 : decode y_MN_take.2.1 5 = .ok (.iconst 1, 1) := dc9_4 (by decide +kernel)
theorem d_MN_take_6 : decode y_MN_take.2.1 6 = .ok (.isub, 1) := dc9_100 (by decide +kernel)
theorem d_MN_take_7 : decode y_MN_take.2.1 7 = .ok (.putfield 13, 3) := dc9_181 (by decide +kernel)
theorem d_MN_take_10 : decode y_MN_take.2.1 10 = .ok (.aload_n 0, 1) := dc9_42 (by decide +kernel)
theorem d_MN_take_11 : decode y_MN_take.2.1 11 = .ok (.getfield 7, 3) := dc9_180 (by decide +kernel)
theorem d_MN_take_14 : decode y_MN_take.2.1 14 = .ok (.aload_n 0, 1) := dc9_42 (by decide +kernel)
theorem d_MN_take_15 : decode y_MN_take.2.1 15 = .ok (.getfield 13, 3) := dc9_180 (by decide +kernel)
theorem d_MN_take_18 : decode y_MN_take.2.1 18 = .ok (.iaload, 1) := dc9_46 (by decide +kernel)
theorem d_MN_take_19 : decode y_MN_take.2.1 19 = .ok (.ireturn, 1) := dc9_172 (by decide +kernel)
theorem k_MN_take {G : mG} {d : Nat} {a0 : Nat} {M : mM} {Q : Int → mM → Prop} (hO : mOk M)
    (h : mK M a0 = 15 ∧ i32 ((mI M a0 1) - 1) ∧ ∀ M3, M3 = mUI M a0 1 ((mI M a0 1) - 1) → mK M3 (mR M3 a0 0) = 30 ∧ ((0 : Int) ≤ mI M3 a0 1 ∧ mI M3 a0 1 < (mN M3 (mR M3 a0 0) : Int)) ∧ Q (mI M3 (mR M3 a0 0) (Int.toNat (mI M3 a0 1))) M3) :
    Ci G y_MN_take d [vr a0] M Q := by
  refine wm_open (y := y_MN_take) rfl (Nat.le_of_ble_eq_true rfl) (L := [vr a0]) rfl ?_
  obtain ⟨h1, h⟩ := h
  obtain ⟨h2, h⟩ := h
  obtain ⟨M3, e4⟩ : ∃ M3, M3 = mUI M a0 1 ((mI M a0 1) - 1) := ⟨_, rfl⟩
  replace h := h M3 e4
  obtain ⟨h5, h⟩ := h
  obtain ⟨h6, h⟩ := h
  refine wm_aload_n d_MN_take_0 rfl rfl ?_
  refine wm_aload_n d_MN_take_1 rfl rfl ?_
  refine gf_MN_13 rfl d_MN_take_2 h1 ?_
  refine wm_iconst d_MN_take_5 ?_
  refine wm_isub d_MN_take_6 ?_
  have hOM3 : mOk M3 := by rw [e4]; exact mOk_UI hO h2
  refine pf_MN_13 rfl d_MN_take_7 h1 h2 e4 ?_
  refine wm_aload_n d_MN_take_10 rfl rfl ?_
  refine gf_MN_7 rfl d_MN_take_11 (by rw [e4]; exact h1) ?_
  refine wm_aload_n d_MN_take_14 rfl rfl ?_
  refine gf_MN_13 rfl d_MN_take_15 (by rw [e4]; exact h1) ?_
  refine wm_iald d_MN_take_18 h5 h6 ?_
  refine wm_ireturn d_MN_take_19 rfl rfl ?_
  exact ⟨_, rfl, h⟩
theorem d_MS_init_0 : decode y_MS_init.2.1 0 = .ok (.aload_n 0, 1) := dc9_42 (by decide +kernel)
theorem d_MS_init_1 : decode y_MS_init.2.1 1 = .ok (.invokespecial 1, 3) := dc9_183 (by decide +kernel)
theorem d_MS_init_4 : decode y_MS_init.2.1 4 = .ok (.aload_n 0, 1) := dc9_42 (by decide +kernel)
theorem d_MS_init_5 : decode y_MS_init.2.1 5 = .ok (.new 7, 3) := dc9_187 (by decide +kernel)
theorem d_MS_init_8 : decode y_MS_init.2.1 8 = .ok (.dup, 1) := dc9_89 (by decide +kernel)
theorem d_MS_init_9 : decode y_MS_init.2.1 9 = .ok (.invokespecial 9, 3) := dc9_183 (by decide +kernel)
theorem d_MS_init_12 : decode y_MS_init.2.1 12 = .ok (.putfield 10, 3) := dc9_181 (by decide +kernel)
theorem d_MS_init_15 : decode y_MS_init.2.1 15 = .ok (.aload_n 0, 1) := dc9_42 (by decide +kernel)
theorem d_MS_init_16 : decode y_MS_init.2.1 16 = .ok (.sipush 513, 3) := dc9_17 (by decide +kernel)
theorem d_MS_init_19 : decode y_MS_init.2.1 19 = .ok (.newarray .int, 2) := by decide +kernel
theorem d_MS_init_21 : decode y_MS_init.2.1 21 = .ok (.putfield 16, 3) := dc9_181 (by decide +kernel)
theorem d_MS_init_24 : decode y_MS_init.2.1 24 = .ok (.aload_n 0, 1) := dc9_42 (by decide +kernel)
theorem d_MS_init_25 : decode y_MS_init.2.1 25 = .ok (.sipush 514, 3) := dc9_17 (by decide +kernel)
theorem d_MS_init_28 : decode y_MS_init.2.1 28 = .ok (.newarray .int, 2) := by decide +kernel
theorem d_MS_init_30 : decode y_MS_init.2.1 30 = .ok (.putfield 20, 3) := dc9_181 (by decide +kernel)
theorem d_MS_init_33 : decode y_MS_init.2.1 33 = .ok (.aload_n 0, 1) := dc9_42 (by decide +kernel)
theorem d_MS_init_34 : decode y_MS_init.2.1 34 = .ok (.sipush 4200, 3) := dc9_17 (by decide +kernel)
theorem d_MS_init_37 : decode y_MS_init.2.1 37 = .ok (.newarray .int, 2) := by decide +kernel
theorem d_MS_init_39 : decode y_MS_init.2.1 39 = .ok (.putfield 23, 3) := dc9_181 (by decide +kernel)
theorem d_MS_init_42 : decode y_MS_init.2.1 42 = .ok (.aload_n 0, 1) := dc9_42 (by decide +kernel)
theorem d_MS_init_43 : decode y_MS_init.2.1 43 = .ok (.sipush 4201, 3) := dc9_17 (by decide +kernel)
theorem d_MS_init_46 : decode y_MS_init.2.1 46 = .ok (.newarray .int, 2) := by decide +kernel
theorem d_MS_init_48 : decode y_MS_init.2.1 48 = .ok (.putfield 26, 3) := dc9_181 (by decide +kernel)
theorem d_MS_init_51 : decode y_MS_init.2.1 51 = .ok (.aload_n 0, 1) := dc9_42 (by decide +kernel)
theorem d_MS_init_52 : decode y_MS_init.2.1 52 = .ok (.sipush 4096, 3) := dc9_17 (by decide +kernel)
theorem d_MS_init_55 : decode y_MS_init.2.1 55 = .ok (.newarray .int, 2) := by decide +kernel
theorem d_MS_init_57 : decode y_MS_init.2.1 57 = .ok (.putfield 29, 3) := dc9_181 (by decide +kernel)
theorem d_MS_init_60 : decode y_MS_init.2.1 60 = .ok (.aload_n 0, 1) := dc9_42 (by decide +kernel)
theorem d_MS_init_61 : decode y_MS_init.2.1 61 = .ok (.sipush 4096, 3) := dc9_17 (by decide +kernel)
theorem d_MS_init_64 : decode y_MS_init.2.1 64 = .ok (.newarray .int, 2) := by decide +kernel
theorem d_MS_init_66 : decode y_MS_init.2.1 66 = .ok (.putfield 32, 3) := dc9_181 (by decide +kernel)
theorem d_MS_init_69 : decode y_MS_init.2.1 69 = .ok (.aload_n 0, 1) := dc9_42 (by decide +kernel)
theorem d_MS_init_70 : decode y_MS_init.2.1 70 = .ok (.sipush 4096, 3) := dc9_17 (by decide +kernel)
theorem d_MS_init_73 : decode y_MS_init.2.1 73 = .ok (.newarray .int, 2) := by decide +kernel
theorem d_MS_init_75 : decode y_MS_init.2.1 75 = .ok (.putfield 35, 3) := dc9_181 (by decide +kernel)
theorem d_MS_init_78 : decode y_MS_init.2.1 78 = .ok (.aload_n 0, 1) := dc9_42 (by decide +kernel)
theorem d_MS_init_79 : decode y_MS_init.2.1 79 = .ok (.sipush 1536, 3) := dc9_17 (by decide +kernel)
theorem d_MS_init_82 : decode y_MS_init.2.1 82 = .ok (.anewarray 38, 3) := dc9_189 (by decide +kernel)
theorem d_MS_init_85 : decode y_MS_init.2.1 85 = .ok (.putfield 40, 3) := dc9_181 (by decide +kernel)
theorem d_MS_init_88 : decode y_MS_init.2.1 88 = .ok (.aload_n 0, 1) := dc9_42 (by decide +kernel)
theorem d_MS_init_89 : decode y_MS_init.2.1 89 = .ok (.iconst 3, 1) := dc9_6 (by decide +kernel)
theorem d_MS_init_90 : decode y_MS_init.2.1 90 = .ok (.newarray .boolean, 2) := by decide +kernel
theorem d_MS_init_92 : decode y_MS_init.2.1 92 = .ok (.putfield 44, 3) := dc9_181 (by decide +kernel)
theorem d_MS_init_95 : decode y_MS_init.2.1 95 = .ok (.aload_n 0, 1) := dc9_42 (by decide +kernel)
theorem d_MS_init_96 : decode y_MS_init.2.1 96 = .ok (.sipush 512, 3) := dc9_17 (by decide +kernel)
theorem d_MS_init_99 : decode y_MS_init.2.1 99 = .ok (.anewarray 38, 3) := dc9_189 (by decide +kernel)
theorem d_MS_init_102 : decode y_MS_init.2.1 102 = .ok (.putfield 48, 3) := dc9_181 (by decide +kernel)
theorem d_MS_init_105 : decode y_MS_init.2.1 105 = .ok (.aload_n 0, 1) := dc9_42 (by decide +kernel)
theorem d_MS_init_106 : decode y_MS_init.2.1 106 = .ok (.sipush 512, 3) := dc9_17 (by decide +kernel)
theorem d_MS_init_109 : decode y_MS_init.2.1 109 = .ok (.newarray .int, 2) := by decide +kernel
theorem d_MS_init_111 : decode y_MS_init.2.1 111 = .ok (.putfield 51, 3) := dc9_181 (by decide +kernel)
theorem d_MS_init_114 : decode y_MS_init.2.1 114 = .ok (.aload_n 0, 1) := dc9_42 (by decide +kernel)
theorem d_MS_init_115 : decode y_MS_init.2.1 115 = .ok (.sipush 512, 3) := dc9_17 (by decide +kernel)
theorem d_MS_init_118 : decode y_MS_init.2.1 118 = .ok (.newarray .int, 2) := by decide +kernel
theorem d_MS_init_120 : decode y_MS_init.2.1 120 = .ok (.putfield 54, 3) := dc9_181 (by decide +kernel)
theorem d_MS_init_123 : decode y_MS_init.2.1 123 = .ok (.aload_n 0, 1) := dc9_42 (by decide +kernel)
theorem d_MS_init_124 : decode y_MS_init.2.1 124 = .ok (.sipush 512, 3) := dc9_17 (by decide +kernel)
theorem d_MS_init_127 : decode y_MS_init.2.1 127 = .ok (.newarray .int, 2) := by decide +kernel
theorem d_MS_init_129 : decode y_MS_init.2.1 129 = .ok (.putfield 57, 3) := dc9_181 (by decide +kernel)
theorem d_MS_init_132 : decode y_MS_init.2.1 132 = .ok (.aload_n 0, 1) := dc9_42 (by decide +kernel)
theorem d_MS_init_133 : decode y_MS_init.2.1 133 = .ok (.sipush 512, 3) := dc9_17 (by decide +kernel)
theorem d_MS_init_136 : decode y_MS_init.2.1 136 = .ok (.newarray .int, 2) := by decide +kernel
theorem d_MS_init_138 : decode y_MS_init.2.1 138 = .ok (.putfield 60, 3) := dc9_181 (by decide +kernel)
theorem d_MS_init_141 : decode y_MS_init.2.1 141 = .ok (.aload_n 0, 1) := dc9_42 (by decide +kernel)
theorem d_MS_init_142 : decode y_MS_init.2.1 142 = .ok (.sipush 512, 3) := dc9_17 (by decide +kernel)
theorem d_MS_init_145 : decode y_MS_init.2.1 145 = .ok (.newarray .boolean, 2) := by decide +kernel
theorem d_MS_init_147 : decode y_MS_init.2.1 147 = .ok (.putfield 63, 3) := dc9_181 (by decide +kernel)
theorem d_MS_init_150 : decode y_MS_init.2.1 150 = .ok (.aload_n 0, 1) := dc9_42 (by decide +kernel)
theorem d_MS_init_151 : decode y_MS_init.2.1 151 = .ok (.sipush 512, 3) := dc9_17 (by decide +kernel)
theorem d_MS_init_154 : decode y_MS_init.2.1 154 = .ok (.newarray .boolean, 2) := by decide +kernel
theorem d_MS_init_156 : decode y_MS_init.2.1 156 = .ok (.putfield 66, 3) := dc9_181 (by decide +kernel)
theorem d_MS_init_159 : decode y_MS_init.2.1 159 = .ok (.aload_n 0, 1) := dc9_42 (by decide +kernel)
theorem d_MS_init_160 : decode y_MS_init.2.1 160 = .ok (.sipush 512, 3) := dc9_17 (by decide +kernel)
theorem d_MS_init_163 : decode y_MS_init.2.1 163 = .ok (.anewarray 38, 3) := dc9_189 (by decide +kernel)
theorem d_MS_init_166 : decode y_MS_init.2.1 166 = .ok (.putfield 69, 3) := dc9_181 (by decide +kernel)
theorem d_MS_init_169 : decode y_MS_init.2.1 169 = .ok (.aload_n 0, 1) := dc9_42 (by decide +kernel)
theorem d_MS_init_170 : decode y_MS_init.2.1 170 = .ok (.bipush 40, 2) := dc9_16 (by decide +kernel)
theorem d_MS_init_172 : decode y_MS_init.2.1 172 = .ok (.newarray .int, 2) := by decide +kernel
theorem d_MS_init_174 : decode y_MS_init.2.1 174 = .ok (.putfield 72, 3) := dc9_181 (by decide +kernel)
theorem d_MS_init_177 : decode y_MS_init.2.1 177 = .ok (.aload_n 0, 1) := dc9_42 (by decide +kernel)
theorem d_MS_init_178 : decode y_MS_init.2.1 178 = .ok (.sipush 512, 3) := dc9_17 (by decide +kernel)
theorem d_MS_init_181 : decode y_MS_init.2.1 181 = .ok (.newarray .int, 2) := by decide +kernel
theorem d_MS_init_183 : decode y_MS_init.2.1 183 = .ok (.putfield 75, 3) := dc9_181 (by decide +kernel)
theorem d_MS_init_186 : decode y_MS_init.2.1 186 = .ok (.aload_n 0, 1) := dc9_42 (by decide +kernel)
theorem d_MS_init_187 : decode y_MS_init.2.1 187 = .ok (.sipush 1640, 3) := dc9_17 (by decide +kernel)
theorem d_MS_init_190 : decode y_MS_init.2.1 190 = .ok (.anewarray 38, 3) := dc9_189 (by decide +kernel)
theorem d_MS_init_193 : decode y_MS_init.2.1 193 = .ok (.putfield 78, 3) := dc9_181 (by decide +kernel)
theorem d_MS_init_196 : decode y_MS_init.2.1 196 = .ok (.aload_n 0, 1) := dc9_42 (by decide +kernel)
theorem d_MS_init_197 : decode y_MS_init.2.1 197 = .ok (.new 38, 3) := dc9_187 (by decide +kernel)
theorem d_MS_init_200 : decode y_MS_init.2.1 200 = .ok (.dup, 1) := dc9_89 (by decide +kernel)
theorem d_MS_init_201 : decode y_MS_init.2.1 201 = .ok (.bipush 8, 2) := dc9_16 (by decide +kernel)
theorem d_MS_init_203 : decode y_MS_init.2.1 203 = .ok (.invokespecial 81, 3) := dc9_183 (by decide +kernel)
theorem d_MS_init_206 : decode y_MS_init.2.1 206 = .ok (.putfield 84, 3) := dc9_181 (by decide +kernel)
theorem d_MS_init_209 : decode y_MS_init.2.1 209 = .ok (.aload_n 0, 1) := dc9_42 (by decide +kernel)
theorem d_MS_init_210 : decode y_MS_init.2.1 210 = .ok (.new 38, 3) := dc9_187 (by decide +kernel)
theorem d_MS_init_213 : decode y_MS_init.2.1 213 = .ok (.dup, 1) := dc9_89 (by decide +kernel)
theorem d_MS_init_214 : decode y_MS_init.2.1 214 = .ok (.bipush 56, 2) := dc9_16 (by decide +kernel)
theorem d_MS_init_216 : decode y_MS_init.2.1 216 = .ok (.invokespecial 81, 3) := dc9_183 (by decide +kernel)
theorem d_MS_init_219 : decode y_MS_init.2.1 219 = .ok (.putfield 88, 3) := dc9_181 (by decide +kernel)
theorem d_MS_init_222 : decode y_MS_init.2.1 222 = .ok (.aload_n 0, 1) := dc9_42 (by decide +kernel)
theorem d_MS_init_223 : decode y_MS_init.2.1 223 = .ok (.new 38, 3) := dc9_187 (by decide +kernel)
theorem d_MS_init_226 : decode y_MS_init.2.1 226 = .ok (.dup, 1) := dc9_89 (by decide +kernel)
theorem d_MS_init_227 : decode y_MS_init.2.1 227 = .ok (.sipush 900, 3) := dc9_17 (by decide +kernel)
theorem d_MS_init_230 : decode y_MS_init.2.1 230 = .ok (.invokespecial 81, 3) := dc9_183 (by decide +kernel)
theorem d_MS_init_233 : decode y_MS_init.2.1 233 = .ok (.putfield 91, 3) := dc9_181 (by decide +kernel)
theorem d_MS_init_236 : decode y_MS_init.2.1 236 = .ok (.aload_n 0, 1) := dc9_42 (by decide +kernel)
theorem d_MS_init_237 : decode y_MS_init.2.1 237 = .ok (.new 38, 3) := dc9_187 (by decide +kernel)
theorem d_MS_init_240 : decode y_MS_init.2.1 240 = .ok (.dup, 1) := dc9_89 (by decide +kernel)
theorem d_MS_init_241 : decode y_MS_init.2.1 241 = .ok (.sipush 900, 3) := dc9_17 (by decide +kernel)
theorem d_MS_init_244 : decode y_MS_init.2.1 244 = .ok (.invokespecial 81, 3) := dc9_183 (by decide +kernel)
theorem d_MS_init_247 : decode y_MS_init.2.1 247 = .ok (.putfield 94, 3) := dc9_181 (by decide +kernel)
theorem d_MS_init_250 : decode y_MS_init.2.1 250 = .ok (.aload_n 0, 1) := dc9_42 (by decide +kernel)
theorem d_MS_init_251 : decode y_MS_init.2.1 251 = .ok (.new 38, 3) := dc9_187 (by decide +kernel)
theorem d_MS_init_254 : decode y_MS_init.2.1 254 = .ok (.dup, 1) := dc9_89 (by decide +kernel)
theorem d_MS_init_255 : decode y_MS_init.2.1 255 = .ok (.sipush 900, 3) := dc9_17 (by decide +kernel)
theorem d_MS_init_258 : decode y_MS_init.2.1 258 = .ok (.invokespecial 81, 3) := dc9_183 (by decide +kernel)
theorem d_MS_init_261 : decode y_MS_init.2.1 261 = .ok (.putfield 97, 3) := dc9_181 (by decide +kernel)
theorem d_MS_init_264 : decode y_MS_init.2.1 264 = .ok (.aload_n 0, 1) := dc9_42 (by decide +kernel)
theorem d_MS_init_265 : decode y_MS_init.2.1 265 = .ok (.sipush 400, 3) := dc9_17 (by decide +kernel)
theorem d_MS_init_268 : decode y_MS_init.2.1 268 = .ok (.newarray .int, 2) := by decide +kernel
theorem d_MS_init_270 : decode y_MS_init.2.1 270 = .ok (.putfield 100, 3) := dc9_181 (by decide +kernel)
theorem d_MS_init_273 : decode y_MS_init.2.1 273 = .ok (.iconst 0, 1) := dc9_3 (by decide +kernel)
theorem d_MS_init_274 : decode y_MS_init.2.1 274 = .ok (.istore_n 1, 1) := dc9_60 (by decide +kernel)
theorem d_MS_init_275 : decode y_MS_init.2.1 275 = .ok (.iload_n 1, 1) := dc9_27 (by decide +kernel)
theorem d_MS_init_276 : decode y_MS_init.2.1 276 = .ok (.sipush 512, 3) := dc9_17 (by decide +kernel)
theorem d_MS_init_279 : decode y_MS_init.2.1 279 = .ok (.if_icmp .ge 71, 3) := dc9_162 (by decide +kernel)
theorem d_MS_init_350 : decode y_MS_init.2.1 350 = .ok (.iconst 0, 1) := dc9_3 (by decide +kernel)
theorem d_MS_init_351 : decode y_MS_init.2.1 351 = .ok (.istore_n 1, 1) := dc9_60 (by decide +kernel)
theorem d_MS_init_282 : decode y_MS_init.2.1 282 = .ok (.iconst 0, 1) := dc9_3 (by decide +kernel)
theorem d_MS_init_283 : decode y_MS_init.2.1 283 = .ok (.istore_n 2, 1) := dc9_61 (by decide +kernel)
theorem d_MS_init_284 : decode y_MS_init.2.1 284 = .ok (.iload_n 2, 1) := dc9_28 (by decide +kernel)
theorem d_MS_init_285 : decode y_MS_init.2.1 285 = .ok (.iconst 3, 1) := dc9_6 (by decide +kernel)
theorem d_MS_init_286 : decode y_MS_init.2.1 286 = .ok (.if_icmp .ge 28, 3) := dc9_162 (by decide +kernel)
theorem d_MS_init_314 : decode y_MS_init.2.1 314 = .ok (.aload_n 0, 1) := dc9_42 (by decide +kernel)
theorem d_MS_init_315 : decode y_MS_init.2.1 315 = .ok (.getfield 48, 3) := dc9_180 (by decide +kernel)
theorem d_MS_init_318 : decode y_MS_init.2.1 318 = .ok (.iload_n 1, 1) := dc9_27 (by decide +kernel)
theorem d_MS_init_289 : decode y_MS_init.2.1 289 = .ok (.aload_n 0, 1) := dc9_42 (by decide +kernel)
theorem d_MS_init_290 : decode y_MS_init.2.1 290 = .ok (.getfield 40, 3) := dc9_180 (by decide +kernel)
theorem d_MS_init_293 : decode y_MS_init.2.1 293 = .ok (.iconst 3, 1) := dc9_6 (by decide +kernel)
theorem d_MS_init_294 : decode y_MS_init.2.1 294 = .ok (.iload_n 1, 1) := dc9_27 (by decide +kernel)
theorem d_MS_init_295 : decode y_MS_init.2.1 295 = .ok (.imul, 1) := dc9_104 (by decide +kernel)
theorem d_MS_init_296 : decode y_MS_init.2.1 296 = .ok (.iload_n 2, 1) := dc9_28 (by decide +kernel)
theorem d_MS_init_297 : decode y_MS_init.2.1 297 = .ok (.iadd, 1) := dc9_96 (by decide +kernel)
theorem d_MS_init_319 : decode y_MS_init.2.1 319 = .ok (.new 38, 3) := dc9_187 (by decide +kernel)
theorem d_MS_init_322 : decode y_MS_init.2.1 322 = .ok (.dup, 1) := dc9_89 (by decide +kernel)
theorem d_MS_init_323 : decode y_MS_init.2.1 323 = .ok (.bipush 56, 2) := dc9_16 (by decide +kernel)
theorem d_MS_init_325 : decode y_MS_init.2.1 325 = .ok (.invokespecial 81, 3) := dc9_183 (by decide +kernel)
theorem d_MS_init_328 : decode y_MS_init.2.1 328 = .ok (.aastore, 1) := dc9_83 (by decide +kernel)
theorem d_MS_init_329 : decode y_MS_init.2.1 329 = .ok (.aload_n 0, 1) := dc9_42 (by decide +kernel)
theorem d_MS_init_330 : decode y_MS_init.2.1 330 = .ok (.getfield 69, 3) := dc9_180 (by decide +kernel)
theorem d_MS_init_333 : decode y_MS_init.2.1 333 = .ok (.iload_n 1, 1) := dc9_27 (by decide +kernel)
theorem d_MS_init_334 : decode y_MS_init.2.1 334 = .ok (.new 38, 3) := dc9_187 (by decide +kernel)
theorem d_MS_init_337 : decode y_MS_init.2.1 337 = .ok (.dup, 1) := dc9_89 (by decide +kernel)
theorem d_MS_init_338 : decode y_MS_init.2.1 338 = .ok (.bipush 56, 2) := dc9_16 (by decide +kernel)
theorem d_MS_init_340 : decode y_MS_init.2.1 340 = .ok (.invokespecial 81, 3) := dc9_183 (by decide +kernel)
theorem d_MS_init_343 : decode y_MS_init.2.1 343 = .ok (.aastore, 1) := dc9_83 (by decide +kernel)
theorem d_MS_init_344 : decode y_MS_init.2.1 344 = .ok (.iinc 1 1, 3) := by decide +kernel
theorem d_MS_init_347 : decode y_MS_init.2.1 347 = .ok (.goto (-72), 3) := dc9_167 (by decide +kernel)
theorem d_MS_init_298 : decode y_MS_init.2.1 298 = .ok (.new 38, 3) := dc9_187 (by decide +kernel)
theorem d_MS_init_301 : decode y_MS_init.2.1 301 = .ok (.dup, 1) := dc9_89 (by decide +kernel)
theorem d_MS_init_302 : decode y_MS_init.2.1 302 = .ok (.bipush 56, 2) := dc9_16 (by decide +kernel)
theorem d_MS_init_304 : decode y_MS_init.2.1 304 = .ok (.invokespecial 81, 3) := dc9_183 (by decide +kernel)
theorem d_MS_init_307 : decode y_MS_init.2.1 307 = .ok (.aastore, 1) := dc9_83 (by decide +kernel)
theorem d_MS_init_308 : decode y_MS_init.2.1 308 = .ok (.iinc 2 1, 3) := by decide +kernel
theorem d_MS_init_311 : decode y_MS_init.2.1 311 = .ok (.goto (-27), 3) := dc9_167 (by decide +kernel)
theorem d_MS_init_352 : decode y_MS_init.2.1 352 = .ok (.iload_n 1, 1) := dc9_27 (by decide +kernel)
theorem d_MS_init_353 : decode y_MS_init.2.1 353 = .ok (.sipush 1640, 3) := dc9_17 (by decide +kernel)
theorem d_MS_init_356 : decode y_MS_init.2.1 356 = .ok (.if_icmp .ge 24, 3) := dc9_162 (by decide +kernel)
theorem d_MS_init_380 : decode y_MS_init.2.1 380 = .ok (.return_, 1) := dc9_177 (by decide +kernel)
theorem d_MS_init_359 : decode y_MS_init.2.1 359 = .ok (.aload_n 0, 1) := dc9_42 (by decide +kernel)
theorem d_MS_init_360 : decode y_MS_init.2.1 360 = .ok (.getfield 78, 3) := dc9_180 (by decide +kernel)
theorem d_MS_init_363 : decode y_MS_init.2.1 363 = .ok (.iload_n 1, 1) := dc9_27 (by decide +kernel)
theorem d_MS_init_364 : decode y_MS_init.2.1 364 = .ok (.new 38, 3) := dc9_187 (by decide +kernel)
theorem d_MS_init_367 : decode y_MS_init.2.1 367 = .ok (.dup, 1) := dc9_89 (by decide +kernel)
theorem d_MS_init_368 : decode y_MS_init.2.1 368 = .ok (.bipush 56, 2) := dc9_16 (by decide +kernel)
theorem d_MS_init_370 : decode y_MS_init.2.1 370 = .ok (.invokespecial 81, 3) := dc9_183 (by decide +kernel)
theorem d_MS_init_373 : decode y_MS_init.2.1 373 = .ok (.aastore, 1) := dc9_83 (by decide +kernel)
theorem d_MS_init_374 : decode y_MS_init.2.1 374 = .ok (.iinc 1 1, 3) := by decide +kernel
theorem d_MS_init_377 : decode y_MS_init.2.1 377 = .ok (.goto (-25), 3) := dc9_167 (by decide +kernel)
def h_MS_init_275 (G : mG) (d : Nat) (a0 : Nat) (l1 : Int) (M : mM) (Q : mM → Prop) : Prop := mWm G y_MS_init (d + 1) 275 [vr a0, vi l1, vd] [] M (fun r9 M9 => r9 = none ∧ Q M9)
def h_MS_init_284 (G : mG) (d : Nat) (a0 : Nat) (l1 : Int) (l2 : Int) (M : mM) (Q : mM → Prop) : Prop := mWm G y_MS_init (d + 1) 284 [vr a0, vi l1, vi l2] [] M (fun r9 M9 => r9 = none ∧ Q M9)
def h_MS_init_352 (G : mG) (d : Nat) (a0 : Nat) (l1 : Int) (M : mM) (Q : mM → Prop) : Prop := mWm G y_MS_init (d + 1) 352 [vr a0, vi l1, vd] [] M (fun r9 M9 => r9 = none ∧ Q M9)
theorem k_MS_init {G : mG} {d : Nat} {a0 : Nat} {M : mM} {Q : mM → Prop} (hO : mOk M)
    (h : 0 < a0 ∧ ∀ M2, M2 = mNew M 18 0 7 → Cv G y_MU_init d [vr (mZ M)] M2 (fun M4 => mOk M4 ∧ (mK M4 a0 = 17 ∧ ∀ M8, M8 = mUR M4 a0 0 (mZ M) → ∀ M10, M10 = mNew M8 30 513 513 → mK M10 a0 = 17 ∧ ∀ M13, M13 = mUR M10 a0 4 (mZ M8) → ∀ M15, M15 = mNew M13 30 514 514 → mK M15 a0 = 17 ∧ ∀ M18, M18 = mUR M15 a0 5 (mZ M13) → ∀ M20, M20 = mNew M18 30 4200 4200 → mK M20 a0 = 17 ∧ ∀ M23, M23 = mUR M20 a0 6 (mZ M18) → ∀ M25, M25 = mNew M23 30 4201 4201 → mK M25 a0 = 17 ∧ ∀ M28, M28 = mUR M25 a0 7 (mZ M23) → ∀ M30, M30 = mNew M28 30 4096 4096 → mK M30 a0 = 17 ∧ ∀ M33, M33 = mUR M30 a0 8 (mZ M28) → ∀ M35, M35 = mNew M33 30 4096 4096 → mK M35 a0 = 17 ∧ ∀ M38, M38 = mUR M35 a0 9 (mZ M33) → ∀ M40, M40 = mNew M38 30 4096 4096 → mK M40 a0 = 17 ∧ ∀ M43, M43 = mUR M40 a0 10 (mZ M38) → ∀ M45, M45 = mNew M43 36 1536 1536 → mK M45 a0 = 17 ∧ ∀ M48, M48 = mUR M45 a0 11 (mZ M43) → ∀ M50, M50 = mNew M48 31 3 3 → mK M50 a0 = 17 ∧ ∀ M53, M53 = mUR M50 a0 12 (mZ M48) → ∀ M55, M55 = mNew M53 36 512 512 → mK M55 a0 = 17 ∧ ∀ M58, M58 = mUR M55 a0 13 (mZ M53) → ∀ M60, M60 = mNew M58 30 512 512 → mK M60 a0 = 17 ∧ ∀ M63, M63 = mUR M60 a0 14 (mZ M58) → ∀ M65, M65 = mNew M63 30 512 512 → mK M65 a0 = 17 ∧ ∀ M68, M68 = mUR M65 a0 15 (mZ M63) → ∀ M70, M70 = mNew M68 30 512 512 → mK M70 a0 = 17 ∧ ∀ M73, M73 = mUR M70 a0 16 (mZ M68) → ∀ M75, M75 = mNew M73 30 512 512 → mK M75 a0 = 17 ∧ ∀ M78, M78 = mUR M75 a0 18 (mZ M73) → ∀ M80, M80 = mNew M78 31 512 512 → mK M80 a0 = 17 ∧ ∀ M83, M83 = mUR M80 a0 19 (mZ M78) → ∀ M85, M85 = mNew M83 31 512 512 → mK M85 a0 = 17 ∧ ∀ M88, M88 = mUR M85 a0 20 (mZ M83) → ∀ M90, M90 = mNew M88 36 512 512 → mK M90 a0 = 17 ∧ ∀ M93, M93 = mUR M90 a0 21 (mZ M88) → ∀ M95, M95 = mNew M93 30 40 40 → mK M95 a0 = 17 ∧ ∀ M98, M98 = mUR M95 a0 22 (mZ M93) → ∀ M100, M100 = mNew M98 30 512 512 → mK M100 a0 = 17 ∧ ∀ M103, M103 = mUR M100 a0 23 (mZ M98) → ∀ M105, M105 = mNew M103 36 1640 1640 → mK M105 a0 = 17 ∧ ∀ M108, M108 = mUR M105 a0 25 (mZ M103) → ∀ M110, M110 = mNew M108 19 0 3 → Cv G y_MF_init d [vr (mZ M108), vi 8] M110 (fun M112 => mOk M112 ∧ (mK M112 a0 = 17 ∧ ∀ M116, M116 = mUR M112 a0 26 (mZ M108) → ∀ M118, M118 = mNew M116 19 0 3 → Cv G y_MF_init d [vr (mZ M116), vi 56] M118 (fun M120 => mOk M120 ∧ (mK M120 a0 = 17 ∧ ∀ M124, M124 = mUR M120 a0 27 (mZ M116) → ∀ M126, M126 = mNew M124 19 0 3 → Cv G y_MF_init d [vr (mZ M124), vi 900] M126 (fun M128 => mOk M128 ∧ (mK M128 a0 = 17 ∧ ∀ M132, M132 = mUR M128 a0 28 (mZ M124) → ∀ M134, M134 = mNew M132 19 0 3 → Cv G y_MF_init d [vr (mZ M132), vi 900] M134 (fun M136 => mOk M136 ∧ (mK M136 a0 = 17 ∧ ∀ M140, M140 = mUR M136 a0 29 (mZ M132) → ∀ M142, M142 = mNew M140 19 0 3 → Cv G y_MF_init d [vr (mZ M140), vi 900] M142 (fun M144 => mOk M144 ∧ (mK M144 a0 = 17 ∧ ∀ M148, M148 = mUR M144 a0 30 (mZ M140) → ∀ M150, M150 = mNew M148 30 400 400 → mK M150 a0 = 17 ∧ ∀ M153, M153 = mUR M150 a0 31 (mZ M148) → h_MS_init_275 G d a0 0 M153 Q))))))))))))) :
    Cv G y_MS_init (d + 1) [vr a0] M Q := by
  refine wm_open (y := y_MS_init) rfl (Nat.le_of_ble_eq_true rfl) (L := [vr a0, vd, vd]) rfl ?_
  obtain ⟨h1, h⟩ := h
  obtain ⟨M2, e3⟩ : ∃ M2, M2 = mNew M 18 0 7 := ⟨_, rfl⟩
  replace h := h M2 e3
  refine wm_aload_n d_MS_init_0 rfl rfl ?_
  refine wm_objInit trivial k9_150 kO_inst kO_code (Nat.le_of_ble_eq_true rfl) d_MS_init_1 h1 ?_
  refine wm_aload_n d_MS_init_4 rfl rfl ?_
  have hOM2 : mOk M2 := by rw [e3]; exact mOk_New hO
  refine nf_MS_7 rfl d_MS_init_5 e3 ?_
  refine wm_dup d_MS_init_8 rfl ?_
  refine cf_MS_9 rfl d_MS_init_9 (by rw [e3]; exact if_pos rfl) (Nat.le_of_ble_eq_true rfl) (Cv.mono h (fun M4 h => ?_))
  obtain ⟨hOM4, h⟩ := h
  obtain ⟨h7, h⟩ := h
  obtain ⟨M8, e9⟩ : ∃ M8, M8 = mUR M4 a0 0 (mZ M) := ⟨_, rfl⟩
  replace h := h M8 e9
  obtain ⟨M10, e11⟩ : ∃ M10, M10 = mNew M8 30 513 513 := ⟨_, rfl⟩
  replace h := h M10 e11
  obtain ⟨h12, h⟩ := h
  obtain ⟨M13, e14⟩ : ∃ M13, M13 = mUR M10 a0 4 (mZ M8) := ⟨_, rfl⟩
  replace h := h M13 e14
  obtain ⟨M15, e16⟩ : ∃ M15, M15 = mNew M13 30 514 514 := ⟨_, rfl⟩
  replace h := h M15 e16
  obtain ⟨h17, h⟩ := h
  obtain ⟨M18, e19⟩ : ∃ M18, M18 = mUR M15 a0 5 (mZ M13) := ⟨_, rfl⟩
  replace h := h M18 e19
  obtain ⟨M20, e21⟩ : ∃ M20, M20 = mNew M18 30 4200 4200 := ⟨_, rfl⟩
  replace h := h M20 e21
  obtain ⟨h22, h⟩ := h
  obtain ⟨M23, e24⟩ : ∃ M23, M23 = mUR M20 a0 6 (mZ M18) := ⟨_, rfl⟩
  replace h := h M23 e24
  obtain ⟨M25, e26⟩ : ∃ M25, M25 = mNew M23 30 4201 4201 := ⟨_, rfl⟩
  replace h := h M25 e26
  obtain ⟨h27, h⟩ := h
  obtain ⟨M28, e29⟩ : ∃ M28, M28 = mUR M25 a0 7 (mZ M23) := ⟨_, rfl⟩
  replace h := h M28 e29
  obtain ⟨M30, e31⟩ : ∃ M30, M30 = mNew M28 30 4096 4096 := ⟨_, rfl⟩
  replace h := h M30 e31
  obtain ⟨h32, h⟩ := h
  obtain ⟨M33, e34⟩ : ∃ M33, M33 = mUR M30 a0 8 (mZ M28) := ⟨_, rfl⟩
  replace h := h M33 e34
  obtain ⟨M35, e36⟩ : ∃ M35, M35 = mNew M33 30 4096 4096 := ⟨_, rfl⟩
  replace h := h M35 e36
  obtain ⟨h37, h⟩ := h
  obtain ⟨M38, e39⟩ : ∃ M38, M38 = mUR M35 a0 9 (mZ M33) := ⟨_, rfl⟩
  replace h := h M38 e39
  obtain ⟨M40, e41⟩ : ∃ M40, M40 = mNew M38 30 4096 4096 := ⟨_, rfl⟩
  replace h := h M40 e41
  obtain ⟨h42, h⟩ := h
  obtain ⟨M43, e44⟩ : ∃ M43, M43 = mUR M40 a0 10 (mZ M38) := ⟨_, rfl⟩
  replace h := h M43 e44
  obtain ⟨M45, e46⟩ : ∃ M45, M45 = mNew M43 36 1536 1536 := ⟨_, rfl⟩
  replace h := h M45 e46
  obtain ⟨h47, h⟩ := h
  obtain ⟨M48, e49⟩ : ∃ M48, M48 = mUR M45 a0 11 (mZ M43) := ⟨_, rfl⟩
  replace h := h M48 e49
  obtain ⟨M50, e51⟩ : ∃ M50, M50 = mNew M48 31 3 3 := ⟨_, rfl⟩
  replace h := h M50 e51
  obtain ⟨h52, h⟩ := h
  obtain ⟨M53, e54⟩ : ∃ M53, M53 = mUR M50 a0 12 (mZ M48) := ⟨_, rfl⟩
  replace h := h M53 e54
  obtain ⟨M55, e56⟩ : ∃ M55, M55 = mNew M53 36 512 512 := ⟨_, rfl⟩
  replace h := h M55 e56
  obtain ⟨h57, h⟩ := h
  obtain ⟨M58, e59⟩ : ∃ M58, M58 = mUR M55 a0 13 (mZ M53) := ⟨_, rfl⟩
  replace h := h M58 e59
  obtain ⟨M60, e61⟩ : ∃ M60, M60 = mNew M58 30 512 512 := ⟨_, rfl⟩
  replace h := h M60 e61
  obtain ⟨h62, h⟩ := h
  obtain ⟨M63, e64⟩ : ∃ M63, M63 = mUR M60 a0 14 (mZ M58) := ⟨_, rfl⟩
  replace h := h M63 e64
  obtain ⟨M65, e66⟩ : ∃ M65, M65 = mNew M63 30 512 512 := ⟨_, rfl⟩
  replace h := h M65 e66
  obtain ⟨h67, h⟩ := h
  obtain ⟨M68, e69⟩ : ∃ M68, M68 = mUR M65 a0 15 (mZ M63) := ⟨_, rfl⟩
  replace h := h M68 e69
  obtain ⟨M70, e71⟩ : ∃ M70, M70 = mNew M68 30 512 512 := ⟨_, rfl⟩
  replace h := h M70 e71
  obtain ⟨h72, h⟩ := h
  obtain ⟨M73, e74⟩ : ∃ M73, M73 = mUR M70 a0 16 (mZ M68) := ⟨_, rfl⟩
  replace h := h M73 e74
  obtain ⟨M75, e76⟩ : ∃ M75, M75 = mNew M73 30 512 512 := ⟨_, rfl⟩
  replace h := h M75 e76
  obtain ⟨h77, h⟩ := h
  obtain ⟨M78, e79⟩ : ∃ M78, M78 = mUR M75 a0 18 (mZ M73) := ⟨_, rfl⟩
  replace h := h M78 e79
  obtain ⟨M80, e81⟩ : ∃ M80, M80 = mNew M78 31 512 512 := ⟨_, rfl⟩
  replace h := h M80 e81
  obtain ⟨h82, h⟩ := h
  obtain ⟨M83, e84⟩ : ∃ M83, M83 = mUR M80 a0 19 (mZ M78) := ⟨_, rfl⟩
  replace h := h M83 e84
  obtain ⟨M85, e86⟩ : ∃ M85, M85 = mNew M83 31 512 512 := ⟨_, rfl⟩
  replace h := h M85 e86
  obtain ⟨h87, h⟩ := h
  obtain ⟨M88, e89⟩ : ∃ M88, M88 = mUR M85 a0 20 (mZ M83) := ⟨_, rfl⟩
  replace h := h M88 e89
  obtain ⟨M90, e91⟩ : ∃ M90, M90 = mNew M88 36 512 512 := ⟨_, rfl⟩
  replace h := h M90 e91
  obtain ⟨h92, h⟩ := h
  obtain ⟨M93, e94⟩ : ∃ M93, M93 = mUR M90 a0 21 (mZ M88) := ⟨_, rfl⟩
  replace h := h M93 e94
  obtain ⟨M95, e96⟩ : ∃ M95, M95 = mNew M93 30 40 40 := ⟨_, rfl⟩
  replace h := h M95 e96
  obtain ⟨h97, h⟩ := h
  obtain ⟨M98, e99⟩ : ∃ M98, M98 = mUR M95 a0 22 (mZ M93) := ⟨_, rfl⟩
  replace h := h M98 e99
  obtain ⟨M100, e101⟩ : ∃ M100, M100 = mNew M98 30 512 512 := ⟨_, rfl⟩
  replace h := h M100 e101
  obtain ⟨h102, h⟩ := h
  obtain ⟨M103, e104⟩ : ∃ M103, M103 = mUR M100 a0 23 (mZ M98) := ⟨_, rfl⟩
  replace h := h M103 e104
  obtain ⟨M105, e106⟩ : ∃ M105, M105 = mNew M103 36 1640 1640 := ⟨_, rfl⟩
  replace h := h M105 e106
  obtain ⟨h107, h⟩ := h
  obtain ⟨M108, e109⟩ : ∃ M108, M108 = mUR M105 a0 25 (mZ M103) := ⟨_, rfl⟩
  replace h := h M108 e109
  obtain ⟨M110, e111⟩ : ∃ M110, M110 = mNew M108 19 0 3 := ⟨_, rfl⟩
  replace h := h M110 e111
  have hOM8 : mOk M8 := by rw [e9]; exact mOk_UR hOM4
  refine pf_MS_10 rfl rfl d_MS_init_12 h7 e9 ?_
  refine wm_aload_n d_MS_init_15 rfl rfl ?_
  refine wm_sipush d_MS_init_16 (by decide) ?_
  have hOM10 : mOk M10 := by rw [e11]; exact mOk_New hOM8
  refine wm_newarrE 0 (atype := .int) (ty := .int) rfl rfl (fun _ => rfl) rfl rfl (by decide) k1_82 ⟨by decide, by decide⟩ d_MS_init_19 e11 ?_
  have hOM13 : mOk M13 := by rw [e14]; exact mOk_UR hOM10
  refine pf_MS_16 rfl rfl d_MS_init_21 h12 e14 ?_
  refine wm_aload_n d_MS_init_24 rfl rfl ?_
  refine wm_sipush d_MS_init_25 (by decide) ?_
  have hOM15 : mOk M15 := by rw [e16]; exact mOk_New hOM13
  refine wm_newarrE 0 (atype := .int) (ty := .int) rfl rfl (fun _ => rfl) rfl rfl (by decide) k1_82 ⟨by decide, by decide⟩ d_MS_init_28 e16 ?_
  have hOM18 : mOk M18 := by rw [e19]; exact mOk_UR hOM15
  refine pf_MS_20 rfl rfl d_MS_init_30 h17 e19 ?_
  refine wm_aload_n d_MS_init_33 rfl rfl ?_
  refine wm_sipush d_MS_init_34 (by decide) ?_
  have hOM20 : mOk M20 := by rw [e21]; exact mOk_New hOM18
  refine wm_newarrE 0 (atype := .int) (ty := .int) rfl rfl (fun _ => rfl) rfl rfl (by decide) k1_82 ⟨by decide, by decide⟩ d_MS_init_37 e21 ?_
  have hOM23 : mOk M23 := by rw [e24]; exact mOk_UR hOM20
  refine pf_MS_23 rfl rfl d_MS_init_39 h22 e24 ?_
  refine wm_aload_n d_MS_init_42 rfl rfl ?_
  refine wm_sipush d_MS_init_43 (by decide) ?_
  have hOM25 : mOk M25 := by rw [e26]; exact mOk_New hOM23
  refine wm_newarrE 0 (atype := .int) (ty := .int) rfl rfl (fun _ => rfl) rfl rfl (by decide) k1_82 ⟨by decide, by decide⟩ d_MS_init_46 e26 ?_
  have hOM28 : mOk M28 := by rw [e29]; exact mOk_UR hOM25
  refine pf_MS_26 rfl rfl d_MS_init_48 h27 e29 ?_
  refine wm_aload_n d_MS_init_51 rfl rfl ?_
  refine wm_sipush d_MS_init_52 (by decide) ?_
  have hOM30 : mOk M30 := by rw [e31]; exact mOk_New hOM28
  refine wm_newarrE 0 (atype := .int) (ty := .int) rfl rfl (fun _ => rfl) rfl rfl (by decide) k1_82 ⟨by decide, by decide⟩ d_MS_init_55 e31 ?_
  have hOM33 : mOk M33 := by rw [e34]; exact mOk_UR hOM30
  refine pf_MS_29 rfl rfl d_MS_init_57 h32 e34 ?_
  refine wm_aload_n d_MS_init_60 rfl rfl ?_
  refine wm_sipush d_MS_init_61 (by decide) ?_
  have hOM35 : mOk M35 := by rw [e36]; exact mOk_New hOM33
  refine wm_newarrE 0 (atype := .int) (ty := .int) rfl rfl (fun _ => rfl) rfl rfl (by decide) k1_82 ⟨by decide, by decide⟩ d_MS_init_64 e36 ?_
  have hOM38 : mOk M38 := by rw [e39]; exact mOk_UR hOM35
  refine pf_MS_32 rfl rfl d_MS_init_66 h37 e39 ?_
  refine wm_aload_n d_MS_init_69 rfl rfl ?_
  refine wm_sipush d_MS_init_70 (by decide) ?_
  have hOM40 : mOk M40 := by rw [e41]; exact mOk_New hOM38
  refine wm_newarrE 0 (atype := .int) (ty := .int) rfl rfl (fun _ => rfl) rfl rfl (by decide) k1_82 ⟨by decide, by decide⟩ d_MS_init_73 e41 ?_
  have hOM43 : mOk M43 := by rw [e44]; exact mOk_UR hOM40
  refine pf_MS_35 rfl rfl d_MS_init_75 h42 e44 ?_
  refine wm_aload_n d_MS_init_78 rfl rfl ?_
  refine wm_sipush d_MS_init_79 (by decide) ?_
  have hOM45 : mOk M45 := by rw [e46]; exact mOk_New hOM43
  refine wm_anewE 6 rfl (fun _ => rfl) k9_221 k9_222 ⟨by decide, by decide⟩ d_MS_init_82 e46 ?_
  have hOM48 : mOk M48 := by rw [e49]; exact mOk_UR hOM45
  refine pf_MS_40 rfl rfl d_MS_init_85 h47 e49 ?_
  refine wm_aload_n d_MS_init_88 rfl rfl ?_
  refine wm_iconst d_MS_init_89 ?_
  have hOM50 : mOk M50 := by rw [e51]; exact mOk_New hOM48
  refine wm_newarrE 1 (atype := .boolean) (ty := .boolean) rfl rfl (fun _ => rfl) rfl rfl (by decide) k1_162 ⟨by decide, by decide⟩ d_MS_init_90 e51 ?_
  have hOM53 : mOk M53 := by rw [e54]; exact mOk_UR hOM50
  refine pf_MS_44 rfl rfl d_MS_init_92 h52 e54 ?_
  refine wm_aload_n d_MS_init_95 rfl rfl ?_
  refine wm_sipush d_MS_init_96 (by decide) ?_
  have hOM55 : mOk M55 := by rw [e56]; exact mOk_New hOM53
  refine wm_anewE 6 rfl (fun _ => rfl) k9_221 k9_222 ⟨by decide, by decide⟩ d_MS_init_99 e56 ?_
  have hOM58 : mOk M58 := by rw [e59]; exact mOk_UR hOM55
  refine pf_MS_48 rfl rfl d_MS_init_102 h57 e59 ?_
  refine wm_aload_n d_MS_init_105 rfl rfl ?_
  refine wm_sipush d_MS_init_106 (by decide) ?_
  have hOM60 : mOk M60 := by rw [e61]; exact mOk_New hOM58
  refine wm_newarrE 0 (atype := .int) (ty := .int) rfl rfl (fun _ => rfl) rfl rfl (by decide) k1_82 ⟨by decide, by decide⟩ d_MS_init_109 e61 ?_
  have hOM63 : mOk M63 := by rw [e64]; exact mOk_UR hOM60
  refine pf_MS_51 rfl rfl d_MS_init_111 h62 e64 ?_
  refine wm_aload_n d_MS_init_114 rfl rfl ?_
  refine wm_sipush d_MS_init_115 (by decide) ?_
  have hOM65 : mOk M65 := by rw [e66]; exact mOk_New hOM63
  refine wm_newarrE 0 (atype := .int) (ty := .int) rfl rfl (fun _ => rfl) rfl rfl (by decide) k1_82 ⟨by decide, by decide⟩ d_MS_init_118 e66 ?_
  have hOM68 : mOk M68 := by rw [e69]; exact mOk_UR hOM65
  refine pf_MS_54 rfl rfl d_MS_init_120 h67 e69 ?_
  refine wm_aload_n d_MS_init_123 rfl rfl ?_
  refine wm_sipush d_MS_init_124 (by decide) ?_
  have hOM70 : mOk M70 := by rw [e71]; exact mOk_New hOM68
  refine wm_newarrE 0 (atype := .int) (ty := .int) rfl rfl (fun _ => rfl) rfl rfl (by decide) k1_82 ⟨by decide, by decide⟩ d_MS_init_127 e71 ?_
  have hOM73 : mOk M73 := by rw [e74]; exact mOk_UR hOM70
  refine pf_MS_57 rfl rfl d_MS_init_129 h72 e74 ?_
  refine wm_aload_n d_MS_init_132 rfl rfl ?_
  refine wm_sipush d_MS_init_133 (by decide) ?_
  have hOM75 : mOk M75 := by rw [e76]; exact mOk_New hOM73
  refine wm_newarrE 0 (atype := .int) (ty := .int) rfl rfl (fun _ => rfl) rfl rfl (by decide) k1_82 ⟨by decide, by decide⟩ d_MS_init_136 e76 ?_
  have hOM78 : mOk M78 := by rw [e79]; exact mOk_UR hOM75
  refine pf_MS_60 rfl rfl d_MS_init_138 h77 e79 ?_
  refine wm_aload_n d_MS_init_141 rfl rfl ?_
  refine wm_sipush d_MS_init_142 (by decide) ?_
  have hOM80 : mOk M80 := by rw [e81]; exact mOk_New hOM78
  refine wm_newarrE 1 (atype := .boolean) (ty := .boolean) rfl rfl (fun _ => rfl) rfl rfl (by decide) k1_162 ⟨by decide, by decide⟩ d_MS_init_145 e81 ?_
  have hOM83 : mOk M83 := by rw [e84]; exact mOk_UR hOM80
  refine pf_MS_63 rfl rfl d_MS_init_147 h82 e84 ?_
  refine wm_aload_n d_MS_init_150 rfl rfl ?_
  refine wm_sipush d_MS_init_151 (by decide) ?_
  have hOM85 : mOk M85 := by rw [e86]; exact mOk_New hOM83
  refine wm_newarrE 1 (atype := .boolean) (ty := .boolean) rfl rfl (fun _ => rfl) rfl rfl (by decide) k1_162 ⟨by decide, by decide⟩ d_MS_init_154 e86 ?_
  have hOM88 : mOk M88 := by rw [e89]; exact mOk_UR hOM85
  refine pf_MS_66 rfl rfl d_MS_init_156 h87 e89 ?_
  refine wm_aload_n d_MS_init_159 rfl rfl ?_
  refine wm_sipush d_MS_init_160 (by decide) ?_
  have hOM90 : mOk M90 := by rw [e91]; exact mOk_New hOM88
  refine wm_anewE 6 rfl (fun _ => rfl) k9_221 k9_222 ⟨by decide, by decide⟩ d_MS_init_163 e91 ?_
  have hOM93 : mOk M93 := by rw [e94]; exact mOk_UR hOM90
  refine pf_MS_69 rfl rfl d_MS_init_166 h92 e94 ?_
  refine wm_aload_n d_MS_init_169 rfl rfl ?_
  refine wm_bipush d_MS_init_170 (by decide) ?_
  have hOM95 : mOk M95 := by rw [e96]; exact mOk_New hOM93
  refine wm_newarrE 0 (atype := .int) (ty := .int) rfl rfl (fun _ => rfl) rfl rfl (by decide) k1_82 ⟨by decide, by decide⟩ d_MS_init_172 e96 ?_
  have hOM98 : mOk M98 := by rw [e99]; exact mOk_UR hOM95
  refine pf_MS_72 rfl rfl d_MS_init_174 h97 e99 ?_
  refine wm_aload_n d_MS_init_177 rfl rfl ?_
  refine wm_sipush d_MS_init_178 (by decide) ?_
  have hOM100 : mOk M100 := by rw [e101]; exact mOk_New hOM98
  refine wm_newarrE 0 (atype := .int) (ty := .int) rfl rfl (fun _ => rfl) rfl rfl (by decide) k1_82 ⟨by decide, by decide⟩ d_MS_init_181 e101 ?_
  have hOM103 : mOk M103 := by rw [e104]; exact mOk_UR hOM100
  refine pf_MS_75 rfl rfl d_MS_init_183 h102 e104 ?_
  refine wm_aload_n d_MS_init_186 rfl rfl ?_
  refine wm_sipush d_MS_init_187 (by decide) ?_
  have hOM105 : mOk M105 := by rw [e106]; exact mOk_New hOM103
  refine wm_anewE 6 rfl (fun _ => rfl) k9_221 k9_222 ⟨by decide, by decide⟩ d_MS_init_190 e106 ?_
  have hOM108 : mOk M108 := by rw [e109]; exact mOk_UR hOM105
  refine pf_MS_78 rfl rfl d_MS_init_193 h107 e109 ?_
  refine wm_aload_n d_MS_init_196 rfl rfl ?_
  have hOM110 : mOk M110 := by rw [e111]; exact mOk_New hOM108
  refine nf_MS_38 rfl d_MS_init_197 e111 ?_
  refine wm_dup d_MS_init_200 rfl ?_
  refine wm_bipush d_MS_init_201 (by decide) ?_
  refine cf_MS_81 rfl d_MS_init_203 (by rw [e111]; exact if_pos rfl) (Nat.le_of_ble_eq_true rfl) (Cv.mono h (fun M112 h => ?_))
  obtain ⟨hOM112, h⟩ := h
  obtain ⟨h115, h⟩ := h
  obtain ⟨M116, e117⟩ : ∃ M116, M116 = mUR M112 a0 26 (mZ M108) := ⟨_, rfl⟩
  replace h := h M116 e117
  obtain ⟨M118, e119⟩ : ∃ M118, M118 = mNew M116 19 0 3 := ⟨_, rfl⟩
  replace h := h M118 e119
  have hOM116 : mOk M116 := by rw [e117]; exact mOk_UR hOM112
  refine pf_MS_84 rfl rfl d_MS_init_206 h115 e117 ?_
  refine wm_aload_n d_MS_init_209 rfl rfl ?_
  have hOM118 : mOk M118 := by rw [e119]; exact mOk_New hOM116
  refine nf_MS_38 rfl d_MS_init_210 e119 ?_
  refine wm_dup d_MS_init_213 rfl ?_
  refine wm_bipush d_MS_init_214 (by decide) ?_
  refine cf_MS_81 rfl d_MS_init_216 (by rw [e119]; exact if_pos rfl) (Nat.le_of_ble_eq_true rfl) (Cv.mono h (fun M120 h => ?_))
  obtain ⟨hOM120, h⟩ := h
  obtain ⟨h123, h⟩ := h
  obtain ⟨M124, e125⟩ : ∃ M124, M124 = mUR M120 a0 27 (mZ M116) := ⟨_, rfl⟩
  replace h := h M124 e125
  obtain ⟨M126, e127⟩ : ∃ M126, M126 = mNew M124 19 0 3 := ⟨_, rfl⟩
  replace h := h M126 e127
  have hOM124 : mOk M124 := by rw [e125]; exact mOk_UR hOM120
  refine pf_MS_88 rfl rfl d_MS_init_219 h123 e125 ?_
  refine wm_aload_n d_MS_init_222 rfl rfl ?_
  have hOM126 : mOk M126 := by rw [e127]; exact mOk_New hOM124
  refine nf_MS_38 rfl d_MS_init_223 e127 ?_
  refine wm_dup d_MS_init_226 rfl ?_
  refine wm_sipush d_MS_init_227 (by decide) ?_
  refine cf_MS_81 rfl d_MS_init_230 (by rw [e127]; exact if_pos rfl) (Nat.le_of_ble_eq_true rfl) (Cv.mono h (fun M128 h => ?_))
  obtain ⟨hOM128, h⟩ := h
  obtain ⟨h131, h⟩ := h
  obtain ⟨M132, e133⟩ : ∃ M132, M132 = mUR M128 a0 28 (mZ M124) := ⟨_, rfl⟩
  replace h := h M132 e133
  obtain ⟨M134, e135⟩ : ∃ M134, M134 = mNew M132 19 0 3 := ⟨_, rfl⟩
  replace h := h M134 e135
  have hOM132 : mOk M132 := by rw [e133]; exact mOk_UR hOM128
  refine pf_MS_91 rfl rfl d_MS_init_233 h131 e133 ?_
  refine wm_aload_n d_MS_init_236 rfl rfl ?_
  have hOM134 : mOk M134 := by rw [e135]; exact mOk_New hOM132
  refine nf_MS_38 rfl d_MS_init_237 e135 ?_
  refine wm_dup d_MS_init_240 rfl ?_
  refine wm_sipush d_MS_init_241 (by decide) ?_
  refine cf_MS_81 rfl d_MS_init_244 (by rw [e135]; exact if_pos rfl) (Nat.le_of_ble_eq_true rfl) (Cv.mono h (fun M136 h => ?_))
  obtain ⟨hOM136, h⟩ := h
  obtain ⟨h139, h⟩ := h
  obtain ⟨M140, e141⟩ : ∃ M140, M140 = mUR M136 a0 29 (mZ M132) := ⟨_, rfl⟩
  replace h := h M140 e141
  obtain ⟨M142, e143⟩ : ∃ M142, M142 = mNew M140 19 0 3 := ⟨_, rfl⟩
  replace h := h M142 e143
  have hOM140 : mOk M140 := by rw [e141]; exact mOk_UR hOM136
  refine pf_MS_94 rfl rfl d_MS_init_247 h139 e141 ?_
  refine wm_aload_n d_MS_init_250 rfl rfl ?_
  have hOM142 : mOk M142 := by rw [e143]; exact mOk_New hOM140
  refine nf_MS_38 rfl d_MS_init_251 e143 ?_
  refine wm_dup d_MS_init_254 rfl ?_
  refine wm_sipush d_MS_init_255 (by decide) ?_
  refine cf_MS_81 rfl d_MS_init_258 (by rw [e143]; exact if_pos rfl) (Nat.le_of_ble_eq_true rfl) (Cv.mono h (fun M144 h => ?_))
  obtain ⟨hOM144, h⟩ := h
  obtain ⟨h147, h⟩ := h
  obtain ⟨M148, e149⟩ : ∃ M148, M148 = mUR M144 a0 30 (mZ M140) := ⟨_, rfl⟩
  replace h := h M148 e149
  obtain ⟨M150, e151⟩ : ∃ M150, M150 = mNew M148 30 400 400 := ⟨_, rfl⟩
  replace h := h M150 e151
  obtain ⟨h152, h⟩ := h
  obtain ⟨M153, e154⟩ : ∃ M153, M153 = mUR M150 a0 31 (mZ M148) := ⟨_, rfl⟩
  replace h := h M153 e154
  have hOM148 : mOk M148 := by rw [e149]; exact mOk_UR hOM144
  refine pf_MS_97 rfl rfl d_MS_init_261 h147 e149 ?_
  refine wm_aload_n d_MS_init_264 rfl rfl ?_
  refine wm_sipush d_MS_init_265 (by decide) ?_
  have hOM150 : mOk M150 := by rw [e151]; exact mOk_New hOM148
  refine wm_newarrE 0 (atype := .int) (ty := .int) rfl rfl (fun _ => rfl) rfl rfl (by decide) k1_82 ⟨by decide, by decide⟩ d_MS_init_268 e151 ?_
  have hOM153 : mOk M153 := by rw [e154]; exact mOk_UR hOM150
  refine pf_MS_100 rfl rfl d_MS_init_270 h152 e154 ?_
  refine wm_iconst d_MS_init_273 ?_
  refine wm_istore_n d_MS_init_274 rfl (by decide) (L' := [vr a0, vi 0, vd]) rfl ?_
  exact h
theorem k_MS_init_275 {G : mG} {d : Nat} {a0 : Nat} {l1 : Int} {M : mM} {Q : mM → Prop} (hO : mOk M) (hi_l1 : i32 l1)
    (h : ((512 ≤ l1) → (h_MS_init_352 G d a0 0 M Q)) ∧ (¬ (512 ≤ l1) → (h_MS_init_284 G d a0 l1 0 M Q))) :
    h_MS_init_275 G d a0 l1 M Q := by
  unfold h_MS_init_275
  refine wm_iload_n d_MS_init_275 rfl rfl ?_
  refine wm_sipush d_MS_init_276 (by decide) ?_
  refine wm_icmp_ge (tgt := 350) d_MS_init_279 rfl hi_l1 ⟨by decide, by decide⟩ (fun c156 => ?_) (fun c156 => ?_)
  · replace h := h.1 c156
    refine wm_iconst d_MS_init_350 ?_
    refine wm_istore_n d_MS_init_351 rfl (by decide) (L' := [vr a0, vi 0, vd]) rfl ?_
    exact h
  · replace h := h.2 c156
    refine wm_iconst d_MS_init_282 ?_
    refine wm_istore_n d_MS_init_283 rfl (by decide) (L' := [vr a0, vi l1, vi 0]) rfl ?_
    exact h
theorem k_MS_init_284 {G : mG} {d : Nat} {a0 : Nat} {l1 : Int} {l2 : Int} {M : mM} {Q : mM → Prop} (hO : mOk M) (hi_l1 : i32 l1) (hi_l2 : i32 l2)
    (h : ((3 ≤ l2) → (mK M a0 = 17 ∧ ∀ M160, M160 = mNew M 19 0 3 → Cv G y_MF_init d [vr (mZ M), vi 56] M160 (fun M162 => mOk M162 ∧ (mK M162 (mR M a0 13) = 36 ∧ ((0 : Int) ≤ l1 ∧ l1 < (mN M162 (mR M a0 13) : Int)) ∧ mK M162 (mZ M) = 19 ∧ ∀ M168, M168 = mUR M162 (mR M a0 13) (Int.toNat l1) (mZ M) → mK M168 a0 = 17 ∧ ∀ M171, M171 = mNew M168 19 0 3 → Cv G y_MF_init d [vr (mZ M168), vi 56] M171 (fun M173 => mOk M173 ∧ (mK M173 (mR M168 a0 21) = 36 ∧ ((0 : Int) ≤ l1 ∧ l1 < (mN M173 (mR M168 a0 21) : Int)) ∧ mK M173 (mZ M168) = 19 ∧ ∀ M179, M179 = mUR M173 (mR M168 a0 21) (Int.toNat l1) (mZ M168) → h_MS_init_275 G d a0 (l1 + 1) M179 Q)))))) ∧ (¬ (3 ≤ l2) → (mK M a0 = 17 ∧ ∀ M182, M182 = mNew M 19 0 3 → Cv G y_MF_init d [vr (mZ M), vi 56] M182 (fun M184 => mOk M184 ∧ (mK M184 (mR M a0 11) = 36 ∧ ((0 : Int) ≤ (3 * l1) + l2 ∧ (3 * l1) + l2 < (mN M184 (mR M a0 11) : Int)) ∧ mK M184 (mZ M) = 19 ∧ ∀ M190, M190 = mUR M184 (mR M a0 11) (Int.toNat ((3 * l1) + l2)) (mZ M) → h_MS_init_284 G d a0 l1 (l2 + 1) M190 Q))))) :
    h_MS_init_284 G d a0 l1 l2 M Q := by
  unfold h_MS_init_284
  refine wm_iload_n d_MS_init_284 rfl rfl ?_
  refine wm_iconst d_MS_init_285 ?_
  refine wm_icmp_ge (tgt := 314) d_MS_init_286 rfl hi_l2 ⟨by decide, by decide⟩ (fun c158 => ?_) (fun c158 => ?_)
  · replace h := h.1 c158
    obtain ⟨h159, h⟩ := h
    obtain ⟨M160, e161⟩ : ∃ M160, M160 = mNew M 19 0 3 := ⟨_, rfl⟩
    replace h := h M160 e161
    refine wm_aload_n d_MS_init_314 rfl rfl ?_
    refine gf_MS_48 rfl d_MS_init_315 h159 ?_
    refine wm_iload_n d_MS_init_318 rfl rfl ?_
    have hOM160 : mOk M160 := by rw [e161]; exact mOk_New hO
    refine nf_MS_38 rfl d_MS_init_319 e161 ?_
    refine wm_dup d_MS_init_322 rfl ?_
    refine wm_bipush d_MS_init_323 (by decide) ?_
    refine cf_MS_81 rfl d_MS_init_325 (by rw [e161]; exact if_pos rfl) (Nat.le_of_ble_eq_true rfl) (Cv.mono h (fun M162 h => ?_))
    obtain ⟨hOM162, h⟩ := h
    obtain ⟨h165, h⟩ := h
    obtain ⟨h166, h⟩ := h
    obtain ⟨h167, h⟩ := h
    obtain ⟨M168, e169⟩ : ∃ M168, M168 = mUR M162 (mR M a0 13) (Int.toNat l1) (mZ M) := ⟨_, rfl⟩
    replace h := h M168 e169
    obtain ⟨h170, h⟩ := h
    obtain ⟨M171, e172⟩ : ∃ M171, M171 = mNew M168 19 0 3 := ⟨_, rfl⟩
    replace h := h M171 e172
    have hOM168 : mOk M168 := by rw [e169]; exact mOk_UR hOM162
    refine wm_aastE (t := 6) (c := 18) rfl (fun _ => rfl) rfl rfl d_MS_init_328 h165 h166 h167 e169 ?_
    refine wm_aload_n d_MS_init_329 rfl rfl ?_
    refine gf_MS_69 rfl d_MS_init_330 h170 ?_
    refine wm_iload_n d_MS_init_333 rfl rfl ?_
    have hOM171 : mOk M171 := by rw [e172]; exact mOk_New hOM168
    refine nf_MS_38 rfl d_MS_init_334 e172 ?_
    refine wm_dup d_MS_init_337 rfl ?_
    refine wm_bipush d_MS_init_338 (by decide) ?_
    refine cf_MS_81 rfl d_MS_init_340 (by rw [e172]; exact if_pos rfl) (Nat.le_of_ble_eq_true rfl) (Cv.mono h (fun M173 h => ?_))
    obtain ⟨hOM173, h⟩ := h
    obtain ⟨h176, h⟩ := h
    obtain ⟨h177, h⟩ := h
    obtain ⟨h178, h⟩ := h
    obtain ⟨M179, e180⟩ : ∃ M179, M179 = mUR M173 (mR M168 a0 21) (Int.toNat l1) (mZ M168) := ⟨_, rfl⟩
    replace h := h M179 e180
    have hOM179 : mOk M179 := by rw [e180]; exact mOk_UR hOM173
    refine wm_aastE (t := 6) (c := 18) rfl (fun _ => rfl) rfl rfl d_MS_init_343 h176 h177 h178 e180 ?_
    refine wm_iinc d_MS_init_344 (by decide) rfl (L' := [vr a0, vi (l1 + 1), vi l2]) rfl ?_
    refine wm_goto (tgt := 275) d_MS_init_347 rfl ?_
    refine wm_less (L' := [vr a0, vi (l1 + 1), vd]) ⟨Or.inr rfl, Or.inr rfl, Or.inl rfl, trivial⟩ ?_
    exact h
  · replace h := h.2 c158
    obtain ⟨h181, h⟩ := h
    obtain ⟨M182, e183⟩ : ∃ M182, M182 = mNew M 19 0 3 := ⟨_, rfl⟩
    replace h := h M182 e183
    refine wm_aload_n d_MS_init_289 rfl rfl ?_
    refine gf_MS_40 rfl d_MS_init_290 h181 ?_
    refine wm_iconst d_MS_init_293 ?_
    refine wm_iload_n d_MS_init_294 rfl rfl ?_
    refine wm_imul d_MS_init_295 ?_
    refine wm_iload_n d_MS_init_296 rfl rfl ?_
    refine wm_iadd d_MS_init_297 ?_
    have hOM182 : mOk M182 := by rw [e183]; exact mOk_New hO
    refine nf_MS_38 rfl d_MS_init_298 e183 ?_
    refine wm_dup d_MS_init_301 rfl ?_
    refine wm_bipush d_MS_init_302 (by decide) ?_
    refine cf_MS_81 rfl d_MS_init_304 (by rw [e183]; exact if_pos rfl) (Nat.le_of_ble_eq_true rfl) (Cv.mono h (fun M184 h => ?_))
    obtain ⟨hOM184, h⟩ := h
    obtain ⟨h187, h⟩ := h
    obtain ⟨h188, h⟩ := h
    obtain ⟨h189, h⟩ := h
    obtain ⟨M190, e191⟩ : ∃ M190, M190 = mUR M184 (mR M a0 11) (Int.toNat ((3 * l1) + l2)) (mZ M) := ⟨_, rfl⟩
    replace h := h M190 e191
    have hOM190 : mOk M190 := by rw [e191]; exact mOk_UR hOM184
    refine wm_aastE (t := 6) (c := 18) rfl (fun _ => rfl) rfl rfl d_MS_init_307 h187 h188 h189 e191 ?_
    refine wm_iinc d_MS_init_308 (by decide) rfl (L' := [vr a0, vi l1, vi (l2 + 1)]) rfl ?_
    refine wm_goto (tgt := 284) d_MS_init_311 rfl ?_
    exact h
theorem k_MS_init_352 {G : mG} {d : Nat} {a0 : Nat} {l1 : Int} {M : mM} {Q : mM → Prop} (hO : mOk M) (hi_l1 : i32 l1)
    (h : ((1640 ≤ l1) → (Q M)) ∧ (¬ (1640 ≤ l1) → (mK M a0 = 17 ∧ ∀ M195, M195 = mNew M 19 0 3 → Cv G y_MF_init d [vr (mZ M), vi 56] M195 (fun M197 => mOk M197 ∧ (mK M197 (mR M a0 25) = 36 ∧ ((0 : Int) ≤ l1 ∧ l1 < (mN M197 (mR M a0 25) : Int)) ∧ mK M197 (mZ M) = 19 ∧ ∀ M203, M203 = mUR M197 (mR M a0 25) (Int.toNat l1) (mZ M) → h_MS_init_352 G d a0 (l1 + 1) M203 Q))))) :
    h_MS_init_352 G d a0 l1 M Q := by
  unfold h_MS_init_352
  refine wm_iload_n d_MS_init_352 rfl rfl ?_
  refine wm_sipush d_MS_init_353 (by decide) ?_
  refine wm_icmp_ge (tgt := 380) d_MS_init_356 rfl hi_l1 ⟨by decide, by decide⟩ (fun c193 => ?_) (fun c193 => ?_)
  · replace h := h.1 c193
    refine wm_return d_MS_init_380 rfl ?_
    exact ⟨rfl, h⟩
  · replace h := h.2 c193
    obtain ⟨h194, h⟩ := h
    obtain ⟨M195, e196⟩ : ∃ M195, M195 = mNew M 19 0 3 := ⟨_, rfl⟩
    replace h := h M195 e196
    refine wm_aload_n d_MS_init_359 rfl rfl ?_
    refine gf_MS_78 rfl d_MS_init_360 h194 ?_
    refine wm_iload_n d_MS_init_363 rfl rfl ?_
    have hOM195 : mOk M195 := by rw [e196]; exact mOk_New hO
    refine nf_MS_38 rfl d_MS_init_364 e196 ?_
    refine wm_dup d_MS_init_367 rfl ?_
    refine wm_bipush d_MS_init_368 (by decide) ?_
    refine cf_MS_81 rfl d_MS_init_370 (by rw [e196]; exact if_pos rfl) (Nat.le_of_ble_eq_true rfl) (Cv.mono h (fun M197 h => ?_))
    obtain ⟨hOM197, h⟩ := h
    obtain ⟨h200, h⟩ := h
    obtain ⟨h201, h⟩ := h
    obtain ⟨h202, h⟩ := h
    obtain ⟨M203, e204⟩ : ∃ M203, M203 = mUR M197 (mR M a0 25) (Int.toNat l1) (mZ M) := ⟨_, rfl⟩
    replace h := h M203 e204
    have hOM203 : mOk M203 := by rw [e204]; exact mOk_UR hOM197
    refine wm_aastE (t := 6) (c := 18) rfl (fun _ => rfl) rfl rfl d_MS_init_373 h200 h201 h202 e204 ?_
    refine wm_iinc d_MS_init_374 (by decide) rfl (L' := [vr a0, vi (l1 + 1), vd]) rfl ?_
    refine wm_goto (tgt := 352) d_MS_init_377 rfl ?_
    exact h
theorem d_MS_clear_0 : decode y_MS_clear.2.1 0 = .ok (.aload_n 0, 1) := dc9_42 (by decide +kernel)
theorem d_MS_clear_1 : decode y_MS_clear.2.1 1 = .ok (.iconst 0, 1) := dc9_3 (by decide +kernel)
theorem d_MS_clear_2 : decode y_MS_clear.2.1 2 = .ok (.putfield 103, 3) := dc9_181 (by decide +kernel)
theorem d_MS_clear_5 : decode y_MS_clear.2.1 5 = .ok (.aload_n 0, 1) := dc9_42 (by decide +kernel)
theorem d_MS_clear_6 : decode y_MS_clear.2.1 6 = .ok (.iconst 0, 1) := dc9_3 (by decide +kernel)
theorem d_MS_clear_7 : decode y_MS_clear.2.1 7 = .ok (.putfield 107, 3) := dc9_181 (by decide +kernel)
theorem d_MS_clear_10 : decode y_MS_clear.2.1 10 = .ok (.aload_n 0, 1) := dc9_42 (by decide +kernel)
theorem d_MS_clear_11 : decode y_MS_clear.2.1 11 = .ok (.iconst 0, 1) := dc9_3 (by decide +kernel)
theorem d_MS_clear_12 : decode y_MS_clear.2.1 12 = .ok (.putfield 110, 3) := dc9_181 (by decide +kernel)
theorem d_MS_clear_15 : decode y_MS_clear.2.1 15 = .ok (.aload_n 0, 1) := dc9_42 (by decide +kernel)
theorem d_MS_clear_16 : decode y_MS_clear.2.1 16 = .ok (.getfield 20, 3) := dc9_180 (by decide +kernel)
theorem d_MS_clear_19 : decode y_MS_clear.2.1 19 = .ok (.iconst 0, 1) := dc9_3 (by decide +kernel)
theorem d_MS_clear_20 : decode y_MS_clear.2.1 20 = .ok (.iconst 0, 1) := dc9_3 (by decide +kernel)
theorem d_MS_clear_21 : decode y_MS_clear.2.1 21 = .ok (.iastore, 1) := dc9_79 (by decide +kernel)
theorem d_MS_clear_22 : decode y_MS_clear.2.1 22 = .ok (.aload_n 0, 1) := dc9_42 (by decide +kernel)
theorem d_MS_clear_23 : decode y_MS_clear.2.1 23 = .ok (.getfield 26, 3) := dc9_180 (by decide +kernel)
theorem d_MS_clear_26 : decode y_MS_clear.2.1 26 = .ok (.iconst 0, 1) := dc9_3 (by decide +kernel)
theorem d_MS_clear_27 : decode y_MS_clear.2.1 27 = .ok (.iconst 0, 1) := dc9_3 (by decide +kernel)
theorem d_MS_clear_28 : decode y_MS_clear.2.1 28 = .ok (.iastore, 1) := dc9_79 (by decide +kernel)
theorem d_MS_clear_29 : decode y_MS_clear.2.1 29 = .ok (.iconst 0, 1) := dc9_3 (by decide +kernel)
theorem d_MS_clear_30 : decode y_MS_clear.2.1 30 = .ok (.istore_n 1, 1) := dc9_60 (by decide +kernel)
theorem d_MS_clear_31 : decode y_MS_clear.2.1 31 = .ok (.iload_n 1, 1) := dc9_27 (by decide +kernel)
theorem d_MS_clear_32 : decode y_MS_clear.2.1 32 = .ok (.iconst 3, 1) := dc9_6 (by decide +kernel)
theorem d_MS_clear_33 : decode y_MS_clear.2.1 33 = .ok (.if_icmp .ge 16, 3) := dc9_162 (by decide +kernel)
theorem d_MS_clear_49 : decode y_MS_clear.2.1 49 = .ok (.return_, 1) := dc9_177 (by decide +kernel)
theorem d_MS_clear_36 : decode y_MS_clear.2.1 36 = .ok (.aload_n 0, 1) := dc9_42 (by decide +kernel)
theorem d_MS_clear_37 : decode y_MS_clear.2.1 37 = .ok (.getfield 44, 3) := dc9_180 (by decide +kernel)
theorem d_MS_clear_40 : decode y_MS_clear.2.1 40 = .ok (.iload_n 1, 1) := dc9_27 (by decide +kernel)
theorem d_MS_clear_41 : decode y_MS_clear.2.1 41 = .ok (.iconst 0, 1) := dc9_3 (by decide +kernel)
theorem d_MS_clear_42 : decode y_MS_clear.2.1 42 = .ok (.bastore, 1) := dc9_84 (by decide +kernel)
theorem d_MS_clear_43 : decode y_MS_clear.2.1 43 = .ok (.iinc 1 1, 3) := by decide +kernel
theorem d_MS_clear_46 : decode y_MS_clear.2.1 46 = .ok (.goto (-15), 3) := dc9_167 (by decide +kernel)
def h_MS_clear_31 (G : mG) (d : Nat) (a0 : Nat) (l1 : Int) (M : mM) (Q : mM → Prop) : Prop := mWm G y_MS_clear d 31 [vr a0, vi l1] [] M (fun r9 M9 => r9 = none ∧ Q M9)
theorem k_MS_clear {G : mG} {d : Nat} {a0 : Nat} {M : mM} {Q : mM → Prop} (hO : mOk M)
    (h : mK M a0 = 17 ∧ ∀ M2, M2 = mUI M a0 1 0 → ∀ M4, M4 = mUI M2 a0 2 0 → ∀ M6, M6 = mUI M4 a0 3 0 → mK M6 (mR M6 a0 5) = 30 ∧ ((0 : Int) ≤ 0 ∧ 0 < (mN M6 (mR M6 a0 5) : Int)) ∧ ∀ M10, M10 = mUI M6 (mR M6 a0 5) 0 0 → mK M10 (mR M10 a0 7) = 30 ∧ ((0 : Int) ≤ 0 ∧ 0 < (mN M10 (mR M10 a0 7) : Int)) ∧ ∀ M14, M14 = mUI M10 (mR M10 a0 7) 0 0 → h_MS_clear_31 G d a0 0 M14 Q) :
    Cv G y_MS_clear d [vr a0] M Q := by
  refine wm_open (y := y_MS_clear) rfl (Nat.le_of_ble_eq_true rfl) (L := [vr a0, vd]) rfl ?_
  obtain ⟨h1, h⟩ := h
  obtain ⟨M2, e3⟩ : ∃ M2, M2 = mUI M a0 1 0 := ⟨_, rfl⟩
  replace h := h M2 e3
  obtain ⟨M4, e5⟩ : ∃ M4, M4 = mUI M2 a0 2 0 := ⟨_, rfl⟩
  replace h := h M4 e5
  obtain ⟨M6, e7⟩ : ∃ M6, M6 = mUI M4 a0 3 0 := ⟨_, rfl⟩
  replace h := h M6 e7
  obtain ⟨h8, h⟩ := h
  obtain ⟨h9, h⟩ := h
  obtain ⟨M10, e11⟩ : ∃ M10, M10 = mUI M6 (mR M6 a0 5) 0 0 := ⟨_, rfl⟩
  replace h := h M10 e11
  obtain ⟨h12, h⟩ := h
  obtain ⟨h13, h⟩ := h
  obtain ⟨M14, e15⟩ : ∃ M14, M14 = mUI M10 (mR M10 a0 7) 0 0 := ⟨_, rfl⟩
  replace h := h M14 e15
  refine wm_aload_n d_MS_clear_0 rfl rfl ?_
  refine wm_iconst d_MS_clear_1 ?_
  have hOM2 : mOk M2 := by rw [e3]; exact mOk_UI hO ⟨by decide, by decide⟩
  refine pf_MS_103 rfl d_MS_clear_2 h1 ⟨by decide, by decide⟩ e3 ?_
  refine wm_aload_n d_MS_clear_5 rfl rfl ?_
  refine wm_iconst d_MS_clear_6 ?_
  have hOM4 : mOk M4 := by rw [e5]; exact mOk_UI hOM2 ⟨by decide, by decide⟩
  refine pf_MS_107 rfl d_MS_clear_7 (by rw [e3]; exact h1) ⟨by decide, by decide⟩ e5 ?_
  refine wm_aload_n d_MS_clear_10 rfl rfl ?_
  refine wm_iconst d_MS_clear_11 ?_
  have hOM6 : mOk M6 := by rw [e7]; exact mOk_UI hOM4 ⟨by decide, by decide⟩
  refine pf_MS_110 rfl d_MS_clear_12 (by rw [e5, e3]; exact h1) ⟨by decide, by decide⟩ e7 ?_
  refine wm_aload_n d_MS_clear_15 rfl rfl ?_
  refine gf_MS_20 rfl d_MS_clear_16 (by rw [e7, e5, e3]; exact h1) ?_
  refine wm_iconst d_MS_clear_19 ?_
  refine wm_iconst d_MS_clear_20 ?_
  have hOM10 : mOk M10 := by rw [e11]; exact mOk_UI hOM6 ⟨by decide, by decide⟩
  refine wm_iastE d_MS_clear_21 h8 h9 ⟨by decide, by decide⟩ e11 ?_
  refine wm_aload_n d_MS_clear_22 rfl rfl ?_
  refine gf_MS_26 rfl d_MS_clear_23 (by rw [e11, e7, e5, e3]; exact h1) ?_
  refine wm_iconst d_MS_clear_26 ?_
  refine wm_iconst d_MS_clear_27 ?_
  have hOM14 : mOk M14 := by rw [e15]; exact mOk_UI hOM10 ⟨by decide, by decide⟩
  refine wm_iastE d_MS_clear_28 h12 h13 ⟨by decide, by decide⟩ e15 ?_
  refine wm_iconst d_MS_clear_29 ?_
  refine wm_istore_n d_MS_clear_30 rfl (by decide) (L' := [vr a0, vi 0]) rfl ?_
  exact h
theorem k_MS_clear_31 {G : mG} {d : Nat} {a0 : Nat} {l1 : Int} {M : mM} {Q : mM → Prop} (hO : mOk M) (hi_l1 : i32 l1)
    (h : ((3 ≤ l1) → (Q M)) ∧ (¬ (3 ≤ l1) → (mK M a0 = 17 ∧ mK M (mR M a0 12) = 31 ∧ ((0 : Int) ≤ l1 ∧ l1 < (mN M (mR M a0 12) : Int)) ∧ ∀ M24, M24 = mUI M (mR M a0 12) (Int.toNat l1) 0 → h_MS_clear_31 G d a0 (l1 + 1) M24 Q))) :
    h_MS_clear_31 G d a0 l1 M Q := by
  unfold h_MS_clear_31
  refine wm_iload_n d_MS_clear_31 rfl rfl ?_
  refine wm_iconst d_MS_clear_32 ?_
  refine wm_icmp_ge (tgt := 49) d_MS_clear_33 rfl hi_l1 ⟨by decide, by decide⟩ (fun c20 => ?_) (fun c20 => ?_)
  · replace h := h.1 c20
    refine wm_return d_MS_clear_49 rfl ?_
    exact ⟨rfl, h⟩
  · replace h := h.2 c20
    obtain ⟨h21, h⟩ := h
    obtain ⟨h22, h⟩ := h
    obtain ⟨h23, h⟩ := h
    obtain ⟨M24, e25⟩ : ∃ M24, M24 = mUI M (mR M a0 12) (Int.toNat l1) 0 := ⟨_, rfl⟩
    replace h := h M24 e25
    refine wm_aload_n d_MS_clear_36 rfl rfl ?_
    refine gf_MS_44 rfl d_MS_clear_37 h21 ?_
    refine wm_iload_n d_MS_clear_40 rfl rfl ?_
    refine wm_iconst d_MS_clear_41 ?_
    have hOM24 : mOk M24 := by rw [e25]; exact mOk_UI hO (m_b32 (by decide))
    refine wm_zastE d_MS_clear_42 h22 h23 (by decide) e25 ?_
    refine wm_iinc d_MS_clear_43 (by decide) rfl (L' := [vr a0, vi (l1 + 1)]) rfl ?_
    refine wm_goto (tgt := 31) d_MS_clear_46 rfl ?_
    exact h
theorem d_MS_addState_0 : decode y_MS_addState.2.1 0 = .ok (.aload_n 0, 1) := dc9_42 (by decide +kernel)
theorem d_MS_addState_1 : decode y_MS_addState.2.1 1 = .ok (.getfield 16, 3) := dc9_180 (by decide +kernel)
theorem d_MS_addState_4 : decode y_MS_addState.2.1 4 = .ok (.aload_n 0, 1) := dc9_42 (by decide +kernel)
theorem d_MS_addState_5 : decode y_MS_addState.2.1 5 = .ok (.getfield 103, 3) := dc9_180 (by decide +kernel)
theorem d_MS_addState_8 : decode y_MS_addState.2.1 8 = .ok (.iload_n 1, 1) := dc9_27 (by decide +kernel)
theorem d_MS_addState_9 : decode y_MS_addState.2.1 9 = .ok (.iastore, 1) := dc9_79 (by decide +kernel)
theorem d_MS_addState_10 : decode y_MS_addState.2.1 10 = .ok (.aload_n 0, 1) := dc9_42 (by decide +kernel)
theorem d_MS_addState_11 : decode y_MS_addState.2.1 11 = .ok (.getfield 51, 3) := dc9_180 (by decide +kernel)
theorem d_MS_addState_14 : decode y_MS_addState.2.1 14 = .ok (.aload_n 0, 1) := dc9_42 (by decide +kernel)
theorem d_MS_addState_15 : decode y_MS_addState.2.1 15 = .ok (.getfield 103, 3) := dc9_180 (by decide +kernel)
theorem d_MS_addState_18 : decode y_MS_addState.2.1 18 = .ok (.iconst 0, 1) := dc9_3 (by decide +kernel)
theorem d_MS_addState_19 : decode y_MS_addState.2.1 19 = .ok (.iastore, 1) := dc9_79 (by decide +kernel)
theorem d_MS_addState_20 : decode y_MS_addState.2.1 20 = .ok (.aload_n 0, 1) := dc9_42 (by decide +kernel)
theorem d_MS_addState_21 : decode y_MS_addState.2.1 21 = .ok (.dup, 1) := dc9_89 (by decide +kernel)
theorem d_MS_addState_22 : decode y_MS_addState.2.1 22 = .ok (.getfield 103, 3) := dc9_180 (by decide +kernel)
theorem d_MS_addState_25 : decode y_MS_addState.2.1 25 = .ok (.iconst 1, 1) := dc9_4 (by decide +kernel)
theorem d_MS_addState_26 : decode y_MS_addState.2.1 26 = .ok (.iadd, 1) := dc9_96 (by decide +kernel)
theorem d_MS_addState_27 : decode y_MS_addState.2.1 27 = .ok (.putfield 103, 3) := dc9_181 (by decide +kernel)
theorem d_MS_addState_30 : decode y_MS_addState.2.1 30 = .ok (.aload_n 0, 1) := dc9_42 (by decide +kernel)
theorem d_MS_addState_31 : decode y_MS_addState.2.1 31 = .ok (.getfield 20, 3) := dc9_180 (by decide +kernel)
theorem d_MS_addState_34 : decode y_MS_addState.2.1 34 = .ok (.aload_n 0, 1) := dc9_42 (by decide +kernel)
theorem d_MS_addState_35 : decode y_MS_addState.2.1 35 = .ok (.getfield 103, 3) := dc9_180 (by decide +kernel)
theorem d_MS_addState_38 : decode y_MS_addState.2.1 38 = .ok (.aload_n 0, 1) := dc9_42 (by decide +kernel)
theorem d_MS_addState_39 : decode y_MS_addState.2.1 39 = .ok (.getfield 107, 3) := dc9_180 (by decide +kernel)
theorem d_MS_addState_42 : decode y_MS_addState.2.1 42 = .ok (.iastore, 1) := dc9_79 (by decide +kernel)
theorem d_MS_addState_43 : decode y_MS_addState.2.1 43 = .ok (.return_, 1) := dc9_177 (by decide +kernel)
theorem k_MS_addState {G : mG} {d : Nat} {a0 : Nat} {l1 : Int} {M : mM} {Q : mM → Prop} (hO : mOk M) (hi_l1 : i32 l1)
    (h : mK M a0 = 17 ∧ mK M (mR M a0 4) = 30 ∧ ((0 : Int) ≤ mI M a0 1 ∧ mI M a0 1 < (mN M (mR M a0 4) : Int)) ∧ ∀ M4, M4 = mUI M (mR M a0 4) (Int.toNat (mI M a0 1)) l1 → mK M4 (mR M4 a0 14) = 30 ∧ ((0 : Int) ≤ mI M4 a0 1 ∧ mI M4 a0 1 < (mN M4 (mR M4 a0 14) : Int)) ∧ ∀ M8, M8 = mUI M4 (mR M4 a0 14) (Int.toNat (mI M4 a0 1)) 0 → i32 ((mI M8 a0 1) + 1) ∧ ∀ M11, M11 = mUI M8 a0 1 ((mI M8 a0 1) + 1) → mK M11 (mR M11 a0 5) = 30 ∧ ((0 : Int) ≤ mI M11 a0 1 ∧ mI M11 a0 1 < (mN M11 (mR M11 a0 5) : Int)) ∧ ∀ M15, M15 = mUI M11 (mR M11 a0 5) (Int.toNat (mI M11 a0 1)) (mI M11 a0 2) → Q M15) :
    Cv G y_MS_addState d [vr a0, vi l1] M Q := by
  refine wm_open (y := y_MS_addState) rfl (Nat.le_of_ble_eq_true rfl) (L := [vr a0, vi l1]) rfl ?_
  obtain ⟨h1, h⟩ := h
  obtain ⟨h2, h⟩ := h
  obtain ⟨h3, h⟩ := h
  obtain ⟨M4, e5⟩ : ∃ M4, M4 = mUI M (mR M a0 4) (Int.toNat (mI M a0 1)) l1 := ⟨_, rfl⟩
  replace h := h M4 e5
  obtain ⟨h6, h⟩ := h
  obtain ⟨h7, h⟩ := h
  obtain ⟨M8, e9⟩ : ∃ M8, M8 = mUI M4 (mR M4 a0 14) (Int.toNat (mI M4 a0 1)) 0 := ⟨_, rfl⟩
  replace h := h M8 e9
  obtain ⟨h10, h⟩ := h
  obtain ⟨M11, e12⟩ : ∃ M11, M11 = mUI M8 a0 1 ((mI M8 a0 1) + 1) := ⟨_, rfl⟩
  replace h := h M11 e12
  obtain ⟨h13, h⟩ := h
  obtain ⟨h14, h⟩ := h
  obtain ⟨M15, e16⟩ : ∃ M15, M15 = mUI M11 (mR M11 a0 5) (Int.toNat (mI M11 a0 1)) (mI M11 a0 2) := ⟨_, rfl⟩
  replace h := h M15 e16
  refine wm_aload_n d_MS_addState_0 rfl rfl ?_
  refine gf_MS_16 rfl d_MS_addState_1 h1 ?_
  refine wm_aload_n d_MS_addState_4 rfl rfl ?_
  refine gf_MS_103 rfl d_MS_addState_5 h1 ?_
  refine wm_iload_n d_MS_addState_8 rfl rfl ?_
  have hOM4 : mOk M4 := by rw [e5]; exact mOk_UI hO hi_l1
  refine wm_iastE d_MS_addState_9 h2 h3 hi_l1 e5 ?_
  refine wm_aload_n d_MS_addState_10 rfl rfl ?_
  refine gf_MS_51 rfl d_MS_addState_11 (by rw [e5]; exact h1) ?_
  refine wm_aload_n d_MS_addState_14 rfl rfl ?_
  refine gf_MS_103 rfl d_MS_addState_15 (by rw [e5]; exact h1) ?_
  refine wm_iconst d_MS_addState_18 ?_
  have hOM8 : mOk M8 := by rw [e9]; exact mOk_UI hOM4 ⟨by decide, by decide⟩
  refine wm_iastE d_MS_addState_19 h6 h7 ⟨by decide, by decide⟩ e9 ?_
  refine wm_aload_n d_MS_addState_20 rfl rfl ?_
  refine wm_dup d_MS_addState_21 rfl ?_
  refine gf_MS_103 rfl d_MS_addState_22 (by rw [e9, e5]; exact h1) ?_
  refine wm_iconst d_MS_addState_25 ?_
  refine wm_iadd d_MS_addState_26 ?_
  have hOM11 : mOk M11 := by rw [e12]; exact mOk_UI hOM8 h10
  refine pf_MS_103 rfl d_MS_addState_27 (by rw [e9, e5]; exact h1) h10 e12 ?_
  refine wm_aload_n d_MS_addState_30 rfl rfl ?_
  refine gf_MS_20 rfl d_MS_addState_31 (by rw [e12, e9, e5]; exact h1) ?_
  refine wm_aload_n d_MS_addState_34 rfl rfl ?_
  refine gf_MS_103 rfl d_MS_addState_35 (by rw [e12, e9, e5]; exact h1) ?_
  refine wm_aload_n d_MS_addState_38 rfl rfl ?_
  refine gf_MS_107 rfl d_MS_addState_39 (by rw [e12, e9, e5]; exact h1) ?_
  have hOM15 : mOk M15 := by rw [e16]; exact mOk_UI hOM11 (hOM11 _ _).1
  refine wm_iastE d_MS_addState_42 h13 h14 (hOM11 _ _).1 e16 ?_
  refine wm_return d_MS_addState_43 rfl ?_
  exact ⟨rfl, h⟩
theorem d_MS_addCommand_0 : decode y_MS_addCommand.2.1 0 = .ok (.aload_n 0, 1) := dc9_42 (by decide +kernel)
theorem d_MS_addCommand_1 : decode y_MS_addCommand.2.1 1 = .ok (.getfield 23, 3) := dc9_180 (by decide +kernel)
theorem d_MS_addCommand_4 : decode y_MS_addCommand.2.1 4 = .ok (.aload_n 0, 1) := dc9_42 (by decide +kernel)
theorem d_MS_addCommand_5 : decode y_MS_addCommand.2.1 5 = .ok (.getfield 107, 3) := dc9_180 (by decide +kernel)
theorem d_MS_addCommand_8 : decode y_MS_addCommand.2.1 8 = .ok (.iload_n 1, 1) := dc9_27 (by decide +kernel)
theorem d_MS_addCommand_9 : decode y_MS_addCommand.2.1 9 = .ok (.iastore, 1) := dc9_79 (by decide +kernel)
theorem d_MS_addCommand_10 : decode y_MS_addCommand.2.1 10 = .ok (.aload_n 0, 1) := dc9_42 (by decide +kernel)
theorem d_MS_addCommand_11 : decode y_MS_addCommand.2.1 11 = .ok (.dup, 1) := dc9_89 (by decide +kernel)
theorem d_MS_addCommand_12 : decode y_MS_addCommand.2.1 12 = .ok (.getfield 107, 3) := dc9_180 (by decide +kernel)
theorem d_MS_addCommand_15 : decode y_MS_addCommand.2.1 15 = .ok (.iconst 1, 1) := dc9_4 (by decide +kernel)
theorem d_MS_addCommand_16 : decode y_MS_addCommand.2.1 16 = .ok (.iadd, 1) := dc9_96 (by decide +kernel)
theorem d_MS_addCommand_17 : decode y_MS_addCommand.2.1 17 = .ok (.putfield 107, 3) := dc9_181 (by decide +kernel)
theorem d_MS_addCommand_20 : decode y_MS_addCommand.2.1 20 = .ok (.aload_n 0, 1) := dc9_42 (by decide +kernel)
theorem d_MS_addCommand_21 : decode y_MS_addCommand.2.1 21 = .ok (.getfield 26, 3) := dc9_180 (by decide +kernel)
theorem d_MS_addCommand_24 : decode y_MS_addCommand.2.1 24 = .ok (.aload_n 0, 1) := dc9_42 (by decide +kernel)
theorem d_MS_addCommand_25 : decode y_MS_addCommand.2.1 25 = .ok (.getfield 107, 3) := dc9_180 (by decide +kernel)
theorem d_MS_addCommand_28 : decode y_MS_addCommand.2.1 28 = .ok (.aload_n 0, 1) := dc9_42 (by decide +kernel)
theorem d_MS_addCommand_29 : decode y_MS_addCommand.2.1 29 = .ok (.getfield 110, 3) := dc9_180 (by decide +kernel)
theorem d_MS_addCommand_32 : decode y_MS_addCommand.2.1 32 = .ok (.iastore, 1) := dc9_79 (by decide +kernel)
theorem d_MS_addCommand_33 : decode y_MS_addCommand.2.1 33 = .ok (.aload_n 0, 1) := dc9_42 (by decide +kernel)
theorem d_MS_addCommand_34 : decode y_MS_addCommand.2.1 34 = .ok (.getfield 20, 3) := dc9_180 (by decide +kernel)
theorem d_MS_addCommand_37 : decode y_MS_addCommand.2.1 37 = .ok (.aload_n 0, 1) := dc9_42 (by decide +kernel)
theorem d_MS_addCommand_38 : decode y_MS_addCommand.2.1 38 = .ok (.getfield 103, 3) := dc9_180 (by decide +kernel)
theorem d_MS_addCommand_41 : decode y_MS_addCommand.2.1 41 = .ok (.aload_n 0, 1) := dc9_42 (by decide +kernel)
theorem d_MS_addCommand_42 : decode y_MS_addCommand.2.1 42 = .ok (.getfield 107, 3) := dc9_180 (by decide +kernel)
theorem d_MS_addCommand_45 : decode y_MS_addCommand.2.1 45 = .ok (.iastore, 1) := dc9_79 (by decide +kernel)
theorem d_MS_addCommand_46 : decode y_MS_addCommand.2.1 46 = .ok (.return_, 1) := dc9_177 (by decide +kernel)
theorem k_MS_addCommand {G : mG} {d : Nat} {a0 : Nat} {l1 : Int} {M : mM} {Q : mM → Prop} (hO : mOk M) (hi_l1 : i32 l1)
    (h : mK M a0 = 17 ∧ mK M (mR M a0 6) = 30 ∧ ((0 : Int) ≤ mI M a0 2 ∧ mI M a0 2 < (mN M (mR M a0 6) : Int)) ∧ ∀ M4, M4 = mUI M (mR M a0 6) (Int.toNat (mI M a0 2)) l1 → i32 ((mI M4 a0 2) + 1) ∧ ∀ M7, M7 = mUI M4 a0 2 ((mI M4 a0 2) + 1) → mK M7 (mR M7 a0 7) = 30 ∧ ((0 : Int) ≤ mI M7 a0 2 ∧ mI M7 a0 2 < (mN M7 (mR M7 a0 7) : Int)) ∧ ∀ M11, M11 = mUI M7 (mR M7 a0 7) (Int.toNat (mI M7 a0 2)) (mI M7 a0 3) → mK M11 (mR M11 a0 5) = 30 ∧ ((0 : Int) ≤ mI M11 a0 1 ∧ mI M11 a0 1 < (mN M11 (mR M11 a0 5) : Int)) ∧ ∀ M15, M15 = mUI M11 (mR M11 a0 5) (Int.toNat (mI M11 a0 1)) (mI M11 a0 2) → Q M15) :
    Cv G y_MS_addCommand d [vr a0, vi l1] M Q := by
  refine wm_open (y := y_MS_addCommand) rfl (Nat.le_of_ble_eq_true rfl) (L := [vr a0, vi l1]) rfl ?_
  obtain ⟨h1, h⟩ := h
  obtain ⟨h2, h⟩ := h
  obtain ⟨h3, h⟩ := h
  obtain ⟨M4, e5⟩ : ∃ M4, M4 = mUI M (mR M a0 6) (Int.toNat (mI M a0 2)) l1 := ⟨_, rfl⟩
  replace h := h M4 e5
  obtain ⟨h6, h⟩ := h
  obtain ⟨M7, e8⟩ : ∃ M7, M7 = mUI M4 a0 2 ((mI M4 a0 2) + 1) := ⟨_, rfl⟩
  replace h := h M7 e8
  obtain ⟨h9, h⟩ := h
  obtain ⟨h10, h⟩ := h
  obtain ⟨M11, e12⟩ : ∃ M11, M11 = mUI M7 (mR M7 a0 7) (Int.toNat (mI M7 a0 2)) (mI M7 a0 3) := ⟨_, rfl⟩
  replace h := h M11 e12
  obtain ⟨h13, h⟩ := h
  obtain ⟨h14, h⟩ := h
  obtain ⟨M15, e16⟩ : ∃ M15, M15 = mUI M11 (mR M11 a0 5) (Int.toNat (mI M11 a0 1)) (mI M11 a0 2) := ⟨_, rfl⟩
  replace h := h M15 e16
  refine wm_aload_n d_MS_addCommand_0 rfl rfl ?_
  refine gf_MS_23 rfl d_MS_addCommand_1 h1 ?_
  refine wm_aload_n d_MS_addCommand_4 rfl rfl ?_
  refine gf_MS_107 rfl d_MS_addCommand_5 h1 ?_
  refine wm_iload_n d_MS_addCommand_8 rfl rfl ?_
  have hOM4 : mOk M4 := by rw [e5]; exact mOk_UI hO hi_l1
  refine wm_iastE d_MS_addCommand_9 h2 h3 hi_l1 e5 ?_
  refine wm_aload_n d_MS_addCommand_10 rfl rfl ?_
  refine wm_dup d_MS_addCommand_11 rfl ?_
  refine gf_MS_107 rfl d_MS_addCommand_12 (by rw [e5]; exact h1) ?_
  refine wm_iconst d_MS_addCommand_15 ?_
  refine wm_iadd d_MS_addCommand_16 ?_
  have hOM7 : mOk M7 := by rw [e8]; exact mOk_UI hOM4 h6
  refine pf_MS_107 rfl d_MS_addCommand_17 (by rw [e5]; exact h1) h6 e8 ?_
  refine wm_aload_n d_MS_addCommand_20 rfl rfl ?_
  refine gf_MS_26 rfl d_MS_addCommand_21 (by rw [e8, e5]; exact h1) ?_
  refine wm_aload_n d_MS_addCommand_24 rfl rfl ?_
  refine gf_MS_107 rfl d_MS_addCommand_25 (by rw [e8, e5]; exact h1) ?_
  refine wm_aload_n d_MS_addCommand_28 rfl rfl ?_
  refine gf_MS_110 rfl d_MS_addCommand_29 (by rw [e8, e5]; exact h1) ?_
  have hOM11 : mOk M11 := by rw [e12]; exact mOk_UI hOM7 (hOM7 _ _).1
  refine wm_iastE d_MS_addCommand_32 h9 h10 (hOM7 _ _).1 e12 ?_
  refine wm_aload_n d_MS_addCommand_33 rfl rfl ?_
  refine gf_MS_20 rfl d_MS_addCommand_34 (by rw [e12, e8, e5]; exact h1) ?_
  refine wm_aload_n d_MS_addCommand_37 rfl rfl ?_
  refine gf_MS_103 rfl d_MS_addCommand_38 (by rw [e12, e8, e5]; exact h1) ?_
  refine wm_aload_n d_MS_addCommand_41 rfl rfl ?_
  refine gf_MS_107 rfl d_MS_addCommand_42 (by rw [e12, e8, e5]; exact h1) ?_
  have hOM15 : mOk M15 := by rw [e16]; exact mOk_UI hOM11 (hOM11 _ _).1
  refine wm_iastE d_MS_addCommand_45 h13 h14 (hOM11 _ _).1 e16 ?_
  refine wm_return d_MS_addCommand_46 rfl ?_
  exact ⟨rfl, h⟩
theorem d_MS_addBranch_0 : decode y_MS_addBranch.2.1 0 = .ok (.aload_n 0, 1) := dc9_42 (by decide +kernel)
theorem d_MS_addBranch_1 : decode y_MS_addBranch.2.1 1 = .ok (.getfield 29, 3) := dc9_180 (by decide +kernel)
theorem d_MS_addBranch_4 : decode y_MS_addBranch.2.1 4 = .ok (.aload_n 0, 1) := dc9_42 (by decide +kernel)
theorem d_MS_addBranch_5 : decode y_MS_addBranch.2.1 5 = .ok (.getfield 110, 3) := dc9_180 (by decide +kernel)
theorem d_MS_addBranch_8 : decode y_MS_addBranch.2.1 8 = .ok (.iload_n 1, 1) := dc9_27 (by decide +kernel)
theorem d_MS_addBranch_9 : decode y_MS_addBranch.2.1 9 = .ok (.iastore, 1) := dc9_79 (by decide +kernel)
theorem d_MS_addBranch_10 : decode y_MS_addBranch.2.1 10 = .ok (.aload_n 0, 1) := dc9_42 (by decide +kernel)
theorem d_MS_addBranch_11 : decode y_MS_addBranch.2.1 11 = .ok (.getfield 32, 3) := dc9_180 (by decide +kernel)
theorem d_MS_addBranch_14 : decode y_MS_addBranch.2.1 14 = .ok (.aload_n 0, 1) := dc9_42 (by decide +kernel)
theorem d_MS_addBranch_15 : decode y_MS_addBranch.2.1 15 = .ok (.getfield 110, 3) := dc9_180 (by decide +kernel)
theorem d_MS_addBranch_18 : decode y_MS_addBranch.2.1 18 = .ok (.iload_n 2, 1) := dc9_28 (by decide +kernel)
theorem d_MS_addBranch_19 : decode y_MS_addBranch.2.1 19 = .ok (.iastore, 1) := dc9_79 (by decide +kernel)
theorem d_MS_addBranch_20 : decode y_MS_addBranch.2.1 20 = .ok (.aload_n 0, 1) := dc9_42 (by decide +kernel)
theorem d_MS_addBranch_21 : decode y_MS_addBranch.2.1 21 = .ok (.getfield 35, 3) := dc9_180 (by decide +kernel)
theorem d_MS_addBranch_24 : decode y_MS_addBranch.2.1 24 = .ok (.aload_n 0, 1) := dc9_42 (by decide +kernel)
theorem d_MS_addBranch_25 : decode y_MS_addBranch.2.1 25 = .ok (.getfield 110, 3) := dc9_180 (by decide +kernel)
theorem d_MS_addBranch_28 : decode y_MS_addBranch.2.1 28 = .ok (.iload_n 3, 1) := dc9_29 (by decide +kernel)
theorem d_MS_addBranch_29 : decode y_MS_addBranch.2.1 29 = .ok (.iastore, 1) := dc9_79 (by decide +kernel)
theorem d_MS_addBranch_30 : decode y_MS_addBranch.2.1 30 = .ok (.aload_n 0, 1) := dc9_42 (by decide +kernel)
theorem d_MS_addBranch_31 : decode y_MS_addBranch.2.1 31 = .ok (.dup, 1) := dc9_89 (by decide +kernel)
theorem d_MS_addBranch_32 : decode y_MS_addBranch.2.1 32 = .ok (.getfield 110, 3) := dc9_180 (by decide +kernel)
theorem d_MS_addBranch_35 : decode y_MS_addBranch.2.1 35 = .ok (.iconst 1, 1) := dc9_4 (by decide +kernel)
theorem d_MS_addBranch_36 : decode y_MS_addBranch.2.1 36 = .ok (.iadd, 1) := dc9_96 (by decide +kernel)
theorem d_MS_addBranch_37 : decode y_MS_addBranch.2.1 37 = .ok (.putfield 110, 3) := dc9_181 (by decide +kernel)
theorem d_MS_addBranch_40 : decode y_MS_addBranch.2.1 40 = .ok (.aload_n 0, 1) := dc9_42 (by decide +kernel)
theorem d_MS_addBranch_41 : decode y_MS_addBranch.2.1 41 = .ok (.getfield 26, 3) := dc9_180 (by decide +kernel)
theorem d_MS_addBranch_44 : decode y_MS_addBranch.2.1 44 = .ok (.aload_n 0, 1) := dc9_42 (by decide +kernel)
theorem d_MS_addBranch_45 : decode y_MS_addBranch.2.1 45 = .ok (.getfield 107, 3) := dc9_180 (by decide +kernel)
theorem d_MS_addBranch_48 : decode y_MS_addBranch.2.1 48 = .ok (.aload_n 0, 1) := dc9_42 (by decide +kernel)
theorem d_MS_addBranch_49 : decode y_MS_addBranch.2.1 49 = .ok (.getfield 110, 3) := dc9_180 (by decide +kernel)
theorem d_MS_addBranch_52 : decode y_MS_addBranch.2.1 52 = .ok (.iastore, 1) := dc9_79 (by decide +kernel)
theorem d_MS_addBranch_53 : decode y_MS_addBranch.2.1 53 = .ok (.return_, 1) := dc9_177 (by decide +kernel)
theorem k_MS_addBranch {G : mG} {d : Nat} {a0 : Nat} {l1 : Int} {l2 : Int} {l3 : Int} {M : mM} {Q : mM → Prop} (hO : mOk M) (hi_l1 : i32 l1) (hi_l2 : i32 l2) (hi_l3 : i32 l3)
    (h : mK M a0 = 17 ∧ mK M (mR M a0 8) = 30 ∧ ((0 : Int) ≤ mI M a0 3 ∧ mI M a0 3 < (mN M (mR M a0 8) : Int)) ∧ ∀ M4, M4 = mUI M (mR M a0 8) (Int.toNat (mI M a0 3)) l1 → mK M4 (mR M4 a0 9) = 30 ∧ ((0 : Int) ≤ mI M4 a0 3 ∧ mI M4 a0 3 < (mN M4 (mR M4 a0 9) : Int)) ∧ ∀ M8, M8 = mUI M4 (mR M4 a0 9) (Int.toNat (mI M4 a0 3)) l2 → mK M8 (mR M8 a0 10) = 30 ∧ ((0 : Int) ≤ mI M8 a0 3 ∧ mI M8 a0 3 < (mN M8 (mR M8 a0 10) : Int)) ∧ ∀ M12, M12 = mUI M8 (mR M8 a0 10) (Int.toNat (mI M8 a0 3)) l3 → i32 ((mI M12 a0 3) + 1) ∧ ∀ M15, M15 = mUI M12 a0 3 ((mI M12 a0 3) + 1) → mK M15 (mR M15 a0 7) = 30 ∧ ((0 : Int) ≤ mI M15 a0 2 ∧ mI M15 a0 2 < (mN M15 (mR M15 a0 7) : Int)) ∧ ∀ M19, M19 = mUI M15 (mR M15 a0 7) (Int.toNat (mI M15 a0 2)) (mI M15 a0 3) → Q M19) :
    Cv G y_MS_addBranch d [vr a0, vi l1, vi l2, vi l3] M Q := by
  refine wm_open (y := y_MS_addBranch) rfl (Nat.le_of_ble_eq_true rfl) (L := [vr a0, vi l1, vi l2, vi l3]) rfl ?_
  obtain ⟨h1, h⟩ := h
  obtain ⟨h2, h⟩ := h
  obtain ⟨h3, h⟩ := h
  obtain ⟨M4, e5⟩ : ∃ M4, M4 = mUI M (mR M a0 8) (Int.toNat (mI M a0 3)) l1 := ⟨_, rfl⟩
  replace h := h M4 e5
  obtain ⟨h6, h⟩ := h
  obtain ⟨h7, h⟩ := h
  obtain ⟨M8, e9⟩ : ∃ M8, M8 = mUI M4 (mR M4 a0 9) (Int.toNat (mI M4 a0 3)) l2 := ⟨_, rfl⟩
  replace h := h M8 e9
  obtain ⟨h10, h⟩ := h
  obtain ⟨h11, h⟩ := h
  obtain ⟨M12, e13⟩ : ∃ M12, M12 = mUI M8 (mR M8 a0 10) (Int.toNat (mI M8 a0 3)) l3 := ⟨_, rfl⟩
  replace h := h M12 e13
  obtain ⟨h14, h⟩ := h
  obtain ⟨M15, e16⟩ : ∃ M15, M15 = mUI M12 a0 3 ((mI M12 a0 3) + 1) := ⟨_, rfl⟩
  replace h := h M15 e16
  obtain ⟨h17, h⟩ := h
  obtain ⟨h18, h⟩ := h
  obtain ⟨M19, e20⟩ : ∃ M19, M19 = mUI M15 (mR M15 a0 7) (Int.toNat (mI M15 a0 2)) (mI M15 a0 3) := ⟨_, rfl⟩
  replace h := h M19 e20
  refine wm_aload_n d_MS_addBranch_0 rfl rfl ?_
  refine gf_MS_29 rfl d_MS_addBranch_1 h1 ?_
  refine wm_aload_n d_MS_addBranch_4 rfl rfl ?_
  refine gf_MS_110 rfl d_MS_addBranch_5 h1 ?_
  refine wm_iload_n d_MS_addBranch_8 rfl rfl ?_
  have hOM4 : mOk M4 := by rw [e5]; exact mOk_UI hO hi_l1
  refine wm_iastE d_MS_addBranch_9 h2 h3 hi_l1 e5 ?_
  refine wm_aload_n d_MS_addBranch_10 rfl rfl ?_
  refine gf_MS_32 rfl d_MS_addBranch_11 (by rw [e5]; exact h1) ?_
  refine wm_aload_n d_MS_addBranch_14 rfl rfl ?_
  refine gf_MS_110 rfl d_MS_addBranch_15 (by rw [e5]; exact h1) ?_
  refine wm_iload_n d_MS_addBranch_18 rfl rfl ?_
  have hOM8 : mOk M8 := by rw [e9]; exact mOk_UI hOM4 hi_l2
  refine wm_iastE d_MS_addBranch_19 h6 h7 hi_l2 e9 ?_
  refine wm_aload_n d_MS_addBranch_20 rfl rfl ?_
  refine gf_MS_35 rfl d_MS_addBranch_21 (by rw [e9, e5]; exact h1) ?_
  refine wm_aload_n d_MS_addBranch_24 rfl rfl ?_
  refine gf_MS_110 rfl d_MS_addBranch_25 (by rw [e9, e5]; exact h1) ?_
  refine wm_iload_n d_MS_addBranch_28 rfl rfl ?_
  have hOM12 : mOk M12 := by rw [e13]; exact mOk_UI hOM8 hi_l3
  refine wm_iastE d_MS_addBranch_29 h10 h11 hi_l3 e13 ?_
  refine wm_aload_n d_MS_addBranch_30 rfl rfl ?_
  refine wm_dup d_MS_addBranch_31 rfl ?_
  refine gf_MS_110 rfl d_MS_addBranch_32 (by rw [e13, e9, e5]; exact h1) ?_
  refine wm_iconst d_MS_addBranch_35 ?_
  refine wm_iadd d_MS_addBranch_36 ?_
  have hOM15 : mOk M15 := by rw [e16]; exact mOk_UI hOM12 h14
  refine pf_MS_110 rfl d_MS_addBranch_37 (by rw [e13, e9, e5]; exact h1) h14 e16 ?_
  refine wm_aload_n d_MS_addBranch_40 rfl rfl ?_
  refine gf_MS_26 rfl d_MS_addBranch_41 (by rw [e16, e13, e9, e5]; exact h1) ?_
  refine wm_aload_n d_MS_addBranch_44 rfl rfl ?_
  refine gf_MS_107 rfl d_MS_addBranch_45 (by rw [e16, e13, e9, e5]; exact h1) ?_
  refine wm_aload_n d_MS_addBranch_48 rfl rfl ?_
  refine gf_MS_110 rfl d_MS_addBranch_49 (by rw [e16, e13, e9, e5]; exact h1) ?_
  have hOM19 : mOk M19 := by rw [e20]; exact mOk_UI hOM15 (hOM15 _ _).1
  refine wm_iastE d_MS_addBranch_52 h17 h18 (hOM15 _ _).1 e20 ?_
  refine wm_return d_MS_addBranch_53 rfl ?_
  exact ⟨rfl, h⟩
theorem d_MS_many_0 : decode y_MS_many.2.1 0 = .ok (.aload_n 0, 1) := dc9_42 (by decide +kernel)
theorem d_MS_many_1 : decode y_MS_many.2.1 1 = .ok (.getfield 20, 3) := dc9_180 (by decide +kernel)
theorem d_MS_many_4 : decode y_MS_many.2.1 4 = .ok (.iload_n 1, 1) := dc9_27 (by decide +kernel)
theorem d_MS_many_5 : decode y_MS_many.2.1 5 = .ok (.iconst 1, 1) := dc9_4 (by decide +kernel)
theorem d_MS_many_6 : decode y_MS_many.2.1 6 = .ok (.iadd, 1) := dc9_96 (by decide +kernel)
theorem d_MS_many_7 : decode y_MS_many.2.1 7 = .ok (.iaload, 1) := dc9_46 (by decide +kernel)
theorem d_MS_many_8 : decode y_MS_many.2.1 8 = .ok (.aload_n 0, 1) := dc9_42 (by decide +kernel)
theorem d_MS_many_9 : decode y_MS_many.2.1 9 = .ok (.getfield 20, 3) := dc9_180 (by decide +kernel)
theorem d_MS_many_12 : decode y_MS_many.2.1 12 = .ok (.iload_n 1, 1) := dc9_27 (by decide +kernel)
theorem d_MS_many_13 : decode y_MS_many.2.1 13 = .ok (.iaload, 1) := dc9_46 (by decide +kernel)
theorem d_MS_many_14 : decode y_MS_many.2.1 14 = .ok (.isub, 1) := dc9_100 (by decide +kernel)
theorem d_MS_many_15 : decode y_MS_many.2.1 15 = .ok (.ireturn, 1) := dc9_172 (by decide +kernel)
theorem k_MS_many {G : mG} {d : Nat} {a0 : Nat} {l1 : Int} {M : mM} {Q : Int → mM → Prop} (hO : mOk M) (hi_l1 : i32 l1)
    (h : mK M a0 = 17 ∧ mK M (mR M a0 5) = 30 ∧ ((0 : Int) ≤ l1 + 1 ∧ l1 + 1 < (mN M (mR M a0 5) : Int)) ∧ ((0 : Int) ≤ l1 ∧ l1 < (mN M (mR M a0 5) : Int)) ∧ Q ((mI M (mR M a0 5) (Int.toNat (l1 + 1))) - (mI M (mR M a0 5) (Int.toNat l1))) M) :
    Ci G y_MS_many d [vr a0, vi l1] M Q := by
  refine wm_open (y := y_MS_many) rfl (Nat.le_of_ble_eq_true rfl) (L := [vr a0, vi l1]) rfl ?_
  obtain ⟨h1, h⟩ := h
  obtain ⟨h2, h⟩ := h
  obtain ⟨h3, h⟩ := h
  obtain ⟨h4, h⟩ := h
  refine wm_aload_n d_MS_many_0 rfl rfl ?_
  refine gf_MS_20 rfl d_MS_many_1 h1 ?_
  refine wm_iload_n d_MS_many_4 rfl rfl ?_
  refine wm_iconst d_MS_many_5 ?_
  refine wm_iadd d_MS_many_6 ?_
  refine wm_iald d_MS_many_7 h2 h3 ?_
  refine wm_aload_n d_MS_many_8 rfl rfl ?_
  refine gf_MS_20 rfl d_MS_many_9 h1 ?_
  refine wm_iload_n d_MS_many_12 rfl rfl ?_
  refine wm_iald d_MS_many_13 h2 h4 ?_
  refine wm_isub d_MS_many_14 ?_
  refine wm_ireturn d_MS_many_15 rfl rfl ?_
  exact ⟨_, rfl, h⟩
theorem d_MS_may_0 : decode y_MS_may.2.1 0 = .ok (.aload_n 0, 1) := dc9_42 (by decide +kernel)
theorem d_MS_may_1 : decode y_MS_may.2.1 1 = .ok (.getfield 113, 3) := dc9_180 (by decide +kernel)
theorem d_MS_may_4 : decode y_MS_may.2.1 4 = .ok (.aload_n 0, 1) := dc9_42 (by decide +kernel)
theorem d_MS_may_5 : decode y_MS_may.2.1 5 = .ok (.getfield 16, 3) := dc9_180 (by decide +kernel)
theorem d_MS_may_8 : decode y_MS_may.2.1 8 = .ok (.iload_n 1, 1) := dc9_27 (by decide +kernel)
theorem d_MS_may_9 : decode y_MS_may.2.1 9 = .ok (.iaload, 1) := dc9_46 (by decide +kernel)
theorem d_MS_may_10 : decode y_MS_may.2.1 10 = .ok (.if_icmp .ne 13, 3) := dc9_160 (by decide +kernel)
theorem d_MS_may_13 : decode y_MS_may.2.1 13 = .ok (.aload_n 0, 1) := dc9_42 (by decide +kernel)
theorem d_MS_may_14 : decode y_MS_may.2.1 14 = .ok (.getfield 51, 3) := dc9_180 (by decide +kernel)
theorem d_MS_may_17 : decode y_MS_may.2.1 17 = .ok (.iload_n 1, 1) := dc9_27 (by decide +kernel)
theorem d_MS_may_18 : decode y_MS_may.2.1 18 = .ok (.iaload, 1) := dc9_46 (by decide +kernel)
theorem d_MS_may_19 : decode y_MS_may.2.1 19 = .ok (.iload_n 2, 1) := dc9_28 (by decide +kernel)
theorem d_MS_may_20 : decode y_MS_may.2.1 20 = .ok (.if_icmp .ne 7, 3) := dc9_160 (by decide +kernel)
theorem d_MS_may_23 : decode y_MS_may.2.1 23 = .ok (.iconst 1, 1) := dc9_4 (by decide +kernel)
theorem d_MS_may_24 : decode y_MS_may.2.1 24 = .ok (.goto 4, 3) := dc9_167 (by decide +kernel)
theorem d_MS_may_27 : decode y_MS_may.2.1 27 = .ok (.iconst 0, 1) := dc9_3 (by decide +kernel)
theorem d_MS_may_28 : decode y_MS_may.2.1 28 = .ok (.ireturn, 1) := dc9_172 (by decide +kernel)
theorem k_MS_may {G : mG} {d : Nat} {a0 : Nat} {l1 : Int} {l2 : Int} {M : mM} {Q : Int → mM → Prop} (hO : mOk M) (hi_l1 : i32 l1) (hi_l2 : i32 l2)
    (h : mK M a0 = 17 ∧ mK M (mR M a0 4) = 30 ∧ ((0 : Int) ≤ l1 ∧ l1 < (mN M (mR M a0 4) : Int)) ∧ ((mI M a0 17 = mI M (mR M a0 4) (Int.toNat l1)) → (mK M (mR M a0 14) = 30 ∧ ((0 : Int) ≤ l1 ∧ l1 < (mN M (mR M a0 14) : Int)))) ∧ ∀ v8 : Int, v8 = (if ((¬ (mI M a0 17 = mI M (mR M a0 4) (Int.toNat l1))) ∨ (mI M (mR M a0 14) (Int.toNat l1) = l2)) then 1 else 0) → Q v8 M) :
    Ci G y_MS_may d [vr a0, vi l1, vi l2] M Q := by
  refine wm_open (y := y_MS_may) rfl (Nat.le_of_ble_eq_true rfl) (L := [vr a0, vi l1, vi l2]) rfl ?_
  obtain ⟨h1, h⟩ := h
  obtain ⟨h2, h⟩ := h
  obtain ⟨h3, h⟩ := h
  refine wm_aload_n d_MS_may_0 rfl rfl ?_
  refine gf_MS_113 rfl d_MS_may_1 h1 ?_
  refine wm_aload_n d_MS_may_4 rfl rfl ?_
  refine gf_MS_16 rfl d_MS_may_5 h1 ?_
  refine wm_iload_n d_MS_may_8 rfl rfl ?_
  refine wm_iald d_MS_may_9 h2 h3 ?_
  obtain ⟨s9, h⟩ := h
  have hJ : ∀ v8 : Int, v8 = (if ((¬ (mI M a0 17 = mI M (mR M a0 4) (Int.toNat l1))) ∨ (mI M (mR M a0 14) (Int.toNat l1) = l2)) then 1 else 0) → mWm G y_MS_may d 28 [vd, vd, vd] [vi v8] M (fun r9 M9 => ∃ x9, r9 = some (vi x9) ∧ Q x9 M9) := by
    intro v8 e10
    have h := h v8 e10
    have h11 : i32 v8 := by rw [e10]; (repeat' split) <;> first | exact ⟨by decide, by decide⟩ | exact ⟨by decide, by decide⟩
    have h12 : (v8 = 0 ∨ v8 = 1) := by rw [e10]; (repeat' split) <;> decide
    refine wm_ireturn d_MS_may_28 rfl (m_nb h12) ?_
    exact ⟨_, rfl, h⟩
  clear h
  have s13 := s9
  refine wm_icmp_ne (tgt := 23) d_MS_may_10 rfl (hO _ _).1 (hO _ _).1 (fun c4 => ?_) (fun c4 => ?_)
  · refine wm_iconst d_MS_may_23 ?_
    refine wm_goto (tgt := 28) d_MS_may_24 rfl ?_
    refine wm_less (L' := [vd, vd, vd]) ⟨Or.inl rfl, Or.inl rfl, Or.inl rfl, trivial⟩ ?_
    exact hJ 1 (if_pos (Or.inl c4)).symm
  · replace c4 := Classical.not_not.mp c4
    have s13 := s13 c4
    obtain ⟨h5, h6⟩ := s13
    refine wm_aload_n d_MS_may_13 rfl rfl ?_
    refine gf_MS_51 rfl d_MS_may_14 h1 ?_
    refine wm_iload_n d_MS_may_17 rfl rfl ?_
    refine wm_iald d_MS_may_18 h5 h6 ?_
    refine wm_iload_n d_MS_may_19 rfl rfl ?_
    refine wm_icmp_ne (tgt := 27) d_MS_may_20 rfl (hO _ _).1 hi_l2 (fun c7 => ?_) (fun c7 => ?_)
    · refine wm_iconst d_MS_may_27 ?_
      refine wm_less (L' := [vd, vd, vd]) ⟨Or.inl rfl, Or.inl rfl, Or.inl rfl, trivial⟩ ?_
      exact hJ 0 (if_neg (fun z14 => Or.elim z14 (fun w => w c4) c7)).symm
    · replace c7 := Classical.not_not.mp c7
      refine wm_iconst d_MS_may_23 ?_
      refine wm_goto (tgt := 28) d_MS_may_24 rfl ?_
      refine wm_less (L' := [vd, vd, vd]) ⟨Or.inl rfl, Or.inl rfl, Or.inl rfl, trivial⟩ ?_
      exact hJ 1 (if_pos (Or.inr c7)).symm
theorem d_MS_leadsIn_0 : decode y_MS_leadsIn.2.1 0 = .ok (.aload_n 0, 1) := dc9_42 (by decide +kernel)
theorem d_MS_leadsIn_1 : decode y_MS_leadsIn.2.1 1 = .ok (.getfield 20, 3) := dc9_180 (by decide +kernel)
theorem d_MS_leadsIn_4 : decode y_MS_leadsIn.2.1 4 = .ok (.iload_n 1, 1) := dc9_27 (by decide +kernel)
theorem d_MS_leadsIn_5 : decode y_MS_leadsIn.2.1 5 = .ok (.iaload, 1) := dc9_46 (by decide +kernel)
theorem d_MS_leadsIn_6 : decode y_MS_leadsIn.2.1 6 = .ok (.iload_n 2, 1) := dc9_28 (by decide +kernel)
theorem d_MS_leadsIn_7 : decode y_MS_leadsIn.2.1 7 = .ok (.iadd, 1) := dc9_96 (by decide +kernel)
theorem d_MS_leadsIn_8 : decode y_MS_leadsIn.2.1 8 = .ok (.istore_n 3, 1) := dc9_62 (by decide +kernel)
theorem d_MS_leadsIn_9 : decode y_MS_leadsIn.2.1 9 = .ok (.iconst 0, 1) := dc9_3 (by decide +kernel)
theorem d_MS_leadsIn_10 : decode y_MS_leadsIn.2.1 10 = .ok (.istore 4, 2) := dc9_54 (by decide +kernel)
theorem d_MS_leadsIn_12 : decode y_MS_leadsIn.2.1 12 = .ok (.aload_n 0, 1) := dc9_42 (by decide +kernel)
theorem d_MS_leadsIn_13 : decode y_MS_leadsIn.2.1 13 = .ok (.getfield 26, 3) := dc9_180 (by decide +kernel)
theorem d_MS_leadsIn_16 : decode y_MS_leadsIn.2.1 16 = .ok (.iload_n 3, 1) := dc9_29 (by decide +kernel)
theorem d_MS_leadsIn_17 : decode y_MS_leadsIn.2.1 17 = .ok (.iaload, 1) := dc9_46 (by decide +kernel)
theorem d_MS_leadsIn_18 : decode y_MS_leadsIn.2.1 18 = .ok (.istore 5, 2) := dc9_54 (by decide +kernel)
theorem d_MS_leadsIn_20 : decode y_MS_leadsIn.2.1 20 = .ok (.iload 5, 2) := dc9_21 (by decide +kernel)
theorem d_MS_leadsIn_22 : decode y_MS_leadsIn.2.1 22 = .ok (.aload_n 0, 1) := dc9_42 (by decide +kernel)
theorem d_MS_leadsIn_23 : decode y_MS_leadsIn.2.1 23 = .ok (.getfield 26, 3) := dc9_180 (by decide +kernel)
theorem d_MS_leadsIn_26 : decode y_MS_leadsIn.2.1 26 = .ok (.iload_n 3, 1) := dc9_29 (by decide +kernel)
theorem d_MS_leadsIn_27 : decode y_MS_leadsIn.2.1 27 = .ok (.iconst 1, 1) := dc9_4 (by decide +kernel)
theorem d_MS_leadsIn_28 : decode y_MS_leadsIn.2.1 28 = .ok (.iadd, 1) := dc9_96 (by decide +kernel)
theorem d_MS_leadsIn_29 : decode y_MS_leadsIn.2.1 29 = .ok (.iaload, 1) := dc9_46 (by decide +kernel)
theorem d_MS_leadsIn_30 : decode y_MS_leadsIn.2.1 30 = .ok (.if_icmp .ge 36, 3) := dc9_162 (by decide +kernel)
theorem d_MS_leadsIn_66 : decode y_MS_leadsIn.2.1 66 = .ok (.iload 4, 2) := dc9_21 (by decide +kernel)
theorem d_MS_leadsIn_68 : decode y_MS_leadsIn.2.1 68 = .ok (.ireturn, 1) := dc9_172 (by decide +kernel)
theorem d_MS_leadsIn_33 : decode y_MS_leadsIn.2.1 33 = .ok (.iload 4, 2) := dc9_21 (by decide +kernel)
theorem d_MS_leadsIn_35 : decode y_MS_leadsIn.2.1 35 = .ok (.ifCond .ne 18, 3) := dc9_154 (by decide +kernel)
theorem d_MS_leadsIn_38 : decode y_MS_leadsIn.2.1 38 = .ok (.aload_n 0, 1) := dc9_42 (by decide +kernel)
theorem d_MS_leadsIn_39 : decode y_MS_leadsIn.2.1 39 = .ok (.getfield 63, 3) := dc9_180 (by decide +kernel)
theorem d_MS_leadsIn_42 : decode y_MS_leadsIn.2.1 42 = .ok (.aload_n 0, 1) := dc9_42 (by decide +kernel)
theorem d_MS_leadsIn_43 : decode y_MS_leadsIn.2.1 43 = .ok (.getfield 29, 3) := dc9_180 (by decide +kernel)
theorem d_MS_leadsIn_46 : decode y_MS_leadsIn.2.1 46 = .ok (.iload 5, 2) := dc9_21 (by decide +kernel)
theorem d_MS_leadsIn_48 : decode y_MS_leadsIn.2.1 48 = .ok (.iaload, 1) := dc9_46 (by decide +kernel)
theorem d_MS_leadsIn_49 : decode y_MS_leadsIn.2.1 49 = .ok (.baload, 1) := dc9_51 (by decide +kernel)
theorem d_MS_leadsIn_50 : decode y_MS_leadsIn.2.1 50 = .ok (.ifCond .eq 7, 3) := dc9_153 (by decide +kernel)
theorem d_MS_leadsIn_57 : decode y_MS_leadsIn.2.1 57 = .ok (.iconst 0, 1) := dc9_3 (by decide +kernel)
theorem d_MS_leadsIn_58 : decode y_MS_leadsIn.2.1 58 = .ok (.istore 4, 2) := dc9_54 (by decide +kernel)
theorem d_MS_leadsIn_60 : decode y_MS_leadsIn.2.1 60 = .ok (.iinc 5 1, 3) := by decide +kernel
theorem d_MS_leadsIn_63 : decode y_MS_leadsIn.2.1 63 = .ok (.goto (-43), 3) := dc9_167 (by decide +kernel)
theorem d_MS_leadsIn_53 : decode y_MS_leadsIn.2.1 53 = .ok (.iconst 1, 1) := dc9_4 (by decide +kernel)
theorem d_MS_leadsIn_54 : decode y_MS_leadsIn.2.1 54 = .ok (.goto 4, 3) := dc9_167 (by decide +kernel)
def h_MS_leadsIn_20 (G : mG) (d : Nat) (a0 : Nat) (l3 : Int) (l4 : Int) (l5 : Int) (M : mM) (Q : Int → mM → Prop) : Prop := mWm G y_MS_leadsIn d 20 [vr a0, vd, vd, vi l3, vi l4, vi l5] [] M (fun r9 M9 => ∃ x9, r9 = some (vi x9) ∧ Q x9 M9)
theorem k_MS_leadsIn {G : mG} {d : Nat} {a0 : Nat} {l1 : Int} {l2 : Int} {M : mM} {Q : Int → mM → Prop} (hO : mOk M) (hi_l1 : i32 l1) (hi_l2 : i32 l2)
    (h : mK M a0 = 17 ∧ mK M (mR M a0 5) = 30 ∧ ((0 : Int) ≤ l1 ∧ l1 < (mN M (mR M a0 5) : Int)) ∧ mK M (mR M a0 7) = 30 ∧ ((0 : Int) ≤ (mI M (mR M a0 5) (Int.toNat l1)) + l2 ∧ (mI M (mR M a0 5) (Int.toNat l1)) + l2 < (mN M (mR M a0 7) : Int)) ∧ h_MS_leadsIn_20 G d a0 ((mI M (mR M a0 5) (Int.toNat l1)) + l2) 0 (mI M (mR M a0 7) (Int.toNat ((mI M (mR M a0 5) (Int.toNat l1)) + l2))) M Q) :
    Ci G y_MS_leadsIn d [vr a0, vi l1, vi l2] M Q := by
  refine wm_open (y := y_MS_leadsIn) rfl (Nat.le_of_ble_eq_true rfl) (L := [vr a0, vi l1, vi l2, vd, vd, vd]) rfl ?_
  obtain ⟨h1, h⟩ := h
  obtain ⟨h2, h⟩ := h
  obtain ⟨h3, h⟩ := h
  obtain ⟨h4, h⟩ := h
  obtain ⟨h5, h⟩ := h
  refine wm_aload_n d_MS_leadsIn_0 rfl rfl ?_
  refine gf_MS_20 rfl d_MS_leadsIn_1 h1 ?_
  refine wm_iload_n d_MS_leadsIn_4 rfl rfl ?_
  refine wm_iald d_MS_leadsIn_5 h2 h3 ?_
  refine wm_iload_n d_MS_leadsIn_6 rfl rfl ?_
  refine wm_iadd d_MS_leadsIn_7 ?_
  refine wm_istore_n d_MS_leadsIn_8 rfl (by decide) (L' := [vr a0, vi l1, vi l2, vi ((mI M (mR M a0 5) (Int.toNat l1)) + l2), vd, vd]) rfl ?_
  refine wm_iconst d_MS_leadsIn_9 ?_
  refine wm_istore d_MS_leadsIn_10 (by decide) (L' := [vr a0, vi l1, vi l2, vi ((mI M (mR M a0 5) (Int.toNat l1)) + l2), vi 0, vd]) rfl ?_
  refine wm_aload_n d_MS_leadsIn_12 rfl rfl ?_
  refine gf_MS_26 rfl d_MS_leadsIn_13 h1 ?_
  refine wm_iload_n d_MS_leadsIn_16 rfl rfl ?_
  refine wm_iald d_MS_leadsIn_17 h4 h5 ?_
  refine wm_istore d_MS_leadsIn_18 (by decide) (L' := [vr a0, vi l1, vi l2, vi ((mI M (mR M a0 5) (Int.toNat l1)) + l2), vi 0, vi (mI M (mR M a0 7) (Int.toNat ((mI M (mR M a0 5) (Int.toNat l1)) + l2)))]) rfl ?_
  refine wm_less (L' := [vr a0, vd, vd, vi ((mI M (mR M a0 5) (Int.toNat l1)) + l2), vi 0, vi (mI M (mR M a0 7) (Int.toNat ((mI M (mR M a0 5) (Int.toNat l1)) + l2)))]) ⟨Or.inr rfl, Or.inl rfl, Or.inl rfl, Or.inr rfl, Or.inr rfl, Or.inr rfl, trivial⟩ ?_
  exact h
theorem k_MS_leadsIn_20 {G : mG} {d : Nat} {a0 : Nat} {l3 : Int} {l4 : Int} {l5 : Int} {M : mM} {Q : Int → mM → Prop} (hO : mOk M) (hi_l3 : i32 l3) (hi_l4 : i32 l4) (hi_l5 : i32 l5)
    (h : mK M a0 = 17 ∧ mK M (mR M a0 7) = 30 ∧ ((0 : Int) ≤ l3 + 1 ∧ l3 + 1 < (mN M (mR M a0 7) : Int)) ∧ ((mI M (mR M a0 7) (Int.toNat (l3 + 1)) ≤ l5) → ((l4 = 0 ∨ l4 = 1) ∧ Q l4 M)) ∧ (¬ (mI M (mR M a0 7) (Int.toNat (l3 + 1)) ≤ l5) → (((l4 = 0) → (mK M (mR M a0 8) = 30 ∧ ((0 : Int) ≤ l5 ∧ l5 < (mN M (mR M a0 8) : Int)) ∧ mK M (mR M a0 19) = 31 ∧ ((0 : Int) ≤ mI M (mR M a0 8) (Int.toNat l5) ∧ mI M (mR M a0 8) (Int.toNat l5) < (mN M (mR M a0 19) : Int)))) ∧ ∀ v25 : Int, v25 = (if ((l4 = 0) ∧ (mI M (mR M a0 19) (Int.toNat (mI M (mR M a0 8) (Int.toNat l5))) = 0)) then 0 else 1) → h_MS_leadsIn_20 G d a0 l3 v25 (l5 + 1) M Q))) :
    h_MS_leadsIn_20 G d a0 l3 l4 l5 M Q := by
  unfold h_MS_leadsIn_20
  obtain ⟨h6, h⟩ := h
  obtain ⟨h7, h⟩ := h
  obtain ⟨h8, h⟩ := h
  refine wm_iload d_MS_leadsIn_20 rfl ?_
  refine wm_aload_n d_MS_leadsIn_22 rfl rfl ?_
  refine gf_MS_26 rfl d_MS_leadsIn_23 h6 ?_
  refine wm_iload_n d_MS_leadsIn_26 rfl rfl ?_
  refine wm_iconst d_MS_leadsIn_27 ?_
  refine wm_iadd d_MS_leadsIn_28 ?_
  refine wm_iald d_MS_leadsIn_29 h7 h8 ?_
  refine wm_icmp_ge (tgt := 66) d_MS_leadsIn_30 rfl hi_l5 (hO _ _).1 (fun c17 => ?_) (fun c17 => ?_)
  · replace h := h.1 c17
    obtain ⟨h18, h⟩ := h
    refine wm_iload d_MS_leadsIn_66 rfl ?_
    refine wm_ireturn d_MS_leadsIn_68 rfl (m_nb h18) ?_
    exact ⟨_, rfl, h⟩
  · replace h := h.2 c17
    refine wm_iload d_MS_leadsIn_33 rfl ?_
    obtain ⟨s26, h⟩ := h
    have hJ : ∀ v25 : Int, v25 = (if ((l4 = 0) ∧ (mI M (mR M a0 19) (Int.toNat (mI M (mR M a0 8) (Int.toNat l5))) = 0)) then 0 else 1) → mWm G y_MS_leadsIn d 58 [vr a0, vd, vd, vi l3, vd, vi l5] [vi v25] M (fun r9 M9 => ∃ x9, r9 = some (vi x9) ∧ Q x9 M9) := by
      intro v25 e27
      have h := h v25 e27
      have h28 : i32 v25 := by rw [e27]; (repeat' split) <;> first | exact ⟨by decide, by decide⟩ | exact ⟨by decide, by decide⟩
      have h29 : (v25 = 0 ∨ v25 = 1) := by rw [e27]; (repeat' split) <;> decide
      refine wm_istore d_MS_leadsIn_58 (by decide) (L' := [vr a0, vd, vd, vi l3, vi v25, vi l5]) rfl ?_
      refine wm_iinc d_MS_leadsIn_60 (by decide) rfl (L' := [vr a0, vd, vd, vi l3, vi v25, vi (l5 + 1)]) rfl ?_
      refine wm_goto (tgt := 20) d_MS_leadsIn_63 rfl ?_
      exact h
    clear h
    have s30 := s26
    refine wm_if_ne (tgt := 53) d_MS_leadsIn_35 rfl hi_l4 (fun c19 => ?_) (fun c19 => ?_)
    · refine wm_iconst d_MS_leadsIn_53 ?_
      refine wm_goto (tgt := 58) d_MS_leadsIn_54 rfl ?_
      refine wm_less (L' := [vr a0, vd, vd, vi l3, vd, vi l5]) ⟨Or.inr rfl, Or.inl rfl, Or.inl rfl, Or.inr rfl, Or.inl rfl, Or.inr rfl, trivial⟩ ?_
      exact hJ 1 (if_neg (fun z33 => c19 z33.1)).symm
    · replace c19 := Classical.not_not.mp c19
      have s30 := s30 c19
      obtain ⟨h20, h21, h22, h23⟩ := s30
      refine wm_aload_n d_MS_leadsIn_38 rfl rfl ?_
      refine gf_MS_63 rfl d_MS_leadsIn_39 h6 ?_
      refine wm_aload_n d_MS_leadsIn_42 rfl rfl ?_
      refine gf_MS_29 rfl d_MS_leadsIn_43 h6 ?_
      refine wm_iload d_MS_leadsIn_46 rfl ?_
      refine wm_iald d_MS_leadsIn_48 h20 h21 ?_
      refine wm_zald d_MS_leadsIn_49 h22 h23 ?_
      refine wm_if_eq (tgt := 57) d_MS_leadsIn_50 rfl (hO _ _).1 (fun c24 => ?_) (fun c24 => ?_)
      · refine wm_iconst d_MS_leadsIn_57 ?_
        refine wm_less (L' := [vr a0, vd, vd, vi l3, vd, vi l5]) ⟨Or.inr rfl, Or.inl rfl, Or.inl rfl, Or.inr rfl, Or.inl rfl, Or.inr rfl, trivial⟩ ?_
        exact hJ 0 (if_pos ⟨c19, c24⟩).symm
      · refine wm_iconst d_MS_leadsIn_53 ?_
        refine wm_goto (tgt := 58) d_MS_leadsIn_54 rfl ?_
        refine wm_less (L' := [vr a0, vd, vd, vi l3, vd, vi l5]) ⟨Or.inr rfl, Or.inl rfl, Or.inl rfl, Or.inr rfl, Or.inl rfl, Or.inr rfl, trivial⟩ ?_
        exact hJ 1 (if_neg (fun z31 => c24 z31.2)).symm
end
section
theorem d_MS_comes_0 : decode y_MS_comes.2.1 0 = .ok (.iconst 0, 1) := dc9_3 (by decide +kernel)
theorem d_MS_comes_1 : decode y_MS_comes.2.1 1 = .ok (.istore_n 3, 1) := dc9_62 (by decide +kernel)
theorem d_MS_comes_2 : decode y_MS_comes.2.1 2 = .ok (.aload_n 0, 1) := dc9_42 (by decide +kernel)
theorem d_MS_comes_3 : decode y_MS_comes.2.1 3 = .ok (.iload_n 1, 1) := dc9_27 (by decide +kernel)
theorem d_MS_comes_4 : decode y_MS_comes.2.1 4 = .ok (.invokevirtual 116, 3) := dc9_182 (by decide +kernel)
theorem d_MS_comes_7 : decode y_MS_comes.2.1 7 = .ok (.ifCond .le 7, 3) := dc9_158 (by decide +kernel)
theorem d_MS_comes_14 : decode y_MS_comes.2.1 14 = .ok (.iconst 0, 1) := dc9_3 (by decide +kernel)
theorem d_MS_comes_10 : decode y_MS_comes.2.1 10 = .ok (.iconst 1, 1) := dc9_4 (by decide +kernel)
theorem d_MS_comes_11 : decode y_MS_comes.2.1 11 = .ok (.goto 4, 3) := dc9_167 (by decide +kernel)
theorem d_MS_comes_15 : decode y_MS_comes.2.1 15 = .ok (.istore 4, 2) := dc9_54 (by decide +kernel)
theorem d_MS_comes_17 : decode y_MS_comes.2.1 17 = .ok (.iconst 0, 1) := dc9_3 (by decide +kernel)
theorem d_MS_comes_18 : decode y_MS_comes.2.1 18 = .ok (.istore 5, 2) := dc9_54 (by decide +kernel)
theorem d_MS_comes_20 : decode y_MS_comes.2.1 20 = .ok (.iload 5, 2) := dc9_21 (by decide +kernel)
theorem d_MS_comes_22 : decode y_MS_comes.2.1 22 = .ok (.aload_n 0, 1) := dc9_42 (by decide +kernel)
theorem d_MS_comes_23 : decode y_MS_comes.2.1 23 = .ok (.iload_n 1, 1) := dc9_27 (by decide +kernel)
theorem d_MS_comes_24 : decode y_MS_comes.2.1 24 = .ok (.invokevirtual 116, 3) := dc9_182 (by decide +kernel)
theorem d_MS_comes_27 : decode y_MS_comes.2.1 27 = .ok (.if_icmp .ge 110, 3) := dc9_162 (by decide +kernel)
theorem d_MS_comes_137 : decode y_MS_comes.2.1 137 = .ok (.aload_n 0, 1) := dc9_42 (by decide +kernel)
theorem d_MS_comes_138 : decode y_MS_comes.2.1 138 = .ok (.getfield 16, 3) := dc9_180 (by decide +kernel)
theorem d_MS_comes_141 : decode y_MS_comes.2.1 141 = .ok (.iload_n 1, 1) := dc9_27 (by decide +kernel)
theorem d_MS_comes_142 : decode y_MS_comes.2.1 142 = .ok (.iaload, 1) := dc9_46 (by decide +kernel)
theorem d_MS_comes_143 : decode y_MS_comes.2.1 143 = .ok (.iconst 1, 1) := dc9_4 (by decide +kernel)
theorem d_MS_comes_30 : decode y_MS_comes.2.1 30 = .ok (.aload_n 0, 1) := dc9_42 (by decide +kernel)
theorem d_MS_comes_31 : decode y_MS_comes.2.1 31 = .ok (.getfield 16, 3) := dc9_180 (by decide +kernel)
theorem d_MS_comes_34 : decode y_MS_comes.2.1 34 = .ok (.iload_n 1, 1) := dc9_27 (by decide +kernel)
theorem d_MS_comes_35 : decode y_MS_comes.2.1 35 = .ok (.iaload, 1) := dc9_46 (by decide +kernel)
theorem d_MS_comes_36 : decode y_MS_comes.2.1 36 = .ok (.iconst 1, 1) := dc9_4 (by decide +kernel)
theorem d_MS_comes_144 : decode y_MS_comes.2.1 144 = .ok (.if_icmp .ne 7, 3) := dc9_160 (by decide +kernel)
theorem d_MS_comes_147 : decode y_MS_comes.2.1 147 = .ok (.iload_n 3, 1) := dc9_29 (by decide +kernel)
theorem d_MS_comes_148 : decode y_MS_comes.2.1 148 = .ok (.goto 23, 3) := dc9_167 (by decide +kernel)
theorem d_MS_comes_171 : decode y_MS_comes.2.1 171 = .ok (.ireturn, 1) := dc9_172 (by decide +kernel)
theorem d_MS_comes_151 : decode y_MS_comes.2.1 151 = .ok (.aload_n 0, 1) := dc9_42 (by decide +kernel)
theorem d_MS_comes_152 : decode y_MS_comes.2.1 152 = .ok (.getfield 16, 3) := dc9_180 (by decide +kernel)
theorem d_MS_comes_155 : decode y_MS_comes.2.1 155 = .ok (.iload_n 1, 1) := dc9_27 (by decide +kernel)
theorem d_MS_comes_156 : decode y_MS_comes.2.1 156 = .ok (.iaload, 1) := dc9_46 (by decide +kernel)
theorem d_MS_comes_157 : decode y_MS_comes.2.1 157 = .ok (.iconst 2, 1) := dc9_5 (by decide +kernel)
theorem d_MS_comes_158 : decode y_MS_comes.2.1 158 = .ok (.if_icmp .ne 12, 3) := dc9_160 (by decide +kernel)
theorem d_MS_comes_161 : decode y_MS_comes.2.1 161 = .ok (.iload 4, 2) := dc9_21 (by decide +kernel)
theorem d_MS_comes_163 : decode y_MS_comes.2.1 163 = .ok (.ifCond .eq 7, 3) := dc9_153 (by decide +kernel)
theorem d_MS_comes_166 : decode y_MS_comes.2.1 166 = .ok (.iconst 1, 1) := dc9_4 (by decide +kernel)
theorem d_MS_comes_167 : decode y_MS_comes.2.1 167 = .ok (.goto 4, 3) := dc9_167 (by decide +kernel)
theorem d_MS_comes_37 : decode y_MS_comes.2.1 37 = .ok (.if_icmp .ne 26, 3) := dc9_160 (by decide +kernel)
theorem d_MS_comes_40 : decode y_MS_comes.2.1 40 = .ok (.iload_n 2, 1) := dc9_28 (by decide +kernel)
theorem d_MS_comes_41 : decode y_MS_comes.2.1 41 = .ok (.ifCond .eq 22, 3) := dc9_153 (by decide +kernel)
theorem d_MS_comes_44 : decode y_MS_comes.2.1 44 = .ok (.aload_n 0, 1) := dc9_42 (by decide +kernel)
theorem d_MS_comes_45 : decode y_MS_comes.2.1 45 = .ok (.getfield 60, 3) := dc9_180 (by decide +kernel)
theorem d_MS_comes_48 : decode y_MS_comes.2.1 48 = .ok (.iload_n 1, 1) := dc9_27 (by decide +kernel)
theorem d_MS_comes_49 : decode y_MS_comes.2.1 49 = .ok (.iaload, 1) := dc9_46 (by decide +kernel)
theorem d_MS_comes_50 : decode y_MS_comes.2.1 50 = .ok (.iload 5, 2) := dc9_21 (by decide +kernel)
theorem d_MS_comes_52 : decode y_MS_comes.2.1 52 = .ok (.if_icmp .ne 7, 3) := dc9_160 (by decide +kernel)
theorem d_MS_comes_55 : decode y_MS_comes.2.1 55 = .ok (.iconst 1, 1) := dc9_4 (by decide +kernel)
theorem d_MS_comes_56 : decode y_MS_comes.2.1 56 = .ok (.goto 14, 3) := dc9_167 (by decide +kernel)
theorem d_MS_comes_59 : decode y_MS_comes.2.1 59 = .ok (.iconst 0, 1) := dc9_3 (by decide +kernel)
theorem d_MS_comes_60 : decode y_MS_comes.2.1 60 = .ok (.goto 10, 3) := dc9_167 (by decide +kernel)
theorem d_MS_comes_170 : decode y_MS_comes.2.1 170 = .ok (.iconst 0, 1) := dc9_3 (by decide +kernel)
theorem d_MS_comes_63 : decode y_MS_comes.2.1 63 = .ok (.aload_n 0, 1) := dc9_42 (by decide +kernel)
theorem d_MS_comes_64 : decode y_MS_comes.2.1 64 = .ok (.iload_n 1, 1) := dc9_27 (by decide +kernel)
theorem d_MS_comes_65 : decode y_MS_comes.2.1 65 = .ok (.iload 5, 2) := dc9_21 (by decide +kernel)
theorem d_MS_comes_67 : decode y_MS_comes.2.1 67 = .ok (.invokevirtual 120, 3) := dc9_182 (by decide +kernel)
theorem d_MS_comes_70 : decode y_MS_comes.2.1 70 = .ok (.istore 6, 2) := dc9_54 (by decide +kernel)
theorem d_MS_comes_72 : decode y_MS_comes.2.1 72 = .ok (.iload 6, 2) := dc9_21 (by decide +kernel)
theorem d_MS_comes_74 : decode y_MS_comes.2.1 74 = .ok (.ifCond .eq 17, 3) := dc9_153 (by decide +kernel)
theorem d_MS_comes_77 : decode y_MS_comes.2.1 77 = .ok (.aload_n 0, 1) := dc9_42 (by decide +kernel)
theorem d_MS_comes_78 : decode y_MS_comes.2.1 78 = .ok (.iload_n 1, 1) := dc9_27 (by decide +kernel)
theorem d_MS_comes_79 : decode y_MS_comes.2.1 79 = .ok (.iload 5, 2) := dc9_21 (by decide +kernel)
theorem d_MS_comes_91 : decode y_MS_comes.2.1 91 = .ok (.iconst 0, 1) := dc9_3 (by decide +kernel)
theorem d_MS_comes_81 : decode y_MS_comes.2.1 81 = .ok (.invokevirtual 124, 3) := dc9_182 (by decide +kernel)
theorem d_MS_comes_84 : decode y_MS_comes.2.1 84 = .ok (.ifCond .eq 7, 3) := dc9_153 (by decide +kernel)
theorem d_MS_comes_87 : decode y_MS_comes.2.1 87 = .ok (.iconst 1, 1) := dc9_4 (by decide +kernel)
theorem d_MS_comes_88 : decode y_MS_comes.2.1 88 = .ok (.goto 4, 3) := dc9_167 (by decide +kernel)
theorem d_MS_comes_92 : decode y_MS_comes.2.1 92 = .ok (.istore 7, 2) := dc9_54 (by decide +kernel)
theorem d_MS_comes_94 : decode y_MS_comes.2.1 94 = .ok (.iload_n 3, 1) := dc9_29 (by decide +kernel)
theorem d_MS_comes_95 : decode y_MS_comes.2.1 95 = .ok (.ifCond .ne 8, 3) := dc9_154 (by decide +kernel)
theorem d_MS_comes_98 : decode y_MS_comes.2.1 98 = .ok (.iload 7, 2) := dc9_21 (by decide +kernel)
theorem d_MS_comes_100 : decode y_MS_comes.2.1 100 = .ok (.ifCond .eq 7, 3) := dc9_153 (by decide +kernel)
theorem d_MS_comes_107 : decode y_MS_comes.2.1 107 = .ok (.iconst 0, 1) := dc9_3 (by decide +kernel)
theorem d_MS_comes_103 : decode y_MS_comes.2.1 103 = .ok (.iconst 1, 1) := dc9_4 (by decide +kernel)
theorem d_MS_comes_104 : decode y_MS_comes.2.1 104 = .ok (.goto 4, 3) := dc9_167 (by decide +kernel)
theorem d_MS_comes_108 : decode y_MS_comes.2.1 108 = .ok (.istore_n 3, 1) := dc9_62 (by decide +kernel)
theorem d_MS_comes_109 : decode y_MS_comes.2.1 109 = .ok (.iload 4, 2) := dc9_21 (by decide +kernel)
theorem d_MS_comes_111 : decode y_MS_comes.2.1 111 = .ok (.ifCond .eq 17, 3) := dc9_153 (by decide +kernel)
theorem d_MS_comes_128 : decode y_MS_comes.2.1 128 = .ok (.iconst 0, 1) := dc9_3 (by decide +kernel)
theorem d_MS_comes_114 : decode y_MS_comes.2.1 114 = .ok (.iload 6, 2) := dc9_21 (by decide +kernel)
theorem d_MS_comes_116 : decode y_MS_comes.2.1 116 = .ok (.ifCond .eq 8, 3) := dc9_153 (by decide +kernel)
theorem d_MS_comes_124 : decode y_MS_comes.2.1 124 = .ok (.iconst 1, 1) := dc9_4 (by decide +kernel)
theorem d_MS_comes_125 : decode y_MS_comes.2.1 125 = .ok (.goto 4, 3) := dc9_167 (by decide +kernel)
theorem d_MS_comes_119 : decode y_MS_comes.2.1 119 = .ok (.iload 7, 2) := dc9_21 (by decide +kernel)
theorem d_MS_comes_121 : decode y_MS_comes.2.1 121 = .ok (.ifCond .eq 7, 3) := dc9_153 (by decide +kernel)
theorem d_MS_comes_129 : decode y_MS_comes.2.1 129 = .ok (.istore 4, 2) := dc9_54 (by decide +kernel)
theorem d_MS_comes_131 : decode y_MS_comes.2.1 131 = .ok (.iinc 5 1, 3) := by decide +kernel
theorem d_MS_comes_134 : decode y_MS_comes.2.1 134 = .ok (.goto (-114), 3) := dc9_167 (by decide +kernel)
def h_MS_comes_20 (G : mG) (d : Nat) (a0 : Nat) (l1 : Int) (l2 : Int) (l3 : Int) (l4 : Int) (l5 : Int) (M : mM) (Q : Int → mM → Prop) : Prop := mWm G y_MS_comes (d + 1) 20 [vr a0, vi l1, vi l2, vi l3, vi l4, vi l5, vd, vd] [] M (fun r9 M9 => ∃ x9, r9 = some (vi x9) ∧ Q x9 M9)
def h_MS_comes_70 (G : mG) (d : Nat) (a0 : Nat) (l1 : Int) (l2 : Int) (l3 : Int) (l4 : Int) (l5 : Int) (k0 : Int) (M : mM) (Q : Int → mM → Prop) : Prop := mWm G y_MS_comes (d + 1) 70 [vr a0, vi l1, vi l2, vi l3, vi l4, vi l5, vd, vd] [vi k0] M (fun r9 M9 => ∃ x9, r9 = some (vi x9) ∧ Q x9 M9)
def h_MS_comes_92 (G : mG) (d : Nat) (a0 : Nat) (l1 : Int) (l2 : Int) (l3 : Int) (l4 : Int) (l5 : Int) (l6 : Int) (k0 : Int) (M : mM) (Q : Int → mM → Prop) : Prop := mWm G y_MS_comes (d + 1) 92 [vr a0, vi l1, vi l2, vi l3, vi l4, vi l5, vi l6, vd] [vi k0] M (fun r9 M9 => ∃ x9, r9 = some (vi x9) ∧ Q x9 M9)
theorem k_MS_comes {G : mG} {d : Nat} {a0 : Nat} {l1 : Int} {l2 : Int} {M : mM} {Q : Int → mM → Prop} (hO : mOk M) (hi_l1 : i32 l1) (hi_l2 : i32 l2)
    (h : mK M a0 = 17 ∧ Ci G y_MS_many d [vr a0, vi l1] M (fun x3 M2 => i32 x3 ∧ mOk M2 ∧ (∀ v6 : Int, v6 = (if (x3 ≤ 0) then 0 else 1) → h_MS_comes_20 G d a0 l1 l2 0 v6 0 M2 Q))) :
    Ci G y_MS_comes (d + 1) [vr a0, vi l1, vi l2] M Q := by
  refine wm_open (y := y_MS_comes) rfl (Nat.le_of_ble_eq_true rfl) (L := [vr a0, vi l1, vi l2, vd, vd, vd, vd, vd]) rfl ?_
  obtain ⟨h1, h⟩ := h
  refine wm_iconst d_MS_comes_0 ?_
  refine wm_istore_n d_MS_comes_1 rfl (by decide) (L' := [vr a0, vi l1, vi l2, vi 0, vd, vd, vd, vd]) rfl ?_
  refine wm_aload_n d_MS_comes_2 rfl rfl ?_
  refine wm_iload_n d_MS_comes_3 rfl rfl ?_
  refine cf_MS_116 rfl d_MS_comes_4 h1 (Nat.le_of_ble_eq_true rfl) (Ci.mono h (fun x3 M2 h => ?_))
  obtain ⟨h4, hOM2, h⟩ := h
  have hJ : ∀ v6 : Int, v6 = (if (x3 ≤ 0) then 0 else 1) → mWm G y_MS_comes (d + 1) 15 [vr a0, vi l1, vi l2, vi 0, vd, vd, vd, vd] [vi v6] M2 (fun r9 M9 => ∃ x9, r9 = some (vi x9) ∧ Q x9 M9) := by
    intro v6 e8
    have h := h v6 e8
    have h9 : i32 v6 := by rw [e8]; (repeat' split) <;> first | exact ⟨by decide, by decide⟩ | exact ⟨by decide, by decide⟩
    have h10 : (v6 = 0 ∨ v6 = 1) := by rw [e8]; (repeat' split) <;> decide
    refine wm_istore d_MS_comes_15 (by decide) (L' := [vr a0, vi l1, vi l2, vi 0, vi v6, vd, vd, vd]) rfl ?_
    refine wm_iconst d_MS_comes_17 ?_
    refine wm_istore d_MS_comes_18 (by decide) (L' := [vr a0, vi l1, vi l2, vi 0, vi v6, vi 0, vd, vd]) rfl ?_
    exact h
  clear h
  refine wm_if_le (tgt := 14) d_MS_comes_7 rfl h4 (fun c5 => ?_) (fun c5 => ?_)
  · refine wm_iconst d_MS_comes_14 ?_
    exact hJ 0 (if_pos c5).symm
  · refine wm_iconst d_MS_comes_10 ?_
    refine wm_goto (tgt := 15) d_MS_comes_11 rfl ?_
    exact hJ 1 (if_neg c5).symm
theorem k_MS_comes_20 {G : mG} {d : Nat} {a0 : Nat} {l1 : Int} {l2 : Int} {l3 : Int} {l4 : Int} {l5 : Int} {M : mM} {Q : Int → mM → Prop} (hO : mOk M) (hi_l1 : i32 l1) (hi_l2 : i32 l2) (hi_l3 : i32 l3) (hi_l4 : i32 l4) (hi_l5 : i32 l5)
    (h : mK M a0 = 17 ∧ Ci G y_MS_many d [vr a0, vi l1] M (fun x14 M13 => i32 x14 ∧ mOk M13 ∧ (((x14 ≤ l5) → (mK M13 a0 = 17 ∧ mK M13 (mR M13 a0 4) = 30 ∧ ((0 : Int) ≤ l1 ∧ l1 < (mN M13 (mR M13 a0 4) : Int)) ∧ (¬ (mI M13 (mR M13 a0 4) (Int.toNat l1) = 1) → ((0 : Int) ≤ l1 ∧ l1 < (mN M13 (mR M13 a0 4) : Int))) ∧ ∀ v51 : Int, v51 = (if mI M13 (mR M13 a0 4) (Int.toNat l1) = 1 then l3 else (if mI M13 (mR M13 a0 4) (Int.toNat l1) = 2 then (if l4 = 0 then 0 else 1) else 0)) → (v51 = 0 ∨ v51 = 1) ∧ Q v51 M13)) ∧ (¬ (x14 ≤ l5) → (mK M13 a0 = 17 ∧ mK M13 (mR M13 a0 4) = 30 ∧ ((0 : Int) ≤ l1 ∧ l1 < (mN M13 (mR M13 a0 4) : Int)) ∧ (((¬ (mI M13 (mR M13 a0 4) (Int.toNat l1) = 1)) ∨ (l2 = 0)) → (Ci G y_MS_may d [vr a0, vi l1, vi l5] M13 (fun x68 M67 => i32 x68 ∧ mOk M67 ∧ (h_MS_comes_70 G d a0 l1 l2 l3 l4 l5 x68 M67 Q)))) ∧ (¬ ((¬ (mI M13 (mR M13 a0 4) (Int.toNat l1) = 1)) ∨ (l2 = 0)) → (mK M13 (mR M13 a0 18) = 30 ∧ ((0 : Int) ≤ l1 ∧ l1 < (mN M13 (mR M13 a0 18) : Int)) ∧ ((mI M13 (mR M13 a0 18) (Int.toNat l1) = l5) → (h_MS_comes_70 G d a0 l1 l2 l3 l4 l5 1 M13 Q)) ∧ (¬ (mI M13 (mR M13 a0 18) (Int.toNat l1) = l5) → (h_MS_comes_70 G d a0 l1 l2 l3 l4 l5 0 M13 Q))))))))) :
    h_MS_comes_20 G d a0 l1 l2 l3 l4 l5 M Q := by
  unfold h_MS_comes_20
  obtain ⟨h12, h⟩ := h
  refine wm_iload d_MS_comes_20 rfl ?_
  refine wm_aload_n d_MS_comes_22 rfl rfl ?_
  refine wm_iload_n d_MS_comes_23 rfl rfl ?_
  refine cf_MS_116 rfl d_MS_comes_24 h12 (Nat.le_of_ble_eq_true rfl) (Ci.mono h (fun x14 M13 h => ?_))
  obtain ⟨h15, hOM13, h⟩ := h
  refine wm_icmp_ge (tgt := 137) d_MS_comes_27 rfl hi_l5 h15 (fun c43 => ?_) (fun c43 => ?_)
  · replace h := h.1 c43
    obtain ⟨h44, h⟩ := h
    obtain ⟨h45, h⟩ := h
    obtain ⟨h46, h⟩ := h
    refine wm_aload_n d_MS_comes_137 rfl rfl ?_
    refine gf_MS_16 rfl d_MS_comes_138 h44 ?_
    refine wm_iload_n d_MS_comes_141 rfl rfl ?_
    refine wm_iald d_MS_comes_142 h45 h46 ?_
    refine wm_iconst d_MS_comes_143 ?_
    obtain ⟨s52, h⟩ := h
    have hJ : ∀ v51 : Int, v51 = (if mI M13 (mR M13 a0 4) (Int.toNat l1) = 1 then l3 else (if mI M13 (mR M13 a0 4) (Int.toNat l1) = 2 then (if l4 = 0 then 0 else 1) else 0)) → mWm G y_MS_comes (d + 1) 171 [vd, vd, vd, vd, vd, vd, vd, vd] [vi v51] M13 (fun r9 M9 => ∃ x9, r9 = some (vi x9) ∧ Q x9 M9) := by
      intro v51 e53
      have h := h v51 e53
      have h54 : i32 v51 := by rw [e53]; (repeat' split) <;> first | exact hi_l3 | exact ⟨by decide, by decide⟩ | exact ⟨by decide, by decide⟩
      obtain ⟨h55, h⟩ := h
      refine wm_ireturn d_MS_comes_171 rfl (m_nb h55) ?_
      exact ⟨_, rfl, h⟩
    clear h
    have s56 := s52
    refine wm_icmp_ne (tgt := 151) d_MS_comes_144 rfl (hOM13 _ _).1 ⟨by decide, by decide⟩ (fun c47 => ?_) (fun c47 => ?_)
    · have s56 := s56 c47
      have h48 := s56
      refine wm_aload_n d_MS_comes_151 rfl rfl ?_
      refine gf_MS_16 rfl d_MS_comes_152 h44 ?_
      refine wm_iload_n d_MS_comes_155 rfl rfl ?_
      refine wm_iald d_MS_comes_156 h45 h48 ?_
      refine wm_iconst d_MS_comes_157 ?_
      refine wm_icmp_ne (tgt := 170) d_MS_comes_158 rfl (hOM13 _ _).1 ⟨by decide, by decide⟩ (fun c49 => ?_) (fun c49 => ?_)
      · refine wm_iconst d_MS_comes_170 ?_
        refine wm_less (L' := [vd, vd, vd, vd, vd, vd, vd, vd]) ⟨Or.inl rfl, Or.inl rfl, Or.inl rfl, Or.inl rfl, Or.inl rfl, Or.inl rfl, Or.inl rfl, Or.inl rfl, trivial⟩ ?_
        exact hJ 0 (by rw [if_neg c47, if_neg c49])
      · replace c49 := Classical.not_not.mp c49
        refine wm_iload d_MS_comes_161 rfl ?_
        refine wm_if_eq (tgt := 170) d_MS_comes_163 rfl hi_l4 (fun c50 => ?_) (fun c50 => ?_)
        · refine wm_iconst d_MS_comes_170 ?_
          refine wm_less (L' := [vd, vd, vd, vd, vd, vd, vd, vd]) ⟨Or.inl rfl, Or.inl rfl, Or.inl rfl, Or.inl rfl, Or.inl rfl, Or.inl rfl, Or.inl rfl, Or.inl rfl, trivial⟩ ?_
          exact hJ 0 (by rw [if_neg c47, if_pos c49, if_pos c50])
        · refine wm_iconst d_MS_comes_166 ?_
          refine wm_goto (tgt := 171) d_MS_comes_167 rfl ?_
          refine wm_less (L' := [vd, vd, vd, vd, vd, vd, vd, vd]) ⟨Or.inl rfl, Or.inl rfl, Or.inl rfl, Or.inl rfl, Or.inl rfl, Or.inl rfl, Or.inl rfl, Or.inl rfl, trivial⟩ ?_
          exact hJ 1 (by rw [if_neg c47, if_pos c49, if_neg c50])
    · replace c47 := Classical.not_not.mp c47
      refine wm_iload_n d_MS_comes_147 rfl rfl ?_
      refine wm_goto (tgt := 171) d_MS_comes_148 rfl ?_
      refine wm_less (L' := [vd, vd, vd, vd, vd, vd, vd, vd]) ⟨Or.inl rfl, Or.inl rfl, Or.inl rfl, Or.inl rfl, Or.inl rfl, Or.inl rfl, Or.inl rfl, Or.inl rfl, trivial⟩ ?_
      exact hJ l3 (by rw [if_pos c47])
  · replace h := h.2 c43
    obtain ⟨h57, h⟩ := h
    obtain ⟨h58, h⟩ := h
    obtain ⟨h59, h⟩ := h
    refine wm_aload_n d_MS_comes_30 rfl rfl ?_
    refine gf_MS_16 rfl d_MS_comes_31 h57 ?_
    refine wm_iload_n d_MS_comes_34 rfl rfl ?_
    refine wm_iald d_MS_comes_35 h58 h59 ?_
    refine wm_iconst d_MS_comes_36 ?_
    have hE0 : ((¬ (mI M13 (mR M13 a0 4) (Int.toNat l1) = 1)) ∨ (l2 = 0)) → mWm G y_MS_comes (d + 1) 63 [vr a0, vi l1, vi l2, vi l3, vi l4, vi l5, vd, vd] [] M13 (fun r9 M9 => ∃ x9, r9 = some (vi x9) ∧ Q x9 M9) := by
      intro q66
      have h := h.1 q66
      refine wm_aload_n d_MS_comes_63 rfl rfl ?_
      refine wm_iload_n d_MS_comes_64 rfl rfl ?_
      refine wm_iload d_MS_comes_65 rfl ?_
      refine cf_MS_120 rfl d_MS_comes_67 h57 (Nat.le_of_ble_eq_true rfl) (Ci.mono h (fun x68 M67 h => ?_))
      obtain ⟨h69, hOM67, h⟩ := h
      exact h
    have hE1 : ¬ ((¬ (mI M13 (mR M13 a0 4) (Int.toNat l1) = 1)) ∨ (l2 = 0)) → mWm G y_MS_comes (d + 1) 44 [vr a0, vi l1, vi l2, vi l3, vi l4, vi l5, vd, vd] [] M13 (fun r9 M9 => ∃ x9, r9 = some (vi x9) ∧ Q x9 M9) := by
      intro q70
      have h := h.2 q70
      obtain ⟨h71, h⟩ := h
      obtain ⟨h72, h⟩ := h
      refine wm_aload_n d_MS_comes_44 rfl rfl ?_
      refine gf_MS_60 rfl d_MS_comes_45 h57 ?_
      refine wm_iload_n d_MS_comes_48 rfl rfl ?_
      refine wm_iald d_MS_comes_49 h71 h72 ?_
      refine wm_iload d_MS_comes_50 rfl ?_
      refine wm_icmp_ne (tgt := 59) d_MS_comes_52 rfl (hOM13 _ _).1 hi_l5 (fun c74 => ?_) (fun c74 => ?_)
      · replace h := h.2 c74
        refine wm_iconst d_MS_comes_59 ?_
        refine wm_goto (tgt := 70) d_MS_comes_60 rfl ?_
        exact h
      · replace c74 := Classical.not_not.mp c74
        replace h := h.1 c74
        refine wm_iconst d_MS_comes_55 ?_
        refine wm_goto (tgt := 70) d_MS_comes_56 rfl ?_
        exact h
    clear h
    refine wm_icmp_ne (tgt := 63) d_MS_comes_37 rfl (hOM13 _ _).1 ⟨by decide, by decide⟩ (fun c64 => ?_) (fun c64 => ?_)
    · exact hE0 (Or.inl c64)
    · replace c64 := Classical.not_not.mp c64
      refine wm_iload_n d_MS_comes_40 rfl rfl ?_
      refine wm_if_eq (tgt := 63) d_MS_comes_41 rfl hi_l2 (fun c63 => ?_) (fun c63 => ?_)
      · exact hE0 (Or.inr c63)
      · exact hE1 (fun z75 => Or.elim z75 (fun w => w c64) c63)
theorem k_MS_comes_70 {G : mG} {d : Nat} {a0 : Nat} {l1 : Int} {l2 : Int} {l3 : Int} {l4 : Int} {l5 : Int} {k0 : Int} {M : mM} {Q : Int → mM → Prop} (hO : mOk M) (hi_l1 : i32 l1) (hi_l2 : i32 l2) (hi_l3 : i32 l3) (hi_l4 : i32 l4) (hi_l5 : i32 l5) (hi_k0 : i32 k0)
    (h : ((k0 = 0) → (h_MS_comes_92 G d a0 l1 l2 l3 l4 l5 k0 0 M Q)) ∧ (¬ (k0 = 0) → (mK M a0 = 17 ∧ Ci G y_MS_leadsIn d [vr a0, vi l1, vi l5] M (fun x81 M80 => i32 x81 ∧ mOk M80 ∧ (((x81 = 0) → (h_MS_comes_92 G d a0 l1 l2 l3 l4 l5 k0 0 M80 Q)) ∧ (¬ (x81 = 0) → (h_MS_comes_92 G d a0 l1 l2 l3 l4 l5 k0 1 M80 Q))))))) :
    h_MS_comes_70 G d a0 l1 l2 l3 l4 l5 k0 M Q := by
  unfold h_MS_comes_70
  refine wm_istore d_MS_comes_70 (by decide) (L' := [vr a0, vi l1, vi l2, vi l3, vi l4, vi l5, vi k0, vd]) rfl ?_
  refine wm_iload d_MS_comes_72 rfl ?_
  refine wm_if_eq (tgt := 91) d_MS_comes_74 rfl hi_k0 (fun c78 => ?_) (fun c78 => ?_)
  · replace h := h.1 c78
    refine wm_iconst d_MS_comes_91 ?_
    exact h
  · replace h := h.2 c78
    obtain ⟨h79, h⟩ := h
    refine wm_aload_n d_MS_comes_77 rfl rfl ?_
    refine wm_iload_n d_MS_comes_78 rfl rfl ?_
    refine wm_iload d_MS_comes_79 rfl ?_
    refine cf_MS_124 rfl d_MS_comes_81 h79 (Nat.le_of_ble_eq_true rfl) (Ci.mono h (fun x81 M80 h => ?_))
    obtain ⟨h82, hOM80, h⟩ := h
    refine wm_if_eq (tgt := 91) d_MS_comes_84 rfl h82 (fun c84 => ?_) (fun c84 => ?_)
    · replace h := h.1 c84
      refine wm_iconst d_MS_comes_91 ?_
      exact h
    · replace h := h.2 c84
      refine wm_iconst d_MS_comes_87 ?_
      refine wm_goto (tgt := 92) d_MS_comes_88 rfl ?_
      exact h
theorem k_MS_comes_92 {G : mG} {d : Nat} {a0 : Nat} {l1 : Int} {l2 : Int} {l3 : Int} {l4 : Int} {l5 : Int} {l6 : Int} {k0 : Int} {M : mM} {Q : Int → mM → Prop} (hO : mOk M) (hi_l1 : i32 l1) (hi_l2 : i32 l2) (hi_l3 : i32 l3) (hi_l4 : i32 l4) (hi_l5 : i32 l5) (hi_l6 : i32 l6) (hi_k0 : i32 k0)
    (h : ∀ v87 : Int, v87 = (if ((l3 = 0) ∧ (k0 = 0)) then 0 else 1) → ∀ v95 : Int, v95 = (if ((l4 = 0) ∨ ((¬ (l6 = 0)) ∧ (k0 = 0))) then 0 else 1) → h_MS_comes_20 G d a0 l1 l2 v87 v95 (l5 + 1) M Q) :
    h_MS_comes_92 G d a0 l1 l2 l3 l4 l5 l6 k0 M Q := by
  unfold h_MS_comes_92
  refine wm_istore d_MS_comes_92 (by decide) (L' := [vr a0, vi l1, vi l2, vi l3, vi l4, vi l5, vi l6, vi k0]) rfl ?_
  refine wm_iload_n d_MS_comes_94 rfl rfl ?_
  have hJ : ∀ v87 : Int, v87 = (if ((l3 = 0) ∧ (k0 = 0)) then 0 else 1) → mWm G y_MS_comes (d + 1) 108 [vr a0, vi l1, vi l2, vd, vi l4, vi l5, vi l6, vi k0] [vi v87] M (fun r9 M9 => ∃ x9, r9 = some (vi x9) ∧ Q x9 M9) := by
    intro v87 e89
    have h := h v87 e89
    have h90 : i32 v87 := by rw [e89]; (repeat' split) <;> first | exact ⟨by decide, by decide⟩ | exact ⟨by decide, by decide⟩
    have h91 : (v87 = 0 ∨ v87 = 1) := by rw [e89]; (repeat' split) <;> decide
    refine wm_istore_n d_MS_comes_108 rfl (by decide) (L' := [vr a0, vi l1, vi l2, vi v87, vi l4, vi l5, vi l6, vi k0]) rfl ?_
    refine wm_iload d_MS_comes_109 rfl ?_
    have hJ : ∀ v95 : Int, v95 = (if ((l4 = 0) ∨ ((¬ (l6 = 0)) ∧ (k0 = 0))) then 0 else 1) → mWm G y_MS_comes (d + 1) 129 [vr a0, vi l1, vi l2, vi v87, vd, vi l5, vd, vd] [vi v95] M (fun r9 M9 => ∃ x9, r9 = some (vi x9) ∧ Q x9 M9) := by
      intro v95 e97
      have h := h v95 e97
      have h98 : i32 v95 := by rw [e97]; (repeat' split) <;> first | exact ⟨by decide, by decide⟩ | exact ⟨by decide, by decide⟩
      have h99 : (v95 = 0 ∨ v95 = 1) := by rw [e97]; (repeat' split) <;> decide
      refine wm_istore d_MS_comes_129 (by decide) (L' := [vr a0, vi l1, vi l2, vi v87, vi v95, vi l5, vd, vd]) rfl ?_
      refine wm_iinc d_MS_comes_131 (by decide) rfl (L' := [vr a0, vi l1, vi l2, vi v87, vi v95, vi (l5 + 1), vd, vd]) rfl ?_
      refine wm_goto (tgt := 20) d_MS_comes_134 rfl ?_
      exact h
    clear h
    refine wm_if_eq (tgt := 128) d_MS_comes_111 rfl hi_l4 (fun c92 => ?_) (fun c92 => ?_)
    · refine wm_iconst d_MS_comes_128 ?_
      refine wm_less (L' := [vr a0, vi l1, vi l2, vi v87, vd, vi l5, vd, vd]) ⟨Or.inr rfl, Or.inr rfl, Or.inr rfl, Or.inr rfl, Or.inl rfl, Or.inr rfl, Or.inl rfl, Or.inl rfl, trivial⟩ ?_
      exact hJ 0 (if_pos (Or.inl c92)).symm
    · refine wm_iload d_MS_comes_114 rfl ?_
      refine wm_if_eq (tgt := 124) d_MS_comes_116 rfl hi_l6 (fun c93 => ?_) (fun c93 => ?_)
      · refine wm_iconst d_MS_comes_124 ?_
        refine wm_goto (tgt := 129) d_MS_comes_125 rfl ?_
        refine wm_less (L' := [vr a0, vi l1, vi l2, vi v87, vd, vi l5, vd, vd]) ⟨Or.inr rfl, Or.inr rfl, Or.inr rfl, Or.inr rfl, Or.inl rfl, Or.inr rfl, Or.inl rfl, Or.inl rfl, trivial⟩ ?_
        exact hJ 1 (if_neg (fun z100 => Or.elim z100 c92 (fun z101 => z101.1 c93))).symm
      · refine wm_iload d_MS_comes_119 rfl ?_
        refine wm_if_eq (tgt := 128) d_MS_comes_121 rfl hi_k0 (fun c94 => ?_) (fun c94 => ?_)
        · refine wm_iconst d_MS_comes_128 ?_
          refine wm_less (L' := [vr a0, vi l1, vi l2, vi v87, vd, vi l5, vd, vd]) ⟨Or.inr rfl, Or.inr rfl, Or.inr rfl, Or.inr rfl, Or.inl rfl, Or.inr rfl, Or.inl rfl, Or.inl rfl, trivial⟩ ?_
          exact hJ 0 (if_pos (Or.inr ⟨c93, c94⟩)).symm
        · refine wm_iconst d_MS_comes_124 ?_
          refine wm_goto (tgt := 129) d_MS_comes_125 rfl ?_
          refine wm_less (L' := [vr a0, vi l1, vi l2, vi v87, vd, vi l5, vd, vd]) ⟨Or.inr rfl, Or.inr rfl, Or.inr rfl, Or.inr rfl, Or.inl rfl, Or.inr rfl, Or.inl rfl, Or.inl rfl, trivial⟩ ?_
          exact hJ 1 (if_neg (fun z102 => Or.elim z102 c92 (fun z103 => c94 z103.2))).symm
  clear h
  refine wm_if_ne (tgt := 103) d_MS_comes_95 rfl hi_l3 (fun c85 => ?_) (fun c85 => ?_)
  · refine wm_iconst d_MS_comes_103 ?_
    refine wm_goto (tgt := 108) d_MS_comes_104 rfl ?_
    refine wm_less (L' := [vr a0, vi l1, vi l2, vd, vi l4, vi l5, vi l6, vi k0]) ⟨Or.inr rfl, Or.inr rfl, Or.inr rfl, Or.inl rfl, Or.inr rfl, Or.inr rfl, Or.inr rfl, Or.inr rfl, trivial⟩ ?_
    exact hJ 1 (if_neg (fun z107 => c85 z107.1)).symm
  · replace c85 := Classical.not_not.mp c85
    refine wm_iload d_MS_comes_98 rfl ?_
    refine wm_if_eq (tgt := 107) d_MS_comes_100 rfl hi_k0 (fun c86 => ?_) (fun c86 => ?_)
    · refine wm_iconst d_MS_comes_107 ?_
      refine wm_less (L' := [vr a0, vi l1, vi l2, vd, vi l4, vi l5, vi l6, vi k0]) ⟨Or.inr rfl, Or.inr rfl, Or.inr rfl, Or.inl rfl, Or.inr rfl, Or.inr rfl, Or.inr rfl, Or.inr rfl, trivial⟩ ?_
      exact hJ 0 (if_pos ⟨c85, c86⟩).symm
    · refine wm_iconst d_MS_comes_103 ?_
      refine wm_goto (tgt := 108) d_MS_comes_104 rfl ?_
      refine wm_less (L' := [vr a0, vi l1, vi l2, vd, vi l4, vi l5, vi l6, vi k0]) ⟨Or.inr rfl, Or.inr rfl, Or.inr rfl, Or.inl rfl, Or.inr rfl, Or.inr rfl, Or.inr rfl, Or.inr rfl, trivial⟩ ?_
      exact hJ 1 (if_neg (fun z105 => c86 z105.2)).symm
theorem d_MS_grow_0 : decode y_MS_grow.2.1 0 = .ok (.iconst 0, 1) := dc9_3 (by decide +kernel)
theorem d_MS_grow_1 : decode y_MS_grow.2.1 1 = .ok (.istore_n 2, 1) := dc9_61 (by decide +kernel)
theorem d_MS_grow_2 : decode y_MS_grow.2.1 2 = .ok (.iload_n 2, 1) := dc9_28 (by decide +kernel)
theorem d_MS_grow_3 : decode y_MS_grow.2.1 3 = .ok (.aload_n 0, 1) := dc9_42 (by decide +kernel)
theorem d_MS_grow_4 : decode y_MS_grow.2.1 4 = .ok (.getfield 103, 3) := dc9_180 (by decide +kernel)
theorem d_MS_grow_7 : decode y_MS_grow.2.1 7 = .ok (.if_icmp .ge 30, 3) := dc9_162 (by decide +kernel)
theorem d_MS_grow_37 : decode y_MS_grow.2.1 37 = .ok (.iconst 1, 1) := dc9_4 (by decide +kernel)
theorem d_MS_grow_38 : decode y_MS_grow.2.1 38 = .ok (.istore_n 2, 1) := dc9_61 (by decide +kernel)
theorem d_MS_grow_10 : decode y_MS_grow.2.1 10 = .ok (.aload_n 0, 1) := dc9_42 (by decide +kernel)
theorem d_MS_grow_11 : decode y_MS_grow.2.1 11 = .ok (.getfield 63, 3) := dc9_180 (by decide +kernel)
theorem d_MS_grow_14 : decode y_MS_grow.2.1 14 = .ok (.iload_n 2, 1) := dc9_28 (by decide +kernel)
theorem d_MS_grow_15 : decode y_MS_grow.2.1 15 = .ok (.aload_n 0, 1) := dc9_42 (by decide +kernel)
theorem d_MS_grow_16 : decode y_MS_grow.2.1 16 = .ok (.getfield 16, 3) := dc9_180 (by decide +kernel)
theorem d_MS_grow_19 : decode y_MS_grow.2.1 19 = .ok (.iload_n 2, 1) := dc9_28 (by decide +kernel)
theorem d_MS_grow_20 : decode y_MS_grow.2.1 20 = .ok (.iaload, 1) := dc9_46 (by decide +kernel)
theorem d_MS_grow_21 : decode y_MS_grow.2.1 21 = .ok (.iconst 3, 1) := dc9_6 (by decide +kernel)
theorem d_MS_grow_22 : decode y_MS_grow.2.1 22 = .ok (.if_icmp .ne 7, 3) := dc9_160 (by decide +kernel)
theorem d_MS_grow_25 : decode y_MS_grow.2.1 25 = .ok (.iconst 1, 1) := dc9_4 (by decide +kernel)
theorem d_MS_grow_26 : decode y_MS_grow.2.1 26 = .ok (.goto 4, 3) := dc9_167 (by decide +kernel)
theorem d_MS_grow_29 : decode y_MS_grow.2.1 29 = .ok (.iconst 0, 1) := dc9_3 (by decide +kernel)
theorem d_MS_grow_30 : decode y_MS_grow.2.1 30 = .ok (.bastore, 1) := dc9_84 (by decide +kernel)
theorem d_MS_grow_31 : decode y_MS_grow.2.1 31 = .ok (.iinc 2 1, 3) := by decide +kernel
theorem d_MS_grow_34 : decode y_MS_grow.2.1 34 = .ok (.goto (-32), 3) := dc9_167 (by decide +kernel)
theorem d_MS_grow_39 : decode y_MS_grow.2.1 39 = .ok (.iload_n 2, 1) := dc9_28 (by decide +kernel)
theorem d_MS_grow_40 : decode y_MS_grow.2.1 40 = .ok (.ifCond .eq 51, 3) := dc9_153 (by decide +kernel)
theorem d_MS_grow_91 : decode y_MS_grow.2.1 91 = .ok (.return_, 1) := dc9_177 (by decide +kernel)
theorem d_MS_grow_43 : decode y_MS_grow.2.1 43 = .ok (.iconst 0, 1) := dc9_3 (by decide +kernel)
theorem d_MS_grow_44 : decode y_MS_grow.2.1 44 = .ok (.istore_n 2, 1) := dc9_61 (by decide +kernel)
theorem d_MS_grow_45 : decode y_MS_grow.2.1 45 = .ok (.iconst 0, 1) := dc9_3 (by decide +kernel)
theorem d_MS_grow_46 : decode y_MS_grow.2.1 46 = .ok (.istore_n 3, 1) := dc9_62 (by decide +kernel)
theorem d_MS_grow_47 : decode y_MS_grow.2.1 47 = .ok (.iload_n 3, 1) := dc9_29 (by decide +kernel)
theorem d_MS_grow_48 : decode y_MS_grow.2.1 48 = .ok (.aload_n 0, 1) := dc9_42 (by decide +kernel)
theorem d_MS_grow_49 : decode y_MS_grow.2.1 49 = .ok (.getfield 103, 3) := dc9_180 (by decide +kernel)
theorem d_MS_grow_52 : decode y_MS_grow.2.1 52 = .ok (.if_icmp .ge 36, 3) := dc9_162 (by decide +kernel)
theorem d_MS_grow_88 : decode y_MS_grow.2.1 88 = .ok (.goto (-49), 3) := dc9_167 (by decide +kernel)
theorem d_MS_grow_55 : decode y_MS_grow.2.1 55 = .ok (.aload_n 0, 1) := dc9_42 (by decide +kernel)
theorem d_MS_grow_56 : decode y_MS_grow.2.1 56 = .ok (.getfield 63, 3) := dc9_180 (by decide +kernel)
theorem d_MS_grow_59 : decode y_MS_grow.2.1 59 = .ok (.iload_n 3, 1) := dc9_29 (by decide +kernel)
theorem d_MS_grow_60 : decode y_MS_grow.2.1 60 = .ok (.baload, 1) := dc9_51 (by decide +kernel)
theorem d_MS_grow_61 : decode y_MS_grow.2.1 61 = .ok (.ifCond .ne 21, 3) := dc9_154 (by decide +kernel)
theorem d_MS_grow_64 : decode y_MS_grow.2.1 64 = .ok (.aload_n 0, 1) := dc9_42 (by decide +kernel)
theorem d_MS_grow_65 : decode y_MS_grow.2.1 65 = .ok (.iload_n 3, 1) := dc9_29 (by decide +kernel)
theorem d_MS_grow_66 : decode y_MS_grow.2.1 66 = .ok (.iload_n 1, 1) := dc9_27 (by decide +kernel)
theorem d_MS_grow_67 : decode y_MS_grow.2.1 67 = .ok (.invokevirtual 127, 3) := dc9_182 (by decide +kernel)
theorem d_MS_grow_70 : decode y_MS_grow.2.1 70 = .ok (.ifCond .eq 12, 3) := dc9_153 (by decide +kernel)
theorem d_MS_grow_73 : decode y_MS_grow.2.1 73 = .ok (.aload_n 0, 1) := dc9_42 (by decide +kernel)
theorem d_MS_grow_74 : decode y_MS_grow.2.1 74 = .ok (.getfield 63, 3) := dc9_180 (by decide +kernel)
theorem d_MS_grow_77 : decode y_MS_grow.2.1 77 = .ok (.iload_n 3, 1) := dc9_29 (by decide +kernel)
theorem d_MS_grow_78 : decode y_MS_grow.2.1 78 = .ok (.iconst 1, 1) := dc9_4 (by decide +kernel)
theorem d_MS_grow_79 : decode y_MS_grow.2.1 79 = .ok (.bastore, 1) := dc9_84 (by decide +kernel)
theorem d_MS_grow_80 : decode y_MS_grow.2.1 80 = .ok (.iconst 1, 1) := dc9_4 (by decide +kernel)
theorem d_MS_grow_81 : decode y_MS_grow.2.1 81 = .ok (.istore_n 2, 1) := dc9_61 (by decide +kernel)
theorem d_MS_grow_82 : decode y_MS_grow.2.1 82 = .ok (.iinc 3 1, 3) := by decide +kernel
theorem d_MS_grow_85 : decode y_MS_grow.2.1 85 = .ok (.goto (-38), 3) := dc9_167 (by decide +kernel)
def h_MS_grow_2 (G : mG) (d : Nat) (a0 : Nat) (l1 : Int) (l2 : Int) (M : mM) (Q : mM → Prop) : Prop := mWm G y_MS_grow (d + 1) 2 [vr a0, vi l1, vi l2, vd] [] M (fun r9 M9 => r9 = none ∧ Q M9)
def h_MS_grow_39 (G : mG) (d : Nat) (a0 : Nat) (l1 : Int) (l2 : Int) (M : mM) (Q : mM → Prop) : Prop := mWm G y_MS_grow (d + 1) 39 [vr a0, vi l1, vi l2, vd] [] M (fun r9 M9 => r9 = none ∧ Q M9)
def h_MS_grow_47 (G : mG) (d : Nat) (a0 : Nat) (l1 : Int) (l2 : Int) (l3 : Int) (M : mM) (Q : mM → Prop) : Prop := mWm G y_MS_grow (d + 1) 47 [vr a0, vi l1, vi l2, vi l3] [] M (fun r9 M9 => r9 = none ∧ Q M9)
theorem k_MS_grow {G : mG} {d : Nat} {a0 : Nat} {l1 : Int} {M : mM} {Q : mM → Prop} (hO : mOk M) (hi_l1 : i32 l1)
    (h : h_MS_grow_2 G d a0 l1 0 M Q) :
    Cv G y_MS_grow (d + 1) [vr a0, vi l1] M Q := by
  refine wm_open (y := y_MS_grow) rfl (Nat.le_of_ble_eq_true rfl) (L := [vr a0, vi l1, vd, vd]) rfl ?_
  refine wm_iconst d_MS_grow_0 ?_
  refine wm_istore_n d_MS_grow_1 rfl (by decide) (L' := [vr a0, vi l1, vi 0, vd]) rfl ?_
  exact h
theorem k_MS_grow_2 {G : mG} {d : Nat} {a0 : Nat} {l1 : Int} {l2 : Int} {M : mM} {Q : mM → Prop} (hO : mOk M) (hi_l1 : i32 l1) (hi_l2 : i32 l2)
    (h : mK M a0 = 17 ∧ ((mI M a0 1 ≤ l2) → (h_MS_grow_39 G d a0 l1 1 M Q)) ∧ (¬ (mI M a0 1 ≤ l2) → (mK M (mR M a0 4) = 30 ∧ ((0 : Int) ≤ l2 ∧ l2 < (mN M (mR M a0 4) : Int)) ∧ ∀ v9 : Int, v9 = (if (mI M (mR M a0 4) (Int.toNat l2) = 3) then 1 else 0) → mK M (mR M a0 19) = 31 ∧ ((0 : Int) ≤ l2 ∧ l2 < (mN M (mR M a0 19) : Int)) ∧ ∀ M16, M16 = mUI M (mR M a0 19) (Int.toNat l2) v9 → h_MS_grow_2 G d a0 l1 (l2 + 1) M16 Q))) :
    h_MS_grow_2 G d a0 l1 l2 M Q := by
  unfold h_MS_grow_2
  obtain ⟨h1, h⟩ := h
  refine wm_iload_n d_MS_grow_2 rfl rfl ?_
  refine wm_aload_n d_MS_grow_3 rfl rfl ?_
  refine gf_MS_103 rfl d_MS_grow_4 h1 ?_
  refine wm_icmp_ge (tgt := 37) d_MS_grow_7 rfl hi_l2 (hO _ _).1 (fun c5 => ?_) (fun c5 => ?_)
  · replace h := h.1 c5
    refine wm_iconst d_MS_grow_37 ?_
    refine wm_istore_n d_MS_grow_38 rfl (by decide) (L' := [vr a0, vi l1, vi 1, vd]) rfl ?_
    exact h
  · replace h := h.2 c5
    obtain ⟨h6, h⟩ := h
    obtain ⟨h7, h⟩ := h
    refine wm_aload_n d_MS_grow_10 rfl rfl ?_
    refine gf_MS_63 rfl d_MS_grow_11 h1 ?_
    refine wm_iload_n d_MS_grow_14 rfl rfl ?_
    refine wm_aload_n d_MS_grow_15 rfl rfl ?_
    refine gf_MS_16 rfl d_MS_grow_16 h1 ?_
    refine wm_iload_n d_MS_grow_19 rfl rfl ?_
    refine wm_iald d_MS_grow_20 h6 h7 ?_
    refine wm_iconst d_MS_grow_21 ?_
    have hJ : ∀ v9 : Int, v9 = (if (mI M (mR M a0 4) (Int.toNat l2) = 3) then 1 else 0) → mWm G y_MS_grow (d + 1) 30 [vr a0, vi l1, vi l2, vd] [vi v9, vi l2, vr (mR M a0 19)] M (fun r9 M9 => r9 = none ∧ Q M9) := by
      intro v9 e11
      have h := h v9 e11
      have h12 : i32 v9 := by rw [e11]; (repeat' split) <;> first | exact ⟨by decide, by decide⟩ | exact ⟨by decide, by decide⟩
      have h13 : (v9 = 0 ∨ v9 = 1) := by rw [e11]; (repeat' split) <;> decide
      obtain ⟨h14, h⟩ := h
      obtain ⟨h15, h⟩ := h
      obtain ⟨M16, e17⟩ : ∃ M16, M16 = mUI M (mR M a0 19) (Int.toNat l2) v9 := ⟨_, rfl⟩
      replace h := h M16 e17
      have hOM16 : mOk M16 := by rw [e17]; exact mOk_UI hO (m_b32 h13)
      refine wm_zastE d_MS_grow_30 h14 h15 h13 e17 ?_
      refine wm_iinc d_MS_grow_31 (by decide) rfl (L' := [vr a0, vi l1, vi (l2 + 1), vd]) rfl ?_
      refine wm_goto (tgt := 2) d_MS_grow_34 rfl ?_
      exact h
    clear h
    refine wm_icmp_ne (tgt := 29) d_MS_grow_22 rfl (hO _ _).1 ⟨by decide, by decide⟩ (fun c8 => ?_) (fun c8 => ?_)
    · refine wm_iconst d_MS_grow_29 ?_
      exact hJ 0 (if_neg c8).symm
    · replace c8 := Classical.not_not.mp c8
      refine wm_iconst d_MS_grow_25 ?_
      refine wm_goto (tgt := 30) d_MS_grow_26 rfl ?_
      exact hJ 1 (if_pos c8).symm
theorem k_MS_grow_39 {G : mG} {d : Nat} {a0 : Nat} {l1 : Int} {l2 : Int} {M : mM} {Q : mM → Prop} (hO : mOk M) (hi_l1 : i32 l1) (hi_l2 : i32 l2)
    (h : ((l2 = 0) → (Q M)) ∧ (¬ (l2 = 0) → (h_MS_grow_47 G d a0 l1 0 0 M Q))) :
    h_MS_grow_39 G d a0 l1 l2 M Q := by
  unfold h_MS_grow_39
  refine wm_iload_n d_MS_grow_39 rfl rfl ?_
  refine wm_if_eq (tgt := 91) d_MS_grow_40 rfl hi_l2 (fun c20 => ?_) (fun c20 => ?_)
  · replace h := h.1 c20
    refine wm_return d_MS_grow_91 rfl ?_
    exact ⟨rfl, h⟩
  · replace h := h.2 c20
    refine wm_iconst d_MS_grow_43 ?_
    refine wm_istore_n d_MS_grow_44 rfl (by decide) (L' := [vr a0, vi l1, vi 0, vd]) rfl ?_
    refine wm_iconst d_MS_grow_45 ?_
    refine wm_istore_n d_MS_grow_46 rfl (by decide) (L' := [vr a0, vi l1, vi 0, vi 0]) rfl ?_
    exact h
theorem k_MS_grow_47 {G : mG} {d : Nat} {a0 : Nat} {l1 : Int} {l2 : Int} {l3 : Int} {M : mM} {Q : mM → Prop} (hO : mOk M) (hi_l1 : i32 l1) (hi_l2 : i32 l2) (hi_l3 : i32 l3)
    (h : mK M a0 = 17 ∧ ((mI M a0 1 ≤ l3) → (h_MS_grow_39 G d a0 l1 l2 M Q)) ∧ (¬ (mI M a0 1 ≤ l3) → (mK M (mR M a0 19) = 31 ∧ ((0 : Int) ≤ l3 ∧ l3 < (mN M (mR M a0 19) : Int)) ∧ ((mI M (mR M a0 19) (Int.toNat l3) = 0) → (Ci G y_MS_comes d [vr a0, vi l3, vi l1] M (fun x33 M32 => i32 x33 ∧ mOk M32 ∧ ((¬ (x33 = 0) → (mK M32 a0 = 17 ∧ mK M32 (mR M32 a0 19) = 31 ∧ ((0 : Int) ≤ l3 ∧ l3 < (mN M32 (mR M32 a0 19) : Int)))) ∧ ∀ v39 : Int, v39 = (if (x33 = 0) then l2 else 1) → ∀ M40 : mM, M40 = (if (x33 = 0) then M32 else (mUI M32 (mR M32 a0 19) (Int.toNat l3) 1)) → mOk M40 ∧ h_MS_grow_47 G d a0 l1 v39 (l3 + 1) M40 Q)))) ∧ (¬ (mI M (mR M a0 19) (Int.toNat l3) = 0) → (h_MS_grow_47 G d a0 l1 l2 (l3 + 1) M Q))))) :
    h_MS_grow_47 G d a0 l1 l2 l3 M Q := by
  unfold h_MS_grow_47
  obtain ⟨h21, h⟩ := h
  refine wm_iload_n d_MS_grow_47 rfl rfl ?_
  refine wm_aload_n d_MS_grow_48 rfl rfl ?_
  refine gf_MS_103 rfl d_MS_grow_49 h21 ?_
  refine wm_icmp_ge (tgt := 88) d_MS_grow_52 rfl hi_l3 (hO _ _).1 (fun c26 => ?_) (fun c26 => ?_)
  · replace h := h.1 c26
    refine wm_goto (tgt := 39) d_MS_grow_88 rfl ?_
    refine wm_less (L' := [vr a0, vi l1, vi l2, vd]) ⟨Or.inr rfl, Or.inr rfl, Or.inr rfl, Or.inl rfl, trivial⟩ ?_
    exact h
  · replace h := h.2 c26
    obtain ⟨h27, h⟩ := h
    obtain ⟨h28, h⟩ := h
    refine wm_aload_n d_MS_grow_55 rfl rfl ?_
    refine gf_MS_63 rfl d_MS_grow_56 h21 ?_
    refine wm_iload_n d_MS_grow_59 rfl rfl ?_
    refine wm_zald d_MS_grow_60 h27 h28 ?_
    refine wm_if_ne (tgt := 82) d_MS_grow_61 rfl (hO _ _).1 (fun c31 => ?_) (fun c31 => ?_)
    · replace h := h.2 c31
      refine wm_iinc d_MS_grow_82 (by decide) rfl (L' := [vr a0, vi l1, vi l2, vi (l3 + 1)]) rfl ?_
      refine wm_goto (tgt := 47) d_MS_grow_85 rfl ?_
      exact h
    · replace c31 := Classical.not_not.mp c31
      replace h := h.1 c31
      refine wm_aload_n d_MS_grow_64 rfl rfl ?_
      refine wm_iload_n d_MS_grow_65 rfl rfl ?_
      refine wm_iload_n d_MS_grow_66 rfl rfl ?_
      refine cf_MS_127 rfl d_MS_grow_67 h21 (Nat.le_of_ble_eq_true rfl) (Ci.mono h (fun x33 M32 h => ?_))
      obtain ⟨h34, hOM32, h⟩ := h
      obtain ⟨s41, h⟩ := h
      have hJ : ∀ v39 : Int, v39 = (if (x33 = 0) then l2 else 1) → ∀ M40 : mM, M40 = (if (x33 = 0) then M32 else (mUI M32 (mR M32 a0 19) (Int.toNat l3) 1)) → mWm G y_MS_grow (d + 1) 82 [vr a0, vi l1, vi v39, vi l3] [] M40 (fun r9 M9 => r9 = none ∧ Q M9) := by
        intro v39 e42
        intro M40 e43
        have h := h v39 e42 M40 e43
        have h44 : i32 v39 := by rw [e42]; (repeat' split) <;> first | exact hi_l2 | exact ⟨by decide, by decide⟩
        have h45 : mK M40 = mK M32 := by rw [e43]; (repeat' split) <;> rfl
        obtain ⟨hOM40, h⟩ := h
        refine wm_iinc d_MS_grow_82 (by decide) rfl (L' := [vr a0, vi l1, vi v39, vi (l3 + 1)]) rfl ?_
        refine wm_goto (tgt := 47) d_MS_grow_85 rfl ?_
        exact h
      clear h
      have s46 := s41
      refine wm_if_eq (tgt := 82) d_MS_grow_70 rfl h34 (fun c35 => ?_) (fun c35 => ?_)
      · exact hJ l2 (if_pos c35).symm M32 (if_pos c35).symm
      · have s46 := s46 c35
        obtain ⟨h36, h37, h38⟩ := s46
        refine wm_aload_n d_MS_grow_73 rfl rfl ?_
        refine gf_MS_63 rfl d_MS_grow_74 h36 ?_
        refine wm_iload_n d_MS_grow_77 rfl rfl ?_
        refine wm_iconst d_MS_grow_78 ?_
        refine wm_zastE d_MS_grow_79 h37 h38 (by decide) rfl ?_
        refine wm_iconst d_MS_grow_80 ?_
        refine wm_istore_n d_MS_grow_81 rfl (by decide) (L' := [vr a0, vi l1, vi 1, vi l3]) rfl ?_
        exact hJ 1 (if_neg c35).symm (mUI M32 (mR M32 a0 19) (Int.toNat l3) 1) (if_neg c35).symm
theorem d_MS_weight_0 : decode y_MS_weight.2.1 0 = .ok (.iconst 0, 1) := dc9_3 (by decide +kernel)
theorem d_MS_weight_1 : decode y_MS_weight.2.1 1 = .ok (.istore_n 2, 1) := dc9_61 (by decide +kernel)
theorem d_MS_weight_2 : decode y_MS_weight.2.1 2 = .ok (.lconst 1, 1) := dc9_10 (by decide +kernel)
theorem d_MS_weight_3 : decode y_MS_weight.2.1 3 = .ok (.iload_n 2, 1) := dc9_28 (by decide +kernel)
theorem d_MS_weight_4 : decode y_MS_weight.2.1 4 = .ok (.lshl, 1) := dc9_121 (by decide +kernel)
theorem d_MS_weight_5 : decode y_MS_weight.2.1 5 = .ok (.ldc2_w 131, 3) := dc9_20 (by decide +kernel)
theorem d_MS_weight_8 : decode y_MS_weight.2.1 8 = .ok (.lload_n 0, 1) := dc9_30 (by decide +kernel)
theorem d_MS_weight_9 : decode y_MS_weight.2.1 9 = .ok (.lmul, 1) := dc9_105 (by decide +kernel)
theorem d_MS_weight_10 : decode y_MS_weight.2.1 10 = .ok (.lcmp, 1) := dc9_148 (by decide +kernel)
theorem d_MS_weight_11 : decode y_MS_weight.2.1 11 = .ok (.ifCond .ge 9, 3) := dc9_156 (by decide +kernel)
theorem d_MS_weight_20 : decode y_MS_weight.2.1 20 = .ok (.iload_n 2, 1) := dc9_28 (by decide +kernel)
theorem d_MS_weight_21 : decode y_MS_weight.2.1 21 = .ok (.ireturn, 1) := dc9_172 (by decide +kernel)
theorem d_MS_weight_14 : decode y_MS_weight.2.1 14 = .ok (.iinc 2 1, 3) := by decide +kernel
theorem d_MS_weight_17 : decode y_MS_weight.2.1 17 = .ok (.goto (-15), 3) := dc9_167 (by decide +kernel)
def h_MS_weight_2 (G : mG) (d : Nat) (j0 : Int) (l2 : Int) (M : mM) (Q : Int → mM → Prop) : Prop := mWm G y_MS_weight d 2 [vl j0, vd, vi l2] [] M (fun r9 M9 => ∃ x9, r9 = some (vi x9) ∧ Q x9 M9)
theorem k_MS_weight {G : mG} {d : Nat} {j0 : Int} {M : mM} {Q : Int → mM → Prop} (hO : mOk M) (hi_j0 : i64 j0)
    (h : h_MS_weight_2 G d j0 0 M Q) :
    Ci G y_MS_weight d [vl j0] M Q := by
  refine wm_open (y := y_MS_weight) rfl (Nat.le_of_ble_eq_true rfl) (L := [vl j0, vd, vd]) rfl ?_
  refine wm_iconst d_MS_weight_0 ?_
  refine wm_istore_n d_MS_weight_1 rfl (by decide) (L' := [vl j0, vd, vi 0]) rfl ?_
  exact h
theorem k_MS_weight_2 {G : mG} {d : Nat} {j0 : Int} {l2 : Int} {M : mM} {Q : Int → mM → Prop} (hO : mOk M) (hi_j0 : i64 j0) (hi_l2 : i32 l2)
    (h : i64 (2 * j0) ∧ ((0 ≤ cmpL (shlL 1 l2) (2 * j0)) → (Q l2 M)) ∧ (¬ (0 ≤ cmpL (shlL 1 l2) (2 * j0)) → (h_MS_weight_2 G d j0 (l2 + 1) M Q))) :
    h_MS_weight_2 G d j0 l2 M Q := by
  unfold h_MS_weight_2
  obtain ⟨h1, h⟩ := h
  refine wm_lconst (x := 1) d_MS_weight_2 rfl ?_
  refine wm_iload_n d_MS_weight_3 rfl rfl ?_
  refine wm_lshl d_MS_weight_4 ?_
  refine wm_ldc2 (x := 2) d_MS_weight_5 k12_220 (by decide) ?_
  refine wm_lload_n d_MS_weight_8 rfl rfl ?_
  refine wm_lmul d_MS_weight_9 ?_
  refine wm_lcmp d_MS_weight_10 (m_i64 _) h1 ?_
  refine wm_if_ge (tgt := 20) d_MS_weight_11 rfl (m_cmp32 _ _) (fun c3 => ?_) (fun c3 => ?_)
  · replace h := h.1 c3
    refine wm_iload_n d_MS_weight_20 rfl rfl ?_
    refine wm_ireturn d_MS_weight_21 rfl rfl ?_
    exact ⟨_, rfl, h⟩
  · replace h := h.2 c3
    refine wm_iinc d_MS_weight_14 (by decide) rfl (L' := [vl j0, vd, vi (l2 + 1)]) rfl ?_
    refine wm_goto (tgt := 2) d_MS_weight_17 rfl ?_
    exact h
theorem d_MS_look_0 : decode y_MS_look.2.1 0 = .ok (.aload_n 0, 1) := dc9_42 (by decide +kernel)
theorem d_MS_look_1 : decode y_MS_look.2.1 1 = .ok (.iconst 0, 1) := dc9_3 (by decide +kernel)
theorem d_MS_look_2 : decode y_MS_look.2.1 2 = .ok (.invokevirtual 133, 3) := dc9_182 (by decide +kernel)
theorem d_MS_look_5 : decode y_MS_look.2.1 5 = .ok (.iconst 0, 1) := dc9_3 (by decide +kernel)
theorem d_MS_look_6 : decode y_MS_look.2.1 6 = .ok (.istore_n 1, 1) := dc9_60 (by decide +kernel)
theorem d_MS_look_7 : decode y_MS_look.2.1 7 = .ok (.iconst 0, 1) := dc9_3 (by decide +kernel)
theorem d_MS_look_8 : decode y_MS_look.2.1 8 = .ok (.istore_n 2, 1) := dc9_61 (by decide +kernel)
theorem d_MS_look_9 : decode y_MS_look.2.1 9 = .ok (.iconst 0, 1) := dc9_3 (by decide +kernel)
theorem d_MS_look_10 : decode y_MS_look.2.1 10 = .ok (.istore_n 3, 1) := dc9_62 (by decide +kernel)
theorem d_MS_look_11 : decode y_MS_look.2.1 11 = .ok (.iload_n 3, 1) := dc9_29 (by decide +kernel)
theorem d_MS_look_12 : decode y_MS_look.2.1 12 = .ok (.aload_n 0, 1) := dc9_42 (by decide +kernel)
theorem d_MS_look_13 : decode y_MS_look.2.1 13 = .ok (.getfield 103, 3) := dc9_180 (by decide +kernel)
theorem d_MS_look_16 : decode y_MS_look.2.1 16 = .ok (.if_icmp .ge 104, 3) := dc9_162 (by decide +kernel)
theorem d_MS_look_120 : decode y_MS_look.2.1 120 = .ok (.iload_n 1, 1) := dc9_27 (by decide +kernel)
theorem d_MS_look_121 : decode y_MS_look.2.1 121 = .ok (.bipush 40, 2) := dc9_16 (by decide +kernel)
theorem d_MS_look_19 : decode y_MS_look.2.1 19 = .ok (.aload_n 0, 1) := dc9_42 (by decide +kernel)
theorem d_MS_look_20 : decode y_MS_look.2.1 20 = .ok (.getfield 63, 3) := dc9_180 (by decide +kernel)
theorem d_MS_look_23 : decode y_MS_look.2.1 23 = .ok (.iload_n 3, 1) := dc9_29 (by decide +kernel)
theorem d_MS_look_24 : decode y_MS_look.2.1 24 = .ok (.baload, 1) := dc9_51 (by decide +kernel)
theorem d_MS_look_123 : decode y_MS_look.2.1 123 = .ok (.if_icmp .le 7, 3) := dc9_164 (by decide +kernel)
theorem d_MS_look_130 : decode y_MS_look.2.1 130 = .ok (.iload_n 2, 1) := dc9_28 (by decide +kernel)
theorem d_MS_look_131 : decode y_MS_look.2.1 131 = .ok (.sipush 480, 3) := dc9_17 (by decide +kernel)
theorem d_MS_look_126 : decode y_MS_look.2.1 126 = .ok (.iconst 5, 1) := dc9_8 (by decide +kernel)
theorem d_MS_look_127 : decode y_MS_look.2.1 127 = .ok (.goto 16, 3) := dc9_167 (by decide +kernel)
theorem d_MS_look_143 : decode y_MS_look.2.1 143 = .ok (.ireturn, 1) := dc9_172 (by decide +kernel)
theorem d_MS_look_134 : decode y_MS_look.2.1 134 = .ok (.if_icmp .le 8, 3) := dc9_164 (by decide +kernel)
theorem d_MS_look_142 : decode y_MS_look.2.1 142 = .ok (.iconst 0, 1) := dc9_3 (by decide +kernel)
theorem d_MS_look_137 : decode y_MS_look.2.1 137 = .ok (.bipush 6, 2) := dc9_16 (by decide +kernel)
theorem d_MS_look_139 : decode y_MS_look.2.1 139 = .ok (.goto 4, 3) := dc9_167 (by decide +kernel)
theorem d_MS_look_25 : decode y_MS_look.2.1 25 = .ok (.ifCond .eq 89, 3) := dc9_153 (by decide +kernel)
theorem d_MS_look_28 : decode y_MS_look.2.1 28 = .ok (.aload_n 0, 1) := dc9_42 (by decide +kernel)
theorem d_MS_look_29 : decode y_MS_look.2.1 29 = .ok (.getfield 16, 3) := dc9_180 (by decide +kernel)
theorem d_MS_look_32 : decode y_MS_look.2.1 32 = .ok (.iload_n 3, 1) := dc9_29 (by decide +kernel)
theorem d_MS_look_33 : decode y_MS_look.2.1 33 = .ok (.iaload, 1) := dc9_46 (by decide +kernel)
theorem d_MS_look_34 : decode y_MS_look.2.1 34 = .ok (.iconst 3, 1) := dc9_6 (by decide +kernel)
theorem d_MS_look_35 : decode y_MS_look.2.1 35 = .ok (.if_icmp .eq 79, 3) := dc9_159 (by decide +kernel)
theorem d_MS_look_38 : decode y_MS_look.2.1 38 = .ok (.iinc 1 1, 3) := by decide +kernel
theorem d_MS_look_41 : decode y_MS_look.2.1 41 = .ok (.iconst 1, 1) := dc9_4 (by decide +kernel)
theorem d_MS_look_42 : decode y_MS_look.2.1 42 = .ok (.istore 4, 2) := dc9_54 (by decide +kernel)
theorem d_MS_look_44 : decode y_MS_look.2.1 44 = .ok (.iconst 0, 1) := dc9_3 (by decide +kernel)
theorem d_MS_look_45 : decode y_MS_look.2.1 45 = .ok (.istore 5, 2) := dc9_54 (by decide +kernel)
theorem d_MS_look_114 : decode y_MS_look.2.1 114 = .ok (.iinc 3 1, 3) := by decide +kernel
theorem d_MS_look_117 : decode y_MS_look.2.1 117 = .ok (.goto (-106), 3) := dc9_167 (by decide +kernel)
theorem d_MS_look_47 : decode y_MS_look.2.1 47 = .ok (.iload 5, 2) := dc9_21 (by decide +kernel)
theorem d_MS_look_49 : decode y_MS_look.2.1 49 = .ok (.aload_n 0, 1) := dc9_42 (by decide +kernel)
theorem d_MS_look_50 : decode y_MS_look.2.1 50 = .ok (.iload_n 3, 1) := dc9_29 (by decide +kernel)
theorem d_MS_look_51 : decode y_MS_look.2.1 51 = .ok (.invokevirtual 116, 3) := dc9_182 (by decide +kernel)
theorem d_MS_look_54 : decode y_MS_look.2.1 54 = .ok (.if_icmp .ge 51, 3) := dc9_162 (by decide +kernel)
theorem d_MS_look_105 : decode y_MS_look.2.1 105 = .ok (.iload_n 2, 1) := dc9_28 (by decide +kernel)
theorem d_MS_look_106 : decode y_MS_look.2.1 106 = .ok (.iload 4, 2) := dc9_21 (by decide +kernel)
theorem d_MS_look_108 : decode y_MS_look.2.1 108 = .ok (.i2l, 1) := dc9_133 (by decide +kernel)
theorem d_MS_look_57 : decode y_MS_look.2.1 57 = .ok (.aload_n 0, 1) := dc9_42 (by decide +kernel)
theorem d_MS_look_58 : decode y_MS_look.2.1 58 = .ok (.getfield 23, 3) := dc9_180 (by decide +kernel)
theorem d_MS_look_61 : decode y_MS_look.2.1 61 = .ok (.aload_n 0, 1) := dc9_42 (by decide +kernel)
theorem d_MS_look_62 : decode y_MS_look.2.1 62 = .ok (.getfield 20, 3) := dc9_180 (by decide +kernel)
theorem d_MS_look_65 : decode y_MS_look.2.1 65 = .ok (.iload_n 3, 1) := dc9_29 (by decide +kernel)
theorem d_MS_look_66 : decode y_MS_look.2.1 66 = .ok (.iaload, 1) := dc9_46 (by decide +kernel)
theorem d_MS_look_67 : decode y_MS_look.2.1 67 = .ok (.iload 5, 2) := dc9_21 (by decide +kernel)
theorem d_MS_look_69 : decode y_MS_look.2.1 69 = .ok (.iadd, 1) := dc9_96 (by decide +kernel)
theorem d_MS_look_70 : decode y_MS_look.2.1 70 = .ok (.iaload, 1) := dc9_46 (by decide +kernel)
theorem d_MS_look_71 : decode y_MS_look.2.1 71 = .ok (.istore 6, 2) := dc9_54 (by decide +kernel)
theorem d_MS_look_73 : decode y_MS_look.2.1 73 = .ok (.aload_n 0, 1) := dc9_42 (by decide +kernel)
theorem d_MS_look_74 : decode y_MS_look.2.1 74 = .ok (.iload_n 3, 1) := dc9_29 (by decide +kernel)
theorem d_MS_look_75 : decode y_MS_look.2.1 75 = .ok (.iload 5, 2) := dc9_21 (by decide +kernel)
theorem d_MS_look_109 : decode y_MS_look.2.1 109 = .ok (.invokestatic 137, 3) := dc9_184 (by decide +kernel)
theorem d_MS_look_112 : decode y_MS_look.2.1 112 = .ok (.iadd, 1) := dc9_96 (by decide +kernel)
theorem d_MS_look_113 : decode y_MS_look.2.1 113 = .ok (.istore_n 2, 1) := dc9_61 (by decide +kernel)
theorem d_MS_look_77 : decode y_MS_look.2.1 77 = .ok (.invokevirtual 120, 3) := dc9_182 (by decide +kernel)
theorem d_MS_look_80 : decode y_MS_look.2.1 80 = .ok (.ifCond .eq 15, 3) := dc9_153 (by decide +kernel)
theorem d_MS_look_95 : decode y_MS_look.2.1 95 = .ok (.iload 4, 2) := dc9_21 (by decide +kernel)
theorem d_MS_look_83 : decode y_MS_look.2.1 83 = .ok (.iload 6, 2) := dc9_21 (by decide +kernel)
theorem d_MS_look_85 : decode y_MS_look.2.1 85 = .ok (.iload 4, 2) := dc9_21 (by decide +kernel)
theorem d_MS_look_87 : decode y_MS_look.2.1 87 = .ok (.if_icmp .le 8, 3) := dc9_164 (by decide +kernel)
theorem d_MS_look_90 : decode y_MS_look.2.1 90 = .ok (.iload 6, 2) := dc9_21 (by decide +kernel)
theorem d_MS_look_92 : decode y_MS_look.2.1 92 = .ok (.goto 5, 3) := dc9_167 (by decide +kernel)
theorem d_MS_look_97 : decode y_MS_look.2.1 97 = .ok (.istore 4, 2) := dc9_54 (by decide +kernel)
theorem d_MS_look_99 : decode y_MS_look.2.1 99 = .ok (.iinc 5 1, 3) := by decide +kernel
theorem d_MS_look_102 : decode y_MS_look.2.1 102 = .ok (.goto (-55), 3) := dc9_167 (by decide +kernel)
def h_MS_look_11 (G : mG) (d : Nat) (a0 : Nat) (l1 : Int) (l2 : Int) (l3 : Int) (M : mM) (Q : Int → mM → Prop) : Prop := mWm G y_MS_look (d + 1) 11 [vr a0, vi l1, vi l2, vi l3, vd, vd, vd] [] M (fun r9 M9 => ∃ x9, r9 = some (vi x9) ∧ Q x9 M9)
def h_MS_look_47 (G : mG) (d : Nat) (a0 : Nat) (l1 : Int) (l2 : Int) (l3 : Int) (l4 : Int) (l5 : Int) (M : mM) (Q : Int → mM → Prop) : Prop := mWm G y_MS_look (d + 1) 47 [vr a0, vi l1, vi l2, vi l3, vi l4, vi l5, vd] [] M (fun r9 M9 => ∃ x9, r9 = some (vi x9) ∧ Q x9 M9)
theorem k_MS_look {G : mG} {d : Nat} {a0 : Nat} {M : mM} {Q : Int → mM → Prop} (hO : mOk M)
    (h : mK M a0 = 17 ∧ Cv G y_MS_grow d [vr a0, vi 0] M (fun M2 => mOk M2 ∧ (h_MS_look_11 G d a0 0 0 0 M2 Q))) :
    Ci G y_MS_look (d + 1) [vr a0] M Q := by
  refine wm_open (y := y_MS_look) rfl (Nat.le_of_ble_eq_true rfl) (L := [vr a0, vd, vd, vd, vd, vd, vd]) rfl ?_
  obtain ⟨h1, h⟩ := h
  refine wm_aload_n d_MS_look_0 rfl rfl ?_
  refine wm_iconst d_MS_look_1 ?_
  refine cf_MS_133 rfl d_MS_look_2 h1 (Nat.le_of_ble_eq_true rfl) (Cv.mono h (fun M2 h => ?_))
  obtain ⟨hOM2, h⟩ := h
  refine wm_iconst d_MS_look_5 ?_
  refine wm_istore_n d_MS_look_6 rfl (by decide) (L' := [vr a0, vi 0, vd, vd, vd, vd, vd]) rfl ?_
  refine wm_iconst d_MS_look_7 ?_
  refine wm_istore_n d_MS_look_8 rfl (by decide) (L' := [vr a0, vi 0, vi 0, vd, vd, vd, vd]) rfl ?_
  refine wm_iconst d_MS_look_9 ?_
  refine wm_istore_n d_MS_look_10 rfl (by decide) (L' := [vr a0, vi 0, vi 0, vi 0, vd, vd, vd]) rfl ?_
  exact h
theorem k_MS_look_11 {G : mG} {d : Nat} {a0 : Nat} {l1 : Int} {l2 : Int} {l3 : Int} {M : mM} {Q : Int → mM → Prop} (hO : mOk M) (hi_l1 : i32 l1) (hi_l2 : i32 l2) (hi_l3 : i32 l3)
    (h : mK M a0 = 17 ∧ ((mI M a0 1 ≤ l3) → (∀ v24 : Int, v24 = (if l1 ≤ 40 then (if l2 ≤ 480 then 0 else 6) else 5) → Q v24 M)) ∧ (¬ (mI M a0 1 ≤ l3) → (mK M (mR M a0 19) = 31 ∧ ((0 : Int) ≤ l3 ∧ l3 < (mN M (mR M a0 19) : Int)) ∧ (¬ (mI M (mR M a0 19) (Int.toNat l3) = 0) → (mK M (mR M a0 4) = 30 ∧ ((0 : Int) ≤ l3 ∧ l3 < (mN M (mR M a0 4) : Int)))) ∧ (((mI M (mR M a0 19) (Int.toNat l3) = 0) ∨ (mI M (mR M a0 4) (Int.toNat l3) = 3)) → (h_MS_look_11 G d a0 l1 l2 (l3 + 1) M Q)) ∧ (¬ ((mI M (mR M a0 19) (Int.toNat l3) = 0) ∨ (mI M (mR M a0 4) (Int.toNat l3) = 3)) → (h_MS_look_47 G d a0 (l1 + 1) l2 l3 1 0 M Q))))) :
    h_MS_look_11 G d a0 l1 l2 l3 M Q := by
  unfold h_MS_look_11
  obtain ⟨h5, h⟩ := h
  refine wm_iload_n d_MS_look_11 rfl rfl ?_
  refine wm_aload_n d_MS_look_12 rfl rfl ?_
  refine gf_MS_103 rfl d_MS_look_13 h5 ?_
  refine wm_icmp_ge (tgt := 120) d_MS_look_16 rfl hi_l3 (hO _ _).1 (fun c21 => ?_) (fun c21 => ?_)
  · replace h := h.1 c21
    refine wm_iload_n d_MS_look_120 rfl rfl ?_
    refine wm_bipush d_MS_look_121 (by decide) ?_
    have hJ : ∀ v24 : Int, v24 = (if l1 ≤ 40 then (if l2 ≤ 480 then 0 else 6) else 5) → mWm G y_MS_look (d + 1) 143 [vd, vd, vd, vd, vd, vd, vd] [vi v24] M (fun r9 M9 => ∃ x9, r9 = some (vi x9) ∧ Q x9 M9) := by
      intro v24 e26
      have h := h v24 e26
      have h27 : i32 v24 := by rw [e26]; (repeat' split) <;> first | exact ⟨by decide, by decide⟩ | exact ⟨by decide, by decide⟩ | exact ⟨by decide, by decide⟩
      refine wm_ireturn d_MS_look_143 rfl rfl ?_
      exact ⟨_, rfl, h⟩
    clear h
    refine wm_icmp_le (tgt := 130) d_MS_look_123 rfl hi_l1 ⟨by decide, by decide⟩ (fun c22 => ?_) (fun c22 => ?_)
    · refine wm_iload_n d_MS_look_130 rfl rfl ?_
      refine wm_sipush d_MS_look_131 (by decide) ?_
      refine wm_icmp_le (tgt := 142) d_MS_look_134 rfl hi_l2 ⟨by decide, by decide⟩ (fun c23 => ?_) (fun c23 => ?_)
      · refine wm_iconst d_MS_look_142 ?_
        refine wm_less (L' := [vd, vd, vd, vd, vd, vd, vd]) ⟨Or.inl rfl, Or.inl rfl, Or.inl rfl, Or.inl rfl, Or.inl rfl, Or.inl rfl, Or.inl rfl, trivial⟩ ?_
        exact hJ 0 (by rw [if_pos c22, if_pos c23])
      · refine wm_bipush d_MS_look_137 (by decide) ?_
        refine wm_goto (tgt := 143) d_MS_look_139 rfl ?_
        refine wm_less (L' := [vd, vd, vd, vd, vd, vd, vd]) ⟨Or.inl rfl, Or.inl rfl, Or.inl rfl, Or.inl rfl, Or.inl rfl, Or.inl rfl, Or.inl rfl, trivial⟩ ?_
        exact hJ 6 (by rw [if_pos c22, if_neg c23])
    · refine wm_iconst d_MS_look_126 ?_
      refine wm_goto (tgt := 143) d_MS_look_127 rfl ?_
      refine wm_less (L' := [vd, vd, vd, vd, vd, vd, vd]) ⟨Or.inl rfl, Or.inl rfl, Or.inl rfl, Or.inl rfl, Or.inl rfl, Or.inl rfl, Or.inl rfl, trivial⟩ ?_
      exact hJ 5 (by rw [if_neg c22])
  · replace h := h.2 c21
    obtain ⟨h28, h⟩ := h
    obtain ⟨h29, h⟩ := h
    refine wm_aload_n d_MS_look_19 rfl rfl ?_
    refine gf_MS_63 rfl d_MS_look_20 h5 ?_
    refine wm_iload_n d_MS_look_23 rfl rfl ?_
    refine wm_zald d_MS_look_24 h28 h29 ?_
    obtain ⟨s34, h⟩ := h
    have hE0 : ((mI M (mR M a0 19) (Int.toNat l3) = 0) ∨ (mI M (mR M a0 4) (Int.toNat l3) = 3)) → mWm G y_MS_look (d + 1) 114 [vr a0, vi l1, vi l2, vi l3, vd, vd, vd] [] M (fun r9 M9 => ∃ x9, r9 = some (vi x9) ∧ Q x9 M9) := by
      intro q35
      have h := h.1 q35
      refine wm_iinc d_MS_look_114 (by decide) rfl (L' := [vr a0, vi l1, vi l2, vi (l3 + 1), vd, vd, vd]) rfl ?_
      refine wm_goto (tgt := 11) d_MS_look_117 rfl ?_
      exact h
    have hE1 : ¬ ((mI M (mR M a0 19) (Int.toNat l3) = 0) ∨ (mI M (mR M a0 4) (Int.toNat l3) = 3)) → mWm G y_MS_look (d + 1) 38 [vr a0, vi l1, vi l2, vi l3, vd, vd, vd] [] M (fun r9 M9 => ∃ x9, r9 = some (vi x9) ∧ Q x9 M9) := by
      intro q36
      have h := h.2 q36
      refine wm_iinc d_MS_look_38 (by decide) rfl (L' := [vr a0, vi (l1 + 1), vi l2, vi l3, vd, vd, vd]) rfl ?_
      refine wm_iconst d_MS_look_41 ?_
      refine wm_istore d_MS_look_42 (by decide) (L' := [vr a0, vi (l1 + 1), vi l2, vi l3, vi 1, vd, vd]) rfl ?_
      refine wm_iconst d_MS_look_44 ?_
      refine wm_istore d_MS_look_45 (by decide) (L' := [vr a0, vi (l1 + 1), vi l2, vi l3, vi 1, vi 0, vd]) rfl ?_
      exact h
    clear h
    have s37 := s34
    refine wm_if_eq (tgt := 114) d_MS_look_25 rfl (hO _ _).1 (fun c33 => ?_) (fun c33 => ?_)
    · exact hE0 (Or.inl c33)
    · have s37 := s37 c33
      obtain ⟨h30, h31⟩ := s37
      refine wm_aload_n d_MS_look_28 rfl rfl ?_
      refine gf_MS_16 rfl d_MS_look_29 h5 ?_
      refine wm_iload_n d_MS_look_32 rfl rfl ?_
      refine wm_iald d_MS_look_33 h30 h31 ?_
      refine wm_iconst d_MS_look_34 ?_
      refine wm_icmp_eq (tgt := 114) d_MS_look_35 rfl (hO _ _).1 ⟨by decide, by decide⟩ (fun c32 => ?_) (fun c32 => ?_)
      · exact hE0 (Or.inr c32)
      · exact hE1 (fun z38 => Or.elim z38 c33 c32)
theorem k_MS_look_47 {G : mG} {d : Nat} {a0 : Nat} {l1 : Int} {l2 : Int} {l3 : Int} {l4 : Int} {l5 : Int} {M : mM} {Q : Int → mM → Prop} (hO : mOk M) (hi_l1 : i32 l1) (hi_l2 : i32 l2) (hi_l3 : i32 l3) (hi_l4 : i32 l4) (hi_l5 : i32 l5)
    (h : mK M a0 = 17 ∧ Ci G y_MS_many d [vr a0, vi l3] M (fun x42 M41 => i32 x42 ∧ mOk M41 ∧ (((x42 ≤ l5) → (Ci G y_MS_weight d [vl l4] M41 (fun x47 M46 => i32 x47 ∧ mOk M46 ∧ (h_MS_look_11 G d a0 l1 (l2 + x47) (l3 + 1) M46 Q)))) ∧ (¬ (x42 ≤ l5) → (mK M41 a0 = 17 ∧ mK M41 (mR M41 a0 5) = 30 ∧ ((0 : Int) ≤ l3 ∧ l3 < (mN M41 (mR M41 a0 5) : Int)) ∧ mK M41 (mR M41 a0 6) = 30 ∧ ((0 : Int) ≤ (mI M41 (mR M41 a0 5) (Int.toNat l3)) + l5 ∧ (mI M41 (mR M41 a0 5) (Int.toNat l3)) + l5 < (mN M41 (mR M41 a0 6) : Int)) ∧ Ci G y_MS_may d [vr a0, vi l3, vi l5] M41 (fun x55 M54 => i32 x55 ∧ mOk M54 ∧ (∀ v59 : Int, v59 = (if ((x55 = 0) ∨ (mI M41 (mR M41 a0 6) (Int.toNat ((mI M41 (mR M41 a0 5) (Int.toNat l3)) + l5)) ≤ l4)) then l4 else mI M41 (mR M41 a0 6) (Int.toNat ((mI M41 (mR M41 a0 5) (Int.toNat l3)) + l5))) → h_MS_look_47 G d a0 l1 l2 l3 v59 (l5 + 1) M54 Q))))))) :
    h_MS_look_47 G d a0 l1 l2 l3 l4 l5 M Q := by
  unfold h_MS_look_47
  obtain ⟨h40, h⟩ := h
  refine wm_iload d_MS_look_47 rfl ?_
  refine wm_aload_n d_MS_look_49 rfl rfl ?_
  refine wm_iload_n d_MS_look_50 rfl rfl ?_
  refine cf_MS_116 rfl d_MS_look_51 h40 (Nat.le_of_ble_eq_true rfl) (Ci.mono h (fun x42 M41 h => ?_))
  obtain ⟨h43, hOM41, h⟩ := h
  refine wm_icmp_ge (tgt := 105) d_MS_look_54 rfl hi_l5 h43 (fun c45 => ?_) (fun c45 => ?_)
  · replace h := h.1 c45
    refine wm_iload_n d_MS_look_105 rfl rfl ?_
    refine wm_iload d_MS_look_106 rfl ?_
    refine wm_i2l d_MS_look_108 hi_l4 ?_
    refine cf_MS_137 rfl d_MS_look_109 (Nat.le_of_ble_eq_true rfl) (Ci.mono h (fun x47 M46 h => ?_))
    obtain ⟨h48, hOM46, h⟩ := h
    refine wm_iadd d_MS_look_112 ?_
    refine wm_istore_n d_MS_look_113 rfl (by decide) (L' := [vr a0, vi l1, vi (l2 + x47), vi l3, vi l4, vi l5, vd]) rfl ?_
    refine wm_iinc d_MS_look_114 (by decide) rfl (L' := [vr a0, vi l1, vi (l2 + x47), vi (l3 + 1), vi l4, vi l5, vd]) rfl ?_
    refine wm_goto (tgt := 11) d_MS_look_117 rfl ?_
    refine wm_less (L' := [vr a0, vi l1, vi (l2 + x47), vi (l3 + 1), vd, vd, vd]) ⟨Or.inr rfl, Or.inr rfl, Or.inr rfl, Or.inr rfl, Or.inl rfl, Or.inl rfl, Or.inl rfl, trivial⟩ ?_
    exact h
  · replace h := h.2 c45
    obtain ⟨h49, h⟩ := h
    obtain ⟨h50, h⟩ := h
    obtain ⟨h51, h⟩ := h
    obtain ⟨h52, h⟩ := h
    obtain ⟨h53, h⟩ := h
    refine wm_aload_n d_MS_look_57 rfl rfl ?_
    refine gf_MS_23 rfl d_MS_look_58 h49 ?_
    refine wm_aload_n d_MS_look_61 rfl rfl ?_
    refine gf_MS_20 rfl d_MS_look_62 h49 ?_
    refine wm_iload_n d_MS_look_65 rfl rfl ?_
    refine wm_iald d_MS_look_66 h50 h51 ?_
    refine wm_iload d_MS_look_67 rfl ?_
    refine wm_iadd d_MS_look_69 ?_
    refine wm_iald d_MS_look_70 h52 h53 ?_
    refine wm_istore d_MS_look_71 (by decide) (L' := [vr a0, vi l1, vi l2, vi l3, vi l4, vi l5, vi (mI M41 (mR M41 a0 6) (Int.toNat ((mI M41 (mR M41 a0 5) (Int.toNat l3)) + l5)))]) rfl ?_
    refine wm_aload_n d_MS_look_73 rfl rfl ?_
    refine wm_iload_n d_MS_look_74 rfl rfl ?_
    refine wm_iload d_MS_look_75 rfl ?_
    refine cf_MS_120 rfl d_MS_look_77 h49 (Nat.le_of_ble_eq_true rfl) (Ci.mono h (fun x55 M54 h => ?_))
    obtain ⟨h56, hOM54, h⟩ := h
    have hJ : ∀ v59 : Int, v59 = (if ((x55 = 0) ∨ (mI M41 (mR M41 a0 6) (Int.toNat ((mI M41 (mR M41 a0 5) (Int.toNat l3)) + l5)) ≤ l4)) then l4 else mI M41 (mR M41 a0 6) (Int.toNat ((mI M41 (mR M41 a0 5) (Int.toNat l3)) + l5))) → mWm G y_MS_look (d + 1) 97 [vr a0, vi l1, vi l2, vi l3, vd, vi l5, vd] [vi v59] M54 (fun r9 M9 => ∃ x9, r9 = some (vi x9) ∧ Q x9 M9) := by
      intro v59 e61
      have h := h v59 e61
      have h62 : i32 v59 := by rw [e61]; (repeat' split) <;> first | exact hi_l4 | exact (hOM41 _ _).1
      refine wm_istore d_MS_look_97 (by decide) (L' := [vr a0, vi l1, vi l2, vi l3, vi v59, vi l5, vd]) rfl ?_
      refine wm_iinc d_MS_look_99 (by decide) rfl (L' := [vr a0, vi l1, vi l2, vi l3, vi v59, vi (l5 + 1), vd]) rfl ?_
      refine wm_goto (tgt := 47) d_MS_look_102 rfl ?_
      exact h
    clear h
    refine wm_if_eq (tgt := 95) d_MS_look_80 rfl h56 (fun c57 => ?_) (fun c57 => ?_)
    · refine wm_iload d_MS_look_95 rfl ?_
      refine wm_less (L' := [vr a0, vi l1, vi l2, vi l3, vd, vi l5, vd]) ⟨Or.inr rfl, Or.inr rfl, Or.inr rfl, Or.inr rfl, Or.inl rfl, Or.inr rfl, Or.inl rfl, trivial⟩ ?_
      exact hJ l4 (if_pos (Or.inl c57)).symm
    · refine wm_iload d_MS_look_83 rfl ?_
      refine wm_iload d_MS_look_85 rfl ?_
      refine wm_icmp_le (tgt := 95) d_MS_look_87 rfl (hOM41 _ _).1 hi_l4 (fun c58 => ?_) (fun c58 => ?_)
      · refine wm_iload d_MS_look_95 rfl ?_
        refine wm_less (L' := [vr a0, vi l1, vi l2, vi l3, vd, vi l5, vd]) ⟨Or.inr rfl, Or.inr rfl, Or.inr rfl, Or.inr rfl, Or.inl rfl, Or.inr rfl, Or.inl rfl, trivial⟩ ?_
        exact hJ l4 (if_pos (Or.inr c58)).symm
      · refine wm_iload d_MS_look_90 rfl ?_
        refine wm_goto (tgt := 97) d_MS_look_92 rfl ?_
        refine wm_less (L' := [vr a0, vi l1, vi l2, vi l3, vd, vi l5, vd]) ⟨Or.inr rfl, Or.inr rfl, Or.inr rfl, Or.inr rfl, Or.inl rfl, Or.inr rfl, Or.inl rfl, trivial⟩ ?_
        exact hJ (mI M41 (mR M41 a0 6) (Int.toNat ((mI M41 (mR M41 a0 5) (Int.toNat l3)) + l5))) (if_neg (fun z63 => Or.elim z63 c57 c58)).symm
theorem d_MS_worthOf_0 : decode y_MS_worthOf.2.1 0 = .ok (.aload_n 0, 1) := dc9_42 (by decide +kernel)
theorem d_MS_worthOf_1 : decode y_MS_worthOf.2.1 1 = .ok (.getfield 20, 3) := dc9_180 (by decide +kernel)
theorem d_MS_worthOf_4 : decode y_MS_worthOf.2.1 4 = .ok (.iload_n 1, 1) := dc9_27 (by decide +kernel)
theorem d_MS_worthOf_5 : decode y_MS_worthOf.2.1 5 = .ok (.iaload, 1) := dc9_46 (by decide +kernel)
theorem d_MS_worthOf_6 : decode y_MS_worthOf.2.1 6 = .ok (.iload_n 2, 1) := dc9_28 (by decide +kernel)
theorem d_MS_worthOf_7 : decode y_MS_worthOf.2.1 7 = .ok (.iadd, 1) := dc9_96 (by decide +kernel)
theorem d_MS_worthOf_8 : decode y_MS_worthOf.2.1 8 = .ok (.istore 6, 2) := dc9_54 (by decide +kernel)
theorem d_MS_worthOf_10 : decode y_MS_worthOf.2.1 10 = .ok (.aload_n 0, 1) := dc9_42 (by decide +kernel)
theorem d_MS_worthOf_11 : decode y_MS_worthOf.2.1 11 = .ok (.getfield 91, 3) := dc9_180 (by decide +kernel)
theorem d_MS_worthOf_14 : decode y_MS_worthOf.2.1 14 = .ok (.lconst 0, 1) := dc9_9 (by decide +kernel)
theorem d_MS_worthOf_15 : decode y_MS_worthOf.2.1 15 = .ok (.lconst 1, 1) := dc9_10 (by decide +kernel)
theorem d_MS_worthOf_16 : decode y_MS_worthOf.2.1 16 = .ok (.invokevirtual 141, 3) := dc9_182 (by decide +kernel)
theorem d_MS_worthOf_19 : decode y_MS_worthOf.2.1 19 = .ok (.aload_n 0, 1) := dc9_42 (by decide +kernel)
theorem d_MS_worthOf_20 : decode y_MS_worthOf.2.1 20 = .ok (.getfield 26, 3) := dc9_180 (by decide +kernel)
theorem d_MS_worthOf_23 : decode y_MS_worthOf.2.1 23 = .ok (.iload 6, 2) := dc9_21 (by decide +kernel)
theorem d_MS_worthOf_25 : decode y_MS_worthOf.2.1 25 = .ok (.iaload, 1) := dc9_46 (by decide +kernel)
theorem d_MS_worthOf_26 : decode y_MS_worthOf.2.1 26 = .ok (.istore 7, 2) := dc9_54 (by decide +kernel)
theorem d_MS_worthOf_28 : decode y_MS_worthOf.2.1 28 = .ok (.iload 7, 2) := dc9_21 (by decide +kernel)
theorem d_MS_worthOf_30 : decode y_MS_worthOf.2.1 30 = .ok (.aload_n 0, 1) := dc9_42 (by decide +kernel)
theorem d_MS_worthOf_31 : decode y_MS_worthOf.2.1 31 = .ok (.getfield 26, 3) := dc9_180 (by decide +kernel)
theorem d_MS_worthOf_34 : decode y_MS_worthOf.2.1 34 = .ok (.iload 6, 2) := dc9_21 (by decide +kernel)
theorem d_MS_worthOf_36 : decode y_MS_worthOf.2.1 36 = .ok (.iconst 1, 1) := dc9_4 (by decide +kernel)
theorem d_MS_worthOf_37 : decode y_MS_worthOf.2.1 37 = .ok (.iadd, 1) := dc9_96 (by decide +kernel)
theorem d_MS_worthOf_38 : decode y_MS_worthOf.2.1 38 = .ok (.iaload, 1) := dc9_46 (by decide +kernel)
theorem d_MS_worthOf_39 : decode y_MS_worthOf.2.1 39 = .ok (.if_icmp .ge 102, 3) := dc9_162 (by decide +kernel)
theorem d_MS_worthOf_141 : decode y_MS_worthOf.2.1 141 = .ok (.return_, 1) := dc9_177 (by decide +kernel)
theorem d_MS_worthOf_42 : decode y_MS_worthOf.2.1 42 = .ok (.aload_n 0, 1) := dc9_42 (by decide +kernel)
theorem d_MS_worthOf_43 : decode y_MS_worthOf.2.1 43 = .ok (.getfield 84, 3) := dc9_180 (by decide +kernel)
theorem d_MS_worthOf_46 : decode y_MS_worthOf.2.1 46 = .ok (.aload_n 0, 1) := dc9_42 (by decide +kernel)
theorem d_MS_worthOf_47 : decode y_MS_worthOf.2.1 47 = .ok (.getfield 32, 3) := dc9_180 (by decide +kernel)
theorem d_MS_worthOf_50 : decode y_MS_worthOf.2.1 50 = .ok (.iload 7, 2) := dc9_21 (by decide +kernel)
theorem d_MS_worthOf_52 : decode y_MS_worthOf.2.1 52 = .ok (.iaload, 1) := dc9_46 (by decide +kernel)
theorem d_MS_worthOf_53 : decode y_MS_worthOf.2.1 53 = .ok (.i2l, 1) := dc9_133 (by decide +kernel)
theorem d_MS_worthOf_54 : decode y_MS_worthOf.2.1 54 = .ok (.aload_n 0, 1) := dc9_42 (by decide +kernel)
theorem d_MS_worthOf_55 : decode y_MS_worthOf.2.1 55 = .ok (.getfield 35, 3) := dc9_180 (by decide +kernel)
theorem d_MS_worthOf_58 : decode y_MS_worthOf.2.1 58 = .ok (.iload 7, 2) := dc9_21 (by decide +kernel)
theorem d_MS_worthOf_60 : decode y_MS_worthOf.2.1 60 = .ok (.iaload, 1) := dc9_46 (by decide +kernel)
theorem d_MS_worthOf_61 : decode y_MS_worthOf.2.1 61 = .ok (.i2l, 1) := dc9_133 (by decide +kernel)
theorem d_MS_worthOf_62 : decode y_MS_worthOf.2.1 62 = .ok (.invokevirtual 141, 3) := dc9_182 (by decide +kernel)
theorem d_MS_worthOf_65 : decode y_MS_worthOf.2.1 65 = .ok (.aload_n 0, 1) := dc9_42 (by decide +kernel)
theorem d_MS_worthOf_66 : decode y_MS_worthOf.2.1 66 = .ok (.getfield 10, 3) := dc9_180 (by decide +kernel)
theorem d_MS_worthOf_69 : decode y_MS_worthOf.2.1 69 = .ok (.aload_n 0, 1) := dc9_42 (by decide +kernel)
theorem d_MS_worthOf_70 : decode y_MS_worthOf.2.1 70 = .ok (.getfield 84, 3) := dc9_180 (by decide +kernel)
theorem d_MS_worthOf_73 : decode y_MS_worthOf.2.1 73 = .ok (.aload_n 3, 1) := dc9_45 (by decide +kernel)
theorem d_MS_worthOf_74 : decode y_MS_worthOf.2.1 74 = .ok (.iload 5, 2) := dc9_21 (by decide +kernel)
theorem d_MS_worthOf_76 : decode y_MS_worthOf.2.1 76 = .ok (.aload_n 0, 1) := dc9_42 (by decide +kernel)
theorem d_MS_worthOf_77 : decode y_MS_worthOf.2.1 77 = .ok (.getfield 29, 3) := dc9_180 (by decide +kernel)
theorem d_MS_worthOf_80 : decode y_MS_worthOf.2.1 80 = .ok (.iload 7, 2) := dc9_21 (by decide +kernel)
theorem d_MS_worthOf_82 : decode y_MS_worthOf.2.1 82 = .ok (.iaload, 1) := dc9_46 (by decide +kernel)
theorem d_MS_worthOf_83 : decode y_MS_worthOf.2.1 83 = .ok (.imul, 1) := dc9_104 (by decide +kernel)
theorem d_MS_worthOf_84 : decode y_MS_worthOf.2.1 84 = .ok (.iload 4, 2) := dc9_21 (by decide +kernel)
theorem d_MS_worthOf_86 : decode y_MS_worthOf.2.1 86 = .ok (.iadd, 1) := dc9_96 (by decide +kernel)
theorem d_MS_worthOf_87 : decode y_MS_worthOf.2.1 87 = .ok (.aaload, 1) := dc9_50 (by decide +kernel)
theorem d_MS_worthOf_88 : decode y_MS_worthOf.2.1 88 = .ok (.invokevirtual 145, 3) := dc9_182 (by decide +kernel)
theorem d_MS_worthOf_91 : decode y_MS_worthOf.2.1 91 = .ok (.aload_n 0, 1) := dc9_42 (by decide +kernel)
theorem d_MS_worthOf_92 : decode y_MS_worthOf.2.1 92 = .ok (.getfield 94, 3) := dc9_180 (by decide +kernel)
theorem d_MS_worthOf_95 : decode y_MS_worthOf.2.1 95 = .ok (.aload_n 0, 1) := dc9_42 (by decide +kernel)
theorem d_MS_worthOf_96 : decode y_MS_worthOf.2.1 96 = .ok (.getfield 10, 3) := dc9_180 (by decide +kernel)
theorem d_MS_worthOf_99 : decode y_MS_worthOf.2.1 99 = .ok (.getfield 149, 3) := dc9_180 (by decide +kernel)
theorem d_MS_worthOf_102 : decode y_MS_worthOf.2.1 102 = .ok (.invokevirtual 152, 3) := dc9_182 (by decide +kernel)
theorem d_MS_worthOf_105 : decode y_MS_worthOf.2.1 105 = .ok (.aload_n 0, 1) := dc9_42 (by decide +kernel)
theorem d_MS_worthOf_106 : decode y_MS_worthOf.2.1 106 = .ok (.getfield 10, 3) := dc9_180 (by decide +kernel)
theorem d_MS_worthOf_109 : decode y_MS_worthOf.2.1 109 = .ok (.aload_n 0, 1) := dc9_42 (by decide +kernel)
theorem d_MS_worthOf_110 : decode y_MS_worthOf.2.1 110 = .ok (.getfield 91, 3) := dc9_180 (by decide +kernel)
theorem d_MS_worthOf_113 : decode y_MS_worthOf.2.1 113 = .ok (.aload_n 0, 1) := dc9_42 (by decide +kernel)
theorem d_MS_worthOf_114 : decode y_MS_worthOf.2.1 114 = .ok (.getfield 94, 3) := dc9_180 (by decide +kernel)
theorem d_MS_worthOf_117 : decode y_MS_worthOf.2.1 117 = .ok (.iconst 0, 1) := dc9_3 (by decide +kernel)
theorem d_MS_worthOf_118 : decode y_MS_worthOf.2.1 118 = .ok (.invokevirtual 156, 3) := dc9_182 (by decide +kernel)
theorem d_MS_worthOf_121 : decode y_MS_worthOf.2.1 121 = .ok (.aload_n 0, 1) := dc9_42 (by decide +kernel)
theorem d_MS_worthOf_122 : decode y_MS_worthOf.2.1 122 = .ok (.getfield 91, 3) := dc9_180 (by decide +kernel)
theorem d_MS_worthOf_125 : decode y_MS_worthOf.2.1 125 = .ok (.aload_n 0, 1) := dc9_42 (by decide +kernel)
theorem d_MS_worthOf_126 : decode y_MS_worthOf.2.1 126 = .ok (.getfield 10, 3) := dc9_180 (by decide +kernel)
theorem d_MS_worthOf_129 : decode y_MS_worthOf.2.1 129 = .ok (.getfield 149, 3) := dc9_180 (by decide +kernel)
theorem d_MS_worthOf_132 : decode y_MS_worthOf.2.1 132 = .ok (.invokevirtual 152, 3) := dc9_182 (by decide +kernel)
theorem d_MS_worthOf_135 : decode y_MS_worthOf.2.1 135 = .ok (.iinc 7 1, 3) := by decide +kernel
theorem d_MS_worthOf_138 : decode y_MS_worthOf.2.1 138 = .ok (.goto (-110), 3) := dc9_167 (by decide +kernel)
def h_MS_worthOf_28 (G : mG) (d : Nat) (a0 : Nat) (a3 : Nat) (l4 : Int) (l5 : Int) (l6 : Int) (l7 : Int) (M : mM) (Q : mM → Prop) : Prop := mWm G y_MS_worthOf (d + 1) 28 [vr a0, vd, vd, vr a3, vi l4, vi l5, vi l6, vi l7] [] M (fun r9 M9 => r9 = none ∧ Q M9)
theorem k_MS_worthOf {G : mG} {d : Nat} {a0 : Nat} {l1 : Int} {l2 : Int} {a3 : Nat} {l4 : Int} {l5 : Int} {M : mM} {Q : mM → Prop} (hO : mOk M) (hi_l1 : i32 l1) (hi_l2 : i32 l2) (hi_l4 : i32 l4) (hi_l5 : i32 l5)
    (h : mK M a0 = 17 ∧ mK M (mR M a0 5) = 30 ∧ ((0 : Int) ≤ l1 ∧ l1 < (mN M (mR M a0 5) : Int)) ∧ mK M (mR M a0 28) = 19 ∧ Cv G y_MF_set d [vr (mR M a0 28), vl 0, vl 1] M (fun M5 => mOk M5 ∧ (mK M5 a0 = 17 ∧ mK M5 (mR M5 a0 7) = 30 ∧ ((0 : Int) ≤ (mI M (mR M a0 5) (Int.toNat l1)) + l2 ∧ (mI M (mR M a0 5) (Int.toNat l1)) + l2 < (mN M5 (mR M5 a0 7) : Int)) ∧ h_MS_worthOf_28 G d a0 a3 l4 l5 ((mI M (mR M a0 5) (Int.toNat l1)) + l2) (mI M5 (mR M5 a0 7) (Int.toNat ((mI M (mR M a0 5) (Int.toNat l1)) + l2))) M5 Q))) :
    Cv G y_MS_worthOf (d + 1) [vr a0, vi l1, vi l2, vr a3, vi l4, vi l5] M Q := by
  refine wm_open (y := y_MS_worthOf) rfl (Nat.le_of_ble_eq_true rfl) (L := [vr a0, vi l1, vi l2, vr a3, vi l4, vi l5, vd, vd]) rfl ?_
  obtain ⟨h1, h⟩ := h
  obtain ⟨h2, h⟩ := h
  obtain ⟨h3, h⟩ := h
  obtain ⟨h4, h⟩ := h
  refine wm_aload_n d_MS_worthOf_0 rfl rfl ?_
  refine gf_MS_20 rfl d_MS_worthOf_1 h1 ?_
  refine wm_iload_n d_MS_worthOf_4 rfl rfl ?_
  refine wm_iald d_MS_worthOf_5 h2 h3 ?_
  refine wm_iload_n d_MS_worthOf_6 rfl rfl ?_
  refine wm_iadd d_MS_worthOf_7 ?_
  refine wm_istore d_MS_worthOf_8 (by decide) (L' := [vr a0, vi l1, vi l2, vr a3, vi l4, vi l5, vi ((mI M (mR M a0 5) (Int.toNat l1)) + l2), vd]) rfl ?_
  refine wm_aload_n d_MS_worthOf_10 rfl rfl ?_
  refine gf_MS_91 rfl d_MS_worthOf_11 h1 ?_
  refine wm_lconst (x := 0) d_MS_worthOf_14 rfl ?_
  refine wm_lconst (x := 1) d_MS_worthOf_15 rfl ?_
  refine cf_MS_141 rfl d_MS_worthOf_16 h4 (Nat.le_of_ble_eq_true rfl) (Cv.mono h (fun M5 h => ?_))
  obtain ⟨hOM5, h⟩ := h
  obtain ⟨h8, h⟩ := h
  obtain ⟨h9, h⟩ := h
  obtain ⟨h10, h⟩ := h
  refine wm_aload_n d_MS_worthOf_19 rfl rfl ?_
  refine gf_MS_26 rfl d_MS_worthOf_20 h8 ?_
  refine wm_iload d_MS_worthOf_23 rfl ?_
  refine wm_iald d_MS_worthOf_25 h9 h10 ?_
  refine wm_istore d_MS_worthOf_26 (by decide) (L' := [vr a0, vi l1, vi l2, vr a3, vi l4, vi l5, vi ((mI M (mR M a0 5) (Int.toNat l1)) + l2), vi (mI M5 (mR M5 a0 7) (Int.toNat ((mI M (mR M a0 5) (Int.toNat l1)) + l2)))]) rfl ?_
  refine wm_less (L' := [vr a0, vd, vd, vr a3, vi l4, vi l5, vi ((mI M (mR M a0 5) (Int.toNat l1)) + l2), vi (mI M5 (mR M5 a0 7) (Int.toNat ((mI M (mR M a0 5) (Int.toNat l1)) + l2)))]) ⟨Or.inr rfl, Or.inl rfl, Or.inl rfl, Or.inr rfl, Or.inr rfl, Or.inr rfl, Or.inr rfl, Or.inr rfl, trivial⟩ ?_
  exact h
theorem k_MS_worthOf_28 {G : mG} {d : Nat} {a0 : Nat} {a3 : Nat} {l4 : Int} {l5 : Int} {l6 : Int} {l7 : Int} {M : mM} {Q : mM → Prop} (hO : mOk M) (hi_l4 : i32 l4) (hi_l5 : i32 l5) (hi_l6 : i32 l6) (hi_l7 : i32 l7)
    (h : mK M a0 = 17 ∧ mK M (mR M a0 7) = 30 ∧ ((0 : Int) ≤ l6 + 1 ∧ l6 + 1 < (mN M (mR M a0 7) : Int)) ∧ ((mI M (mR M a0 7) (Int.toNat (l6 + 1)) ≤ l7) → (Q M)) ∧ (¬ (mI M (mR M a0 7) (Int.toNat (l6 + 1)) ≤ l7) → (mK M (mR M a0 9) = 30 ∧ ((0 : Int) ≤ l7 ∧ l7 < (mN M (mR M a0 9) : Int)) ∧ mK M (mR M a0 10) = 30 ∧ ((0 : Int) ≤ l7 ∧ l7 < (mN M (mR M a0 10) : Int)) ∧ mK M (mR M a0 26) = 19 ∧ Cv G y_MF_set d [vr (mR M a0 26), vl (mI M (mR M a0 9) (Int.toNat l7)), vl (mI M (mR M a0 10) (Int.toNat l7))] M (fun M21 => mOk M21 ∧ (mK M21 a0 = 17 ∧ mK M21 (mR M21 a0 8) = 30 ∧ ((0 : Int) ≤ l7 ∧ l7 < (mN M21 (mR M21 a0 8) : Int)) ∧ mK M21 a3 = 36 ∧ ((0 : Int) ≤ (l5 * (mI M21 (mR M21 a0 8) (Int.toNat l7))) + l4 ∧ (l5 * (mI M21 (mR M21 a0 8) (Int.toNat l7))) + l4 < (mN M21 a3 : Int)) ∧ mK M21 (mR M21 a0 0) = 18 ∧ Cv G y_MU_multiply d [vr (mR M21 a0 0), vr (mR M21 a0 26), vr (mR M21 a3 (Int.toNat ((l5 * (mI M21 (mR M21 a0 8) (Int.toNat l7))) + l4)))] M21 (fun M30 => mOk M30 ∧ (mK M30 a0 = 17 ∧ mK M30 (mR M30 a0 0) = 18 ∧ mK M30 (mR M30 a0 29) = 19 ∧ Cv G y_MF_copy d [vr (mR M30 a0 29), vr (mR M30 (mR M30 a0 0) 0)] M30 (fun M36 => mOk M36 ∧ (mK M36 a0 = 17 ∧ mK M36 (mR M36 a0 0) = 18 ∧ Cv G y_MU_add d [vr (mR M36 a0 0), vr (mR M36 a0 28), vr (mR M36 a0 29), vi 0] M36 (fun M41 => mOk M41 ∧ (mK M41 a0 = 17 ∧ mK M41 (mR M41 a0 0) = 18 ∧ mK M41 (mR M41 a0 28) = 19 ∧ Cv G y_MF_copy d [vr (mR M41 a0 28), vr (mR M41 (mR M41 a0 0) 0)] M41 (fun M47 => mOk M47 ∧ (h_MS_worthOf_28 G d a0 a3 l4 l5 l6 (l7 + 1) M47 Q))))))))))))) :
    h_MS_worthOf_28 G d a0 a3 l4 l5 l6 l7 M Q := by
  unfold h_MS_worthOf_28
  obtain ⟨h11, h⟩ := h
  obtain ⟨h12, h⟩ := h
  obtain ⟨h13, h⟩ := h
  refine wm_iload d_MS_worthOf_28 rfl ?_
  refine wm_aload_n d_MS_worthOf_30 rfl rfl ?_
  refine gf_MS_26 rfl d_MS_worthOf_31 h11 ?_
  refine wm_iload d_MS_worthOf_34 rfl ?_
  refine wm_iconst d_MS_worthOf_36 ?_
  refine wm_iadd d_MS_worthOf_37 ?_
  refine wm_iald d_MS_worthOf_38 h12 h13 ?_
  refine wm_icmp_ge (tgt := 141) d_MS_worthOf_39 rfl hi_l7 (hO _ _).1 (fun c15 => ?_) (fun c15 => ?_)
  · replace h := h.1 c15
    refine wm_return d_MS_worthOf_141 rfl ?_
    exact ⟨rfl, h⟩
  · replace h := h.2 c15
    obtain ⟨h16, h⟩ := h
    obtain ⟨h17, h⟩ := h
    obtain ⟨h18, h⟩ := h
    obtain ⟨h19, h⟩ := h
    obtain ⟨h20, h⟩ := h
    refine wm_aload_n d_MS_worthOf_42 rfl rfl ?_
    refine gf_MS_84 rfl d_MS_worthOf_43 h11 ?_
    refine wm_aload_n d_MS_worthOf_46 rfl rfl ?_
    refine gf_MS_32 rfl d_MS_worthOf_47 h11 ?_
    refine wm_iload d_MS_worthOf_50 rfl ?_
    refine wm_iald d_MS_worthOf_52 h16 h17 ?_
    refine wm_i2l d_MS_worthOf_53 (hO _ _).1 ?_
    refine wm_aload_n d_MS_worthOf_54 rfl rfl ?_
    refine gf_MS_35 rfl d_MS_worthOf_55 h11 ?_
    refine wm_iload d_MS_worthOf_58 rfl ?_
    refine wm_iald d_MS_worthOf_60 h18 h19 ?_
    refine wm_i2l d_MS_worthOf_61 (hO _ _).1 ?_
    refine cf_MS_141 rfl d_MS_worthOf_62 h20 (Nat.le_of_ble_eq_true rfl) (Cv.mono h (fun M21 h => ?_))
    obtain ⟨hOM21, h⟩ := h
    obtain ⟨h24, h⟩ := h
    obtain ⟨h25, h⟩ := h
    obtain ⟨h26, h⟩ := h
    obtain ⟨h27, h⟩ := h
    obtain ⟨h28, h⟩ := h
    obtain ⟨h29, h⟩ := h
    refine wm_aload_n d_MS_worthOf_65 rfl rfl ?_
    refine gf_MS_10 rfl d_MS_worthOf_66 h24 ?_
    refine wm_aload_n d_MS_worthOf_69 rfl rfl ?_
    refine gf_MS_84 rfl d_MS_worthOf_70 h24 ?_
    refine wm_aload_n d_MS_worthOf_73 rfl rfl ?_
    refine wm_iload d_MS_worthOf_74 rfl ?_
    refine wm_aload_n d_MS_worthOf_76 rfl rfl ?_
    refine gf_MS_29 rfl d_MS_worthOf_77 h24 ?_
    refine wm_iload d_MS_worthOf_80 rfl ?_
    refine wm_iald d_MS_worthOf_82 h25 h26 ?_
    refine wm_imul d_MS_worthOf_83 ?_
    refine wm_iload d_MS_worthOf_84 rfl ?_
    refine wm_iadd d_MS_worthOf_86 ?_
    refine wm_aald6 d_MS_worthOf_87 h27 h28 ?_
    refine cf_MS_145 rfl d_MS_worthOf_88 h29 (Nat.le_of_ble_eq_true rfl) (Cv.mono h (fun M30 h => ?_))
    obtain ⟨hOM30, h⟩ := h
    obtain ⟨h33, h⟩ := h
    obtain ⟨h34, h⟩ := h
    obtain ⟨h35, h⟩ := h
    refine wm_aload_n d_MS_worthOf_91 rfl rfl ?_
    refine gf_MS_94 rfl d_MS_worthOf_92 h33 ?_
    refine wm_aload_n d_MS_worthOf_95 rfl rfl ?_
    refine gf_MS_10 rfl d_MS_worthOf_96 h33 ?_
    refine gf_MS_149 rfl d_MS_worthOf_99 h34 ?_
    refine cf_MS_152 rfl d_MS_worthOf_102 h35 (Nat.le_of_ble_eq_true rfl) (Cv.mono h (fun M36 h => ?_))
    obtain ⟨hOM36, h⟩ := h
    obtain ⟨h39, h⟩ := h
    obtain ⟨h40, h⟩ := h
    refine wm_aload_n d_MS_worthOf_105 rfl rfl ?_
    refine gf_MS_10 rfl d_MS_worthOf_106 h39 ?_
    refine wm_aload_n d_MS_worthOf_109 rfl rfl ?_
    refine gf_MS_91 rfl d_MS_worthOf_110 h39 ?_
    refine wm_aload_n d_MS_worthOf_113 rfl rfl ?_
    refine gf_MS_94 rfl d_MS_worthOf_114 h39 ?_
    refine wm_iconst d_MS_worthOf_117 ?_
    refine cf_MS_156 rfl d_MS_worthOf_118 h40 (Nat.le_of_ble_eq_true rfl) (Cv.mono h (fun M41 h => ?_))
    obtain ⟨hOM41, h⟩ := h
    obtain ⟨h44, h⟩ := h
    obtain ⟨h45, h⟩ := h
    obtain ⟨h46, h⟩ := h
    refine wm_aload_n d_MS_worthOf_121 rfl rfl ?_
    refine gf_MS_91 rfl d_MS_worthOf_122 h44 ?_
    refine wm_aload_n d_MS_worthOf_125 rfl rfl ?_
    refine gf_MS_10 rfl d_MS_worthOf_126 h44 ?_
    refine gf_MS_149 rfl d_MS_worthOf_129 h45 ?_
    refine cf_MS_152 rfl d_MS_worthOf_132 h46 (Nat.le_of_ble_eq_true rfl) (Cv.mono h (fun M47 h => ?_))
    obtain ⟨hOM47, h⟩ := h
    refine wm_iinc d_MS_worthOf_135 (by decide) rfl (L' := [vr a0, vd, vd, vr a3, vi l4, vi l5, vi l6, vi (l7 + 1)]) rfl ?_
    refine wm_goto (tgt := 28) d_MS_worthOf_138 rfl ?_
    exact h
theorem d_MS_cell_0 : decode y_MS_cell.2.1 0 = .ok (.aload_n 0, 1) := dc9_42 (by decide +kernel)
theorem d_MS_cell_1 : decode y_MS_cell.2.1 1 = .ok (.getfield 78, 3) := dc9_180 (by decide +kernel)
theorem d_MS_cell_4 : decode y_MS_cell.2.1 4 = .ok (.bipush 41, 2) := dc9_16 (by decide +kernel)
theorem d_MS_cell_6 : decode y_MS_cell.2.1 6 = .ok (.iload_n 1, 1) := dc9_27 (by decide +kernel)
theorem d_MS_cell_7 : decode y_MS_cell.2.1 7 = .ok (.imul, 1) := dc9_104 (by decide +kernel)
theorem d_MS_cell_8 : decode y_MS_cell.2.1 8 = .ok (.iload_n 2, 1) := dc9_28 (by decide +kernel)
theorem d_MS_cell_9 : decode y_MS_cell.2.1 9 = .ok (.iadd, 1) := dc9_96 (by decide +kernel)
theorem d_MS_cell_10 : decode y_MS_cell.2.1 10 = .ok (.aaload, 1) := dc9_50 (by decide +kernel)
theorem d_MS_cell_11 : decode y_MS_cell.2.1 11 = .ok (.areturn, 1) := dc9_176 (by decide +kernel)
theorem k_MS_cell {G : mG} {d : Nat} {a0 : Nat} {l1 : Int} {l2 : Int} {M : mM} {Q : Nat → mM → Prop} (hO : mOk M) (hi_l1 : i32 l1) (hi_l2 : i32 l2)
    (h : mK M a0 = 17 ∧ mK M (mR M a0 25) = 36 ∧ ((0 : Int) ≤ (41 * l1) + l2 ∧ (41 * l1) + l2 < (mN M (mR M a0 25) : Int)) ∧ Q (mR M (mR M a0 25) (Int.toNat ((41 * l1) + l2))) M) :
    Cr G y_MS_cell d [vr a0, vi l1, vi l2] M Q := by
  refine wm_open (y := y_MS_cell) rfl (Nat.le_of_ble_eq_true rfl) (L := [vr a0, vi l1, vi l2]) rfl ?_
  obtain ⟨h1, h⟩ := h
  obtain ⟨h2, h⟩ := h
  obtain ⟨h3, h⟩ := h
  refine wm_aload_n d_MS_cell_0 rfl rfl ?_
  refine gf_MS_78 rfl d_MS_cell_1 h1 ?_
  refine wm_bipush d_MS_cell_4 (by decide) ?_
  refine wm_iload_n d_MS_cell_6 rfl rfl ?_
  refine wm_imul d_MS_cell_7 ?_
  refine wm_iload_n d_MS_cell_8 rfl rfl ?_
  refine wm_iadd d_MS_cell_9 ?_
  refine wm_aald6 d_MS_cell_10 h2 h3 ?_
  refine wm_areturn d_MS_cell_11 rfl (Or.inl ⟨_, rfl⟩) ?_
  exact ⟨_, rfl, h⟩
theorem d_MS_writeRows_0 : decode y_MS_writeRows.2.1 0 = .ok (.iconst 0, 1) := dc9_3 (by decide +kernel)
theorem d_MS_writeRows_1 : decode y_MS_writeRows.2.1 1 = .ok (.istore_n 1, 1) := dc9_60 (by decide +kernel)
theorem d_MS_writeRows_2 : decode y_MS_writeRows.2.1 2 = .ok (.iload_n 1, 1) := dc9_27 (by decide +kernel)
theorem d_MS_writeRows_3 : decode y_MS_writeRows.2.1 3 = .ok (.aload_n 0, 1) := dc9_42 (by decide +kernel)
theorem d_MS_writeRows_4 : decode y_MS_writeRows.2.1 4 = .ok (.getfield 160, 3) := dc9_180 (by decide +kernel)
theorem d_MS_writeRows_7 : decode y_MS_writeRows.2.1 7 = .ok (.if_icmp .ge 212, 3) := dc9_162 (by decide +kernel)
theorem d_MS_writeRows_219 : decode y_MS_writeRows.2.1 219 = .ok (.return_, 1) := dc9_177 (by decide +kernel)
theorem d_MS_writeRows_10 : decode y_MS_writeRows.2.1 10 = .ok (.iconst 0, 1) := dc9_3 (by decide +kernel)
theorem d_MS_writeRows_11 : decode y_MS_writeRows.2.1 11 = .ok (.istore_n 2, 1) := dc9_61 (by decide +kernel)
theorem d_MS_writeRows_12 : decode y_MS_writeRows.2.1 12 = .ok (.iload_n 2, 1) := dc9_28 (by decide +kernel)
theorem d_MS_writeRows_13 : decode y_MS_writeRows.2.1 13 = .ok (.aload_n 0, 1) := dc9_42 (by decide +kernel)
theorem d_MS_writeRows_14 : decode y_MS_writeRows.2.1 14 = .ok (.getfield 160, 3) := dc9_180 (by decide +kernel)
theorem d_MS_writeRows_17 : decode y_MS_writeRows.2.1 17 = .ok (.if_icmp .gt 29, 3) := dc9_163 (by decide +kernel)
theorem d_MS_writeRows_46 : decode y_MS_writeRows.2.1 46 = .ok (.aload_n 0, 1) := dc9_42 (by decide +kernel)
theorem d_MS_writeRows_47 : decode y_MS_writeRows.2.1 47 = .ok (.getfield 20, 3) := dc9_180 (by decide +kernel)
theorem d_MS_writeRows_50 : decode y_MS_writeRows.2.1 50 = .ok (.aload_n 0, 1) := dc9_42 (by decide +kernel)
theorem d_MS_writeRows_51 : decode y_MS_writeRows.2.1 51 = .ok (.getfield 72, 3) := dc9_180 (by decide +kernel)
theorem d_MS_writeRows_54 : decode y_MS_writeRows.2.1 54 = .ok (.iload_n 1, 1) := dc9_27 (by decide +kernel)
theorem d_MS_writeRows_55 : decode y_MS_writeRows.2.1 55 = .ok (.iaload, 1) := dc9_46 (by decide +kernel)
theorem d_MS_writeRows_56 : decode y_MS_writeRows.2.1 56 = .ok (.iaload, 1) := dc9_46 (by decide +kernel)
theorem d_MS_writeRows_57 : decode y_MS_writeRows.2.1 57 = .ok (.aload_n 0, 1) := dc9_42 (by decide +kernel)
theorem d_MS_writeRows_58 : decode y_MS_writeRows.2.1 58 = .ok (.getfield 60, 3) := dc9_180 (by decide +kernel)
theorem d_MS_writeRows_61 : decode y_MS_writeRows.2.1 61 = .ok (.aload_n 0, 1) := dc9_42 (by decide +kernel)
theorem d_MS_writeRows_62 : decode y_MS_writeRows.2.1 62 = .ok (.getfield 72, 3) := dc9_180 (by decide +kernel)
theorem d_MS_writeRows_65 : decode y_MS_writeRows.2.1 65 = .ok (.iload_n 1, 1) := dc9_27 (by decide +kernel)
theorem d_MS_writeRows_66 : decode y_MS_writeRows.2.1 66 = .ok (.iaload, 1) := dc9_46 (by decide +kernel)
theorem d_MS_writeRows_67 : decode y_MS_writeRows.2.1 67 = .ok (.iaload, 1) := dc9_46 (by decide +kernel)
theorem d_MS_writeRows_68 : decode y_MS_writeRows.2.1 68 = .ok (.iadd, 1) := dc9_96 (by decide +kernel)
theorem d_MS_writeRows_69 : decode y_MS_writeRows.2.1 69 = .ok (.istore_n 2, 1) := dc9_61 (by decide +kernel)
theorem d_MS_writeRows_70 : decode y_MS_writeRows.2.1 70 = .ok (.aload_n 0, 1) := dc9_42 (by decide +kernel)
theorem d_MS_writeRows_71 : decode y_MS_writeRows.2.1 71 = .ok (.getfield 26, 3) := dc9_180 (by decide +kernel)
theorem d_MS_writeRows_74 : decode y_MS_writeRows.2.1 74 = .ok (.iload_n 2, 1) := dc9_28 (by decide +kernel)
theorem d_MS_writeRows_75 : decode y_MS_writeRows.2.1 75 = .ok (.iaload, 1) := dc9_46 (by decide +kernel)
theorem d_MS_writeRows_76 : decode y_MS_writeRows.2.1 76 = .ok (.istore_n 3, 1) := dc9_62 (by decide +kernel)
theorem d_MS_writeRows_20 : decode y_MS_writeRows.2.1 20 = .ok (.aload_n 0, 1) := dc9_42 (by decide +kernel)
theorem d_MS_writeRows_21 : decode y_MS_writeRows.2.1 21 = .ok (.iload_n 1, 1) := dc9_27 (by decide +kernel)
theorem d_MS_writeRows_22 : decode y_MS_writeRows.2.1 22 = .ok (.iload_n 2, 1) := dc9_28 (by decide +kernel)
theorem d_MS_writeRows_23 : decode y_MS_writeRows.2.1 23 = .ok (.invokevirtual 163, 3) := dc9_182 (by decide +kernel)
theorem d_MS_writeRows_26 : decode y_MS_writeRows.2.1 26 = .ok (.iload_n 1, 1) := dc9_27 (by decide +kernel)
theorem d_MS_writeRows_27 : decode y_MS_writeRows.2.1 27 = .ok (.iload_n 2, 1) := dc9_28 (by decide +kernel)
theorem d_MS_writeRows_28 : decode y_MS_writeRows.2.1 28 = .ok (.if_icmp .ne 7, 3) := dc9_160 (by decide +kernel)
theorem d_MS_writeRows_31 : decode y_MS_writeRows.2.1 31 = .ok (.lconst 1, 1) := dc9_10 (by decide +kernel)
theorem d_MS_writeRows_32 : decode y_MS_writeRows.2.1 32 = .ok (.goto 4, 3) := dc9_167 (by decide +kernel)
theorem d_MS_writeRows_35 : decode y_MS_writeRows.2.1 35 = .ok (.lconst 0, 1) := dc9_9 (by decide +kernel)
theorem d_MS_writeRows_36 : decode y_MS_writeRows.2.1 36 = .ok (.lconst 1, 1) := dc9_10 (by decide +kernel)
theorem d_MS_writeRows_37 : decode y_MS_writeRows.2.1 37 = .ok (.invokevirtual 141, 3) := dc9_182 (by decide +kernel)
theorem d_MS_writeRows_40 : decode y_MS_writeRows.2.1 40 = .ok (.iinc 2 1, 3) := by decide +kernel
theorem d_MS_writeRows_43 : decode y_MS_writeRows.2.1 43 = .ok (.goto (-31), 3) := dc9_167 (by decide +kernel)
theorem d_MS_writeRows_77 : decode y_MS_writeRows.2.1 77 = .ok (.iload_n 3, 1) := dc9_29 (by decide +kernel)
theorem d_MS_writeRows_78 : decode y_MS_writeRows.2.1 78 = .ok (.aload_n 0, 1) := dc9_42 (by decide +kernel)
theorem d_MS_writeRows_79 : decode y_MS_writeRows.2.1 79 = .ok (.getfield 26, 3) := dc9_180 (by decide +kernel)
theorem d_MS_writeRows_82 : decode y_MS_writeRows.2.1 82 = .ok (.iload_n 2, 1) := dc9_28 (by decide +kernel)
theorem d_MS_writeRows_83 : decode y_MS_writeRows.2.1 83 = .ok (.iconst 1, 1) := dc9_4 (by decide +kernel)
theorem d_MS_writeRows_84 : decode y_MS_writeRows.2.1 84 = .ok (.iadd, 1) := dc9_96 (by decide +kernel)
theorem d_MS_writeRows_85 : decode y_MS_writeRows.2.1 85 = .ok (.iaload, 1) := dc9_46 (by decide +kernel)
theorem d_MS_writeRows_86 : decode y_MS_writeRows.2.1 86 = .ok (.if_icmp .ge 127, 3) := dc9_162 (by decide +kernel)
theorem d_MS_writeRows_213 : decode y_MS_writeRows.2.1 213 = .ok (.iinc 1 1, 3) := by decide +kernel
theorem d_MS_writeRows_216 : decode y_MS_writeRows.2.1 216 = .ok (.goto (-214), 3) := dc9_167 (by decide +kernel)
theorem d_MS_writeRows_89 : decode y_MS_writeRows.2.1 89 = .ok (.aload_n 0, 1) := dc9_42 (by decide +kernel)
theorem d_MS_writeRows_90 : decode y_MS_writeRows.2.1 90 = .ok (.getfield 29, 3) := dc9_180 (by decide +kernel)
theorem d_MS_writeRows_93 : decode y_MS_writeRows.2.1 93 = .ok (.iload_n 3, 1) := dc9_29 (by decide +kernel)
theorem d_MS_writeRows_94 : decode y_MS_writeRows.2.1 94 = .ok (.iaload, 1) := dc9_46 (by decide +kernel)
theorem d_MS_writeRows_95 : decode y_MS_writeRows.2.1 95 = .ok (.istore 4, 2) := dc9_54 (by decide +kernel)
theorem d_MS_writeRows_97 : decode y_MS_writeRows.2.1 97 = .ok (.aload_n 0, 1) := dc9_42 (by decide +kernel)
theorem d_MS_writeRows_98 : decode y_MS_writeRows.2.1 98 = .ok (.getfield 63, 3) := dc9_180 (by decide +kernel)
theorem d_MS_writeRows_101 : decode y_MS_writeRows.2.1 101 = .ok (.iload 4, 2) := dc9_21 (by decide +kernel)
theorem d_MS_writeRows_103 : decode y_MS_writeRows.2.1 103 = .ok (.baload, 1) := dc9_51 (by decide +kernel)
theorem d_MS_writeRows_104 : decode y_MS_writeRows.2.1 104 = .ok (.ifCond .eq 103, 3) := dc9_153 (by decide +kernel)
theorem d_MS_writeRows_107 : decode y_MS_writeRows.2.1 107 = .ok (.aload_n 0, 1) := dc9_42 (by decide +kernel)
theorem d_MS_writeRows_108 : decode y_MS_writeRows.2.1 108 = .ok (.getfield 16, 3) := dc9_180 (by decide +kernel)
theorem d_MS_writeRows_111 : decode y_MS_writeRows.2.1 111 = .ok (.iload 4, 2) := dc9_21 (by decide +kernel)
theorem d_MS_writeRows_113 : decode y_MS_writeRows.2.1 113 = .ok (.iaload, 1) := dc9_46 (by decide +kernel)
theorem d_MS_writeRows_114 : decode y_MS_writeRows.2.1 114 = .ok (.iconst 3, 1) := dc9_6 (by decide +kernel)
theorem d_MS_writeRows_115 : decode y_MS_writeRows.2.1 115 = .ok (.if_icmp .ne 7, 3) := dc9_160 (by decide +kernel)
theorem d_MS_writeRows_118 : decode y_MS_writeRows.2.1 118 = .ok (.iconst 1, 1) := dc9_4 (by decide +kernel)
theorem d_MS_writeRows_119 : decode y_MS_writeRows.2.1 119 = .ok (.goto 4, 3) := dc9_167 (by decide +kernel)
theorem d_MS_writeRows_123 : decode y_MS_writeRows.2.1 123 = .ok (.istore 5, 2) := dc9_54 (by decide +kernel)
theorem d_MS_writeRows_125 : decode y_MS_writeRows.2.1 125 = .ok (.aload_n 0, 1) := dc9_42 (by decide +kernel)
theorem d_MS_writeRows_126 : decode y_MS_writeRows.2.1 126 = .ok (.iload_n 1, 1) := dc9_27 (by decide +kernel)
theorem d_MS_writeRows_127 : decode y_MS_writeRows.2.1 127 = .ok (.iload 5, 2) := dc9_21 (by decide +kernel)
theorem d_MS_writeRows_122 : decode y_MS_writeRows.2.1 122 = .ok (.iconst 0, 1) := dc9_3 (by decide +kernel)
theorem d_MS_writeRows_129 : decode y_MS_writeRows.2.1 129 = .ok (.ifCond .eq 10, 3) := dc9_153 (by decide +kernel)
theorem d_MS_writeRows_139 : decode y_MS_writeRows.2.1 139 = .ok (.aload_n 0, 1) := dc9_42 (by decide +kernel)
theorem d_MS_writeRows_140 : decode y_MS_writeRows.2.1 140 = .ok (.getfield 75, 3) := dc9_180 (by decide +kernel)
theorem d_MS_writeRows_143 : decode y_MS_writeRows.2.1 143 = .ok (.iload 4, 2) := dc9_21 (by decide +kernel)
theorem d_MS_writeRows_145 : decode y_MS_writeRows.2.1 145 = .ok (.iaload, 1) := dc9_46 (by decide +kernel)
theorem d_MS_writeRows_132 : decode y_MS_writeRows.2.1 132 = .ok (.aload_n 0, 1) := dc9_42 (by decide +kernel)
theorem d_MS_writeRows_133 : decode y_MS_writeRows.2.1 133 = .ok (.getfield 160, 3) := dc9_180 (by decide +kernel)
theorem d_MS_writeRows_136 : decode y_MS_writeRows.2.1 136 = .ok (.goto 10, 3) := dc9_167 (by decide +kernel)
theorem d_MS_writeRows_146 : decode y_MS_writeRows.2.1 146 = .ok (.invokevirtual 163, 3) := dc9_182 (by decide +kernel)
theorem d_MS_writeRows_149 : decode y_MS_writeRows.2.1 149 = .ok (.astore 6, 2) := dc9_58 (by decide +kernel)
theorem d_MS_writeRows_151 : decode y_MS_writeRows.2.1 151 = .ok (.aload_n 0, 1) := dc9_42 (by decide +kernel)
theorem d_MS_writeRows_152 : decode y_MS_writeRows.2.1 152 = .ok (.getfield 84, 3) := dc9_180 (by decide +kernel)
theorem d_MS_writeRows_155 : decode y_MS_writeRows.2.1 155 = .ok (.aload_n 0, 1) := dc9_42 (by decide +kernel)
theorem d_MS_writeRows_156 : decode y_MS_writeRows.2.1 156 = .ok (.getfield 32, 3) := dc9_180 (by decide +kernel)
theorem d_MS_writeRows_159 : decode y_MS_writeRows.2.1 159 = .ok (.iload_n 3, 1) := dc9_29 (by decide +kernel)
theorem d_MS_writeRows_160 : decode y_MS_writeRows.2.1 160 = .ok (.iaload, 1) := dc9_46 (by decide +kernel)
theorem d_MS_writeRows_161 : decode y_MS_writeRows.2.1 161 = .ok (.i2l, 1) := dc9_133 (by decide +kernel)
theorem d_MS_writeRows_162 : decode y_MS_writeRows.2.1 162 = .ok (.aload_n 0, 1) := dc9_42 (by decide +kernel)
theorem d_MS_writeRows_163 : decode y_MS_writeRows.2.1 163 = .ok (.getfield 35, 3) := dc9_180 (by decide +kernel)
theorem d_MS_writeRows_166 : decode y_MS_writeRows.2.1 166 = .ok (.iload_n 3, 1) := dc9_29 (by decide +kernel)
theorem d_MS_writeRows_167 : decode y_MS_writeRows.2.1 167 = .ok (.iaload, 1) := dc9_46 (by decide +kernel)
theorem d_MS_writeRows_168 : decode y_MS_writeRows.2.1 168 = .ok (.i2l, 1) := dc9_133 (by decide +kernel)
theorem d_MS_writeRows_169 : decode y_MS_writeRows.2.1 169 = .ok (.invokevirtual 141, 3) := dc9_182 (by decide +kernel)
theorem d_MS_writeRows_172 : decode y_MS_writeRows.2.1 172 = .ok (.aload_n 0, 1) := dc9_42 (by decide +kernel)
theorem d_MS_writeRows_173 : decode y_MS_writeRows.2.1 173 = .ok (.getfield 10, 3) := dc9_180 (by decide +kernel)
theorem d_MS_writeRows_176 : decode y_MS_writeRows.2.1 176 = .ok (.aload 6, 2) := dc9_25 (by decide +kernel)
theorem d_MS_writeRows_178 : decode y_MS_writeRows.2.1 178 = .ok (.aload_n 0, 1) := dc9_42 (by decide +kernel)
theorem d_MS_writeRows_179 : decode y_MS_writeRows.2.1 179 = .ok (.getfield 84, 3) := dc9_180 (by decide +kernel)
theorem d_MS_writeRows_182 : decode y_MS_writeRows.2.1 182 = .ok (.iload 5, 2) := dc9_21 (by decide +kernel)
theorem d_MS_writeRows_184 : decode y_MS_writeRows.2.1 184 = .ok (.ifCond .ne 7, 3) := dc9_154 (by decide +kernel)
theorem d_MS_writeRows_187 : decode y_MS_writeRows.2.1 187 = .ok (.iconst 1, 1) := dc9_4 (by decide +kernel)
theorem d_MS_writeRows_188 : decode y_MS_writeRows.2.1 188 = .ok (.goto 4, 3) := dc9_167 (by decide +kernel)
theorem d_MS_writeRows_191 : decode y_MS_writeRows.2.1 191 = .ok (.iconst 0, 1) := dc9_3 (by decide +kernel)
theorem d_MS_writeRows_192 : decode y_MS_writeRows.2.1 192 = .ok (.invokevirtual 156, 3) := dc9_182 (by decide +kernel)
theorem d_MS_writeRows_195 : decode y_MS_writeRows.2.1 195 = .ok (.aload 6, 2) := dc9_25 (by decide +kernel)
theorem d_MS_writeRows_197 : decode y_MS_writeRows.2.1 197 = .ok (.aload_n 0, 1) := dc9_42 (by decide +kernel)
theorem d_MS_writeRows_198 : decode y_MS_writeRows.2.1 198 = .ok (.getfield 10, 3) := dc9_180 (by decide +kernel)
theorem d_MS_writeRows_201 : decode y_MS_writeRows.2.1 201 = .ok (.getfield 149, 3) := dc9_180 (by decide +kernel)
theorem d_MS_writeRows_204 : decode y_MS_writeRows.2.1 204 = .ok (.invokevirtual 152, 3) := dc9_182 (by decide +kernel)
theorem d_MS_writeRows_207 : decode y_MS_writeRows.2.1 207 = .ok (.iinc 3 1, 3) := by decide +kernel
theorem d_MS_writeRows_210 : decode y_MS_writeRows.2.1 210 = .ok (.goto (-133), 3) := dc9_167 (by decide +kernel)
def h_MS_writeRows_2 (G : mG) (d : Nat) (a0 : Nat) (l1 : Int) (M : mM) (Q : mM → Prop) : Prop := mWm G y_MS_writeRows (d + 1) 2 [vr a0, vi l1, vd, vd, vd, vd, vd] [] M (fun r9 M9 => r9 = none ∧ Q M9)
def h_MS_writeRows_12 (G : mG) (d : Nat) (a0 : Nat) (l1 : Int) (l2 : Int) (M : mM) (Q : mM → Prop) : Prop := mWm G y_MS_writeRows (d + 1) 12 [vr a0, vi l1, vi l2, vd, vd, vd, vd] [] M (fun r9 M9 => r9 = none ∧ Q M9)
def h_MS_writeRows_77 (G : mG) (d : Nat) (a0 : Nat) (l1 : Int) (l2 : Int) (l3 : Int) (M : mM) (Q : mM → Prop) : Prop := mWm G y_MS_writeRows (d + 1) 77 [vr a0, vi l1, vi l2, vi l3, vd, vd, vd] [] M (fun r9 M9 => r9 = none ∧ Q M9)
def h_MS_writeRows_207 (G : mG) (d : Nat) (a0 : Nat) (l1 : Int) (l2 : Int) (l3 : Int) (M : mM) (Q : mM → Prop) : Prop := mWm G y_MS_writeRows (d + 1) 207 [vr a0, vi l1, vi l2, vi l3, vd, vd, vd] [] M (fun r9 M9 => r9 = none ∧ Q M9)
theorem k_MS_writeRows {G : mG} {d : Nat} {a0 : Nat} {M : mM} {Q : mM → Prop} (hO : mOk M)
    (h : h_MS_writeRows_2 G d a0 0 M Q) :
    Cv G y_MS_writeRows (d + 1) [vr a0] M Q := by
  refine wm_open (y := y_MS_writeRows) rfl (Nat.le_of_ble_eq_true rfl) (L := [vr a0, vd, vd, vd, vd, vd, vd]) rfl ?_
  refine wm_iconst d_MS_writeRows_0 ?_
  refine wm_istore_n d_MS_writeRows_1 rfl (by decide) (L' := [vr a0, vi 0, vd, vd, vd, vd, vd]) rfl ?_
  exact h
theorem k_MS_writeRows_2 {G : mG} {d : Nat} {a0 : Nat} {l1 : Int} {M : mM} {Q : mM → Prop} (hO : mOk M) (hi_l1 : i32 l1)
    (h : mK M a0 = 17 ∧ ((mI M a0 24 ≤ l1) → (Q M)) ∧ (¬ (mI M a0 24 ≤ l1) → (h_MS_writeRows_12 G d a0 l1 0 M Q))) :
    h_MS_writeRows_2 G d a0 l1 M Q := by
  unfold h_MS_writeRows_2
  obtain ⟨h1, h⟩ := h
  refine wm_iload_n d_MS_writeRows_2 rfl rfl ?_
  refine wm_aload_n d_MS_writeRows_3 rfl rfl ?_
  refine gf_MS_160 rfl d_MS_writeRows_4 h1 ?_
  refine wm_icmp_ge (tgt := 219) d_MS_writeRows_7 rfl hi_l1 (hO _ _).1 (fun c3 => ?_) (fun c3 => ?_)
  · replace h := h.1 c3
    refine wm_return d_MS_writeRows_219 rfl ?_
    exact ⟨rfl, h⟩
  · replace h := h.2 c3
    refine wm_iconst d_MS_writeRows_10 ?_
    refine wm_istore_n d_MS_writeRows_11 rfl (by decide) (L' := [vr a0, vi l1, vi 0, vd, vd, vd, vd]) rfl ?_
    exact h
theorem k_MS_writeRows_12 {G : mG} {d : Nat} {a0 : Nat} {l1 : Int} {l2 : Int} {M : mM} {Q : mM → Prop} (hO : mOk M) (hi_l1 : i32 l1) (hi_l2 : i32 l2)
    (h : mK M a0 = 17 ∧ ((mI M a0 24 < l2) → (mK M (mR M a0 22) = 30 ∧ ((0 : Int) ≤ l1 ∧ l1 < (mN M (mR M a0 22) : Int)) ∧ mK M (mR M a0 5) = 30 ∧ ((0 : Int) ≤ mI M (mR M a0 22) (Int.toNat l1) ∧ mI M (mR M a0 22) (Int.toNat l1) < (mN M (mR M a0 5) : Int)) ∧ ((0 : Int) ≤ l1 ∧ l1 < (mN M (mR M a0 22) : Int)) ∧ mK M (mR M a0 18) = 30 ∧ ((0 : Int) ≤ mI M (mR M a0 22) (Int.toNat l1) ∧ mI M (mR M a0 22) (Int.toNat l1) < (mN M (mR M a0 18) : Int)) ∧ mK M (mR M a0 7) = 30 ∧ ((0 : Int) ≤ (mI M (mR M a0 5) (Int.toNat (mI M (mR M a0 22) (Int.toNat l1)))) + (mI M (mR M a0 18) (Int.toNat (mI M (mR M a0 22) (Int.toNat l1)))) ∧ (mI M (mR M a0 5) (Int.toNat (mI M (mR M a0 22) (Int.toNat l1)))) + (mI M (mR M a0 18) (Int.toNat (mI M (mR M a0 22) (Int.toNat l1)))) < (mN M (mR M a0 7) : Int)) ∧ h_MS_writeRows_77 G d a0 l1 ((mI M (mR M a0 5) (Int.toNat (mI M (mR M a0 22) (Int.toNat l1)))) + (mI M (mR M a0 18) (Int.toNat (mI M (mR M a0 22) (Int.toNat l1))))) (mI M (mR M a0 7) (Int.toNat ((mI M (mR M a0 5) (Int.toNat (mI M (mR M a0 22) (Int.toNat l1)))) + (mI M (mR M a0 18) (Int.toNat (mI M (mR M a0 22) (Int.toNat l1))))))) M Q)) ∧ (¬ (mI M a0 24 < l2) → (Cr G y_MS_cell d [vr a0, vi l1, vi l2] M (fun x26 M25 => mOk M25 ∧ (∀ v29 : Int, v29 = (if (l1 = l2) then 1 else 0) → mK M25 x26 = 19 ∧ Cv G y_MF_set d [vr x26, vl v29, vl 1] M25 (fun M34 => mOk M34 ∧ (h_MS_writeRows_12 G d a0 l1 (l2 + 1) M34 Q))))))) :
    h_MS_writeRows_12 G d a0 l1 l2 M Q := by
  unfold h_MS_writeRows_12
  obtain ⟨h4, h⟩ := h
  refine wm_iload_n d_MS_writeRows_12 rfl rfl ?_
  refine wm_aload_n d_MS_writeRows_13 rfl rfl ?_
  refine gf_MS_160 rfl d_MS_writeRows_14 h4 ?_
  refine wm_icmp_gt (tgt := 46) d_MS_writeRows_17 rfl hi_l2 (hO _ _).1 (fun c15 => ?_) (fun c15 => ?_)
  · replace h := h.1 c15
    obtain ⟨h16, h⟩ := h
    obtain ⟨h17, h⟩ := h
    obtain ⟨h18, h⟩ := h
    obtain ⟨h19, h⟩ := h
    obtain ⟨h20, h⟩ := h
    obtain ⟨h21, h⟩ := h
    obtain ⟨h22, h⟩ := h
    obtain ⟨h23, h⟩ := h
    obtain ⟨h24, h⟩ := h
    refine wm_aload_n d_MS_writeRows_46 rfl rfl ?_
    refine gf_MS_20 rfl d_MS_writeRows_47 h4 ?_
    refine wm_aload_n d_MS_writeRows_50 rfl rfl ?_
    refine gf_MS_72 rfl d_MS_writeRows_51 h4 ?_
    refine wm_iload_n d_MS_writeRows_54 rfl rfl ?_
    refine wm_iald d_MS_writeRows_55 h16 h17 ?_
    refine wm_iald d_MS_writeRows_56 h18 h19 ?_
    refine wm_aload_n d_MS_writeRows_57 rfl rfl ?_
    refine gf_MS_60 rfl d_MS_writeRows_58 h4 ?_
    refine wm_aload_n d_MS_writeRows_61 rfl rfl ?_
    refine gf_MS_72 rfl d_MS_writeRows_62 h4 ?_
    refine wm_iload_n d_MS_writeRows_65 rfl rfl ?_
    refine wm_iald d_MS_writeRows_66 h16 h20 ?_
    refine wm_iald d_MS_writeRows_67 h21 h22 ?_
    refine wm_iadd d_MS_writeRows_68 ?_
    refine wm_istore_n d_MS_writeRows_69 rfl (by decide) (L' := [vr a0, vi l1, vi ((mI M (mR M a0 5) (Int.toNat (mI M (mR M a0 22) (Int.toNat l1)))) + (mI M (mR M a0 18) (Int.toNat (mI M (mR M a0 22) (Int.toNat l1))))), vd, vd, vd, vd]) rfl ?_
    refine wm_aload_n d_MS_writeRows_70 rfl rfl ?_
    refine gf_MS_26 rfl d_MS_writeRows_71 h4 ?_
    refine wm_iload_n d_MS_writeRows_74 rfl rfl ?_
    refine wm_iald d_MS_writeRows_75 h23 h24 ?_
    refine wm_istore_n d_MS_writeRows_76 rfl (by decide) (L' := [vr a0, vi l1, vi ((mI M (mR M a0 5) (Int.toNat (mI M (mR M a0 22) (Int.toNat l1)))) + (mI M (mR M a0 18) (Int.toNat (mI M (mR M a0 22) (Int.toNat l1))))), vi (mI M (mR M a0 7) (Int.toNat ((mI M (mR M a0 5) (Int.toNat (mI M (mR M a0 22) (Int.toNat l1)))) + (mI M (mR M a0 18) (Int.toNat (mI M (mR M a0 22) (Int.toNat l1))))))), vd, vd, vd]) rfl ?_
    exact h
  · replace h := h.2 c15
    refine wm_aload_n d_MS_writeRows_20 rfl rfl ?_
    refine wm_iload_n d_MS_writeRows_21 rfl rfl ?_
    refine wm_iload_n d_MS_writeRows_22 rfl rfl ?_
    refine cf_MS_163 rfl d_MS_writeRows_23 h4 (Nat.le_of_ble_eq_true rfl) (Cr.mono h (fun x26 M25 h => ?_))
    obtain ⟨hOM25, h⟩ := h
    refine wm_iload_n d_MS_writeRows_26 rfl rfl ?_
    refine wm_iload_n d_MS_writeRows_27 rfl rfl ?_
    have hJ : ∀ v29 : Int, v29 = (if (l1 = l2) then 1 else 0) → mWm G y_MS_writeRows (d + 1) 36 [vr a0, vi l1, vi l2, vd, vd, vd, vd] [vl v29, vr x26] M25 (fun r9 M9 => r9 = none ∧ Q M9) := by
      intro v29 e31
      have h := h v29 e31
      have h32 : (v29 = 0 ∨ v29 = 1) := by rw [e31]; (repeat' split) <;> decide
      obtain ⟨h33, h⟩ := h
      refine wm_lconst (x := 1) d_MS_writeRows_36 rfl ?_
      refine cf_MS_141 rfl d_MS_writeRows_37 h33 (Nat.le_of_ble_eq_true rfl) (Cv.mono h (fun M34 h => ?_))
      obtain ⟨hOM34, h⟩ := h
      refine wm_iinc d_MS_writeRows_40 (by decide) rfl (L' := [vr a0, vi l1, vi (l2 + 1), vd, vd, vd, vd]) rfl ?_
      refine wm_goto (tgt := 12) d_MS_writeRows_43 rfl ?_
      exact h
    clear h
    refine wm_icmp_ne (tgt := 35) d_MS_writeRows_28 rfl hi_l1 hi_l2 (fun c28 => ?_) (fun c28 => ?_)
    · refine wm_lconst (x := 0) d_MS_writeRows_35 rfl ?_
      exact hJ 0 (if_neg c28).symm
    · replace c28 := Classical.not_not.mp c28
      refine wm_lconst (x := 1) d_MS_writeRows_31 rfl ?_
      refine wm_goto (tgt := 36) d_MS_writeRows_32 rfl ?_
      exact hJ 1 (if_pos c28).symm
theorem k_MS_writeRows_77 {G : mG} {d : Nat} {a0 : Nat} {l1 : Int} {l2 : Int} {l3 : Int} {M : mM} {Q : mM → Prop} (hO : mOk M) (hi_l1 : i32 l1) (hi_l2 : i32 l2) (hi_l3 : i32 l3)
    (h : mK M a0 = 17 ∧ mK M (mR M a0 7) = 30 ∧ ((0 : Int) ≤ l2 + 1 ∧ l2 + 1 < (mN M (mR M a0 7) : Int)) ∧ ((mI M (mR M a0 7) (Int.toNat (l2 + 1)) ≤ l3) → (h_MS_writeRows_2 G d a0 (l1 + 1) M Q)) ∧ (¬ (mI M (mR M a0 7) (Int.toNat (l2 + 1)) ≤ l3) → (mK M (mR M a0 8) = 30 ∧ ((0 : Int) ≤ l3 ∧ l3 < (mN M (mR M a0 8) : Int)) ∧ mK M (mR M a0 19) = 31 ∧ ((0 : Int) ≤ mI M (mR M a0 8) (Int.toNat l3) ∧ mI M (mR M a0 8) (Int.toNat l3) < (mN M (mR M a0 19) : Int)) ∧ ((mI M (mR M a0 19) (Int.toNat (mI M (mR M a0 8) (Int.toNat l3))) = 0) → (h_MS_writeRows_207 G d a0 l1 l2 l3 M Q)) ∧ (¬ (mI M (mR M a0 19) (Int.toNat (mI M (mR M a0 8) (Int.toNat l3))) = 0) → (mK M (mR M a0 4) = 30 ∧ ((0 : Int) ≤ mI M (mR M a0 8) (Int.toNat l3) ∧ mI M (mR M a0 8) (Int.toNat l3) < (mN M (mR M a0 4) : Int)) ∧ ∀ v59 : Int, v59 = (if (mI M (mR M a0 4) (Int.toNat (mI M (mR M a0 8) (Int.toNat l3))) = 3) then 1 else 0) → ((v59 = 0) → (mK M (mR M a0 23) = 30 ∧ ((0 : Int) ≤ mI M (mR M a0 8) (Int.toNat l3) ∧ mI M (mR M a0 8) (Int.toNat l3) < (mN M (mR M a0 23) : Int)))) ∧ ∀ v67 : Int, v67 = (if (v59 = 0) then mI M (mR M a0 23) (Int.toNat (mI M (mR M a0 8) (Int.toNat l3))) else mI M a0 24) → Cr G y_MS_cell d [vr a0, vi l1, vi v67] M (fun x71 M70 => mOk M70 ∧ (mK M70 a0 = 17 ∧ mK M70 (mR M70 a0 9) = 30 ∧ ((0 : Int) ≤ l3 ∧ l3 < (mN M70 (mR M70 a0 9) : Int)) ∧ mK M70 (mR M70 a0 10) = 30 ∧ ((0 : Int) ≤ l3 ∧ l3 < (mN M70 (mR M70 a0 10) : Int)) ∧ mK M70 (mR M70 a0 26) = 19 ∧ Cv G y_MF_set d [vr (mR M70 a0 26), vl (mI M70 (mR M70 a0 9) (Int.toNat l3)), vl (mI M70 (mR M70 a0 10) (Int.toNat l3))] M70 (fun M79 => mOk M79 ∧ (mK M79 a0 = 17 ∧ ∀ v84 : Int, v84 = (if (v59 = 0) then 1 else 0) → mK M79 (mR M79 a0 0) = 18 ∧ Cv G y_MU_add d [vr (mR M79 a0 0), vr x71, vr (mR M79 a0 26), vi v84] M79 (fun M90 => mOk M90 ∧ (mK M90 a0 = 17 ∧ mK M90 (mR M90 a0 0) = 18 ∧ mK M90 x71 = 19 ∧ Cv G y_MF_copy d [vr x71, vr (mR M90 (mR M90 a0 0) 0)] M90 (fun M96 => mOk M96 ∧ (h_MS_writeRows_207 G d a0 l1 l2 l3 M96 Q))))))))))))) :
    h_MS_writeRows_77 G d a0 l1 l2 l3 M Q := by
  unfold h_MS_writeRows_77
  obtain ⟨h38, h⟩ := h
  obtain ⟨h39, h⟩ := h
  obtain ⟨h40, h⟩ := h
  refine wm_iload_n d_MS_writeRows_77 rfl rfl ?_
  refine wm_aload_n d_MS_writeRows_78 rfl rfl ?_
  refine gf_MS_26 rfl d_MS_writeRows_79 h38 ?_
  refine wm_iload_n d_MS_writeRows_82 rfl rfl ?_
  refine wm_iconst d_MS_writeRows_83 ?_
  refine wm_iadd d_MS_writeRows_84 ?_
  refine wm_iald d_MS_writeRows_85 h39 h40 ?_
  refine wm_icmp_ge (tgt := 213) d_MS_writeRows_86 rfl hi_l3 (hO _ _).1 (fun c46 => ?_) (fun c46 => ?_)
  · replace h := h.1 c46
    refine wm_iinc d_MS_writeRows_213 (by decide) rfl (L' := [vr a0, vi (l1 + 1), vi l2, vi l3, vd, vd, vd]) rfl ?_
    refine wm_goto (tgt := 2) d_MS_writeRows_216 rfl ?_
    refine wm_less (L' := [vr a0, vi (l1 + 1), vd, vd, vd, vd, vd]) ⟨Or.inr rfl, Or.inr rfl, Or.inl rfl, Or.inl rfl, Or.inl rfl, Or.inl rfl, Or.inl rfl, trivial⟩ ?_
    exact h
  · replace h := h.2 c46
    obtain ⟨h47, h⟩ := h
    obtain ⟨h48, h⟩ := h
    obtain ⟨h49, h⟩ := h
    obtain ⟨h50, h⟩ := h
    refine wm_aload_n d_MS_writeRows_89 rfl rfl ?_
    refine gf_MS_29 rfl d_MS_writeRows_90 h38 ?_
    refine wm_iload_n d_MS_writeRows_93 rfl rfl ?_
    refine wm_iald d_MS_writeRows_94 h47 h48 ?_
    refine wm_istore d_MS_writeRows_95 (by decide) (L' := [vr a0, vi l1, vi l2, vi l3, vi (mI M (mR M a0 8) (Int.toNat l3)), vd, vd]) rfl ?_
    refine wm_aload_n d_MS_writeRows_97 rfl rfl ?_
    refine gf_MS_63 rfl d_MS_writeRows_98 h38 ?_
    refine wm_iload d_MS_writeRows_101 rfl ?_
    refine wm_zald d_MS_writeRows_103 h49 h50 ?_
    refine wm_if_eq (tgt := 207) d_MS_writeRows_104 rfl (hO _ _).1 (fun c55 => ?_) (fun c55 => ?_)
    · replace h := h.1 c55
      refine wm_less (L' := [vr a0, vi l1, vi l2, vi l3, vd, vd, vd]) ⟨Or.inr rfl, Or.inr rfl, Or.inr rfl, Or.inr rfl, Or.inl rfl, Or.inl rfl, Or.inl rfl, trivial⟩ ?_
      exact h
    · replace h := h.2 c55
      obtain ⟨h56, h⟩ := h
      obtain ⟨h57, h⟩ := h
      refine wm_aload_n d_MS_writeRows_107 rfl rfl ?_
      refine gf_MS_16 rfl d_MS_writeRows_108 h38 ?_
      refine wm_iload d_MS_writeRows_111 rfl ?_
      refine wm_iald d_MS_writeRows_113 h56 h57 ?_
      refine wm_iconst d_MS_writeRows_114 ?_
      have hJ : ∀ v59 : Int, v59 = (if (mI M (mR M a0 4) (Int.toNat (mI M (mR M a0 8) (Int.toNat l3))) = 3) then 1 else 0) → mWm G y_MS_writeRows (d + 1) 123 [vr a0, vi l1, vi l2, vi l3, vi (mI M (mR M a0 8) (Int.toNat l3)), vd, vd] [vi v59] M (fun r9 M9 => r9 = none ∧ Q M9) := by
        intro v59 e61
        have h := h v59 e61
        have h62 : i32 v59 := by rw [e61]; (repeat' split) <;> first | exact ⟨by decide, by decide⟩ | exact ⟨by decide, by decide⟩
        have h63 : (v59 = 0 ∨ v59 = 1) := by rw [e61]; (repeat' split) <;> decide
        refine wm_istore d_MS_writeRows_123 (by decide) (L' := [vr a0, vi l1, vi l2, vi l3, vi (mI M (mR M a0 8) (Int.toNat l3)), vi v59, vd]) rfl ?_
        refine wm_aload_n d_MS_writeRows_125 rfl rfl ?_
        refine wm_iload_n d_MS_writeRows_126 rfl rfl ?_
        refine wm_iload d_MS_writeRows_127 rfl ?_
        obtain ⟨s68, h⟩ := h
        have hJ : ∀ v67 : Int, v67 = (if (v59 = 0) then mI M (mR M a0 23) (Int.toNat (mI M (mR M a0 8) (Int.toNat l3))) else mI M a0 24) → mWm G y_MS_writeRows (d + 1) 146 [vr a0, vi l1, vi l2, vi l3, vd, vi v59, vd] [vi v67, vi l1, vr a0] M (fun r9 M9 => r9 = none ∧ Q M9) := by
          intro v67 e69
          have h := h v67 e69
          refine cf_MS_163 rfl d_MS_writeRows_146 h38 (Nat.le_of_ble_eq_true rfl) (Cr.mono h (fun x71 M70 h => ?_))
          obtain ⟨hOM70, h⟩ := h
          obtain ⟨h73, h⟩ := h
          obtain ⟨h74, h⟩ := h
          obtain ⟨h75, h⟩ := h
          obtain ⟨h76, h⟩ := h
          obtain ⟨h77, h⟩ := h
          obtain ⟨h78, h⟩ := h
          refine wm_astore d_MS_writeRows_149 (by decide) (L' := [vr a0, vi l1, vi l2, vi l3, vd, vi v59, vr x71]) rfl ?_
          refine wm_aload_n d_MS_writeRows_151 rfl rfl ?_
          refine gf_MS_84 rfl d_MS_writeRows_152 h73 ?_
          refine wm_aload_n d_MS_writeRows_155 rfl rfl ?_
          refine gf_MS_32 rfl d_MS_writeRows_156 h73 ?_
          refine wm_iload_n d_MS_writeRows_159 rfl rfl ?_
          refine wm_iald d_MS_writeRows_160 h74 h75 ?_
          refine wm_i2l d_MS_writeRows_161 (hOM70 _ _).1 ?_
          refine wm_aload_n d_MS_writeRows_162 rfl rfl ?_
          refine gf_MS_35 rfl d_MS_writeRows_163 h73 ?_
          refine wm_iload_n d_MS_writeRows_166 rfl rfl ?_
          refine wm_iald d_MS_writeRows_167 h76 h77 ?_
          refine wm_i2l d_MS_writeRows_168 (hOM70 _ _).1 ?_
          refine cf_MS_141 rfl d_MS_writeRows_169 h78 (Nat.le_of_ble_eq_true rfl) (Cv.mono h (fun M79 h => ?_))
          obtain ⟨hOM79, h⟩ := h
          obtain ⟨h82, h⟩ := h
          refine wm_aload_n d_MS_writeRows_172 rfl rfl ?_
          refine gf_MS_10 rfl d_MS_writeRows_173 h82 ?_
          refine wm_aload d_MS_writeRows_176 rfl ?_
          refine wm_aload_n d_MS_writeRows_178 rfl rfl ?_
          refine gf_MS_84 rfl d_MS_writeRows_179 h82 ?_
          refine wm_iload d_MS_writeRows_182 rfl ?_
          have hJ : ∀ v84 : Int, v84 = (if (v59 = 0) then 1 else 0) → mWm G y_MS_writeRows (d + 1) 192 [vr a0, vi l1, vi l2, vi l3, vd, vd, vr x71] [vi v84, vr (mR M79 a0 26), vr x71, vr (mR M79 a0 0)] M79 (fun r9 M9 => r9 = none ∧ Q M9) := by
            intro v84 e86
            have h := h v84 e86
            have h87 : i32 v84 := by rw [e86]; (repeat' split) <;> first | exact ⟨by decide, by decide⟩ | exact ⟨by decide, by decide⟩
            have h88 : (v84 = 0 ∨ v84 = 1) := by rw [e86]; (repeat' split) <;> decide
            obtain ⟨h89, h⟩ := h
            refine cf_MS_156 rfl d_MS_writeRows_192 h89 (Nat.le_of_ble_eq_true rfl) (Cv.mono h (fun M90 h => ?_))
            obtain ⟨hOM90, h⟩ := h
            obtain ⟨h93, h⟩ := h
            obtain ⟨h94, h⟩ := h
            obtain ⟨h95, h⟩ := h
            refine wm_aload d_MS_writeRows_195 rfl ?_
            refine wm_aload_n d_MS_writeRows_197 rfl rfl ?_
            refine gf_MS_10 rfl d_MS_writeRows_198 h93 ?_
            refine gf_MS_149 rfl d_MS_writeRows_201 h94 ?_
            refine cf_MS_152 rfl d_MS_writeRows_204 h95 (Nat.le_of_ble_eq_true rfl) (Cv.mono h (fun M96 h => ?_))
            obtain ⟨hOM96, h⟩ := h
            refine wm_less (L' := [vr a0, vi l1, vi l2, vi l3, vd, vd, vd]) ⟨Or.inr rfl, Or.inr rfl, Or.inr rfl, Or.inr rfl, Or.inl rfl, Or.inl rfl, Or.inl rfl, trivial⟩ ?_
            exact h
          clear h
          refine wm_if_ne (tgt := 191) d_MS_writeRows_184 rfl h62 (fun c83 => ?_) (fun c83 => ?_)
          · refine wm_iconst d_MS_writeRows_191 ?_
            refine wm_less (L' := [vr a0, vi l1, vi l2, vi l3, vd, vd, vr x71]) ⟨Or.inr rfl, Or.inr rfl, Or.inr rfl, Or.inr rfl, Or.inl rfl, Or.inl rfl, Or.inr rfl, trivial⟩ ?_
            exact hJ 0 (if_neg c83).symm
          · replace c83 := Classical.not_not.mp c83
            refine wm_iconst d_MS_writeRows_187 ?_
            refine wm_goto (tgt := 192) d_MS_writeRows_188 rfl ?_
            refine wm_less (L' := [vr a0, vi l1, vi l2, vi l3, vd, vd, vr x71]) ⟨Or.inr rfl, Or.inr rfl, Or.inr rfl, Or.inr rfl, Or.inl rfl, Or.inl rfl, Or.inr rfl, trivial⟩ ?_
            exact hJ 1 (if_pos c83).symm
        clear h
        have s100 := s68
        refine wm_if_eq (tgt := 139) d_MS_writeRows_129 rfl h62 (fun c64 => ?_) (fun c64 => ?_)
        · have s100 := s100 c64
          obtain ⟨h65, h66⟩ := s100
          refine wm_aload_n d_MS_writeRows_139 rfl rfl ?_
          refine gf_MS_75 rfl d_MS_writeRows_140 h38 ?_
          refine wm_iload d_MS_writeRows_143 rfl ?_
          refine wm_iald d_MS_writeRows_145 h65 h66 ?_
          refine wm_less (L' := [vr a0, vi l1, vi l2, vi l3, vd, vi v59, vd]) ⟨Or.inr rfl, Or.inr rfl, Or.inr rfl, Or.inr rfl, Or.inl rfl, Or.inr rfl, Or.inl rfl, trivial⟩ ?_
          exact hJ (mI M (mR M a0 23) (Int.toNat (mI M (mR M a0 8) (Int.toNat l3)))) (if_pos c64).symm
        · refine wm_aload_n d_MS_writeRows_132 rfl rfl ?_
          refine gf_MS_160 rfl d_MS_writeRows_133 h38 ?_
          refine wm_goto (tgt := 146) d_MS_writeRows_136 rfl ?_
          refine wm_less (L' := [vr a0, vi l1, vi l2, vi l3, vd, vi v59, vd]) ⟨Or.inr rfl, Or.inr rfl, Or.inr rfl, Or.inr rfl, Or.inl rfl, Or.inr rfl, Or.inl rfl, trivial⟩ ?_
          exact hJ (mI M a0 24) (if_neg c64).symm
      clear h
      refine wm_icmp_ne (tgt := 122) d_MS_writeRows_115 rfl (hO _ _).1 ⟨by decide, by decide⟩ (fun c58 => ?_) (fun c58 => ?_)
      · refine wm_iconst d_MS_writeRows_122 ?_
        exact hJ 0 (if_neg c58).symm
      · replace c58 := Classical.not_not.mp c58
        refine wm_iconst d_MS_writeRows_118 ?_
        refine wm_goto (tgt := 123) d_MS_writeRows_119 rfl ?_
        exact hJ 1 (if_pos c58).symm
theorem k_MS_writeRows_207 {G : mG} {d : Nat} {a0 : Nat} {l1 : Int} {l2 : Int} {l3 : Int} {M : mM} {Q : mM → Prop} (hO : mOk M) (hi_l1 : i32 l1) (hi_l2 : i32 l2) (hi_l3 : i32 l3)
    (h : h_MS_writeRows_77 G d a0 l1 l2 (l3 + 1) M Q) :
    h_MS_writeRows_207 G d a0 l1 l2 l3 M Q := by
  unfold h_MS_writeRows_207
  refine wm_iinc d_MS_writeRows_207 (by decide) rfl (L' := [vr a0, vi l1, vi l2, vi (l3 + 1), vd, vd, vd]) rfl ?_
  refine wm_goto (tgt := 77) d_MS_writeRows_210 rfl ?_
  exact h
theorem d_MS_solveRows_0 : decode y_MS_solveRows.2.1 0 = .ok (.iconst 0, 1) := dc9_3 (by decide +kernel)
theorem d_MS_solveRows_1 : decode y_MS_solveRows.2.1 1 = .ok (.istore_n 1, 1) := dc9_60 (by decide +kernel)
theorem d_MS_solveRows_2 : decode y_MS_solveRows.2.1 2 = .ok (.iload_n 1, 1) := dc9_27 (by decide +kernel)
theorem d_MS_solveRows_3 : decode y_MS_solveRows.2.1 3 = .ok (.aload_n 0, 1) := dc9_42 (by decide +kernel)
theorem d_MS_solveRows_4 : decode y_MS_solveRows.2.1 4 = .ok (.getfield 160, 3) := dc9_180 (by decide +kernel)
theorem d_MS_solveRows_7 : decode y_MS_solveRows.2.1 7 = .ok (.if_icmp .ge 99, 3) := dc9_162 (by decide +kernel)
theorem d_MS_solveRows_106 : decode y_MS_solveRows.2.1 106 = .ok (.return_, 1) := dc9_177 (by decide +kernel)
theorem d_MS_solveRows_10 : decode y_MS_solveRows.2.1 10 = .ok (.aload_n 0, 1) := dc9_42 (by decide +kernel)
theorem d_MS_solveRows_11 : decode y_MS_solveRows.2.1 11 = .ok (.getfield 160, 3) := dc9_180 (by decide +kernel)
theorem d_MS_solveRows_14 : decode y_MS_solveRows.2.1 14 = .ok (.istore_n 2, 1) := dc9_61 (by decide +kernel)
theorem d_MS_solveRows_15 : decode y_MS_solveRows.2.1 15 = .ok (.iload_n 2, 1) := dc9_28 (by decide +kernel)
theorem d_MS_solveRows_16 : decode y_MS_solveRows.2.1 16 = .ok (.iload_n 1, 1) := dc9_27 (by decide +kernel)
theorem d_MS_solveRows_17 : decode y_MS_solveRows.2.1 17 = .ok (.if_icmp .lt 44, 3) := dc9_161 (by decide +kernel)
theorem d_MS_solveRows_61 : decode y_MS_solveRows.2.1 61 = .ok (.iconst 0, 1) := dc9_3 (by decide +kernel)
theorem d_MS_solveRows_62 : decode y_MS_solveRows.2.1 62 = .ok (.istore_n 2, 1) := dc9_61 (by decide +kernel)
theorem d_MS_solveRows_20 : decode y_MS_solveRows.2.1 20 = .ok (.aload_n 0, 1) := dc9_42 (by decide +kernel)
theorem d_MS_solveRows_21 : decode y_MS_solveRows.2.1 21 = .ok (.getfield 10, 3) := dc9_180 (by decide +kernel)
theorem d_MS_solveRows_24 : decode y_MS_solveRows.2.1 24 = .ok (.aload_n 0, 1) := dc9_42 (by decide +kernel)
theorem d_MS_solveRows_25 : decode y_MS_solveRows.2.1 25 = .ok (.iload_n 1, 1) := dc9_27 (by decide +kernel)
theorem d_MS_solveRows_26 : decode y_MS_solveRows.2.1 26 = .ok (.iload_n 2, 1) := dc9_28 (by decide +kernel)
theorem d_MS_solveRows_27 : decode y_MS_solveRows.2.1 27 = .ok (.invokevirtual 163, 3) := dc9_182 (by decide +kernel)
theorem d_MS_solveRows_30 : decode y_MS_solveRows.2.1 30 = .ok (.aload_n 0, 1) := dc9_42 (by decide +kernel)
theorem d_MS_solveRows_31 : decode y_MS_solveRows.2.1 31 = .ok (.iload_n 1, 1) := dc9_27 (by decide +kernel)
theorem d_MS_solveRows_32 : decode y_MS_solveRows.2.1 32 = .ok (.iload_n 1, 1) := dc9_27 (by decide +kernel)
theorem d_MS_solveRows_33 : decode y_MS_solveRows.2.1 33 = .ok (.invokevirtual 163, 3) := dc9_182 (by decide +kernel)
theorem d_MS_solveRows_36 : decode y_MS_solveRows.2.1 36 = .ok (.invokevirtual 167, 3) := dc9_182 (by decide +kernel)
theorem d_MS_solveRows_39 : decode y_MS_solveRows.2.1 39 = .ok (.aload_n 0, 1) := dc9_42 (by decide +kernel)
theorem d_MS_solveRows_40 : decode y_MS_solveRows.2.1 40 = .ok (.iload_n 1, 1) := dc9_27 (by decide +kernel)
theorem d_MS_solveRows_41 : decode y_MS_solveRows.2.1 41 = .ok (.iload_n 2, 1) := dc9_28 (by decide +kernel)
theorem d_MS_solveRows_42 : decode y_MS_solveRows.2.1 42 = .ok (.invokevirtual 163, 3) := dc9_182 (by decide +kernel)
theorem d_MS_solveRows_45 : decode y_MS_solveRows.2.1 45 = .ok (.aload_n 0, 1) := dc9_42 (by decide +kernel)
theorem d_MS_solveRows_46 : decode y_MS_solveRows.2.1 46 = .ok (.getfield 10, 3) := dc9_180 (by decide +kernel)
theorem d_MS_solveRows_49 : decode y_MS_solveRows.2.1 49 = .ok (.getfield 149, 3) := dc9_180 (by decide +kernel)
theorem d_MS_solveRows_52 : decode y_MS_solveRows.2.1 52 = .ok (.invokevirtual 152, 3) := dc9_182 (by decide +kernel)
theorem d_MS_solveRows_55 : decode y_MS_solveRows.2.1 55 = .ok (.iinc 2 (-1), 3) := by decide +kernel
theorem d_MS_solveRows_58 : decode y_MS_solveRows.2.1 58 = .ok (.goto (-43), 3) := dc9_167 (by decide +kernel)
theorem d_MS_solveRows_63 : decode y_MS_solveRows.2.1 63 = .ok (.iload_n 2, 1) := dc9_28 (by decide +kernel)
theorem d_MS_solveRows_64 : decode y_MS_solveRows.2.1 64 = .ok (.aload_n 0, 1) := dc9_42 (by decide +kernel)
theorem d_MS_solveRows_65 : decode y_MS_solveRows.2.1 65 = .ok (.getfield 160, 3) := dc9_180 (by decide +kernel)
theorem d_MS_solveRows_68 : decode y_MS_solveRows.2.1 68 = .ok (.if_icmp .ge 32, 3) := dc9_162 (by decide +kernel)
theorem d_MS_solveRows_100 : decode y_MS_solveRows.2.1 100 = .ok (.iinc 1 1, 3) := by decide +kernel
theorem d_MS_solveRows_103 : decode y_MS_solveRows.2.1 103 = .ok (.goto (-101), 3) := dc9_167 (by decide +kernel)
theorem d_MS_solveRows_71 : decode y_MS_solveRows.2.1 71 = .ok (.iload_n 2, 1) := dc9_28 (by decide +kernel)
theorem d_MS_solveRows_72 : decode y_MS_solveRows.2.1 72 = .ok (.iload_n 1, 1) := dc9_27 (by decide +kernel)
theorem d_MS_solveRows_73 : decode y_MS_solveRows.2.1 73 = .ok (.if_icmp .eq 21, 3) := dc9_159 (by decide +kernel)
theorem d_MS_solveRows_76 : decode y_MS_solveRows.2.1 76 = .ok (.aload_n 0, 1) := dc9_42 (by decide +kernel)
theorem d_MS_solveRows_77 : decode y_MS_solveRows.2.1 77 = .ok (.iload_n 2, 1) := dc9_28 (by decide +kernel)
theorem d_MS_solveRows_78 : decode y_MS_solveRows.2.1 78 = .ok (.iload_n 1, 1) := dc9_27 (by decide +kernel)
theorem d_MS_solveRows_94 : decode y_MS_solveRows.2.1 94 = .ok (.iinc 2 1, 3) := by decide +kernel
theorem d_MS_solveRows_97 : decode y_MS_solveRows.2.1 97 = .ok (.goto (-34), 3) := dc9_167 (by decide +kernel)
theorem d_MS_solveRows_79 : decode y_MS_solveRows.2.1 79 = .ok (.invokevirtual 163, 3) := dc9_182 (by decide +kernel)
theorem d_MS_solveRows_82 : decode y_MS_solveRows.2.1 82 = .ok (.invokevirtual 170, 3) := dc9_182 (by decide +kernel)
theorem d_MS_solveRows_85 : decode y_MS_solveRows.2.1 85 = .ok (.ifCond .ne 9, 3) := dc9_154 (by decide +kernel)
theorem d_MS_solveRows_88 : decode y_MS_solveRows.2.1 88 = .ok (.aload_n 0, 1) := dc9_42 (by decide +kernel)
theorem d_MS_solveRows_89 : decode y_MS_solveRows.2.1 89 = .ok (.iload_n 2, 1) := dc9_28 (by decide +kernel)
theorem d_MS_solveRows_90 : decode y_MS_solveRows.2.1 90 = .ok (.iload_n 1, 1) := dc9_27 (by decide +kernel)
theorem d_MS_solveRows_91 : decode y_MS_solveRows.2.1 91 = .ok (.invokevirtual 174, 3) := dc9_182 (by decide +kernel)
def h_MS_solveRows_2 (G : mG) (d : Nat) (a0 : Nat) (l1 : Int) (M : mM) (Q : mM → Prop) : Prop := mWm G y_MS_solveRows (d + 1) 2 [vr a0, vi l1, vd] [] M (fun r9 M9 => r9 = none ∧ Q M9)
def h_MS_solveRows_15 (G : mG) (d : Nat) (a0 : Nat) (l1 : Int) (l2 : Int) (M : mM) (Q : mM → Prop) : Prop := mWm G y_MS_solveRows (d + 1) 15 [vr a0, vi l1, vi l2] [] M (fun r9 M9 => r9 = none ∧ Q M9)
def h_MS_solveRows_63 (G : mG) (d : Nat) (a0 : Nat) (l1 : Int) (l2 : Int) (M : mM) (Q : mM → Prop) : Prop := mWm G y_MS_solveRows (d + 1) 63 [vr a0, vi l1, vi l2] [] M (fun r9 M9 => r9 = none ∧ Q M9)
theorem k_MS_solveRows {G : mG} {d : Nat} {a0 : Nat} {M : mM} {Q : mM → Prop} (hO : mOk M)
    (h : h_MS_solveRows_2 G d a0 0 M Q) :
    Cv G y_MS_solveRows (d + 1) [vr a0] M Q := by
  refine wm_open (y := y_MS_solveRows) rfl (Nat.le_of_ble_eq_true rfl) (L := [vr a0, vd, vd]) rfl ?_
  refine wm_iconst d_MS_solveRows_0 ?_
  refine wm_istore_n d_MS_solveRows_1 rfl (by decide) (L' := [vr a0, vi 0, vd]) rfl ?_
  exact h
theorem k_MS_solveRows_2 {G : mG} {d : Nat} {a0 : Nat} {l1 : Int} {M : mM} {Q : mM → Prop} (hO : mOk M) (hi_l1 : i32 l1)
    (h : mK M a0 = 17 ∧ ((mI M a0 24 ≤ l1) → (Q M)) ∧ (¬ (mI M a0 24 ≤ l1) → (h_MS_solveRows_15 G d a0 l1 (mI M a0 24) M Q))) :
    h_MS_solveRows_2 G d a0 l1 M Q := by
  unfold h_MS_solveRows_2
  obtain ⟨h1, h⟩ := h
  refine wm_iload_n d_MS_solveRows_2 rfl rfl ?_
  refine wm_aload_n d_MS_solveRows_3 rfl rfl ?_
  refine gf_MS_160 rfl d_MS_solveRows_4 h1 ?_
  refine wm_icmp_ge (tgt := 106) d_MS_solveRows_7 rfl hi_l1 (hO _ _).1 (fun c3 => ?_) (fun c3 => ?_)
  · replace h := h.1 c3
    refine wm_return d_MS_solveRows_106 rfl ?_
    exact ⟨rfl, h⟩
  · replace h := h.2 c3
    refine wm_aload_n d_MS_solveRows_10 rfl rfl ?_
    refine gf_MS_160 rfl d_MS_solveRows_11 h1 ?_
    refine wm_istore_n d_MS_solveRows_14 rfl (by decide) (L' := [vr a0, vi l1, vi (mI M a0 24)]) rfl ?_
    exact h
theorem k_MS_solveRows_15 {G : mG} {d : Nat} {a0 : Nat} {l1 : Int} {l2 : Int} {M : mM} {Q : mM → Prop} (hO : mOk M) (hi_l1 : i32 l1) (hi_l2 : i32 l2)
    (h : ((l2 < l1) → (h_MS_solveRows_63 G d a0 l1 0 M Q)) ∧ (¬ (l2 < l1) → (mK M a0 = 17 ∧ Cr G y_MS_cell d [vr a0, vi l1, vi l2] M (fun x8 M7 => mOk M7 ∧ (mK M7 a0 = 17 ∧ Cr G y_MS_cell d [vr a0, vi l1, vi l1] M7 (fun x12 M11 => mOk M11 ∧ (mK M11 (mR M a0 0) = 18 ∧ Cv G y_MU_divide1 d [vr (mR M a0 0), vr x8, vr x12] M11 (fun M15 => mOk M15 ∧ (mK M15 a0 = 17 ∧ Cr G y_MS_cell d [vr a0, vi l1, vi l2] M15 (fun x20 M19 => mOk M19 ∧ (mK M19 a0 = 17 ∧ mK M19 (mR M19 a0 0) = 18 ∧ mK M19 x20 = 19 ∧ Cv G y_MF_copy d [vr x20, vr (mR M19 (mR M19 a0 0) 0)] M19 (fun M25 => mOk M25 ∧ (h_MS_solveRows_15 G d a0 l1 (l2 + (-1)) M25 Q))))))))))))) :
    h_MS_solveRows_15 G d a0 l1 l2 M Q := by
  unfold h_MS_solveRows_15
  refine wm_iload_n d_MS_solveRows_15 rfl rfl ?_
  refine wm_iload_n d_MS_solveRows_16 rfl rfl ?_
  refine wm_icmp_lt (tgt := 61) d_MS_solveRows_17 rfl hi_l2 hi_l1 (fun c5 => ?_) (fun c5 => ?_)
  · replace h := h.1 c5
    refine wm_iconst d_MS_solveRows_61 ?_
    refine wm_istore_n d_MS_solveRows_62 rfl (by decide) (L' := [vr a0, vi l1, vi 0]) rfl ?_
    exact h
  · replace h := h.2 c5
    obtain ⟨h6, h⟩ := h
    refine wm_aload_n d_MS_solveRows_20 rfl rfl ?_
    refine gf_MS_10 rfl d_MS_solveRows_21 h6 ?_
    refine wm_aload_n d_MS_solveRows_24 rfl rfl ?_
    refine wm_iload_n d_MS_solveRows_25 rfl rfl ?_
    refine wm_iload_n d_MS_solveRows_26 rfl rfl ?_
    refine cf_MS_163 rfl d_MS_solveRows_27 h6 (Nat.le_of_ble_eq_true rfl) (Cr.mono h (fun x8 M7 h => ?_))
    obtain ⟨hOM7, h⟩ := h
    obtain ⟨h10, h⟩ := h
    refine wm_aload_n d_MS_solveRows_30 rfl rfl ?_
    refine wm_iload_n d_MS_solveRows_31 rfl rfl ?_
    refine wm_iload_n d_MS_solveRows_32 rfl rfl ?_
    refine cf_MS_163 rfl d_MS_solveRows_33 h10 (Nat.le_of_ble_eq_true rfl) (Cr.mono h (fun x12 M11 h => ?_))
    obtain ⟨hOM11, h⟩ := h
    obtain ⟨h14, h⟩ := h
    refine cf_MS_167 rfl d_MS_solveRows_36 h14 (Nat.le_of_ble_eq_true rfl) (Cv.mono h (fun M15 h => ?_))
    obtain ⟨hOM15, h⟩ := h
    obtain ⟨h18, h⟩ := h
    refine wm_aload_n d_MS_solveRows_39 rfl rfl ?_
    refine wm_iload_n d_MS_solveRows_40 rfl rfl ?_
    refine wm_iload_n d_MS_solveRows_41 rfl rfl ?_
    refine cf_MS_163 rfl d_MS_solveRows_42 h18 (Nat.le_of_ble_eq_true rfl) (Cr.mono h (fun x20 M19 h => ?_))
    obtain ⟨hOM19, h⟩ := h
    obtain ⟨h22, h⟩ := h
    obtain ⟨h23, h⟩ := h
    obtain ⟨h24, h⟩ := h
    refine wm_aload_n d_MS_solveRows_45 rfl rfl ?_
    refine gf_MS_10 rfl d_MS_solveRows_46 h22 ?_
    refine gf_MS_149 rfl d_MS_solveRows_49 h23 ?_
    refine cf_MS_152 rfl d_MS_solveRows_52 h24 (Nat.le_of_ble_eq_true rfl) (Cv.mono h (fun M25 h => ?_))
    obtain ⟨hOM25, h⟩ := h
    refine wm_iinc d_MS_solveRows_55 (by decide) rfl (L' := [vr a0, vi l1, vi (l2 + (-1))]) rfl ?_
    refine wm_goto (tgt := 15) d_MS_solveRows_58 rfl ?_
    exact h
theorem k_MS_solveRows_63 {G : mG} {d : Nat} {a0 : Nat} {l1 : Int} {l2 : Int} {M : mM} {Q : mM → Prop} (hO : mOk M) (hi_l1 : i32 l1) (hi_l2 : i32 l2)
    (h : mK M a0 = 17 ∧ ((mI M a0 24 ≤ l2) → (h_MS_solveRows_2 G d a0 (l1 + 1) M Q)) ∧ (¬ (mI M a0 24 ≤ l2) → (((l2 = l1) → (h_MS_solveRows_63 G d a0 l1 (l2 + 1) M Q)) ∧ (¬ (l2 = l1) → (Cr G y_MS_cell d [vr a0, vi l2, vi l1] M (fun x36 M35 => mOk M35 ∧ (mK M35 x36 = 19 ∧ Ci G y_MF_isZero d [vr x36] M35 (fun x40 M39 => i32 x40 ∧ mOk M39 ∧ (((x40 = 0) → (mK M39 a0 = 17 ∧ Cv G y_MS_clearColumn d [vr a0, vi l2, vi l1] M39 (fun M46 => mOk M46 ∧ (h_MS_solveRows_63 G d a0 l1 (l2 + 1) M46 Q)))) ∧ (¬ (x40 = 0) → (h_MS_solveRows_63 G d a0 l1 (l2 + 1) M39 Q))))))))))) :
    h_MS_solveRows_63 G d a0 l1 l2 M Q := by
  unfold h_MS_solveRows_63
  obtain ⟨h28, h⟩ := h
  refine wm_iload_n d_MS_solveRows_63 rfl rfl ?_
  refine wm_aload_n d_MS_solveRows_64 rfl rfl ?_
  refine gf_MS_160 rfl d_MS_solveRows_65 h28 ?_
  refine wm_icmp_ge (tgt := 100) d_MS_solveRows_68 rfl hi_l2 (hO _ _).1 (fun c31 => ?_) (fun c31 => ?_)
  · replace h := h.1 c31
    refine wm_iinc d_MS_solveRows_100 (by decide) rfl (L' := [vr a0, vi (l1 + 1), vi l2]) rfl ?_
    refine wm_goto (tgt := 2) d_MS_solveRows_103 rfl ?_
    refine wm_less (L' := [vr a0, vi (l1 + 1), vd]) ⟨Or.inr rfl, Or.inr rfl, Or.inl rfl, trivial⟩ ?_
    exact h
  · replace h := h.2 c31
    refine wm_iload_n d_MS_solveRows_71 rfl rfl ?_
    refine wm_iload_n d_MS_solveRows_72 rfl rfl ?_
    refine wm_icmp_eq (tgt := 94) d_MS_solveRows_73 rfl hi_l2 hi_l1 (fun c34 => ?_) (fun c34 => ?_)
    · replace h := h.1 c34
      refine wm_iinc d_MS_solveRows_94 (by decide) rfl (L' := [vr a0, vi l1, vi (l2 + 1)]) rfl ?_
      refine wm_goto (tgt := 63) d_MS_solveRows_97 rfl ?_
      exact h
    · replace h := h.2 c34
      refine wm_aload_n d_MS_solveRows_76 rfl rfl ?_
      refine wm_iload_n d_MS_solveRows_77 rfl rfl ?_
      refine wm_iload_n d_MS_solveRows_78 rfl rfl ?_
      refine cf_MS_163 rfl d_MS_solveRows_79 h28 (Nat.le_of_ble_eq_true rfl) (Cr.mono h (fun x36 M35 h => ?_))
      obtain ⟨hOM35, h⟩ := h
      obtain ⟨h38, h⟩ := h
      refine cf_MS_170 rfl d_MS_solveRows_82 h38 (Nat.le_of_ble_eq_true rfl) (Ci.mono h (fun x40 M39 h => ?_))
      obtain ⟨h41, hOM39, h⟩ := h
      refine wm_if_ne (tgt := 94) d_MS_solveRows_85 rfl h41 (fun c44 => ?_) (fun c44 => ?_)
      · replace h := h.2 c44
        refine wm_iinc d_MS_solveRows_94 (by decide) rfl (L' := [vr a0, vi l1, vi (l2 + 1)]) rfl ?_
        refine wm_goto (tgt := 63) d_MS_solveRows_97 rfl ?_
        exact h
      · replace c44 := Classical.not_not.mp c44
        replace h := h.1 c44
        obtain ⟨h45, h⟩ := h
        refine wm_aload_n d_MS_solveRows_88 rfl rfl ?_
        refine wm_iload_n d_MS_solveRows_89 rfl rfl ?_
        refine wm_iload_n d_MS_solveRows_90 rfl rfl ?_
        refine cf_MS_174 rfl d_MS_solveRows_91 h45 (Nat.le_of_ble_eq_true rfl) (Cv.mono h (fun M46 h => ?_))
        obtain ⟨hOM46, h⟩ := h
        refine wm_iinc d_MS_solveRows_94 (by decide) rfl (L' := [vr a0, vi l1, vi (l2 + 1)]) rfl ?_
        refine wm_goto (tgt := 63) d_MS_solveRows_97 rfl ?_
        exact h
theorem d_MS_clearColumn_0 : decode y_MS_clearColumn.2.1 0 = .ok (.aload_n 0, 1) := dc9_42 (by decide +kernel)
theorem d_MS_clearColumn_1 : decode y_MS_clearColumn.2.1 1 = .ok (.getfield 88, 3) := dc9_180 (by decide +kernel)
theorem d_MS_clearColumn_4 : decode y_MS_clearColumn.2.1 4 = .ok (.aload_n 0, 1) := dc9_42 (by decide +kernel)
theorem d_MS_clearColumn_5 : decode y_MS_clearColumn.2.1 5 = .ok (.iload_n 1, 1) := dc9_27 (by decide +kernel)
theorem d_MS_clearColumn_6 : decode y_MS_clearColumn.2.1 6 = .ok (.iload_n 2, 1) := dc9_28 (by decide +kernel)
theorem d_MS_clearColumn_7 : decode y_MS_clearColumn.2.1 7 = .ok (.invokevirtual 163, 3) := dc9_182 (by decide +kernel)
theorem d_MS_clearColumn_10 : decode y_MS_clearColumn.2.1 10 = .ok (.invokevirtual 152, 3) := dc9_182 (by decide +kernel)
theorem d_MS_clearColumn_13 : decode y_MS_clearColumn.2.1 13 = .ok (.iload_n 2, 1) := dc9_28 (by decide +kernel)
theorem d_MS_clearColumn_14 : decode y_MS_clearColumn.2.1 14 = .ok (.istore_n 3, 1) := dc9_62 (by decide +kernel)
theorem d_MS_clearColumn_15 : decode y_MS_clearColumn.2.1 15 = .ok (.iload_n 3, 1) := dc9_29 (by decide +kernel)
theorem d_MS_clearColumn_16 : decode y_MS_clearColumn.2.1 16 = .ok (.aload_n 0, 1) := dc9_42 (by decide +kernel)
theorem d_MS_clearColumn_17 : decode y_MS_clearColumn.2.1 17 = .ok (.getfield 160, 3) := dc9_180 (by decide +kernel)
theorem d_MS_clearColumn_20 : decode y_MS_clearColumn.2.1 20 = .ok (.if_icmp .gt 86, 3) := dc9_163 (by decide +kernel)
theorem d_MS_clearColumn_106 : decode y_MS_clearColumn.2.1 106 = .ok (.return_, 1) := dc9_177 (by decide +kernel)
theorem d_MS_clearColumn_23 : decode y_MS_clearColumn.2.1 23 = .ok (.aload_n 0, 1) := dc9_42 (by decide +kernel)
theorem d_MS_clearColumn_24 : decode y_MS_clearColumn.2.1 24 = .ok (.iload_n 2, 1) := dc9_28 (by decide +kernel)
theorem d_MS_clearColumn_25 : decode y_MS_clearColumn.2.1 25 = .ok (.iload_n 3, 1) := dc9_29 (by decide +kernel)
theorem d_MS_clearColumn_26 : decode y_MS_clearColumn.2.1 26 = .ok (.invokevirtual 163, 3) := dc9_182 (by decide +kernel)
theorem d_MS_clearColumn_29 : decode y_MS_clearColumn.2.1 29 = .ok (.invokevirtual 170, 3) := dc9_182 (by decide +kernel)
theorem d_MS_clearColumn_32 : decode y_MS_clearColumn.2.1 32 = .ok (.ifCond .ne 68, 3) := dc9_154 (by decide +kernel)
theorem d_MS_clearColumn_35 : decode y_MS_clearColumn.2.1 35 = .ok (.aload_n 0, 1) := dc9_42 (by decide +kernel)
theorem d_MS_clearColumn_36 : decode y_MS_clearColumn.2.1 36 = .ok (.getfield 10, 3) := dc9_180 (by decide +kernel)
theorem d_MS_clearColumn_39 : decode y_MS_clearColumn.2.1 39 = .ok (.aload_n 0, 1) := dc9_42 (by decide +kernel)
theorem d_MS_clearColumn_40 : decode y_MS_clearColumn.2.1 40 = .ok (.getfield 88, 3) := dc9_180 (by decide +kernel)
theorem d_MS_clearColumn_43 : decode y_MS_clearColumn.2.1 43 = .ok (.aload_n 0, 1) := dc9_42 (by decide +kernel)
theorem d_MS_clearColumn_44 : decode y_MS_clearColumn.2.1 44 = .ok (.iload_n 2, 1) := dc9_28 (by decide +kernel)
theorem d_MS_clearColumn_45 : decode y_MS_clearColumn.2.1 45 = .ok (.iload_n 3, 1) := dc9_29 (by decide +kernel)
theorem d_MS_clearColumn_46 : decode y_MS_clearColumn.2.1 46 = .ok (.invokevirtual 163, 3) := dc9_182 (by decide +kernel)
theorem d_MS_clearColumn_49 : decode y_MS_clearColumn.2.1 49 = .ok (.invokevirtual 145, 3) := dc9_182 (by decide +kernel)
theorem d_MS_clearColumn_52 : decode y_MS_clearColumn.2.1 52 = .ok (.aload_n 0, 1) := dc9_42 (by decide +kernel)
theorem d_MS_clearColumn_53 : decode y_MS_clearColumn.2.1 53 = .ok (.getfield 94, 3) := dc9_180 (by decide +kernel)
theorem d_MS_clearColumn_56 : decode y_MS_clearColumn.2.1 56 = .ok (.aload_n 0, 1) := dc9_42 (by decide +kernel)
theorem d_MS_clearColumn_57 : decode y_MS_clearColumn.2.1 57 = .ok (.getfield 10, 3) := dc9_180 (by decide +kernel)
theorem d_MS_clearColumn_60 : decode y_MS_clearColumn.2.1 60 = .ok (.getfield 149, 3) := dc9_180 (by decide +kernel)
theorem d_MS_clearColumn_63 : decode y_MS_clearColumn.2.1 63 = .ok (.invokevirtual 152, 3) := dc9_182 (by decide +kernel)
theorem d_MS_clearColumn_66 : decode y_MS_clearColumn.2.1 66 = .ok (.aload_n 0, 1) := dc9_42 (by decide +kernel)
theorem d_MS_clearColumn_67 : decode y_MS_clearColumn.2.1 67 = .ok (.getfield 10, 3) := dc9_180 (by decide +kernel)
theorem d_MS_clearColumn_70 : decode y_MS_clearColumn.2.1 70 = .ok (.aload_n 0, 1) := dc9_42 (by decide +kernel)
theorem d_MS_clearColumn_71 : decode y_MS_clearColumn.2.1 71 = .ok (.iload_n 1, 1) := dc9_27 (by decide +kernel)
theorem d_MS_clearColumn_72 : decode y_MS_clearColumn.2.1 72 = .ok (.iload_n 3, 1) := dc9_29 (by decide +kernel)
theorem d_MS_clearColumn_73 : decode y_MS_clearColumn.2.1 73 = .ok (.invokevirtual 163, 3) := dc9_182 (by decide +kernel)
theorem d_MS_clearColumn_76 : decode y_MS_clearColumn.2.1 76 = .ok (.aload_n 0, 1) := dc9_42 (by decide +kernel)
theorem d_MS_clearColumn_77 : decode y_MS_clearColumn.2.1 77 = .ok (.getfield 94, 3) := dc9_180 (by decide +kernel)
theorem d_MS_clearColumn_80 : decode y_MS_clearColumn.2.1 80 = .ok (.iconst 1, 1) := dc9_4 (by decide +kernel)
theorem d_MS_clearColumn_81 : decode y_MS_clearColumn.2.1 81 = .ok (.invokevirtual 156, 3) := dc9_182 (by decide +kernel)
theorem d_MS_clearColumn_84 : decode y_MS_clearColumn.2.1 84 = .ok (.aload_n 0, 1) := dc9_42 (by decide +kernel)
theorem d_MS_clearColumn_85 : decode y_MS_clearColumn.2.1 85 = .ok (.iload_n 1, 1) := dc9_27 (by decide +kernel)
theorem d_MS_clearColumn_86 : decode y_MS_clearColumn.2.1 86 = .ok (.iload_n 3, 1) := dc9_29 (by decide +kernel)
theorem d_MS_clearColumn_87 : decode y_MS_clearColumn.2.1 87 = .ok (.invokevirtual 163, 3) := dc9_182 (by decide +kernel)
theorem d_MS_clearColumn_90 : decode y_MS_clearColumn.2.1 90 = .ok (.aload_n 0, 1) := dc9_42 (by decide +kernel)
theorem d_MS_clearColumn_91 : decode y_MS_clearColumn.2.1 91 = .ok (.getfield 10, 3) := dc9_180 (by decide +kernel)
theorem d_MS_clearColumn_94 : decode y_MS_clearColumn.2.1 94 = .ok (.getfield 149, 3) := dc9_180 (by decide +kernel)
theorem d_MS_clearColumn_97 : decode y_MS_clearColumn.2.1 97 = .ok (.invokevirtual 152, 3) := dc9_182 (by decide +kernel)
theorem d_MS_clearColumn_100 : decode y_MS_clearColumn.2.1 100 = .ok (.iinc 3 1, 3) := by decide +kernel
theorem d_MS_clearColumn_103 : decode y_MS_clearColumn.2.1 103 = .ok (.goto (-88), 3) := dc9_167 (by decide +kernel)
def h_MS_clearColumn_15 (G : mG) (d : Nat) (a0 : Nat) (l1 : Int) (l2 : Int) (l3 : Int) (M : mM) (Q : mM → Prop) : Prop := mWm G y_MS_clearColumn (d + 1) 15 [vr a0, vi l1, vi l2, vi l3] [] M (fun r9 M9 => r9 = none ∧ Q M9)
theorem k_MS_clearColumn {G : mG} {d : Nat} {a0 : Nat} {l1 : Int} {l2 : Int} {M : mM} {Q : mM → Prop} (hO : mOk M) (hi_l1 : i32 l1) (hi_l2 : i32 l2)
    (h : mK M a0 = 17 ∧ Cr G y_MS_cell d [vr a0, vi l1, vi l2] M (fun x3 M2 => mOk M2 ∧ (mK M2 (mR M a0 27) = 19 ∧ Cv G y_MF_copy d [vr (mR M a0 27), vr x3] M2 (fun M6 => mOk M6 ∧ (h_MS_clearColumn_15 G d a0 l1 l2 l2 M6 Q))))) :
    Cv G y_MS_clearColumn (d + 1) [vr a0, vi l1, vi l2] M Q := by
  refine wm_open (y := y_MS_clearColumn) rfl (Nat.le_of_ble_eq_true rfl) (L := [vr a0, vi l1, vi l2, vd]) rfl ?_
  obtain ⟨h1, h⟩ := h
  refine wm_aload_n d_MS_clearColumn_0 rfl rfl ?_
  refine gf_MS_88 rfl d_MS_clearColumn_1 h1 ?_
  refine wm_aload_n d_MS_clearColumn_4 rfl rfl ?_
  refine wm_iload_n d_MS_clearColumn_5 rfl rfl ?_
  refine wm_iload_n d_MS_clearColumn_6 rfl rfl ?_
  refine cf_MS_163 rfl d_MS_clearColumn_7 h1 (Nat.le_of_ble_eq_true rfl) (Cr.mono h (fun x3 M2 h => ?_))
  obtain ⟨hOM2, h⟩ := h
  obtain ⟨h5, h⟩ := h
  refine cf_MS_152 rfl d_MS_clearColumn_10 h5 (Nat.le_of_ble_eq_true rfl) (Cv.mono h (fun M6 h => ?_))
  obtain ⟨hOM6, h⟩ := h
  refine wm_iload_n d_MS_clearColumn_13 rfl rfl ?_
  refine wm_istore_n d_MS_clearColumn_14 rfl (by decide) (L' := [vr a0, vi l1, vi l2, vi l2]) rfl ?_
  exact h
theorem k_MS_clearColumn_15 {G : mG} {d : Nat} {a0 : Nat} {l1 : Int} {l2 : Int} {l3 : Int} {M : mM} {Q : mM → Prop} (hO : mOk M) (hi_l1 : i32 l1) (hi_l2 : i32 l2) (hi_l3 : i32 l3)
    (h : mK M a0 = 17 ∧ ((mI M a0 24 < l3) → (Q M)) ∧ (¬ (mI M a0 24 < l3) → (Cr G y_MS_cell d [vr a0, vi l2, vi l3] M (fun x13 M12 => mOk M12 ∧ (mK M12 x13 = 19 ∧ Ci G y_MF_isZero d [vr x13] M12 (fun x17 M16 => i32 x17 ∧ mOk M16 ∧ (((x17 = 0) → (mK M16 a0 = 17 ∧ Cr G y_MS_cell d [vr a0, vi l2, vi l3] M16 (fun x25 M24 => mOk M24 ∧ (mK M24 (mR M16 a0 0) = 18 ∧ Cv G y_MU_multiply d [vr (mR M16 a0 0), vr (mR M16 a0 27), vr x25] M24 (fun M28 => mOk M28 ∧ (mK M28 a0 = 17 ∧ mK M28 (mR M28 a0 0) = 18 ∧ mK M28 (mR M28 a0 29) = 19 ∧ Cv G y_MF_copy d [vr (mR M28 a0 29), vr (mR M28 (mR M28 a0 0) 0)] M28 (fun M34 => mOk M34 ∧ (mK M34 a0 = 17 ∧ Cr G y_MS_cell d [vr a0, vi l1, vi l3] M34 (fun x39 M38 => mOk M38 ∧ (mK M38 a0 = 17 ∧ mK M38 (mR M34 a0 0) = 18 ∧ Cv G y_MU_add d [vr (mR M34 a0 0), vr x39, vr (mR M38 a0 29), vi 1] M38 (fun M43 => mOk M43 ∧ (mK M43 a0 = 17 ∧ Cr G y_MS_cell d [vr a0, vi l1, vi l3] M43 (fun x48 M47 => mOk M47 ∧ (mK M47 a0 = 17 ∧ mK M47 (mR M47 a0 0) = 18 ∧ mK M47 x48 = 19 ∧ Cv G y_MF_copy d [vr x48, vr (mR M47 (mR M47 a0 0) 0)] M47 (fun M53 => mOk M53 ∧ (h_MS_clearColumn_15 G d a0 l1 l2 (l3 + 1) M53 Q)))))))))))))))) ∧ (¬ (x17 = 0) → (h_MS_clearColumn_15 G d a0 l1 l2 (l3 + 1) M16 Q))))))))) :
    h_MS_clearColumn_15 G d a0 l1 l2 l3 M Q := by
  unfold h_MS_clearColumn_15
  obtain ⟨h9, h⟩ := h
  refine wm_iload_n d_MS_clearColumn_15 rfl rfl ?_
  refine wm_aload_n d_MS_clearColumn_16 rfl rfl ?_
  refine gf_MS_160 rfl d_MS_clearColumn_17 h9 ?_
  refine wm_icmp_gt (tgt := 106) d_MS_clearColumn_20 rfl hi_l3 (hO _ _).1 (fun c11 => ?_) (fun c11 => ?_)
  · replace h := h.1 c11
    refine wm_return d_MS_clearColumn_106 rfl ?_
    exact ⟨rfl, h⟩
  · replace h := h.2 c11
    refine wm_aload_n d_MS_clearColumn_23 rfl rfl ?_
    refine wm_iload_n d_MS_clearColumn_24 rfl rfl ?_
    refine wm_iload_n d_MS_clearColumn_25 rfl rfl ?_
    refine cf_MS_163 rfl d_MS_clearColumn_26 h9 (Nat.le_of_ble_eq_true rfl) (Cr.mono h (fun x13 M12 h => ?_))
    obtain ⟨hOM12, h⟩ := h
    obtain ⟨h15, h⟩ := h
    refine cf_MS_170 rfl d_MS_clearColumn_29 h15 (Nat.le_of_ble_eq_true rfl) (Ci.mono h (fun x17 M16 h => ?_))
    obtain ⟨h18, hOM16, h⟩ := h
    refine wm_if_ne (tgt := 100) d_MS_clearColumn_32 rfl h18 (fun c22 => ?_) (fun c22 => ?_)
    · replace h := h.2 c22
      refine wm_iinc d_MS_clearColumn_100 (by decide) rfl (L' := [vr a0, vi l1, vi l2, vi (l3 + 1)]) rfl ?_
      refine wm_goto (tgt := 15) d_MS_clearColumn_103 rfl ?_
      exact h
    · replace c22 := Classical.not_not.mp c22
      replace h := h.1 c22
      obtain ⟨h23, h⟩ := h
      refine wm_aload_n d_MS_clearColumn_35 rfl rfl ?_
      refine gf_MS_10 rfl d_MS_clearColumn_36 h23 ?_
      refine wm_aload_n d_MS_clearColumn_39 rfl rfl ?_
      refine gf_MS_88 rfl d_MS_clearColumn_40 h23 ?_
      refine wm_aload_n d_MS_clearColumn_43 rfl rfl ?_
      refine wm_iload_n d_MS_clearColumn_44 rfl rfl ?_
      refine wm_iload_n d_MS_clearColumn_45 rfl rfl ?_
      refine cf_MS_163 rfl d_MS_clearColumn_46 h23 (Nat.le_of_ble_eq_true rfl) (Cr.mono h (fun x25 M24 h => ?_))
      obtain ⟨hOM24, h⟩ := h
      obtain ⟨h27, h⟩ := h
      refine cf_MS_145 rfl d_MS_clearColumn_49 h27 (Nat.le_of_ble_eq_true rfl) (Cv.mono h (fun M28 h => ?_))
      obtain ⟨hOM28, h⟩ := h
      obtain ⟨h31, h⟩ := h
      obtain ⟨h32, h⟩ := h
      obtain ⟨h33, h⟩ := h
      refine wm_aload_n d_MS_clearColumn_52 rfl rfl ?_
      refine gf_MS_94 rfl d_MS_clearColumn_53 h31 ?_
      refine wm_aload_n d_MS_clearColumn_56 rfl rfl ?_
      refine gf_MS_10 rfl d_MS_clearColumn_57 h31 ?_
      refine gf_MS_149 rfl d_MS_clearColumn_60 h32 ?_
      refine cf_MS_152 rfl d_MS_clearColumn_63 h33 (Nat.le_of_ble_eq_true rfl) (Cv.mono h (fun M34 h => ?_))
      obtain ⟨hOM34, h⟩ := h
      obtain ⟨h37, h⟩ := h
      refine wm_aload_n d_MS_clearColumn_66 rfl rfl ?_
      refine gf_MS_10 rfl d_MS_clearColumn_67 h37 ?_
      refine wm_aload_n d_MS_clearColumn_70 rfl rfl ?_
      refine wm_iload_n d_MS_clearColumn_71 rfl rfl ?_
      refine wm_iload_n d_MS_clearColumn_72 rfl rfl ?_
      refine cf_MS_163 rfl d_MS_clearColumn_73 h37 (Nat.le_of_ble_eq_true rfl) (Cr.mono h (fun x39 M38 h => ?_))
      obtain ⟨hOM38, h⟩ := h
      obtain ⟨h41, h⟩ := h
      obtain ⟨h42, h⟩ := h
      refine wm_aload_n d_MS_clearColumn_76 rfl rfl ?_
      refine gf_MS_94 rfl d_MS_clearColumn_77 h41 ?_
      refine wm_iconst d_MS_clearColumn_80 ?_
      refine cf_MS_156 rfl d_MS_clearColumn_81 h42 (Nat.le_of_ble_eq_true rfl) (Cv.mono h (fun M43 h => ?_))
      obtain ⟨hOM43, h⟩ := h
      obtain ⟨h46, h⟩ := h
      refine wm_aload_n d_MS_clearColumn_84 rfl rfl ?_
      refine wm_iload_n d_MS_clearColumn_85 rfl rfl ?_
      refine wm_iload_n d_MS_clearColumn_86 rfl rfl ?_
      refine cf_MS_163 rfl d_MS_clearColumn_87 h46 (Nat.le_of_ble_eq_true rfl) (Cr.mono h (fun x48 M47 h => ?_))
      obtain ⟨hOM47, h⟩ := h
      obtain ⟨h50, h⟩ := h
      obtain ⟨h51, h⟩ := h
      obtain ⟨h52, h⟩ := h
      refine wm_aload_n d_MS_clearColumn_90 rfl rfl ?_
      refine gf_MS_10 rfl d_MS_clearColumn_91 h50 ?_
      refine gf_MS_149 rfl d_MS_clearColumn_94 h51 ?_
      refine cf_MS_152 rfl d_MS_clearColumn_97 h52 (Nat.le_of_ble_eq_true rfl) (Cv.mono h (fun M53 h => ?_))
      obtain ⟨hOM53, h⟩ := h
      refine wm_iinc d_MS_clearColumn_100 (by decide) rfl (L' := [vr a0, vi l1, vi l2, vi (l3 + 1)]) rfl ?_
      refine wm_goto (tgt := 15) d_MS_clearColumn_103 rfl ?_
      exact h
theorem d_MS_settle_0 : decode y_MS_settle.2.1 0 = .ok (.aload_n 0, 1) := dc9_42 (by decide +kernel)
theorem d_MS_settle_1 : decode y_MS_settle.2.1 1 = .ok (.invokevirtual 178, 3) := dc9_182 (by decide +kernel)
theorem d_MS_settle_4 : decode y_MS_settle.2.1 4 = .ok (.aload_n 0, 1) := dc9_42 (by decide +kernel)
theorem d_MS_settle_5 : decode y_MS_settle.2.1 5 = .ok (.invokevirtual 181, 3) := dc9_182 (by decide +kernel)
theorem d_MS_settle_8 : decode y_MS_settle.2.1 8 = .ok (.iconst 0, 1) := dc9_3 (by decide +kernel)
theorem d_MS_settle_9 : decode y_MS_settle.2.1 9 = .ok (.istore_n 1, 1) := dc9_60 (by decide +kernel)
theorem d_MS_settle_10 : decode y_MS_settle.2.1 10 = .ok (.iload_n 1, 1) := dc9_27 (by decide +kernel)
theorem d_MS_settle_11 : decode y_MS_settle.2.1 11 = .ok (.aload_n 0, 1) := dc9_42 (by decide +kernel)
theorem d_MS_settle_12 : decode y_MS_settle.2.1 12 = .ok (.getfield 103, 3) := dc9_180 (by decide +kernel)
theorem d_MS_settle_15 : decode y_MS_settle.2.1 15 = .ok (.if_icmp .ge 34, 3) := dc9_162 (by decide +kernel)
theorem d_MS_settle_49 : decode y_MS_settle.2.1 49 = .ok (.iconst 0, 1) := dc9_3 (by decide +kernel)
theorem d_MS_settle_50 : decode y_MS_settle.2.1 50 = .ok (.istore_n 1, 1) := dc9_60 (by decide +kernel)
theorem d_MS_settle_18 : decode y_MS_settle.2.1 18 = .ok (.aload_n 0, 1) := dc9_42 (by decide +kernel)
theorem d_MS_settle_19 : decode y_MS_settle.2.1 19 = .ok (.getfield 69, 3) := dc9_180 (by decide +kernel)
theorem d_MS_settle_22 : decode y_MS_settle.2.1 22 = .ok (.iload_n 1, 1) := dc9_27 (by decide +kernel)
theorem d_MS_settle_23 : decode y_MS_settle.2.1 23 = .ok (.aaload, 1) := dc9_50 (by decide +kernel)
theorem d_MS_settle_24 : decode y_MS_settle.2.1 24 = .ok (.aload_n 0, 1) := dc9_42 (by decide +kernel)
theorem d_MS_settle_25 : decode y_MS_settle.2.1 25 = .ok (.getfield 16, 3) := dc9_180 (by decide +kernel)
theorem d_MS_settle_28 : decode y_MS_settle.2.1 28 = .ok (.iload_n 1, 1) := dc9_27 (by decide +kernel)
theorem d_MS_settle_29 : decode y_MS_settle.2.1 29 = .ok (.iaload, 1) := dc9_46 (by decide +kernel)
theorem d_MS_settle_30 : decode y_MS_settle.2.1 30 = .ok (.iconst 3, 1) := dc9_6 (by decide +kernel)
theorem d_MS_settle_31 : decode y_MS_settle.2.1 31 = .ok (.if_icmp .ne 7, 3) := dc9_160 (by decide +kernel)
theorem d_MS_settle_34 : decode y_MS_settle.2.1 34 = .ok (.lconst 1, 1) := dc9_10 (by decide +kernel)
theorem d_MS_settle_35 : decode y_MS_settle.2.1 35 = .ok (.goto 4, 3) := dc9_167 (by decide +kernel)
theorem d_MS_settle_38 : decode y_MS_settle.2.1 38 = .ok (.lconst 0, 1) := dc9_9 (by decide +kernel)
theorem d_MS_settle_39 : decode y_MS_settle.2.1 39 = .ok (.lconst 1, 1) := dc9_10 (by decide +kernel)
theorem d_MS_settle_40 : decode y_MS_settle.2.1 40 = .ok (.invokevirtual 141, 3) := dc9_182 (by decide +kernel)
theorem d_MS_settle_43 : decode y_MS_settle.2.1 43 = .ok (.iinc 1 1, 3) := by decide +kernel
theorem d_MS_settle_46 : decode y_MS_settle.2.1 46 = .ok (.goto (-36), 3) := dc9_167 (by decide +kernel)
theorem d_MS_settle_51 : decode y_MS_settle.2.1 51 = .ok (.iload_n 1, 1) := dc9_27 (by decide +kernel)
theorem d_MS_settle_52 : decode y_MS_settle.2.1 52 = .ok (.aload_n 0, 1) := dc9_42 (by decide +kernel)
theorem d_MS_settle_53 : decode y_MS_settle.2.1 53 = .ok (.getfield 160, 3) := dc9_180 (by decide +kernel)
theorem d_MS_settle_56 : decode y_MS_settle.2.1 56 = .ok (.if_icmp .ge 32, 3) := dc9_162 (by decide +kernel)
theorem d_MS_settle_88 : decode y_MS_settle.2.1 88 = .ok (.return_, 1) := dc9_177 (by decide +kernel)
theorem d_MS_settle_59 : decode y_MS_settle.2.1 59 = .ok (.aload_n 0, 1) := dc9_42 (by decide +kernel)
theorem d_MS_settle_60 : decode y_MS_settle.2.1 60 = .ok (.getfield 69, 3) := dc9_180 (by decide +kernel)
theorem d_MS_settle_63 : decode y_MS_settle.2.1 63 = .ok (.aload_n 0, 1) := dc9_42 (by decide +kernel)
theorem d_MS_settle_64 : decode y_MS_settle.2.1 64 = .ok (.getfield 72, 3) := dc9_180 (by decide +kernel)
theorem d_MS_settle_67 : decode y_MS_settle.2.1 67 = .ok (.iload_n 1, 1) := dc9_27 (by decide +kernel)
theorem d_MS_settle_68 : decode y_MS_settle.2.1 68 = .ok (.iaload, 1) := dc9_46 (by decide +kernel)
theorem d_MS_settle_69 : decode y_MS_settle.2.1 69 = .ok (.aaload, 1) := dc9_50 (by decide +kernel)
theorem d_MS_settle_70 : decode y_MS_settle.2.1 70 = .ok (.aload_n 0, 1) := dc9_42 (by decide +kernel)
theorem d_MS_settle_71 : decode y_MS_settle.2.1 71 = .ok (.iload_n 1, 1) := dc9_27 (by decide +kernel)
theorem d_MS_settle_72 : decode y_MS_settle.2.1 72 = .ok (.aload_n 0, 1) := dc9_42 (by decide +kernel)
theorem d_MS_settle_73 : decode y_MS_settle.2.1 73 = .ok (.getfield 160, 3) := dc9_180 (by decide +kernel)
theorem d_MS_settle_76 : decode y_MS_settle.2.1 76 = .ok (.invokevirtual 163, 3) := dc9_182 (by decide +kernel)
theorem d_MS_settle_79 : decode y_MS_settle.2.1 79 = .ok (.invokevirtual 152, 3) := dc9_182 (by decide +kernel)
theorem d_MS_settle_82 : decode y_MS_settle.2.1 82 = .ok (.iinc 1 1, 3) := by decide +kernel
theorem d_MS_settle_85 : decode y_MS_settle.2.1 85 = .ok (.goto (-34), 3) := dc9_167 (by decide +kernel)
def h_MS_settle_10 (G : mG) (d : Nat) (a0 : Nat) (l1 : Int) (M : mM) (Q : mM → Prop) : Prop := mWm G y_MS_settle (d + 1) 10 [vr a0, vi l1] [] M (fun r9 M9 => r9 = none ∧ Q M9)
def h_MS_settle_51 (G : mG) (d : Nat) (a0 : Nat) (l1 : Int) (M : mM) (Q : mM → Prop) : Prop := mWm G y_MS_settle (d + 1) 51 [vr a0, vi l1] [] M (fun r9 M9 => r9 = none ∧ Q M9)
theorem k_MS_settle {G : mG} {d : Nat} {a0 : Nat} {M : mM} {Q : mM → Prop} (hO : mOk M)
    (h : mK M a0 = 17 ∧ Cv G y_MS_writeRows d [vr a0] M (fun M2 => mOk M2 ∧ (mK M2 a0 = 17 ∧ Cv G y_MS_solveRows d [vr a0] M2 (fun M6 => mOk M6 ∧ (h_MS_settle_10 G d a0 0 M6 Q))))) :
    Cv G y_MS_settle (d + 1) [vr a0] M Q := by
  refine wm_open (y := y_MS_settle) rfl (Nat.le_of_ble_eq_true rfl) (L := [vr a0, vd]) rfl ?_
  obtain ⟨h1, h⟩ := h
  refine wm_aload_n d_MS_settle_0 rfl rfl ?_
  refine cf_MS_178 rfl d_MS_settle_1 h1 (Nat.le_of_ble_eq_true rfl) (Cv.mono h (fun M2 h => ?_))
  obtain ⟨hOM2, h⟩ := h
  obtain ⟨h5, h⟩ := h
  refine wm_aload_n d_MS_settle_4 rfl rfl ?_
  refine cf_MS_181 rfl d_MS_settle_5 h5 (Nat.le_of_ble_eq_true rfl) (Cv.mono h (fun M6 h => ?_))
  obtain ⟨hOM6, h⟩ := h
  refine wm_iconst d_MS_settle_8 ?_
  refine wm_istore_n d_MS_settle_9 rfl (by decide) (L' := [vr a0, vi 0]) rfl ?_
  exact h
theorem k_MS_settle_10 {G : mG} {d : Nat} {a0 : Nat} {l1 : Int} {M : mM} {Q : mM → Prop} (hO : mOk M) (hi_l1 : i32 l1)
    (h : mK M a0 = 17 ∧ ((mI M a0 1 ≤ l1) → (h_MS_settle_51 G d a0 0 M Q)) ∧ (¬ (mI M a0 1 ≤ l1) → (mK M (mR M a0 21) = 36 ∧ ((0 : Int) ≤ l1 ∧ l1 < (mN M (mR M a0 21) : Int)) ∧ mK M (mR M a0 4) = 30 ∧ ((0 : Int) ≤ l1 ∧ l1 < (mN M (mR M a0 4) : Int)) ∧ ∀ v21 : Int, v21 = (if (mI M (mR M a0 4) (Int.toNat l1) = 3) then 1 else 0) → mK M (mR M (mR M a0 21) (Int.toNat l1)) = 19 ∧ Cv G y_MF_set d [vr (mR M (mR M a0 21) (Int.toNat l1)), vl v21, vl 1] M (fun M26 => mOk M26 ∧ (h_MS_settle_10 G d a0 (l1 + 1) M26 Q))))) :
    h_MS_settle_10 G d a0 l1 M Q := by
  unfold h_MS_settle_10
  obtain ⟨h9, h⟩ := h
  refine wm_iload_n d_MS_settle_10 rfl rfl ?_
  refine wm_aload_n d_MS_settle_11 rfl rfl ?_
  refine gf_MS_103 rfl d_MS_settle_12 h9 ?_
  refine wm_icmp_ge (tgt := 49) d_MS_settle_15 rfl hi_l1 (hO _ _).1 (fun c15 => ?_) (fun c15 => ?_)
  · replace h := h.1 c15
    refine wm_iconst d_MS_settle_49 ?_
    refine wm_istore_n d_MS_settle_50 rfl (by decide) (L' := [vr a0, vi 0]) rfl ?_
    exact h
  · replace h := h.2 c15
    obtain ⟨h16, h⟩ := h
    obtain ⟨h17, h⟩ := h
    obtain ⟨h18, h⟩ := h
    obtain ⟨h19, h⟩ := h
    refine wm_aload_n d_MS_settle_18 rfl rfl ?_
    refine gf_MS_69 rfl d_MS_settle_19 h9 ?_
    refine wm_iload_n d_MS_settle_22 rfl rfl ?_
    refine wm_aald6 d_MS_settle_23 h16 h17 ?_
    refine wm_aload_n d_MS_settle_24 rfl rfl ?_
    refine gf_MS_16 rfl d_MS_settle_25 h9 ?_
    refine wm_iload_n d_MS_settle_28 rfl rfl ?_
    refine wm_iald d_MS_settle_29 h18 h19 ?_
    refine wm_iconst d_MS_settle_30 ?_
    have hJ : ∀ v21 : Int, v21 = (if (mI M (mR M a0 4) (Int.toNat l1) = 3) then 1 else 0) → mWm G y_MS_settle (d + 1) 39 [vr a0, vi l1] [vl v21, vr (mR M (mR M a0 21) (Int.toNat l1))] M (fun r9 M9 => r9 = none ∧ Q M9) := by
      intro v21 e23
      have h := h v21 e23
      have h24 : (v21 = 0 ∨ v21 = 1) := by rw [e23]; (repeat' split) <;> decide
      obtain ⟨h25, h⟩ := h
      refine wm_lconst (x := 1) d_MS_settle_39 rfl ?_
      refine cf_MS_141 rfl d_MS_settle_40 h25 (Nat.le_of_ble_eq_true rfl) (Cv.mono h (fun M26 h => ?_))
      obtain ⟨hOM26, h⟩ := h
      refine wm_iinc d_MS_settle_43 (by decide) rfl (L' := [vr a0, vi (l1 + 1)]) rfl ?_
      refine wm_goto (tgt := 10) d_MS_settle_46 rfl ?_
      exact h
    clear h
    refine wm_icmp_ne (tgt := 38) d_MS_settle_31 rfl (hO _ _).1 ⟨by decide, by decide⟩ (fun c20 => ?_) (fun c20 => ?_)
    · refine wm_lconst (x := 0) d_MS_settle_38 rfl ?_
      exact hJ 0 (if_neg c20).symm
    · replace c20 := Classical.not_not.mp c20
      refine wm_lconst (x := 1) d_MS_settle_34 rfl ?_
      refine wm_goto (tgt := 39) d_MS_settle_35 rfl ?_
      exact hJ 1 (if_pos c20).symm
theorem k_MS_settle_51 {G : mG} {d : Nat} {a0 : Nat} {l1 : Int} {M : mM} {Q : mM → Prop} (hO : mOk M) (hi_l1 : i32 l1)
    (h : mK M a0 = 17 ∧ ((mI M a0 24 ≤ l1) → (Q M)) ∧ (¬ (mI M a0 24 ≤ l1) → (mK M (mR M a0 22) = 30 ∧ ((0 : Int) ≤ l1 ∧ l1 < (mN M (mR M a0 22) : Int)) ∧ mK M (mR M a0 21) = 36 ∧ ((0 : Int) ≤ mI M (mR M a0 22) (Int.toNat l1) ∧ mI M (mR M a0 22) (Int.toNat l1) < (mN M (mR M a0 21) : Int)) ∧ Cr G y_MS_cell d [vr a0, vi l1, vi (mI M a0 24)] M (fun x38 M37 => mOk M37 ∧ (mK M37 (mR M (mR M a0 21) (Int.toNat (mI M (mR M a0 22) (Int.toNat l1)))) = 19 ∧ Cv G y_MF_copy d [vr (mR M (mR M a0 21) (Int.toNat (mI M (mR M a0 22) (Int.toNat l1)))), vr x38] M37 (fun M41 => mOk M41 ∧ (h_MS_settle_51 G d a0 (l1 + 1) M41 Q))))))) :
    h_MS_settle_51 G d a0 l1 M Q := by
  unfold h_MS_settle_51
  obtain ⟨h30, h⟩ := h
  refine wm_iload_n d_MS_settle_51 rfl rfl ?_
  refine wm_aload_n d_MS_settle_52 rfl rfl ?_
  refine gf_MS_160 rfl d_MS_settle_53 h30 ?_
  refine wm_icmp_ge (tgt := 88) d_MS_settle_56 rfl hi_l1 (hO _ _).1 (fun c32 => ?_) (fun c32 => ?_)
  · replace h := h.1 c32
    refine wm_return d_MS_settle_88 rfl ?_
    exact ⟨rfl, h⟩
  · replace h := h.2 c32
    obtain ⟨h33, h⟩ := h
    obtain ⟨h34, h⟩ := h
    obtain ⟨h35, h⟩ := h
    obtain ⟨h36, h⟩ := h
    refine wm_aload_n d_MS_settle_59 rfl rfl ?_
    refine gf_MS_69 rfl d_MS_settle_60 h30 ?_
    refine wm_aload_n d_MS_settle_63 rfl rfl ?_
    refine gf_MS_72 rfl d_MS_settle_64 h30 ?_
    refine wm_iload_n d_MS_settle_67 rfl rfl ?_
    refine wm_iald d_MS_settle_68 h33 h34 ?_
    refine wm_aald6 d_MS_settle_69 h35 h36 ?_
    refine wm_aload_n d_MS_settle_70 rfl rfl ?_
    refine wm_iload_n d_MS_settle_71 rfl rfl ?_
    refine wm_aload_n d_MS_settle_72 rfl rfl ?_
    refine gf_MS_160 rfl d_MS_settle_73 h30 ?_
    refine cf_MS_163 rfl d_MS_settle_76 h30 (Nat.le_of_ble_eq_true rfl) (Cr.mono h (fun x38 M37 h => ?_))
    obtain ⟨hOM37, h⟩ := h
    obtain ⟨h40, h⟩ := h
    refine cf_MS_152 rfl d_MS_settle_79 h40 (Nat.le_of_ble_eq_true rfl) (Cv.mono h (fun M41 h => ?_))
    obtain ⟨hOM41, h⟩ := h
    refine wm_iinc d_MS_settle_82 (by decide) rfl (L' := [vr a0, vi (l1 + 1)]) rfl ?_
    refine wm_goto (tgt := 51) d_MS_settle_85 rfl ?_
    exact h
end
section
theorem d_MS_answer_0 : decode y_MS_answer.2.1 0 = .ok (.aload_n 0, 1) := dc9_42 (by decide +kernel)
theorem d_MS_answer_1 : decode y_MS_answer.2.1 1 = .ok (.iconst 1, 1) := dc9_4 (by decide +kernel)
theorem d_MS_answer_2 : decode y_MS_answer.2.1 2 = .ok (.invokevirtual 133, 3) := dc9_182 (by decide +kernel)
theorem d_MS_answer_5 : decode y_MS_answer.2.1 5 = .ok (.aload_n 0, 1) := dc9_42 (by decide +kernel)
theorem d_MS_answer_6 : decode y_MS_answer.2.1 6 = .ok (.iconst 0, 1) := dc9_3 (by decide +kernel)
theorem d_MS_answer_7 : decode y_MS_answer.2.1 7 = .ok (.putfield 160, 3) := dc9_181 (by decide +kernel)
theorem d_MS_answer_10 : decode y_MS_answer.2.1 10 = .ok (.iconst 0, 1) := dc9_3 (by decide +kernel)
theorem d_MS_answer_11 : decode y_MS_answer.2.1 11 = .ok (.istore_n 1, 1) := dc9_60 (by decide +kernel)
theorem d_MS_answer_12 : decode y_MS_answer.2.1 12 = .ok (.iload_n 1, 1) := dc9_27 (by decide +kernel)
theorem d_MS_answer_13 : decode y_MS_answer.2.1 13 = .ok (.aload_n 0, 1) := dc9_42 (by decide +kernel)
theorem d_MS_answer_14 : decode y_MS_answer.2.1 14 = .ok (.getfield 103, 3) := dc9_180 (by decide +kernel)
theorem d_MS_answer_17 : decode y_MS_answer.2.1 17 = .ok (.if_icmp .ge 58, 3) := dc9_162 (by decide +kernel)
theorem d_MS_answer_75 : decode y_MS_answer.2.1 75 = .ok (.iconst 1, 1) := dc9_4 (by decide +kernel)
theorem d_MS_answer_76 : decode y_MS_answer.2.1 76 = .ok (.istore_n 1, 1) := dc9_60 (by decide +kernel)
theorem d_MS_answer_20 : decode y_MS_answer.2.1 20 = .ok (.aload_n 0, 1) := dc9_42 (by decide +kernel)
theorem d_MS_answer_21 : decode y_MS_answer.2.1 21 = .ok (.getfield 63, 3) := dc9_180 (by decide +kernel)
theorem d_MS_answer_24 : decode y_MS_answer.2.1 24 = .ok (.iload_n 1, 1) := dc9_27 (by decide +kernel)
theorem d_MS_answer_25 : decode y_MS_answer.2.1 25 = .ok (.baload, 1) := dc9_51 (by decide +kernel)
theorem d_MS_answer_26 : decode y_MS_answer.2.1 26 = .ok (.ifCond .eq 43, 3) := dc9_153 (by decide +kernel)
theorem d_MS_answer_29 : decode y_MS_answer.2.1 29 = .ok (.aload_n 0, 1) := dc9_42 (by decide +kernel)
theorem d_MS_answer_30 : decode y_MS_answer.2.1 30 = .ok (.getfield 16, 3) := dc9_180 (by decide +kernel)
theorem d_MS_answer_33 : decode y_MS_answer.2.1 33 = .ok (.iload_n 1, 1) := dc9_27 (by decide +kernel)
theorem d_MS_answer_34 : decode y_MS_answer.2.1 34 = .ok (.iaload, 1) := dc9_46 (by decide +kernel)
theorem d_MS_answer_35 : decode y_MS_answer.2.1 35 = .ok (.iconst 3, 1) := dc9_6 (by decide +kernel)
theorem d_MS_answer_36 : decode y_MS_answer.2.1 36 = .ok (.if_icmp .eq 33, 3) := dc9_159 (by decide +kernel)
theorem d_MS_answer_39 : decode y_MS_answer.2.1 39 = .ok (.aload_n 0, 1) := dc9_42 (by decide +kernel)
theorem d_MS_answer_40 : decode y_MS_answer.2.1 40 = .ok (.getfield 72, 3) := dc9_180 (by decide +kernel)
theorem d_MS_answer_43 : decode y_MS_answer.2.1 43 = .ok (.aload_n 0, 1) := dc9_42 (by decide +kernel)
theorem d_MS_answer_44 : decode y_MS_answer.2.1 44 = .ok (.getfield 160, 3) := dc9_180 (by decide +kernel)
theorem d_MS_answer_47 : decode y_MS_answer.2.1 47 = .ok (.iload_n 1, 1) := dc9_27 (by decide +kernel)
theorem d_MS_answer_48 : decode y_MS_answer.2.1 48 = .ok (.iastore, 1) := dc9_79 (by decide +kernel)
theorem d_MS_answer_49 : decode y_MS_answer.2.1 49 = .ok (.aload_n 0, 1) := dc9_42 (by decide +kernel)
theorem d_MS_answer_50 : decode y_MS_answer.2.1 50 = .ok (.getfield 75, 3) := dc9_180 (by decide +kernel)
theorem d_MS_answer_53 : decode y_MS_answer.2.1 53 = .ok (.iload_n 1, 1) := dc9_27 (by decide +kernel)
theorem d_MS_answer_54 : decode y_MS_answer.2.1 54 = .ok (.aload_n 0, 1) := dc9_42 (by decide +kernel)
theorem d_MS_answer_55 : decode y_MS_answer.2.1 55 = .ok (.getfield 160, 3) := dc9_180 (by decide +kernel)
theorem d_MS_answer_58 : decode y_MS_answer.2.1 58 = .ok (.iastore, 1) := dc9_79 (by decide +kernel)
theorem d_MS_answer_69 : decode y_MS_answer.2.1 69 = .ok (.iinc 1 1, 3) := by decide +kernel
theorem d_MS_answer_72 : decode y_MS_answer.2.1 72 = .ok (.goto (-60), 3) := dc9_167 (by decide +kernel)
theorem d_MS_answer_59 : decode y_MS_answer.2.1 59 = .ok (.aload_n 0, 1) := dc9_42 (by decide +kernel)
theorem d_MS_answer_60 : decode y_MS_answer.2.1 60 = .ok (.dup, 1) := dc9_89 (by decide +kernel)
theorem d_MS_answer_61 : decode y_MS_answer.2.1 61 = .ok (.getfield 160, 3) := dc9_180 (by decide +kernel)
theorem d_MS_answer_64 : decode y_MS_answer.2.1 64 = .ok (.iconst 1, 1) := dc9_4 (by decide +kernel)
theorem d_MS_answer_65 : decode y_MS_answer.2.1 65 = .ok (.iadd, 1) := dc9_96 (by decide +kernel)
theorem d_MS_answer_66 : decode y_MS_answer.2.1 66 = .ok (.putfield 160, 3) := dc9_181 (by decide +kernel)
theorem d_MS_answer_77 : decode y_MS_answer.2.1 77 = .ok (.iload_n 1, 1) := dc9_27 (by decide +kernel)
theorem d_MS_answer_78 : decode y_MS_answer.2.1 78 = .ok (.ifCond .eq 52, 3) := dc9_153 (by decide +kernel)
theorem d_MS_answer_130 : decode y_MS_answer.2.1 130 = .ok (.return_, 1) := dc9_177 (by decide +kernel)
theorem d_MS_answer_81 : decode y_MS_answer.2.1 81 = .ok (.aload_n 0, 1) := dc9_42 (by decide +kernel)
theorem d_MS_answer_82 : decode y_MS_answer.2.1 82 = .ok (.invokevirtual 184, 3) := dc9_182 (by decide +kernel)
theorem d_MS_answer_85 : decode y_MS_answer.2.1 85 = .ok (.iconst 0, 1) := dc9_3 (by decide +kernel)
theorem d_MS_answer_86 : decode y_MS_answer.2.1 86 = .ok (.istore_n 1, 1) := dc9_60 (by decide +kernel)
theorem d_MS_answer_87 : decode y_MS_answer.2.1 87 = .ok (.iconst 0, 1) := dc9_3 (by decide +kernel)
theorem d_MS_answer_88 : decode y_MS_answer.2.1 88 = .ok (.istore_n 2, 1) := dc9_61 (by decide +kernel)
theorem d_MS_answer_89 : decode y_MS_answer.2.1 89 = .ok (.iload_n 2, 1) := dc9_28 (by decide +kernel)
theorem d_MS_answer_90 : decode y_MS_answer.2.1 90 = .ok (.aload_n 0, 1) := dc9_42 (by decide +kernel)
theorem d_MS_answer_91 : decode y_MS_answer.2.1 91 = .ok (.getfield 160, 3) := dc9_180 (by decide +kernel)
theorem d_MS_answer_94 : decode y_MS_answer.2.1 94 = .ok (.if_icmp .ge 33, 3) := dc9_162 (by decide +kernel)
theorem d_MS_answer_127 : decode y_MS_answer.2.1 127 = .ok (.goto (-50), 3) := dc9_167 (by decide +kernel)
theorem d_MS_answer_97 : decode y_MS_answer.2.1 97 = .ok (.aload_n 0, 1) := dc9_42 (by decide +kernel)
theorem d_MS_answer_98 : decode y_MS_answer.2.1 98 = .ok (.aload_n 0, 1) := dc9_42 (by decide +kernel)
theorem d_MS_answer_99 : decode y_MS_answer.2.1 99 = .ok (.getfield 72, 3) := dc9_180 (by decide +kernel)
theorem d_MS_answer_102 : decode y_MS_answer.2.1 102 = .ok (.iload_n 2, 1) := dc9_28 (by decide +kernel)
theorem d_MS_answer_103 : decode y_MS_answer.2.1 103 = .ok (.iaload, 1) := dc9_46 (by decide +kernel)
theorem d_MS_answer_104 : decode y_MS_answer.2.1 104 = .ok (.iconst 2, 1) := dc9_5 (by decide +kernel)
theorem d_MS_answer_105 : decode y_MS_answer.2.1 105 = .ok (.invokevirtual 187, 3) := dc9_182 (by decide +kernel)
theorem d_MS_answer_108 : decode y_MS_answer.2.1 108 = .ok (.ifCond .ne 7, 3) := dc9_154 (by decide +kernel)
theorem d_MS_answer_111 : decode y_MS_answer.2.1 111 = .ok (.iload_n 1, 1) := dc9_27 (by decide +kernel)
theorem d_MS_answer_112 : decode y_MS_answer.2.1 112 = .ok (.ifCond .eq 7, 3) := dc9_153 (by decide +kernel)
theorem d_MS_answer_119 : decode y_MS_answer.2.1 119 = .ok (.iconst 0, 1) := dc9_3 (by decide +kernel)
theorem d_MS_answer_115 : decode y_MS_answer.2.1 115 = .ok (.iconst 1, 1) := dc9_4 (by decide +kernel)
theorem d_MS_answer_116 : decode y_MS_answer.2.1 116 = .ok (.goto 4, 3) := dc9_167 (by decide +kernel)
theorem d_MS_answer_120 : decode y_MS_answer.2.1 120 = .ok (.istore_n 1, 1) := dc9_60 (by decide +kernel)
theorem d_MS_answer_121 : decode y_MS_answer.2.1 121 = .ok (.iinc 2 1, 3) := by decide +kernel
theorem d_MS_answer_124 : decode y_MS_answer.2.1 124 = .ok (.goto (-35), 3) := dc9_167 (by decide +kernel)
def h_MS_answer_12 (G : mG) (d : Nat) (a0 : Nat) (l1 : Int) (M : mM) (Q : mM → Prop) : Prop := mWm G y_MS_answer (d + 1) 12 [vr a0, vi l1, vd] [] M (fun r9 M9 => r9 = none ∧ Q M9)
def h_MS_answer_77 (G : mG) (d : Nat) (a0 : Nat) (l1 : Int) (M : mM) (Q : mM → Prop) : Prop := mWm G y_MS_answer (d + 1) 77 [vr a0, vi l1, vd] [] M (fun r9 M9 => r9 = none ∧ Q M9)
def h_MS_answer_89 (G : mG) (d : Nat) (a0 : Nat) (l1 : Int) (l2 : Int) (M : mM) (Q : mM → Prop) : Prop := mWm G y_MS_answer (d + 1) 89 [vr a0, vi l1, vi l2] [] M (fun r9 M9 => r9 = none ∧ Q M9)
theorem k_MS_answer {G : mG} {d : Nat} {a0 : Nat} {M : mM} {Q : mM → Prop} (hO : mOk M)
    (h : mK M a0 = 17 ∧ Cv G y_MS_grow d [vr a0, vi 1] M (fun M2 => mOk M2 ∧ (mK M2 a0 = 17 ∧ ∀ M6, M6 = mUI M2 a0 24 0 → h_MS_answer_12 G d a0 0 M6 Q))) :
    Cv G y_MS_answer (d + 1) [vr a0] M Q := by
  refine wm_open (y := y_MS_answer) rfl (Nat.le_of_ble_eq_true rfl) (L := [vr a0, vd, vd]) rfl ?_
  obtain ⟨h1, h⟩ := h
  refine wm_aload_n d_MS_answer_0 rfl rfl ?_
  refine wm_iconst d_MS_answer_1 ?_
  refine cf_MS_133 rfl d_MS_answer_2 h1 (Nat.le_of_ble_eq_true rfl) (Cv.mono h (fun M2 h => ?_))
  obtain ⟨hOM2, h⟩ := h
  obtain ⟨h5, h⟩ := h
  obtain ⟨M6, e7⟩ : ∃ M6, M6 = mUI M2 a0 24 0 := ⟨_, rfl⟩
  replace h := h M6 e7
  refine wm_aload_n d_MS_answer_5 rfl rfl ?_
  refine wm_iconst d_MS_answer_6 ?_
  have hOM6 : mOk M6 := by rw [e7]; exact mOk_UI hOM2 ⟨by decide, by decide⟩
  refine pf_MS_160 rfl d_MS_answer_7 h5 ⟨by decide, by decide⟩ e7 ?_
  refine wm_iconst d_MS_answer_10 ?_
  refine wm_istore_n d_MS_answer_11 rfl (by decide) (L' := [vr a0, vi 0, vd]) rfl ?_
  exact h
theorem k_MS_answer_12 {G : mG} {d : Nat} {a0 : Nat} {l1 : Int} {M : mM} {Q : mM → Prop} (hO : mOk M) (hi_l1 : i32 l1)
    (h : mK M a0 = 17 ∧ ((mI M a0 1 ≤ l1) → (h_MS_answer_77 G d a0 1 M Q)) ∧ (¬ (mI M a0 1 ≤ l1) → (mK M (mR M a0 19) = 31 ∧ ((0 : Int) ≤ l1 ∧ l1 < (mN M (mR M a0 19) : Int)) ∧ (¬ (mI M (mR M a0 19) (Int.toNat l1) = 0) → (mK M (mR M a0 4) = 30 ∧ ((0 : Int) ≤ l1 ∧ l1 < (mN M (mR M a0 4) : Int)))) ∧ (((mI M (mR M a0 19) (Int.toNat l1) = 0) ∨ (mI M (mR M a0 4) (Int.toNat l1) = 3)) → (h_MS_answer_12 G d a0 (l1 + 1) M Q)) ∧ (¬ ((mI M (mR M a0 19) (Int.toNat l1) = 0) ∨ (mI M (mR M a0 4) (Int.toNat l1) = 3)) → (mK M (mR M a0 22) = 30 ∧ ((0 : Int) ≤ mI M a0 24 ∧ mI M a0 24 < (mN M (mR M a0 22) : Int)) ∧ ∀ M37, M37 = mUI M (mR M a0 22) (Int.toNat (mI M a0 24)) l1 → mK M37 (mR M37 a0 23) = 30 ∧ ((0 : Int) ≤ l1 ∧ l1 < (mN M37 (mR M37 a0 23) : Int)) ∧ ∀ M41, M41 = mUI M37 (mR M37 a0 23) (Int.toNat l1) (mI M37 a0 24) → i32 ((mI M41 a0 24) + 1) ∧ ∀ M44, M44 = mUI M41 a0 24 ((mI M41 a0 24) + 1) → h_MS_answer_12 G d a0 (l1 + 1) M44 Q))))) :
    h_MS_answer_12 G d a0 l1 M Q := by
  unfold h_MS_answer_12
  obtain ⟨h8, h⟩ := h
  refine wm_iload_n d_MS_answer_12 rfl rfl ?_
  refine wm_aload_n d_MS_answer_13 rfl rfl ?_
  refine gf_MS_103 rfl d_MS_answer_14 h8 ?_
  refine wm_icmp_ge (tgt := 75) d_MS_answer_17 rfl hi_l1 (hO _ _).1 (fun c16 => ?_) (fun c16 => ?_)
  · replace h := h.1 c16
    refine wm_iconst d_MS_answer_75 ?_
    refine wm_istore_n d_MS_answer_76 rfl (by decide) (L' := [vr a0, vi 1, vd]) rfl ?_
    exact h
  · replace h := h.2 c16
    obtain ⟨h17, h⟩ := h
    obtain ⟨h18, h⟩ := h
    refine wm_aload_n d_MS_answer_20 rfl rfl ?_
    refine gf_MS_63 rfl d_MS_answer_21 h8 ?_
    refine wm_iload_n d_MS_answer_24 rfl rfl ?_
    refine wm_zald d_MS_answer_25 h17 h18 ?_
    obtain ⟨s32, h⟩ := h
    have hE0 : ((mI M (mR M a0 19) (Int.toNat l1) = 0) ∨ (mI M (mR M a0 4) (Int.toNat l1) = 3)) → mWm G y_MS_answer (d + 1) 69 [vr a0, vi l1, vd] [] M (fun r9 M9 => r9 = none ∧ Q M9) := by
      intro q33
      have h := h.1 q33
      refine wm_iinc d_MS_answer_69 (by decide) rfl (L' := [vr a0, vi (l1 + 1), vd]) rfl ?_
      refine wm_goto (tgt := 12) d_MS_answer_72 rfl ?_
      exact h
    have hE1 : ¬ ((mI M (mR M a0 19) (Int.toNat l1) = 0) ∨ (mI M (mR M a0 4) (Int.toNat l1) = 3)) → mWm G y_MS_answer (d + 1) 39 [vr a0, vi l1, vd] [] M (fun r9 M9 => r9 = none ∧ Q M9) := by
      intro q34
      have h := h.2 q34
      obtain ⟨h35, h⟩ := h
      obtain ⟨h36, h⟩ := h
      obtain ⟨M37, e38⟩ : ∃ M37, M37 = mUI M (mR M a0 22) (Int.toNat (mI M a0 24)) l1 := ⟨_, rfl⟩
      replace h := h M37 e38
      obtain ⟨h39, h⟩ := h
      obtain ⟨h40, h⟩ := h
      obtain ⟨M41, e42⟩ : ∃ M41, M41 = mUI M37 (mR M37 a0 23) (Int.toNat l1) (mI M37 a0 24) := ⟨_, rfl⟩
      replace h := h M41 e42
      obtain ⟨h43, h⟩ := h
      obtain ⟨M44, e45⟩ : ∃ M44, M44 = mUI M41 a0 24 ((mI M41 a0 24) + 1) := ⟨_, rfl⟩
      replace h := h M44 e45
      refine wm_aload_n d_MS_answer_39 rfl rfl ?_
      refine gf_MS_72 rfl d_MS_answer_40 h8 ?_
      refine wm_aload_n d_MS_answer_43 rfl rfl ?_
      refine gf_MS_160 rfl d_MS_answer_44 h8 ?_
      refine wm_iload_n d_MS_answer_47 rfl rfl ?_
      have hOM37 : mOk M37 := by rw [e38]; exact mOk_UI hO hi_l1
      refine wm_iastE d_MS_answer_48 h35 h36 hi_l1 e38 ?_
      refine wm_aload_n d_MS_answer_49 rfl rfl ?_
      refine gf_MS_75 rfl d_MS_answer_50 (by rw [e38]; exact h8) ?_
      refine wm_iload_n d_MS_answer_53 rfl rfl ?_
      refine wm_aload_n d_MS_answer_54 rfl rfl ?_
      refine gf_MS_160 rfl d_MS_answer_55 (by rw [e38]; exact h8) ?_
      have hOM41 : mOk M41 := by rw [e42]; exact mOk_UI hOM37 (hOM37 _ _).1
      refine wm_iastE d_MS_answer_58 h39 h40 (hOM37 _ _).1 e42 ?_
      refine wm_aload_n d_MS_answer_59 rfl rfl ?_
      refine wm_dup d_MS_answer_60 rfl ?_
      refine gf_MS_160 rfl d_MS_answer_61 (by rw [e42, e38]; exact h8) ?_
      refine wm_iconst d_MS_answer_64 ?_
      refine wm_iadd d_MS_answer_65 ?_
      have hOM44 : mOk M44 := by rw [e45]; exact mOk_UI hOM41 h43
      refine pf_MS_160 rfl d_MS_answer_66 (by rw [e42, e38]; exact h8) h43 e45 ?_
      refine wm_iinc d_MS_answer_69 (by decide) rfl (L' := [vr a0, vi (l1 + 1), vd]) rfl ?_
      refine wm_goto (tgt := 12) d_MS_answer_72 rfl ?_
      exact h
    clear h
    have s46 := s32
    refine wm_if_eq (tgt := 69) d_MS_answer_26 rfl (hO _ _).1 (fun c31 => ?_) (fun c31 => ?_)
    · exact hE0 (Or.inl c31)
    · have s46 := s46 c31
      obtain ⟨h28, h29⟩ := s46
      refine wm_aload_n d_MS_answer_29 rfl rfl ?_
      refine gf_MS_16 rfl d_MS_answer_30 h8 ?_
      refine wm_iload_n d_MS_answer_33 rfl rfl ?_
      refine wm_iald d_MS_answer_34 h28 h29 ?_
      refine wm_iconst d_MS_answer_35 ?_
      refine wm_icmp_eq (tgt := 69) d_MS_answer_36 rfl (hO _ _).1 ⟨by decide, by decide⟩ (fun c30 => ?_) (fun c30 => ?_)
      · exact hE0 (Or.inr c30)
      · exact hE1 (fun z47 => Or.elim z47 c31 c30)
theorem k_MS_answer_77 {G : mG} {d : Nat} {a0 : Nat} {l1 : Int} {M : mM} {Q : mM → Prop} (hO : mOk M) (hi_l1 : i32 l1)
    (h : ((l1 = 0) → (Q M)) ∧ (¬ (l1 = 0) → (mK M a0 = 17 ∧ Cv G y_MS_settle d [vr a0] M (fun M52 => mOk M52 ∧ (h_MS_answer_89 G d a0 0 0 M52 Q))))) :
    h_MS_answer_77 G d a0 l1 M Q := by
  unfold h_MS_answer_77
  refine wm_iload_n d_MS_answer_77 rfl rfl ?_
  refine wm_if_eq (tgt := 130) d_MS_answer_78 rfl hi_l1 (fun c50 => ?_) (fun c50 => ?_)
  · replace h := h.1 c50
    refine wm_return d_MS_answer_130 rfl ?_
    exact ⟨rfl, h⟩
  · replace h := h.2 c50
    obtain ⟨h51, h⟩ := h
    refine wm_aload_n d_MS_answer_81 rfl rfl ?_
    refine cf_MS_184 rfl d_MS_answer_82 h51 (Nat.le_of_ble_eq_true rfl) (Cv.mono h (fun M52 h => ?_))
    obtain ⟨hOM52, h⟩ := h
    refine wm_iconst d_MS_answer_85 ?_
    refine wm_istore_n d_MS_answer_86 rfl (by decide) (L' := [vr a0, vi 0, vd]) rfl ?_
    refine wm_iconst d_MS_answer_87 ?_
    refine wm_istore_n d_MS_answer_88 rfl (by decide) (L' := [vr a0, vi 0, vi 0]) rfl ?_
    exact h
theorem k_MS_answer_89 {G : mG} {d : Nat} {a0 : Nat} {l1 : Int} {l2 : Int} {M : mM} {Q : mM → Prop} (hO : mOk M) (hi_l1 : i32 l1) (hi_l2 : i32 l2)
    (h : mK M a0 = 17 ∧ ((mI M a0 24 ≤ l2) → (h_MS_answer_77 G d a0 l1 M Q)) ∧ (¬ (mI M a0 24 ≤ l2) → (mK M (mR M a0 22) = 30 ∧ ((0 : Int) ≤ l2 ∧ l2 < (mN M (mR M a0 22) : Int)) ∧ Ci G y_MS_improve d [vr a0, vi (mI M (mR M a0 22) (Int.toNat l2)), vi 2] M (fun x61 M60 => i32 x61 ∧ mOk M60 ∧ (∀ v65 : Int, v65 = (if ((x61 = 0) ∧ (l1 = 0)) then 0 else 1) → h_MS_answer_89 G d a0 v65 (l2 + 1) M60 Q))))) :
    h_MS_answer_89 G d a0 l1 l2 M Q := by
  unfold h_MS_answer_89
  obtain ⟨h55, h⟩ := h
  refine wm_iload_n d_MS_answer_89 rfl rfl ?_
  refine wm_aload_n d_MS_answer_90 rfl rfl ?_
  refine gf_MS_160 rfl d_MS_answer_91 h55 ?_
  refine wm_icmp_ge (tgt := 127) d_MS_answer_94 rfl hi_l2 (hO _ _).1 (fun c57 => ?_) (fun c57 => ?_)
  · replace h := h.1 c57
    refine wm_goto (tgt := 77) d_MS_answer_127 rfl ?_
    refine wm_less (L' := [vr a0, vi l1, vd]) ⟨Or.inr rfl, Or.inr rfl, Or.inl rfl, trivial⟩ ?_
    exact h
  · replace h := h.2 c57
    obtain ⟨h58, h⟩ := h
    obtain ⟨h59, h⟩ := h
    refine wm_aload_n d_MS_answer_97 rfl rfl ?_
    refine wm_aload_n d_MS_answer_98 rfl rfl ?_
    refine gf_MS_72 rfl d_MS_answer_99 h55 ?_
    refine wm_iload_n d_MS_answer_102 rfl rfl ?_
    refine wm_iald d_MS_answer_103 h58 h59 ?_
    refine wm_iconst d_MS_answer_104 ?_
    refine cf_MS_187 rfl d_MS_answer_105 h55 (Nat.le_of_ble_eq_true rfl) (Ci.mono h (fun x61 M60 h => ?_))
    obtain ⟨h62, hOM60, h⟩ := h
    have hJ : ∀ v65 : Int, v65 = (if ((x61 = 0) ∧ (l1 = 0)) then 0 else 1) → mWm G y_MS_answer (d + 1) 120 [vr a0, vd, vi l2] [vi v65] M60 (fun r9 M9 => r9 = none ∧ Q M9) := by
      intro v65 e67
      have h := h v65 e67
      have h68 : i32 v65 := by rw [e67]; (repeat' split) <;> first | exact ⟨by decide, by decide⟩ | exact ⟨by decide, by decide⟩
      have h69 : (v65 = 0 ∨ v65 = 1) := by rw [e67]; (repeat' split) <;> decide
      refine wm_istore_n d_MS_answer_120 rfl (by decide) (L' := [vr a0, vi v65, vi l2]) rfl ?_
      refine wm_iinc d_MS_answer_121 (by decide) rfl (L' := [vr a0, vi v65, vi (l2 + 1)]) rfl ?_
      refine wm_goto (tgt := 89) d_MS_answer_124 rfl ?_
      exact h
    clear h
    refine wm_if_ne (tgt := 115) d_MS_answer_108 rfl h62 (fun c63 => ?_) (fun c63 => ?_)
    · refine wm_iconst d_MS_answer_115 ?_
      refine wm_goto (tgt := 120) d_MS_answer_116 rfl ?_
      refine wm_less (L' := [vr a0, vd, vi l2]) ⟨Or.inr rfl, Or.inl rfl, Or.inr rfl, trivial⟩ ?_
      exact hJ 1 (if_neg (fun z72 => c63 z72.1)).symm
    · replace c63 := Classical.not_not.mp c63
      refine wm_iload_n d_MS_answer_111 rfl rfl ?_
      refine wm_if_eq (tgt := 119) d_MS_answer_112 rfl hi_l1 (fun c64 => ?_) (fun c64 => ?_)
      · refine wm_iconst d_MS_answer_119 ?_
        refine wm_less (L' := [vr a0, vd, vi l2]) ⟨Or.inr rfl, Or.inl rfl, Or.inr rfl, trivial⟩ ?_
        exact hJ 0 (if_pos ⟨c63, c64⟩).symm
      · refine wm_iconst d_MS_answer_115 ?_
        refine wm_goto (tgt := 120) d_MS_answer_116 rfl ?_
        refine wm_less (L' := [vr a0, vd, vi l2]) ⟨Or.inr rfl, Or.inl rfl, Or.inr rfl, trivial⟩ ?_
        exact hJ 1 (if_neg (fun z70 => c64 z70.2)).symm
theorem d_MS_improve_0 : decode y_MS_improve.2.1 0 = .ok (.iconst 0, 1) := dc9_3 (by decide +kernel)
theorem d_MS_improve_1 : decode y_MS_improve.2.1 1 = .ok (.istore_n 3, 1) := dc9_62 (by decide +kernel)
theorem d_MS_improve_2 : decode y_MS_improve.2.1 2 = .ok (.aload_n 0, 1) := dc9_42 (by decide +kernel)
theorem d_MS_improve_3 : decode y_MS_improve.2.1 3 = .ok (.getfield 16, 3) := dc9_180 (by decide +kernel)
theorem d_MS_improve_6 : decode y_MS_improve.2.1 6 = .ok (.iload_n 1, 1) := dc9_27 (by decide +kernel)
theorem d_MS_improve_7 : decode y_MS_improve.2.1 7 = .ok (.iaload, 1) := dc9_46 (by decide +kernel)
theorem d_MS_improve_8 : decode y_MS_improve.2.1 8 = .ok (.iload_n 2, 1) := dc9_28 (by decide +kernel)
theorem d_MS_improve_9 : decode y_MS_improve.2.1 9 = .ok (.if_icmp .ne 85, 3) := dc9_160 (by decide +kernel)
theorem d_MS_improve_12 : decode y_MS_improve.2.1 12 = .ok (.iload_n 3, 1) := dc9_29 (by decide +kernel)
theorem d_MS_improve_13 : decode y_MS_improve.2.1 13 = .ok (.aload_n 0, 1) := dc9_42 (by decide +kernel)
theorem d_MS_improve_14 : decode y_MS_improve.2.1 14 = .ok (.iload_n 1, 1) := dc9_27 (by decide +kernel)
theorem d_MS_improve_15 : decode y_MS_improve.2.1 15 = .ok (.invokevirtual 116, 3) := dc9_182 (by decide +kernel)
theorem d_MS_improve_18 : decode y_MS_improve.2.1 18 = .ok (.if_icmp .ge 76, 3) := dc9_162 (by decide +kernel)
theorem d_MS_improve_21 : decode y_MS_improve.2.1 21 = .ok (.aload_n 0, 1) := dc9_42 (by decide +kernel)
theorem d_MS_improve_22 : decode y_MS_improve.2.1 22 = .ok (.iload_n 1, 1) := dc9_27 (by decide +kernel)
theorem d_MS_improve_23 : decode y_MS_improve.2.1 23 = .ok (.iload_n 3, 1) := dc9_29 (by decide +kernel)
theorem d_MS_improve_94 : decode y_MS_improve.2.1 94 = .ok (.iconst 0, 1) := dc9_3 (by decide +kernel)
theorem d_MS_improve_95 : decode y_MS_improve.2.1 95 = .ok (.ireturn, 1) := dc9_172 (by decide +kernel)
theorem d_MS_improve_24 : decode y_MS_improve.2.1 24 = .ok (.invokevirtual 120, 3) := dc9_182 (by decide +kernel)
theorem d_MS_improve_27 : decode y_MS_improve.2.1 27 = .ok (.ifCond .eq 61, 3) := dc9_153 (by decide +kernel)
theorem d_MS_improve_30 : decode y_MS_improve.2.1 30 = .ok (.aload_n 0, 1) := dc9_42 (by decide +kernel)
theorem d_MS_improve_31 : decode y_MS_improve.2.1 31 = .ok (.iload_n 1, 1) := dc9_27 (by decide +kernel)
theorem d_MS_improve_32 : decode y_MS_improve.2.1 32 = .ok (.iload_n 3, 1) := dc9_29 (by decide +kernel)
theorem d_MS_improve_33 : decode y_MS_improve.2.1 33 = .ok (.aload_n 0, 1) := dc9_42 (by decide +kernel)
theorem d_MS_improve_34 : decode y_MS_improve.2.1 34 = .ok (.getfield 69, 3) := dc9_180 (by decide +kernel)
theorem d_MS_improve_37 : decode y_MS_improve.2.1 37 = .ok (.iconst 0, 1) := dc9_3 (by decide +kernel)
theorem d_MS_improve_38 : decode y_MS_improve.2.1 38 = .ok (.iconst 1, 1) := dc9_4 (by decide +kernel)
theorem d_MS_improve_88 : decode y_MS_improve.2.1 88 = .ok (.iinc 3 1, 3) := by decide +kernel
theorem d_MS_improve_91 : decode y_MS_improve.2.1 91 = .ok (.goto (-89), 3) := dc9_167 (by decide +kernel)
theorem d_MS_improve_39 : decode y_MS_improve.2.1 39 = .ok (.invokevirtual 190, 3) := dc9_182 (by decide +kernel)
theorem d_MS_improve_42 : decode y_MS_improve.2.1 42 = .ok (.aload_n 0, 1) := dc9_42 (by decide +kernel)
theorem d_MS_improve_43 : decode y_MS_improve.2.1 43 = .ok (.getfield 10, 3) := dc9_180 (by decide +kernel)
theorem d_MS_improve_46 : decode y_MS_improve.2.1 46 = .ok (.aload_n 0, 1) := dc9_42 (by decide +kernel)
theorem d_MS_improve_47 : decode y_MS_improve.2.1 47 = .ok (.getfield 91, 3) := dc9_180 (by decide +kernel)
theorem d_MS_improve_50 : decode y_MS_improve.2.1 50 = .ok (.aload_n 0, 1) := dc9_42 (by decide +kernel)
theorem d_MS_improve_51 : decode y_MS_improve.2.1 51 = .ok (.getfield 69, 3) := dc9_180 (by decide +kernel)
theorem d_MS_improve_54 : decode y_MS_improve.2.1 54 = .ok (.iload_n 1, 1) := dc9_27 (by decide +kernel)
theorem d_MS_improve_55 : decode y_MS_improve.2.1 55 = .ok (.aaload, 1) := dc9_50 (by decide +kernel)
theorem d_MS_improve_56 : decode y_MS_improve.2.1 56 = .ok (.invokevirtual 194, 3) := dc9_182 (by decide +kernel)
theorem d_MS_improve_59 : decode y_MS_improve.2.1 59 = .ok (.istore 4, 2) := dc9_54 (by decide +kernel)
theorem d_MS_improve_61 : decode y_MS_improve.2.1 61 = .ok (.iload_n 2, 1) := dc9_28 (by decide +kernel)
theorem d_MS_improve_62 : decode y_MS_improve.2.1 62 = .ok (.iconst 1, 1) := dc9_4 (by decide +kernel)
theorem d_MS_improve_63 : decode y_MS_improve.2.1 63 = .ok (.if_icmp .ne 11, 3) := dc9_160 (by decide +kernel)
theorem d_MS_improve_66 : decode y_MS_improve.2.1 66 = .ok (.iload 4, 2) := dc9_21 (by decide +kernel)
theorem d_MS_improve_74 : decode y_MS_improve.2.1 74 = .ok (.iload 4, 2) := dc9_21 (by decide +kernel)
theorem d_MS_improve_68 : decode y_MS_improve.2.1 68 = .ok (.ifCond .le 20, 3) := dc9_158 (by decide +kernel)
theorem d_MS_improve_71 : decode y_MS_improve.2.1 71 = .ok (.goto 8, 3) := dc9_167 (by decide +kernel)
theorem d_MS_improve_79 : decode y_MS_improve.2.1 79 = .ok (.aload_n 0, 1) := dc9_42 (by decide +kernel)
theorem d_MS_improve_80 : decode y_MS_improve.2.1 80 = .ok (.getfield 60, 3) := dc9_180 (by decide +kernel)
theorem d_MS_improve_83 : decode y_MS_improve.2.1 83 = .ok (.iload_n 1, 1) := dc9_27 (by decide +kernel)
theorem d_MS_improve_84 : decode y_MS_improve.2.1 84 = .ok (.iload_n 3, 1) := dc9_29 (by decide +kernel)
theorem d_MS_improve_85 : decode y_MS_improve.2.1 85 = .ok (.iastore, 1) := dc9_79 (by decide +kernel)
theorem d_MS_improve_86 : decode y_MS_improve.2.1 86 = .ok (.iconst 1, 1) := dc9_4 (by decide +kernel)
theorem d_MS_improve_87 : decode y_MS_improve.2.1 87 = .ok (.ireturn, 1) := dc9_172 (by decide +kernel)
theorem d_MS_improve_76 : decode y_MS_improve.2.1 76 = .ok (.ifCond .ge 12, 3) := dc9_156 (by decide +kernel)
def h_MS_improve_2 (G : mG) (d : Nat) (a0 : Nat) (l1 : Int) (l2 : Int) (l3 : Int) (M : mM) (Q : Int → mM → Prop) : Prop := mWm G y_MS_improve (d + 1) 2 [vr a0, vi l1, vi l2, vi l3, vd] [] M (fun r9 M9 => ∃ x9, r9 = some (vi x9) ∧ Q x9 M9)
theorem k_MS_improve {G : mG} {d : Nat} {a0 : Nat} {l1 : Int} {l2 : Int} {M : mM} {Q : Int → mM → Prop} (hO : mOk M) (hi_l1 : i32 l1) (hi_l2 : i32 l2)
    (h : h_MS_improve_2 G d a0 l1 l2 0 M Q) :
    Ci G y_MS_improve (d + 1) [vr a0, vi l1, vi l2] M Q := by
  refine wm_open (y := y_MS_improve) rfl (Nat.le_of_ble_eq_true rfl) (L := [vr a0, vi l1, vi l2, vd, vd]) rfl ?_
  refine wm_iconst d_MS_improve_0 ?_
  refine wm_istore_n d_MS_improve_1 rfl (by decide) (L' := [vr a0, vi l1, vi l2, vi 0, vd]) rfl ?_
  exact h
theorem k_MS_improve_2 {G : mG} {d : Nat} {a0 : Nat} {l1 : Int} {l2 : Int} {l3 : Int} {M : mM} {Q : Int → mM → Prop} (hO : mOk M) (hi_l1 : i32 l1) (hi_l2 : i32 l2) (hi_l3 : i32 l3)
    (h : mK M a0 = 17 ∧ mK M (mR M a0 4) = 30 ∧ ((0 : Int) ≤ l1 ∧ l1 < (mN M (mR M a0 4) : Int)) ∧ ((mI M (mR M a0 4) (Int.toNat l1) = l2) → (Ci G y_MS_many d [vr a0, vi l1] M (fun x7 M6 => i32 x7 ∧ mOk M6 ∧ (((x7 ≤ l3) → (Q 0 M6)) ∧ (¬ (x7 ≤ l3) → (mK M6 a0 = 17 ∧ Ci G y_MS_may d [vr a0, vi l1, vi l3] M6 (fun x13 M12 => i32 x13 ∧ mOk M12 ∧ (((x13 = 0) → (h_MS_improve_2 G d a0 l1 l2 (l3 + 1) M12 Q)) ∧ (¬ (x13 = 0) → (mK M12 a0 = 17 ∧ Cv G y_MS_worthOf d [vr a0, vi l1, vi l3, vr (mR M12 a0 21), vi 0, vi 1] M12 (fun M18 => mOk M18 ∧ (mK M18 a0 = 17 ∧ mK M18 (mR M18 a0 21) = 36 ∧ ((0 : Int) ≤ l1 ∧ l1 < (mN M18 (mR M18 a0 21) : Int)) ∧ mK M18 (mR M18 a0 0) = 18 ∧ Ci G y_MU_compare d [vr (mR M18 a0 0), vr (mR M18 a0 28), vr (mR M18 (mR M18 a0 21) (Int.toNat l1))] M18 (fun x26 M25 => i32 x26 ∧ mOk M25 ∧ (((l2 = 1) → (((x26 ≤ 0) → (h_MS_improve_2 G d a0 l1 l2 (l3 + 1) M25 Q)) ∧ (¬ (x26 ≤ 0) → (mK M25 a0 = 17 ∧ mK M25 (mR M25 a0 18) = 30 ∧ ((0 : Int) ≤ l1 ∧ l1 < (mN M25 (mR M25 a0 18) : Int)) ∧ ∀ M48, M48 = mUI M25 (mR M25 a0 18) (Int.toNat l1) l3 → Q 1 M48)))) ∧ (¬ (l2 = 1) → (((0 ≤ x26) → (h_MS_improve_2 G d a0 l1 l2 (l3 + 1) M25 Q)) ∧ (¬ (0 ≤ x26) → (mK M25 a0 = 17 ∧ mK M25 (mR M25 a0 18) = 30 ∧ ((0 : Int) ≤ l1 ∧ l1 < (mN M25 (mR M25 a0 18) : Int)) ∧ ∀ M55, M55 = mUI M25 (mR M25 a0 18) (Int.toNat l1) l3 → Q 1 M55)))))))))))))))))) ∧ (¬ (mI M (mR M a0 4) (Int.toNat l1) = l2) → (Q 0 M))) :
    h_MS_improve_2 G d a0 l1 l2 l3 M Q := by
  unfold h_MS_improve_2
  obtain ⟨h1, h⟩ := h
  obtain ⟨h2, h⟩ := h
  obtain ⟨h3, h⟩ := h
  refine wm_aload_n d_MS_improve_2 rfl rfl ?_
  refine gf_MS_16 rfl d_MS_improve_3 h1 ?_
  refine wm_iload_n d_MS_improve_6 rfl rfl ?_
  refine wm_iald d_MS_improve_7 h2 h3 ?_
  refine wm_iload_n d_MS_improve_8 rfl rfl ?_
  refine wm_icmp_ne (tgt := 94) d_MS_improve_9 rfl (hO _ _).1 hi_l2 (fun c5 => ?_) (fun c5 => ?_)
  · replace h := h.2 c5
    refine wm_iconst d_MS_improve_94 ?_
    refine wm_ireturn d_MS_improve_95 rfl (m_nb (by decide)) ?_
    exact ⟨_, rfl, h⟩
  · replace c5 := Classical.not_not.mp c5
    replace h := h.1 c5
    refine wm_iload_n d_MS_improve_12 rfl rfl ?_
    refine wm_aload_n d_MS_improve_13 rfl rfl ?_
    refine wm_iload_n d_MS_improve_14 rfl rfl ?_
    refine cf_MS_116 rfl d_MS_improve_15 h1 (Nat.le_of_ble_eq_true rfl) (Ci.mono h (fun x7 M6 h => ?_))
    obtain ⟨h8, hOM6, h⟩ := h
    refine wm_icmp_ge (tgt := 94) d_MS_improve_18 rfl hi_l3 h8 (fun c10 => ?_) (fun c10 => ?_)
    · replace h := h.1 c10
      refine wm_iconst d_MS_improve_94 ?_
      refine wm_ireturn d_MS_improve_95 rfl (m_nb (by decide)) ?_
      exact ⟨_, rfl, h⟩
    · replace h := h.2 c10
      obtain ⟨h11, h⟩ := h
      refine wm_aload_n d_MS_improve_21 rfl rfl ?_
      refine wm_iload_n d_MS_improve_22 rfl rfl ?_
      refine wm_iload_n d_MS_improve_23 rfl rfl ?_
      refine cf_MS_120 rfl d_MS_improve_24 h11 (Nat.le_of_ble_eq_true rfl) (Ci.mono h (fun x13 M12 h => ?_))
      obtain ⟨h14, hOM12, h⟩ := h
      refine wm_if_eq (tgt := 88) d_MS_improve_27 rfl h14 (fun c16 => ?_) (fun c16 => ?_)
      · replace h := h.1 c16
        refine wm_iinc d_MS_improve_88 (by decide) rfl (L' := [vr a0, vi l1, vi l2, vi (l3 + 1), vd]) rfl ?_
        refine wm_goto (tgt := 2) d_MS_improve_91 rfl ?_
        exact h
      · replace h := h.2 c16
        obtain ⟨h17, h⟩ := h
        refine wm_aload_n d_MS_improve_30 rfl rfl ?_
        refine wm_iload_n d_MS_improve_31 rfl rfl ?_
        refine wm_iload_n d_MS_improve_32 rfl rfl ?_
        refine wm_aload_n d_MS_improve_33 rfl rfl ?_
        refine gf_MS_69 rfl d_MS_improve_34 h17 ?_
        refine wm_iconst d_MS_improve_37 ?_
        refine wm_iconst d_MS_improve_38 ?_
        refine cf_MS_190 rfl d_MS_improve_39 h17 (Nat.le_of_ble_eq_true rfl) (Cv.mono h (fun M18 h => ?_))
        obtain ⟨hOM18, h⟩ := h
        obtain ⟨h21, h⟩ := h
        obtain ⟨h22, h⟩ := h
        obtain ⟨h23, h⟩ := h
        obtain ⟨h24, h⟩ := h
        refine wm_aload_n d_MS_improve_42 rfl rfl ?_
        refine gf_MS_10 rfl d_MS_improve_43 h21 ?_
        refine wm_aload_n d_MS_improve_46 rfl rfl ?_
        refine gf_MS_91 rfl d_MS_improve_47 h21 ?_
        refine wm_aload_n d_MS_improve_50 rfl rfl ?_
        refine gf_MS_69 rfl d_MS_improve_51 h21 ?_
        refine wm_iload_n d_MS_improve_54 rfl rfl ?_
        refine wm_aald6 d_MS_improve_55 h22 h23 ?_
        refine cf_MS_194 rfl d_MS_improve_56 h24 (Nat.le_of_ble_eq_true rfl) (Ci.mono h (fun x26 M25 h => ?_))
        obtain ⟨h27, hOM25, h⟩ := h
        refine wm_istore d_MS_improve_59 (by decide) (L' := [vr a0, vi l1, vi l2, vi l3, vi x26]) rfl ?_
        refine wm_iload_n d_MS_improve_61 rfl rfl ?_
        refine wm_iconst d_MS_improve_62 ?_
        refine wm_icmp_ne (tgt := 74) d_MS_improve_63 rfl hi_l2 ⟨by decide, by decide⟩ (fun c39 => ?_) (fun c39 => ?_)
        · replace h := h.2 c39
          refine wm_iload d_MS_improve_74 rfl ?_
          refine wm_if_ge (tgt := 88) d_MS_improve_76 rfl h27 (fun c51 => ?_) (fun c51 => ?_)
          · replace h := h.1 c51
            refine wm_iinc d_MS_improve_88 (by decide) rfl (L' := [vr a0, vi l1, vi l2, vi (l3 + 1), vi x26]) rfl ?_
            refine wm_goto (tgt := 2) d_MS_improve_91 rfl ?_
            refine wm_less (L' := [vr a0, vi l1, vi l2, vi (l3 + 1), vd]) ⟨Or.inr rfl, Or.inr rfl, Or.inr rfl, Or.inr rfl, Or.inl rfl, trivial⟩ ?_
            exact h
          · replace h := h.2 c51
            obtain ⟨h52, h⟩ := h
            obtain ⟨h53, h⟩ := h
            obtain ⟨h54, h⟩ := h
            obtain ⟨M55, e56⟩ : ∃ M55, M55 = mUI M25 (mR M25 a0 18) (Int.toNat l1) l3 := ⟨_, rfl⟩
            replace h := h M55 e56
            refine wm_aload_n d_MS_improve_79 rfl rfl ?_
            refine gf_MS_60 rfl d_MS_improve_80 h52 ?_
            refine wm_iload_n d_MS_improve_83 rfl rfl ?_
            refine wm_iload_n d_MS_improve_84 rfl rfl ?_
            have hOM55 : mOk M55 := by rw [e56]; exact mOk_UI hOM25 hi_l3
            refine wm_iastE d_MS_improve_85 h53 h54 hi_l3 e56 ?_
            refine wm_iconst d_MS_improve_86 ?_
            refine wm_ireturn d_MS_improve_87 rfl (m_nb (by decide)) ?_
            exact ⟨_, rfl, h⟩
        · replace c39 := Classical.not_not.mp c39
          replace h := h.1 c39
          refine wm_iload d_MS_improve_66 rfl ?_
          refine wm_if_le (tgt := 88) d_MS_improve_68 rfl h27 (fun c44 => ?_) (fun c44 => ?_)
          · replace h := h.1 c44
            refine wm_iinc d_MS_improve_88 (by decide) rfl (L' := [vr a0, vi l1, vi l2, vi (l3 + 1), vi x26]) rfl ?_
            refine wm_goto (tgt := 2) d_MS_improve_91 rfl ?_
            refine wm_less (L' := [vr a0, vi l1, vi l2, vi (l3 + 1), vd]) ⟨Or.inr rfl, Or.inr rfl, Or.inr rfl, Or.inr rfl, Or.inl rfl, trivial⟩ ?_
            exact h
          · replace h := h.2 c44
            obtain ⟨h45, h⟩ := h
            obtain ⟨h46, h⟩ := h
            obtain ⟨h47, h⟩ := h
            obtain ⟨M48, e49⟩ : ∃ M48, M48 = mUI M25 (mR M25 a0 18) (Int.toNat l1) l3 := ⟨_, rfl⟩
            replace h := h M48 e49
            refine wm_goto (tgt := 79) d_MS_improve_71 rfl ?_
            refine wm_aload_n d_MS_improve_79 rfl rfl ?_
            refine gf_MS_60 rfl d_MS_improve_80 h45 ?_
            refine wm_iload_n d_MS_improve_83 rfl rfl ?_
            refine wm_iload_n d_MS_improve_84 rfl rfl ?_
            have hOM48 : mOk M48 := by rw [e49]; exact mOk_UI hOM25 hi_l3
            refine wm_iastE d_MS_improve_85 h46 h47 hi_l3 e49 ?_
            refine wm_iconst d_MS_improve_86 ?_
            refine wm_ireturn d_MS_improve_87 rfl (m_nb (by decide)) ?_
            exact ⟨_, rfl, h⟩
theorem d_MS_firstThatMay_0 : decode y_MS_firstThatMay.2.1 0 = .ok (.aload_n 0, 1) := dc9_42 (by decide +kernel)
theorem d_MS_firstThatMay_1 : decode y_MS_firstThatMay.2.1 1 = .ok (.getfield 113, 3) := dc9_180 (by decide +kernel)
theorem d_MS_firstThatMay_4 : decode y_MS_firstThatMay.2.1 4 = .ok (.aload_n 0, 1) := dc9_42 (by decide +kernel)
theorem d_MS_firstThatMay_5 : decode y_MS_firstThatMay.2.1 5 = .ok (.getfield 16, 3) := dc9_180 (by decide +kernel)
theorem d_MS_firstThatMay_8 : decode y_MS_firstThatMay.2.1 8 = .ok (.iload_n 1, 1) := dc9_27 (by decide +kernel)
theorem d_MS_firstThatMay_9 : decode y_MS_firstThatMay.2.1 9 = .ok (.iaload, 1) := dc9_46 (by decide +kernel)
theorem d_MS_firstThatMay_10 : decode y_MS_firstThatMay.2.1 10 = .ok (.if_icmp .ne 12, 3) := dc9_160 (by decide +kernel)
theorem d_MS_firstThatMay_13 : decode y_MS_firstThatMay.2.1 13 = .ok (.aload_n 0, 1) := dc9_42 (by decide +kernel)
theorem d_MS_firstThatMay_14 : decode y_MS_firstThatMay.2.1 14 = .ok (.getfield 51, 3) := dc9_180 (by decide +kernel)
theorem d_MS_firstThatMay_17 : decode y_MS_firstThatMay.2.1 17 = .ok (.iload_n 1, 1) := dc9_27 (by decide +kernel)
theorem d_MS_firstThatMay_18 : decode y_MS_firstThatMay.2.1 18 = .ok (.iaload, 1) := dc9_46 (by decide +kernel)
theorem d_MS_firstThatMay_19 : decode y_MS_firstThatMay.2.1 19 = .ok (.goto 4, 3) := dc9_167 (by decide +kernel)
theorem d_MS_firstThatMay_22 : decode y_MS_firstThatMay.2.1 22 = .ok (.iconst 0, 1) := dc9_3 (by decide +kernel)
theorem d_MS_firstThatMay_23 : decode y_MS_firstThatMay.2.1 23 = .ok (.ireturn, 1) := dc9_172 (by decide +kernel)
theorem k_MS_firstThatMay {G : mG} {d : Nat} {a0 : Nat} {l1 : Int} {M : mM} {Q : Int → mM → Prop} (hO : mOk M) (hi_l1 : i32 l1)
    (h : mK M a0 = 17 ∧ mK M (mR M a0 4) = 30 ∧ ((0 : Int) ≤ l1 ∧ l1 < (mN M (mR M a0 4) : Int)) ∧ ((mI M a0 17 = mI M (mR M a0 4) (Int.toNat l1)) → (mK M (mR M a0 14) = 30 ∧ ((0 : Int) ≤ l1 ∧ l1 < (mN M (mR M a0 14) : Int)))) ∧ ∀ v7 : Int, v7 = (if (mI M a0 17 = mI M (mR M a0 4) (Int.toNat l1)) then mI M (mR M a0 14) (Int.toNat l1) else 0) → Q v7 M) :
    Ci G y_MS_firstThatMay d [vr a0, vi l1] M Q := by
  refine wm_open (y := y_MS_firstThatMay) rfl (Nat.le_of_ble_eq_true rfl) (L := [vr a0, vi l1]) rfl ?_
  obtain ⟨h1, h⟩ := h
  obtain ⟨h2, h⟩ := h
  obtain ⟨h3, h⟩ := h
  refine wm_aload_n d_MS_firstThatMay_0 rfl rfl ?_
  refine gf_MS_113 rfl d_MS_firstThatMay_1 h1 ?_
  refine wm_aload_n d_MS_firstThatMay_4 rfl rfl ?_
  refine gf_MS_16 rfl d_MS_firstThatMay_5 h1 ?_
  refine wm_iload_n d_MS_firstThatMay_8 rfl rfl ?_
  refine wm_iald d_MS_firstThatMay_9 h2 h3 ?_
  obtain ⟨s8, h⟩ := h
  have hJ : ∀ v7 : Int, v7 = (if (mI M a0 17 = mI M (mR M a0 4) (Int.toNat l1)) then mI M (mR M a0 14) (Int.toNat l1) else 0) → mWm G y_MS_firstThatMay d 23 [vd, vd] [vi v7] M (fun r9 M9 => ∃ x9, r9 = some (vi x9) ∧ Q x9 M9) := by
    intro v7 e9
    have h := h v7 e9
    refine wm_ireturn d_MS_firstThatMay_23 rfl rfl ?_
    exact ⟨_, rfl, h⟩
  clear h
  have s10 := s8
  refine wm_icmp_ne (tgt := 22) d_MS_firstThatMay_10 rfl (hO _ _).1 (hO _ _).1 (fun c4 => ?_) (fun c4 => ?_)
  · refine wm_iconst d_MS_firstThatMay_22 ?_
    refine wm_less (L' := [vd, vd]) ⟨Or.inl rfl, Or.inl rfl, trivial⟩ ?_
    exact hJ 0 (if_neg c4).symm
  · replace c4 := Classical.not_not.mp c4
    have s10 := s10 c4
    obtain ⟨h5, h6⟩ := s10
    refine wm_aload_n d_MS_firstThatMay_13 rfl rfl ?_
    refine gf_MS_51 rfl d_MS_firstThatMay_14 h1 ?_
    refine wm_iload_n d_MS_firstThatMay_17 rfl rfl ?_
    refine wm_iald d_MS_firstThatMay_18 h5 h6 ?_
    refine wm_goto (tgt := 23) d_MS_firstThatMay_19 rfl ?_
    refine wm_less (L' := [vd, vd]) ⟨Or.inl rfl, Or.inl rfl, trivial⟩ ?_
    exact hJ (mI M (mR M a0 14) (Int.toNat l1)) (if_pos c4).symm
theorem d_MS_work_0 : decode y_MS_work.2.1 0 = .ok (.aload_n 0, 1) := dc9_42 (by decide +kernel)
theorem d_MS_work_1 : decode y_MS_work.2.1 1 = .ok (.iload_n 1, 1) := dc9_27 (by decide +kernel)
theorem d_MS_work_2 : decode y_MS_work.2.1 2 = .ok (.putfield 113, 3) := dc9_181 (by decide +kernel)
theorem d_MS_work_5 : decode y_MS_work.2.1 5 = .ok (.aload_n 0, 1) := dc9_42 (by decide +kernel)
theorem d_MS_work_6 : decode y_MS_work.2.1 6 = .ok (.getfield 44, 3) := dc9_180 (by decide +kernel)
theorem d_MS_work_9 : decode y_MS_work.2.1 9 = .ok (.iload_n 2, 1) := dc9_28 (by decide +kernel)
theorem d_MS_work_10 : decode y_MS_work.2.1 10 = .ok (.iconst 0, 1) := dc9_3 (by decide +kernel)
theorem d_MS_work_11 : decode y_MS_work.2.1 11 = .ok (.bastore, 1) := dc9_84 (by decide +kernel)
theorem d_MS_work_12 : decode y_MS_work.2.1 12 = .ok (.aload_n 0, 1) := dc9_42 (by decide +kernel)
theorem d_MS_work_13 : decode y_MS_work.2.1 13 = .ok (.invokevirtual 198, 3) := dc9_182 (by decide +kernel)
theorem d_MS_work_16 : decode y_MS_work.2.1 16 = .ok (.istore_n 3, 1) := dc9_62 (by decide +kernel)
theorem d_MS_work_17 : decode y_MS_work.2.1 17 = .ok (.iload_n 3, 1) := dc9_29 (by decide +kernel)
theorem d_MS_work_18 : decode y_MS_work.2.1 18 = .ok (.ifCond .eq 5, 3) := dc9_153 (by decide +kernel)
theorem d_MS_work_23 : decode y_MS_work.2.1 23 = .ok (.iconst 0, 1) := dc9_3 (by decide +kernel)
theorem d_MS_work_24 : decode y_MS_work.2.1 24 = .ok (.istore 4, 2) := dc9_54 (by decide +kernel)
theorem d_MS_work_21 : decode y_MS_work.2.1 21 = .ok (.iload_n 3, 1) := dc9_29 (by decide +kernel)
theorem d_MS_work_22 : decode y_MS_work.2.1 22 = .ok (.ireturn, 1) := dc9_172 (by decide +kernel)
theorem d_MS_work_26 : decode y_MS_work.2.1 26 = .ok (.iload 4, 2) := dc9_21 (by decide +kernel)
theorem d_MS_work_28 : decode y_MS_work.2.1 28 = .ok (.aload_n 0, 1) := dc9_42 (by decide +kernel)
theorem d_MS_work_29 : decode y_MS_work.2.1 29 = .ok (.getfield 103, 3) := dc9_180 (by decide +kernel)
theorem d_MS_work_32 : decode y_MS_work.2.1 32 = .ok (.if_icmp .ge 22, 3) := dc9_162 (by decide +kernel)
theorem d_MS_work_54 : decode y_MS_work.2.1 54 = .ok (.iconst 1, 1) := dc9_4 (by decide +kernel)
theorem d_MS_work_55 : decode y_MS_work.2.1 55 = .ok (.istore 4, 2) := dc9_54 (by decide +kernel)
theorem d_MS_work_35 : decode y_MS_work.2.1 35 = .ok (.aload_n 0, 1) := dc9_42 (by decide +kernel)
theorem d_MS_work_36 : decode y_MS_work.2.1 36 = .ok (.getfield 60, 3) := dc9_180 (by decide +kernel)
theorem d_MS_work_39 : decode y_MS_work.2.1 39 = .ok (.iload 4, 2) := dc9_21 (by decide +kernel)
theorem d_MS_work_41 : decode y_MS_work.2.1 41 = .ok (.aload_n 0, 1) := dc9_42 (by decide +kernel)
theorem d_MS_work_42 : decode y_MS_work.2.1 42 = .ok (.iload 4, 2) := dc9_21 (by decide +kernel)
theorem d_MS_work_44 : decode y_MS_work.2.1 44 = .ok (.invokevirtual 202, 3) := dc9_182 (by decide +kernel)
theorem d_MS_work_47 : decode y_MS_work.2.1 47 = .ok (.iastore, 1) := dc9_79 (by decide +kernel)
theorem d_MS_work_48 : decode y_MS_work.2.1 48 = .ok (.iinc 4 1, 3) := by decide +kernel
theorem d_MS_work_51 : decode y_MS_work.2.1 51 = .ok (.goto (-25), 3) := dc9_167 (by decide +kernel)
theorem d_MS_work_57 : decode y_MS_work.2.1 57 = .ok (.iload 4, 2) := dc9_21 (by decide +kernel)
theorem d_MS_work_59 : decode y_MS_work.2.1 59 = .ok (.ifCond .eq 45, 3) := dc9_153 (by decide +kernel)
theorem d_MS_work_104 : decode y_MS_work.2.1 104 = .ok (.iconst 0, 1) := dc9_3 (by decide +kernel)
theorem d_MS_work_105 : decode y_MS_work.2.1 105 = .ok (.istore 5, 2) := dc9_54 (by decide +kernel)
theorem d_MS_work_62 : decode y_MS_work.2.1 62 = .ok (.aload_n 0, 1) := dc9_42 (by decide +kernel)
theorem d_MS_work_63 : decode y_MS_work.2.1 63 = .ok (.invokevirtual 205, 3) := dc9_182 (by decide +kernel)
theorem d_MS_work_66 : decode y_MS_work.2.1 66 = .ok (.iconst 0, 1) := dc9_3 (by decide +kernel)
theorem d_MS_work_67 : decode y_MS_work.2.1 67 = .ok (.istore 4, 2) := dc9_54 (by decide +kernel)
theorem d_MS_work_69 : decode y_MS_work.2.1 69 = .ok (.iconst 0, 1) := dc9_3 (by decide +kernel)
theorem d_MS_work_70 : decode y_MS_work.2.1 70 = .ok (.istore 5, 2) := dc9_54 (by decide +kernel)
theorem d_MS_work_72 : decode y_MS_work.2.1 72 = .ok (.iload 5, 2) := dc9_21 (by decide +kernel)
theorem d_MS_work_74 : decode y_MS_work.2.1 74 = .ok (.aload_n 0, 1) := dc9_42 (by decide +kernel)
theorem d_MS_work_75 : decode y_MS_work.2.1 75 = .ok (.getfield 103, 3) := dc9_180 (by decide +kernel)
theorem d_MS_work_78 : decode y_MS_work.2.1 78 = .ok (.if_icmp .ge 23, 3) := dc9_162 (by decide +kernel)
theorem d_MS_work_81 : decode y_MS_work.2.1 81 = .ok (.iload 4, 2) := dc9_21 (by decide +kernel)
theorem d_MS_work_83 : decode y_MS_work.2.1 83 = .ok (.ifCond .ne 18, 3) := dc9_154 (by decide +kernel)
theorem d_MS_work_86 : decode y_MS_work.2.1 86 = .ok (.aload_n 0, 1) := dc9_42 (by decide +kernel)
theorem d_MS_work_87 : decode y_MS_work.2.1 87 = .ok (.iload 5, 2) := dc9_21 (by decide +kernel)
theorem d_MS_work_89 : decode y_MS_work.2.1 89 = .ok (.iconst 1, 1) := dc9_4 (by decide +kernel)
theorem d_MS_work_101 : decode y_MS_work.2.1 101 = .ok (.goto (-44), 3) := dc9_167 (by decide +kernel)
theorem d_MS_work_90 : decode y_MS_work.2.1 90 = .ok (.invokevirtual 187, 3) := dc9_182 (by decide +kernel)
theorem d_MS_work_93 : decode y_MS_work.2.1 93 = .ok (.istore 4, 2) := dc9_54 (by decide +kernel)
theorem d_MS_work_95 : decode y_MS_work.2.1 95 = .ok (.iinc 5 1, 3) := by decide +kernel
theorem d_MS_work_98 : decode y_MS_work.2.1 98 = .ok (.goto (-26), 3) := dc9_167 (by decide +kernel)
theorem d_MS_work_107 : decode y_MS_work.2.1 107 = .ok (.iload 5, 2) := dc9_21 (by decide +kernel)
theorem d_MS_work_109 : decode y_MS_work.2.1 109 = .ok (.aload_n 0, 1) := dc9_42 (by decide +kernel)
theorem d_MS_work_110 : decode y_MS_work.2.1 110 = .ok (.getfield 103, 3) := dc9_180 (by decide +kernel)
theorem d_MS_work_113 : decode y_MS_work.2.1 113 = .ok (.if_icmp .ge 30, 3) := dc9_162 (by decide +kernel)
theorem d_MS_work_143 : decode y_MS_work.2.1 143 = .ok (.aload_n 0, 1) := dc9_42 (by decide +kernel)
theorem d_MS_work_144 : decode y_MS_work.2.1 144 = .ok (.getfield 44, 3) := dc9_180 (by decide +kernel)
theorem d_MS_work_147 : decode y_MS_work.2.1 147 = .ok (.iload_n 2, 1) := dc9_28 (by decide +kernel)
theorem d_MS_work_148 : decode y_MS_work.2.1 148 = .ok (.iconst 1, 1) := dc9_4 (by decide +kernel)
theorem d_MS_work_149 : decode y_MS_work.2.1 149 = .ok (.bastore, 1) := dc9_84 (by decide +kernel)
theorem d_MS_work_150 : decode y_MS_work.2.1 150 = .ok (.iconst 0, 1) := dc9_3 (by decide +kernel)
theorem d_MS_work_151 : decode y_MS_work.2.1 151 = .ok (.ireturn, 1) := dc9_172 (by decide +kernel)
theorem d_MS_work_116 : decode y_MS_work.2.1 116 = .ok (.aload_n 0, 1) := dc9_42 (by decide +kernel)
theorem d_MS_work_117 : decode y_MS_work.2.1 117 = .ok (.getfield 40, 3) := dc9_180 (by decide +kernel)
theorem d_MS_work_120 : decode y_MS_work.2.1 120 = .ok (.iconst 3, 1) := dc9_6 (by decide +kernel)
theorem d_MS_work_121 : decode y_MS_work.2.1 121 = .ok (.iload 5, 2) := dc9_21 (by decide +kernel)
theorem d_MS_work_123 : decode y_MS_work.2.1 123 = .ok (.imul, 1) := dc9_104 (by decide +kernel)
theorem d_MS_work_124 : decode y_MS_work.2.1 124 = .ok (.iload_n 2, 1) := dc9_28 (by decide +kernel)
theorem d_MS_work_125 : decode y_MS_work.2.1 125 = .ok (.iadd, 1) := dc9_96 (by decide +kernel)
theorem d_MS_work_126 : decode y_MS_work.2.1 126 = .ok (.aaload, 1) := dc9_50 (by decide +kernel)
theorem d_MS_work_127 : decode y_MS_work.2.1 127 = .ok (.aload_n 0, 1) := dc9_42 (by decide +kernel)
theorem d_MS_work_128 : decode y_MS_work.2.1 128 = .ok (.getfield 69, 3) := dc9_180 (by decide +kernel)
theorem d_MS_work_131 : decode y_MS_work.2.1 131 = .ok (.iload 5, 2) := dc9_21 (by decide +kernel)
theorem d_MS_work_133 : decode y_MS_work.2.1 133 = .ok (.aaload, 1) := dc9_50 (by decide +kernel)
theorem d_MS_work_134 : decode y_MS_work.2.1 134 = .ok (.invokevirtual 152, 3) := dc9_182 (by decide +kernel)
theorem d_MS_work_137 : decode y_MS_work.2.1 137 = .ok (.iinc 5 1, 3) := by decide +kernel
theorem d_MS_work_140 : decode y_MS_work.2.1 140 = .ok (.goto (-33), 3) := dc9_167 (by decide +kernel)
def h_MS_work_26 (G : mG) (d : Nat) (a0 : Nat) (l2 : Int) (l4 : Int) (M : mM) (Q : Int → mM → Prop) : Prop := mWm G y_MS_work (d + 1) 26 [vr a0, vd, vi l2, vd, vi l4, vd] [] M (fun r9 M9 => ∃ x9, r9 = some (vi x9) ∧ Q x9 M9)
def h_MS_work_57 (G : mG) (d : Nat) (a0 : Nat) (l2 : Int) (l4 : Int) (M : mM) (Q : Int → mM → Prop) : Prop := mWm G y_MS_work (d + 1) 57 [vr a0, vd, vi l2, vd, vi l4, vd] [] M (fun r9 M9 => ∃ x9, r9 = some (vi x9) ∧ Q x9 M9)
def h_MS_work_72 (G : mG) (d : Nat) (a0 : Nat) (l2 : Int) (l4 : Int) (l5 : Int) (M : mM) (Q : Int → mM → Prop) : Prop := mWm G y_MS_work (d + 1) 72 [vr a0, vd, vi l2, vd, vi l4, vi l5] [] M (fun r9 M9 => ∃ x9, r9 = some (vi x9) ∧ Q x9 M9)
def h_MS_work_107 (G : mG) (d : Nat) (a0 : Nat) (l2 : Int) (l5 : Int) (M : mM) (Q : Int → mM → Prop) : Prop := mWm G y_MS_work (d + 1) 107 [vr a0, vd, vi l2, vd, vd, vi l5] [] M (fun r9 M9 => ∃ x9, r9 = some (vi x9) ∧ Q x9 M9)
theorem k_MS_work {G : mG} {d : Nat} {a0 : Nat} {l1 : Int} {l2 : Int} {M : mM} {Q : Int → mM → Prop} (hO : mOk M) (hi_l1 : i32 l1) (hi_l2 : i32 l2)
    (h : mK M a0 = 17 ∧ ∀ M2, M2 = mUI M a0 17 l1 → mK M2 (mR M2 a0 12) = 31 ∧ ((0 : Int) ≤ l2 ∧ l2 < (mN M2 (mR M2 a0 12) : Int)) ∧ ∀ M6, M6 = mUI M2 (mR M2 a0 12) (Int.toNat l2) 0 → Ci G y_MS_look d [vr a0] M6 (fun x9 M8 => i32 x9 ∧ mOk M8 ∧ (((x9 = 0) → (h_MS_work_26 G d a0 l2 0 M8 Q)) ∧ (¬ (x9 = 0) → (Q x9 M8))))) :
    Ci G y_MS_work (d + 1) [vr a0, vi l1, vi l2] M Q := by
  refine wm_open (y := y_MS_work) rfl (Nat.le_of_ble_eq_true rfl) (L := [vr a0, vi l1, vi l2, vd, vd, vd]) rfl ?_
  obtain ⟨h1, h⟩ := h
  obtain ⟨M2, e3⟩ : ∃ M2, M2 = mUI M a0 17 l1 := ⟨_, rfl⟩
  replace h := h M2 e3
  obtain ⟨h4, h⟩ := h
  obtain ⟨h5, h⟩ := h
  obtain ⟨M6, e7⟩ : ∃ M6, M6 = mUI M2 (mR M2 a0 12) (Int.toNat l2) 0 := ⟨_, rfl⟩
  replace h := h M6 e7
  refine wm_aload_n d_MS_work_0 rfl rfl ?_
  refine wm_iload_n d_MS_work_1 rfl rfl ?_
  have hOM2 : mOk M2 := by rw [e3]; exact mOk_UI hO hi_l1
  refine pf_MS_113 rfl d_MS_work_2 h1 hi_l1 e3 ?_
  refine wm_aload_n d_MS_work_5 rfl rfl ?_
  refine gf_MS_44 rfl d_MS_work_6 (by rw [e3]; exact h1) ?_
  refine wm_iload_n d_MS_work_9 rfl rfl ?_
  refine wm_iconst d_MS_work_10 ?_
  have hOM6 : mOk M6 := by rw [e7]; exact mOk_UI hOM2 (m_b32 (by decide))
  refine wm_zastE d_MS_work_11 h4 h5 (by decide) e7 ?_
  refine wm_aload_n d_MS_work_12 rfl rfl ?_
  refine cf_MS_198 rfl d_MS_work_13 (by rw [e7, e3]; exact h1) (Nat.le_of_ble_eq_true rfl) (Ci.mono h (fun x9 M8 h => ?_))
  obtain ⟨h10, hOM8, h⟩ := h
  refine wm_istore_n d_MS_work_16 rfl (by decide) (L' := [vr a0, vi l1, vi l2, vi x9, vd, vd]) rfl ?_
  refine wm_iload_n d_MS_work_17 rfl rfl ?_
  refine wm_if_eq (tgt := 23) d_MS_work_18 rfl h10 (fun c12 => ?_) (fun c12 => ?_)
  · replace h := h.1 c12
    refine wm_iconst d_MS_work_23 ?_
    refine wm_istore d_MS_work_24 (by decide) (L' := [vr a0, vi l1, vi l2, vi x9, vi 0, vd]) rfl ?_
    refine wm_less (L' := [vr a0, vd, vi l2, vd, vi 0, vd]) ⟨Or.inr rfl, Or.inl rfl, Or.inr rfl, Or.inl rfl, Or.inr rfl, Or.inl rfl, trivial⟩ ?_
    exact h
  · replace h := h.2 c12
    refine wm_iload_n d_MS_work_21 rfl rfl ?_
    refine wm_ireturn d_MS_work_22 rfl rfl ?_
    exact ⟨_, rfl, h⟩
theorem k_MS_work_26 {G : mG} {d : Nat} {a0 : Nat} {l2 : Int} {l4 : Int} {M : mM} {Q : Int → mM → Prop} (hO : mOk M) (hi_l2 : i32 l2) (hi_l4 : i32 l4)
    (h : mK M a0 = 17 ∧ ((mI M a0 1 ≤ l4) → (h_MS_work_57 G d a0 l2 1 M Q)) ∧ (¬ (mI M a0 1 ≤ l4) → (Ci G y_MS_firstThatMay d [vr a0, vi l4] M (fun x17 M16 => i32 x17 ∧ mOk M16 ∧ (mK M16 (mR M a0 18) = 30 ∧ ((0 : Int) ≤ l4 ∧ l4 < (mN M16 (mR M a0 18) : Int)) ∧ ∀ M21, M21 = mUI M16 (mR M a0 18) (Int.toNat l4) x17 → h_MS_work_26 G d a0 l2 (l4 + 1) M21 Q))))) :
    h_MS_work_26 G d a0 l2 l4 M Q := by
  unfold h_MS_work_26
  obtain ⟨h13, h⟩ := h
  refine wm_iload d_MS_work_26 rfl ?_
  refine wm_aload_n d_MS_work_28 rfl rfl ?_
  refine gf_MS_103 rfl d_MS_work_29 h13 ?_
  refine wm_icmp_ge (tgt := 54) d_MS_work_32 rfl hi_l4 (hO _ _).1 (fun c15 => ?_) (fun c15 => ?_)
  · replace h := h.1 c15
    refine wm_iconst d_MS_work_54 ?_
    refine wm_istore d_MS_work_55 (by decide) (L' := [vr a0, vd, vi l2, vd, vi 1, vd]) rfl ?_
    exact h
  · replace h := h.2 c15
    refine wm_aload_n d_MS_work_35 rfl rfl ?_
    refine gf_MS_60 rfl d_MS_work_36 h13 ?_
    refine wm_iload d_MS_work_39 rfl ?_
    refine wm_aload_n d_MS_work_41 rfl rfl ?_
    refine wm_iload d_MS_work_42 rfl ?_
    refine cf_MS_202 rfl d_MS_work_44 h13 (Nat.le_of_ble_eq_true rfl) (Ci.mono h (fun x17 M16 h => ?_))
    obtain ⟨h18, hOM16, h⟩ := h
    obtain ⟨h19, h⟩ := h
    obtain ⟨h20, h⟩ := h
    obtain ⟨M21, e22⟩ : ∃ M21, M21 = mUI M16 (mR M a0 18) (Int.toNat l4) x17 := ⟨_, rfl⟩
    replace h := h M21 e22
    have hOM21 : mOk M21 := by rw [e22]; exact mOk_UI hOM16 h18
    refine wm_iastE d_MS_work_47 h19 h20 h18 e22 ?_
    refine wm_iinc d_MS_work_48 (by decide) rfl (L' := [vr a0, vd, vi l2, vd, vi (l4 + 1), vd]) rfl ?_
    refine wm_goto (tgt := 26) d_MS_work_51 rfl ?_
    exact h
theorem k_MS_work_57 {G : mG} {d : Nat} {a0 : Nat} {l2 : Int} {l4 : Int} {M : mM} {Q : Int → mM → Prop} (hO : mOk M) (hi_l2 : i32 l2) (hi_l4 : i32 l4)
    (h : ((l4 = 0) → (h_MS_work_107 G d a0 l2 0 M Q)) ∧ (¬ (l4 = 0) → (mK M a0 = 17 ∧ Cv G y_MS_answer d [vr a0] M (fun M26 => mOk M26 ∧ (h_MS_work_72 G d a0 l2 0 0 M26 Q))))) :
    h_MS_work_57 G d a0 l2 l4 M Q := by
  unfold h_MS_work_57
  refine wm_iload d_MS_work_57 rfl ?_
  refine wm_if_eq (tgt := 104) d_MS_work_59 rfl hi_l4 (fun c24 => ?_) (fun c24 => ?_)
  · replace h := h.1 c24
    refine wm_iconst d_MS_work_104 ?_
    refine wm_istore d_MS_work_105 (by decide) (L' := [vr a0, vd, vi l2, vd, vi l4, vi 0]) rfl ?_
    refine wm_less (L' := [vr a0, vd, vi l2, vd, vd, vi 0]) ⟨Or.inr rfl, Or.inl rfl, Or.inr rfl, Or.inl rfl, Or.inl rfl, Or.inr rfl, trivial⟩ ?_
    exact h
  · replace h := h.2 c24
    obtain ⟨h25, h⟩ := h
    refine wm_aload_n d_MS_work_62 rfl rfl ?_
    refine cf_MS_205 rfl d_MS_work_63 h25 (Nat.le_of_ble_eq_true rfl) (Cv.mono h (fun M26 h => ?_))
    obtain ⟨hOM26, h⟩ := h
    refine wm_iconst d_MS_work_66 ?_
    refine wm_istore d_MS_work_67 (by decide) (L' := [vr a0, vd, vi l2, vd, vi 0, vd]) rfl ?_
    refine wm_iconst d_MS_work_69 ?_
    refine wm_istore d_MS_work_70 (by decide) (L' := [vr a0, vd, vi l2, vd, vi 0, vi 0]) rfl ?_
    exact h
theorem k_MS_work_72 {G : mG} {d : Nat} {a0 : Nat} {l2 : Int} {l4 : Int} {l5 : Int} {M : mM} {Q : Int → mM → Prop} (hO : mOk M) (hi_l2 : i32 l2) (hi_l4 : i32 l4) (hi_l5 : i32 l5)
    (h : mK M a0 = 17 ∧ (((mI M a0 1 ≤ l5) ∨ (¬ (l4 = 0))) → (h_MS_work_57 G d a0 l2 l4 M Q)) ∧ (¬ ((mI M a0 1 ≤ l5) ∨ (¬ (l4 = 0))) → (Ci G y_MS_improve d [vr a0, vi l5, vi 1] M (fun x36 M35 => i32 x36 ∧ mOk M35 ∧ (h_MS_work_72 G d a0 l2 x36 (l5 + 1) M35 Q))))) :
    h_MS_work_72 G d a0 l2 l4 l5 M Q := by
  unfold h_MS_work_72
  obtain ⟨h29, h⟩ := h
  refine wm_iload d_MS_work_72 rfl ?_
  refine wm_aload_n d_MS_work_74 rfl rfl ?_
  refine gf_MS_103 rfl d_MS_work_75 h29 ?_
  have hE0 : ((mI M a0 1 ≤ l5) ∨ (¬ (l4 = 0))) → mWm G y_MS_work (d + 1) 101 [vr a0, vd, vi l2, vd, vi l4, vi l5] [] M (fun r9 M9 => ∃ x9, r9 = some (vi x9) ∧ Q x9 M9) := by
    intro q33
    have h := h.1 q33
    refine wm_goto (tgt := 57) d_MS_work_101 rfl ?_
    refine wm_less (L' := [vr a0, vd, vi l2, vd, vi l4, vd]) ⟨Or.inr rfl, Or.inl rfl, Or.inr rfl, Or.inl rfl, Or.inr rfl, Or.inl rfl, trivial⟩ ?_
    exact h
  have hE1 : ¬ ((mI M a0 1 ≤ l5) ∨ (¬ (l4 = 0))) → mWm G y_MS_work (d + 1) 86 [vr a0, vd, vi l2, vd, vi l4, vi l5] [] M (fun r9 M9 => ∃ x9, r9 = some (vi x9) ∧ Q x9 M9) := by
    intro q34
    have h := h.2 q34
    refine wm_aload_n d_MS_work_86 rfl rfl ?_
    refine wm_iload d_MS_work_87 rfl ?_
    refine wm_iconst d_MS_work_89 ?_
    refine cf_MS_187 rfl d_MS_work_90 h29 (Nat.le_of_ble_eq_true rfl) (Ci.mono h (fun x36 M35 h => ?_))
    obtain ⟨h37, hOM35, h⟩ := h
    refine wm_istore d_MS_work_93 (by decide) (L' := [vr a0, vd, vi l2, vd, vi x36, vi l5]) rfl ?_
    refine wm_iinc d_MS_work_95 (by decide) rfl (L' := [vr a0, vd, vi l2, vd, vi x36, vi (l5 + 1)]) rfl ?_
    refine wm_goto (tgt := 72) d_MS_work_98 rfl ?_
    exact h
  clear h
  refine wm_icmp_ge (tgt := 101) d_MS_work_78 rfl hi_l5 (hO _ _).1 (fun c31 => ?_) (fun c31 => ?_)
  · exact hE0 (Or.inl c31)
  · refine wm_iload d_MS_work_81 rfl ?_
    refine wm_if_ne (tgt := 101) d_MS_work_83 rfl hi_l4 (fun c30 => ?_) (fun c30 => ?_)
    · exact hE0 (Or.inr c30)
    · replace c30 := Classical.not_not.mp c30
      exact hE1 (fun z38 => Or.elim z38 c31 (fun z39 => z39 c30))
theorem k_MS_work_107 {G : mG} {d : Nat} {a0 : Nat} {l2 : Int} {l5 : Int} {M : mM} {Q : Int → mM → Prop} (hO : mOk M) (hi_l2 : i32 l2) (hi_l5 : i32 l5)
    (h : mK M a0 = 17 ∧ ((mI M a0 1 ≤ l5) → (mK M (mR M a0 12) = 31 ∧ ((0 : Int) ≤ l2 ∧ l2 < (mN M (mR M a0 12) : Int)) ∧ ∀ M47, M47 = mUI M (mR M a0 12) (Int.toNat l2) 1 → Q 0 M47)) ∧ (¬ (mI M a0 1 ≤ l5) → (mK M (mR M a0 11) = 36 ∧ ((0 : Int) ≤ (3 * l5) + l2 ∧ (3 * l5) + l2 < (mN M (mR M a0 11) : Int)) ∧ mK M (mR M a0 21) = 36 ∧ ((0 : Int) ≤ l5 ∧ l5 < (mN M (mR M a0 21) : Int)) ∧ mK M (mR M (mR M a0 11) (Int.toNat ((3 * l5) + l2))) = 19 ∧ Cv G y_MF_copy d [vr (mR M (mR M a0 11) (Int.toNat ((3 * l5) + l2))), vr (mR M (mR M a0 21) (Int.toNat l5))] M (fun M54 => mOk M54 ∧ (h_MS_work_107 G d a0 l2 (l5 + 1) M54 Q))))) :
    h_MS_work_107 G d a0 l2 l5 M Q := by
  unfold h_MS_work_107
  obtain ⟨h40, h⟩ := h
  refine wm_iload d_MS_work_107 rfl ?_
  refine wm_aload_n d_MS_work_109 rfl rfl ?_
  refine gf_MS_103 rfl d_MS_work_110 h40 ?_
  refine wm_icmp_ge (tgt := 143) d_MS_work_113 rfl hi_l5 (hO _ _).1 (fun c44 => ?_) (fun c44 => ?_)
  · replace h := h.1 c44
    obtain ⟨h45, h⟩ := h
    obtain ⟨h46, h⟩ := h
    obtain ⟨M47, e48⟩ : ∃ M47, M47 = mUI M (mR M a0 12) (Int.toNat l2) 1 := ⟨_, rfl⟩
    replace h := h M47 e48
    refine wm_aload_n d_MS_work_143 rfl rfl ?_
    refine gf_MS_44 rfl d_MS_work_144 h40 ?_
    refine wm_iload_n d_MS_work_147 rfl rfl ?_
    refine wm_iconst d_MS_work_148 ?_
    have hOM47 : mOk M47 := by rw [e48]; exact mOk_UI hO (m_b32 (by decide))
    refine wm_zastE d_MS_work_149 h45 h46 (by decide) e48 ?_
    refine wm_iconst d_MS_work_150 ?_
    refine wm_ireturn d_MS_work_151 rfl rfl ?_
    exact ⟨_, rfl, h⟩
  · replace h := h.2 c44
    obtain ⟨h49, h⟩ := h
    obtain ⟨h50, h⟩ := h
    obtain ⟨h51, h⟩ := h
    obtain ⟨h52, h⟩ := h
    obtain ⟨h53, h⟩ := h
    refine wm_aload_n d_MS_work_116 rfl rfl ?_
    refine gf_MS_40 rfl d_MS_work_117 h40 ?_
    refine wm_iconst d_MS_work_120 ?_
    refine wm_iload d_MS_work_121 rfl ?_
    refine wm_imul d_MS_work_123 ?_
    refine wm_iload_n d_MS_work_124 rfl rfl ?_
    refine wm_iadd d_MS_work_125 ?_
    refine wm_aald6 d_MS_work_126 h49 h50 ?_
    refine wm_aload_n d_MS_work_127 rfl rfl ?_
    refine gf_MS_69 rfl d_MS_work_128 h40 ?_
    refine wm_iload d_MS_work_131 rfl ?_
    refine wm_aald6 d_MS_work_133 h51 h52 ?_
    refine cf_MS_152 rfl d_MS_work_134 h53 (Nat.le_of_ble_eq_true rfl) (Cv.mono h (fun M54 h => ?_))
    obtain ⟨hOM54, h⟩ := h
    refine wm_iinc d_MS_work_137 (by decide) rfl (L' := [vr a0, vd, vi l2, vd, vd, vi (l5 + 1)]) rfl ?_
    refine wm_goto (tgt := 107) d_MS_work_140 rfl ?_
    exact h
theorem d_MS_solve_0 : decode y_MS_solve.2.1 0 = .ok (.aload_n 0, 1) := dc9_42 (by decide +kernel)
theorem d_MS_solve_1 : decode y_MS_solve.2.1 1 = .ok (.iconst 0, 1) := dc9_3 (by decide +kernel)
theorem d_MS_solve_2 : decode y_MS_solve.2.1 2 = .ok (.iconst 0, 1) := dc9_3 (by decide +kernel)
theorem d_MS_solve_3 : decode y_MS_solve.2.1 3 = .ok (.invokevirtual 208, 3) := dc9_182 (by decide +kernel)
theorem d_MS_solve_6 : decode y_MS_solve.2.1 6 = .ok (.istore_n 1, 1) := dc9_60 (by decide +kernel)
theorem d_MS_solve_7 : decode y_MS_solve.2.1 7 = .ok (.iload_n 1, 1) := dc9_27 (by decide +kernel)
theorem d_MS_solve_8 : decode y_MS_solve.2.1 8 = .ok (.ifCond .ne 7, 3) := dc9_154 (by decide +kernel)
theorem d_MS_solve_11 : decode y_MS_solve.2.1 11 = .ok (.aload_n 0, 1) := dc9_42 (by decide +kernel)
theorem d_MS_solve_12 : decode y_MS_solve.2.1 12 = .ok (.invokevirtual 212, 3) := dc9_182 (by decide +kernel)
theorem d_MS_solve_15 : decode y_MS_solve.2.1 15 = .ok (.iload_n 1, 1) := dc9_27 (by decide +kernel)
theorem d_MS_solve_16 : decode y_MS_solve.2.1 16 = .ok (.ireturn, 1) := dc9_172 (by decide +kernel)
theorem k_MS_solve {G : mG} {d : Nat} {a0 : Nat} {M : mM} {Q : Int → mM → Prop} (hO : mOk M)
    (h : mK M a0 = 17 ∧ Ci G y_MS_work d [vr a0, vi 0, vi 0] M (fun x3 M2 => i32 x3 ∧ mOk M2 ∧ (((x3 = 0) → (mK M2 a0 = 17 ∧ Cv G y_MS_rank d [vr a0] M2 (fun M9 => mOk M9 ∧ (Q x3 M9)))) ∧ (¬ (x3 = 0) → (Q x3 M2))))) :
    Ci G y_MS_solve (d + 1) [vr a0] M Q := by
  refine wm_open (y := y_MS_solve) rfl (Nat.le_of_ble_eq_true rfl) (L := [vr a0, vd]) rfl ?_
  obtain ⟨h1, h⟩ := h
  refine wm_aload_n d_MS_solve_0 rfl rfl ?_
  refine wm_iconst d_MS_solve_1 ?_
  refine wm_iconst d_MS_solve_2 ?_
  refine cf_MS_208 rfl d_MS_solve_3 h1 (Nat.le_of_ble_eq_true rfl) (Ci.mono h (fun x3 M2 h => ?_))
  obtain ⟨h4, hOM2, h⟩ := h
  refine wm_istore_n d_MS_solve_6 rfl (by decide) (L' := [vr a0, vi x3]) rfl ?_
  refine wm_iload_n d_MS_solve_7 rfl rfl ?_
  refine wm_if_ne (tgt := 15) d_MS_solve_8 rfl h4 (fun c7 => ?_) (fun c7 => ?_)
  · replace h := h.2 c7
    refine wm_iload_n d_MS_solve_15 rfl rfl ?_
    refine wm_ireturn d_MS_solve_16 rfl rfl ?_
    exact ⟨_, rfl, h⟩
  · replace c7 := Classical.not_not.mp c7
    replace h := h.1 c7
    obtain ⟨h8, h⟩ := h
    refine wm_aload_n d_MS_solve_11 rfl rfl ?_
    refine cf_MS_212 rfl d_MS_solve_12 h8 (Nat.le_of_ble_eq_true rfl) (Cv.mono h (fun M9 h => ?_))
    obtain ⟨hOM9, h⟩ := h
    refine wm_iload_n d_MS_solve_15 rfl rfl ?_
    refine wm_ireturn d_MS_solve_16 rfl rfl ?_
    exact ⟨_, rfl, h⟩
theorem d_MS_judge_0 : decode y_MS_judge.2.1 0 = .ok (.aload_n 0, 1) := dc9_42 (by decide +kernel)
theorem d_MS_judge_1 : decode y_MS_judge.2.1 1 = .ok (.iload_n 1, 1) := dc9_27 (by decide +kernel)
theorem d_MS_judge_2 : decode y_MS_judge.2.1 2 = .ok (.iconst 2, 1) := dc9_5 (by decide +kernel)
theorem d_MS_judge_3 : decode y_MS_judge.2.1 3 = .ok (.invokevirtual 208, 3) := dc9_182 (by decide +kernel)
theorem d_MS_judge_6 : decode y_MS_judge.2.1 6 = .ok (.ireturn, 1) := dc9_172 (by decide +kernel)
theorem k_MS_judge {G : mG} {d : Nat} {a0 : Nat} {l1 : Int} {M : mM} {Q : Int → mM → Prop} (hO : mOk M) (hi_l1 : i32 l1)
    (h : mK M a0 = 17 ∧ Ci G y_MS_work d [vr a0, vi l1, vi 2] M (fun x3 M2 => i32 x3 ∧ mOk M2 ∧ (Q x3 M2))) :
    Ci G y_MS_judge (d + 1) [vr a0, vi l1] M Q := by
  refine wm_open (y := y_MS_judge) rfl (Nat.le_of_ble_eq_true rfl) (L := [vr a0, vi l1]) rfl ?_
  obtain ⟨h1, h⟩ := h
  refine wm_aload_n d_MS_judge_0 rfl rfl ?_
  refine wm_iload_n d_MS_judge_1 rfl rfl ?_
  refine wm_iconst d_MS_judge_2 ?_
  refine cf_MS_208 rfl d_MS_judge_3 h1 (Nat.le_of_ble_eq_true rfl) (Ci.mono h (fun x3 M2 h => ?_))
  obtain ⟨h4, hOM2, h⟩ := h
  refine wm_ireturn d_MS_judge_6 rfl rfl ?_
  exact ⟨_, rfl, h⟩
theorem d_MS_attains_0 : decode y_MS_attains.2.1 0 = .ok (.aload_n 0, 1) := dc9_42 (by decide +kernel)
theorem d_MS_attains_1 : decode y_MS_attains.2.1 1 = .ok (.iload_n 1, 1) := dc9_27 (by decide +kernel)
theorem d_MS_attains_2 : decode y_MS_attains.2.1 2 = .ok (.iload_n 2, 1) := dc9_28 (by decide +kernel)
theorem d_MS_attains_3 : decode y_MS_attains.2.1 3 = .ok (.aload_n 0, 1) := dc9_42 (by decide +kernel)
theorem d_MS_attains_4 : decode y_MS_attains.2.1 4 = .ok (.getfield 40, 3) := dc9_180 (by decide +kernel)
theorem d_MS_attains_7 : decode y_MS_attains.2.1 7 = .ok (.iconst 0, 1) := dc9_3 (by decide +kernel)
theorem d_MS_attains_8 : decode y_MS_attains.2.1 8 = .ok (.iconst 3, 1) := dc9_6 (by decide +kernel)
theorem d_MS_attains_9 : decode y_MS_attains.2.1 9 = .ok (.invokevirtual 190, 3) := dc9_182 (by decide +kernel)
theorem d_MS_attains_12 : decode y_MS_attains.2.1 12 = .ok (.aload_n 0, 1) := dc9_42 (by decide +kernel)
theorem d_MS_attains_13 : decode y_MS_attains.2.1 13 = .ok (.getfield 10, 3) := dc9_180 (by decide +kernel)
theorem d_MS_attains_16 : decode y_MS_attains.2.1 16 = .ok (.aload_n 0, 1) := dc9_42 (by decide +kernel)
theorem d_MS_attains_17 : decode y_MS_attains.2.1 17 = .ok (.getfield 91, 3) := dc9_180 (by decide +kernel)
theorem d_MS_attains_20 : decode y_MS_attains.2.1 20 = .ok (.aload_n 0, 1) := dc9_42 (by decide +kernel)
theorem d_MS_attains_21 : decode y_MS_attains.2.1 21 = .ok (.getfield 40, 3) := dc9_180 (by decide +kernel)
theorem d_MS_attains_24 : decode y_MS_attains.2.1 24 = .ok (.iconst 3, 1) := dc9_6 (by decide +kernel)
theorem d_MS_attains_25 : decode y_MS_attains.2.1 25 = .ok (.iload_n 1, 1) := dc9_27 (by decide +kernel)
theorem d_MS_attains_26 : decode y_MS_attains.2.1 26 = .ok (.imul, 1) := dc9_104 (by decide +kernel)
theorem d_MS_attains_27 : decode y_MS_attains.2.1 27 = .ok (.aaload, 1) := dc9_50 (by decide +kernel)
theorem d_MS_attains_28 : decode y_MS_attains.2.1 28 = .ok (.invokevirtual 194, 3) := dc9_182 (by decide +kernel)
theorem d_MS_attains_31 : decode y_MS_attains.2.1 31 = .ok (.ifCond .ne 7, 3) := dc9_154 (by decide +kernel)
theorem d_MS_attains_34 : decode y_MS_attains.2.1 34 = .ok (.iconst 1, 1) := dc9_4 (by decide +kernel)
theorem d_MS_attains_35 : decode y_MS_attains.2.1 35 = .ok (.goto 4, 3) := dc9_167 (by decide +kernel)
theorem d_MS_attains_38 : decode y_MS_attains.2.1 38 = .ok (.iconst 0, 1) := dc9_3 (by decide +kernel)
theorem d_MS_attains_39 : decode y_MS_attains.2.1 39 = .ok (.ireturn, 1) := dc9_172 (by decide +kernel)
theorem k_MS_attains {G : mG} {d : Nat} {a0 : Nat} {l1 : Int} {l2 : Int} {M : mM} {Q : Int → mM → Prop} (hO : mOk M) (hi_l1 : i32 l1) (hi_l2 : i32 l2)
    (h : mK M a0 = 17 ∧ Cv G y_MS_worthOf d [vr a0, vi l1, vi l2, vr (mR M a0 11), vi 0, vi 3] M (fun M2 => mOk M2 ∧ (mK M2 a0 = 17 ∧ mK M2 (mR M2 a0 11) = 36 ∧ ((0 : Int) ≤ 3 * l1 ∧ 3 * l1 < (mN M2 (mR M2 a0 11) : Int)) ∧ mK M2 (mR M2 a0 0) = 18 ∧ Ci G y_MU_compare d [vr (mR M2 a0 0), vr (mR M2 a0 28), vr (mR M2 (mR M2 a0 11) (Int.toNat (3 * l1)))] M2 (fun x10 M9 => i32 x10 ∧ mOk M9 ∧ (∀ v13 : Int, v13 = (if (x10 = 0) then 1 else 0) → Q v13 M9))))) :
    Ci G y_MS_attains (d + 1) [vr a0, vi l1, vi l2] M Q := by
  refine wm_open (y := y_MS_attains) rfl (Nat.le_of_ble_eq_true rfl) (L := [vr a0, vi l1, vi l2]) rfl ?_
  obtain ⟨h1, h⟩ := h
  refine wm_aload_n d_MS_attains_0 rfl rfl ?_
  refine wm_iload_n d_MS_attains_1 rfl rfl ?_
  refine wm_iload_n d_MS_attains_2 rfl rfl ?_
  refine wm_aload_n d_MS_attains_3 rfl rfl ?_
  refine gf_MS_40 rfl d_MS_attains_4 h1 ?_
  refine wm_iconst d_MS_attains_7 ?_
  refine wm_iconst d_MS_attains_8 ?_
  refine cf_MS_190 rfl d_MS_attains_9 h1 (Nat.le_of_ble_eq_true rfl) (Cv.mono h (fun M2 h => ?_))
  obtain ⟨hOM2, h⟩ := h
  obtain ⟨h5, h⟩ := h
  obtain ⟨h6, h⟩ := h
  obtain ⟨h7, h⟩ := h
  obtain ⟨h8, h⟩ := h
  refine wm_aload_n d_MS_attains_12 rfl rfl ?_
  refine gf_MS_10 rfl d_MS_attains_13 h5 ?_
  refine wm_aload_n d_MS_attains_16 rfl rfl ?_
  refine gf_MS_91 rfl d_MS_attains_17 h5 ?_
  refine wm_aload_n d_MS_attains_20 rfl rfl ?_
  refine gf_MS_40 rfl d_MS_attains_21 h5 ?_
  refine wm_iconst d_MS_attains_24 ?_
  refine wm_iload_n d_MS_attains_25 rfl rfl ?_
  refine wm_imul d_MS_attains_26 ?_
  refine wm_aald6 d_MS_attains_27 h6 h7 ?_
  refine cf_MS_194 rfl d_MS_attains_28 h8 (Nat.le_of_ble_eq_true rfl) (Ci.mono h (fun x10 M9 h => ?_))
  obtain ⟨h11, hOM9, h⟩ := h
  have hJ : ∀ v13 : Int, v13 = (if (x10 = 0) then 1 else 0) → mWm G y_MS_attains (d + 1) 39 [vd, vd, vd] [vi v13] M9 (fun r9 M9 => ∃ x9, r9 = some (vi x9) ∧ Q x9 M9) := by
    intro v13 e15
    have h := h v13 e15
    have h16 : i32 v13 := by rw [e15]; (repeat' split) <;> first | exact ⟨by decide, by decide⟩ | exact ⟨by decide, by decide⟩
    have h17 : (v13 = 0 ∨ v13 = 1) := by rw [e15]; (repeat' split) <;> decide
    refine wm_ireturn d_MS_attains_39 rfl (m_nb h17) ?_
    exact ⟨_, rfl, h⟩
  clear h
  refine wm_if_ne (tgt := 38) d_MS_attains_31 rfl h11 (fun c12 => ?_) (fun c12 => ?_)
  · refine wm_iconst d_MS_attains_38 ?_
    refine wm_less (L' := [vd, vd, vd]) ⟨Or.inl rfl, Or.inl rfl, Or.inl rfl, trivial⟩ ?_
    exact hJ 0 (if_neg c12).symm
  · replace c12 := Classical.not_not.mp c12
    refine wm_iconst d_MS_attains_34 ?_
    refine wm_goto (tgt := 39) d_MS_attains_35 rfl ?_
    refine wm_less (L' := [vd, vd, vd]) ⟨Or.inl rfl, Or.inl rfl, Or.inl rfl, trivial⟩ ?_
    exact hJ 1 (if_pos c12).symm
theorem d_MS_leadsBelow_0 : decode y_MS_leadsBelow.2.1 0 = .ok (.aload_n 0, 1) := dc9_42 (by decide +kernel)
theorem d_MS_leadsBelow_1 : decode y_MS_leadsBelow.2.1 1 = .ok (.getfield 20, 3) := dc9_180 (by decide +kernel)
theorem d_MS_leadsBelow_4 : decode y_MS_leadsBelow.2.1 4 = .ok (.iload_n 1, 1) := dc9_27 (by decide +kernel)
theorem d_MS_leadsBelow_5 : decode y_MS_leadsBelow.2.1 5 = .ok (.iaload, 1) := dc9_46 (by decide +kernel)
theorem d_MS_leadsBelow_6 : decode y_MS_leadsBelow.2.1 6 = .ok (.iload_n 2, 1) := dc9_28 (by decide +kernel)
theorem d_MS_leadsBelow_7 : decode y_MS_leadsBelow.2.1 7 = .ok (.iadd, 1) := dc9_96 (by decide +kernel)
theorem d_MS_leadsBelow_8 : decode y_MS_leadsBelow.2.1 8 = .ok (.istore 4, 2) := dc9_54 (by decide +kernel)
theorem d_MS_leadsBelow_10 : decode y_MS_leadsBelow.2.1 10 = .ok (.iconst 0, 1) := dc9_3 (by decide +kernel)
theorem d_MS_leadsBelow_11 : decode y_MS_leadsBelow.2.1 11 = .ok (.istore 5, 2) := dc9_54 (by decide +kernel)
theorem d_MS_leadsBelow_13 : decode y_MS_leadsBelow.2.1 13 = .ok (.aload_n 0, 1) := dc9_42 (by decide +kernel)
theorem d_MS_leadsBelow_14 : decode y_MS_leadsBelow.2.1 14 = .ok (.getfield 26, 3) := dc9_180 (by decide +kernel)
theorem d_MS_leadsBelow_17 : decode y_MS_leadsBelow.2.1 17 = .ok (.iload 4, 2) := dc9_21 (by decide +kernel)
theorem d_MS_leadsBelow_19 : decode y_MS_leadsBelow.2.1 19 = .ok (.iaload, 1) := dc9_46 (by decide +kernel)
theorem d_MS_leadsBelow_20 : decode y_MS_leadsBelow.2.1 20 = .ok (.istore 6, 2) := dc9_54 (by decide +kernel)
theorem d_MS_leadsBelow_22 : decode y_MS_leadsBelow.2.1 22 = .ok (.iload 6, 2) := dc9_21 (by decide +kernel)
theorem d_MS_leadsBelow_24 : decode y_MS_leadsBelow.2.1 24 = .ok (.aload_n 0, 1) := dc9_42 (by decide +kernel)
theorem d_MS_leadsBelow_25 : decode y_MS_leadsBelow.2.1 25 = .ok (.getfield 26, 3) := dc9_180 (by decide +kernel)
theorem d_MS_leadsBelow_28 : decode y_MS_leadsBelow.2.1 28 = .ok (.iload 4, 2) := dc9_21 (by decide +kernel)
theorem d_MS_leadsBelow_30 : decode y_MS_leadsBelow.2.1 30 = .ok (.iconst 1, 1) := dc9_4 (by decide +kernel)
theorem d_MS_leadsBelow_31 : decode y_MS_leadsBelow.2.1 31 = .ok (.iadd, 1) := dc9_96 (by decide +kernel)
theorem d_MS_leadsBelow_32 : decode y_MS_leadsBelow.2.1 32 = .ok (.iaload, 1) := dc9_46 (by decide +kernel)
theorem d_MS_leadsBelow_33 : decode y_MS_leadsBelow.2.1 33 = .ok (.if_icmp .ge 46, 3) := dc9_162 (by decide +kernel)
theorem d_MS_leadsBelow_79 : decode y_MS_leadsBelow.2.1 79 = .ok (.iload 5, 2) := dc9_21 (by decide +kernel)
theorem d_MS_leadsBelow_81 : decode y_MS_leadsBelow.2.1 81 = .ok (.ireturn, 1) := dc9_172 (by decide +kernel)
theorem d_MS_leadsBelow_36 : decode y_MS_leadsBelow.2.1 36 = .ok (.aload_n 0, 1) := dc9_42 (by decide +kernel)
theorem d_MS_leadsBelow_37 : decode y_MS_leadsBelow.2.1 37 = .ok (.getfield 57, 3) := dc9_180 (by decide +kernel)
theorem d_MS_leadsBelow_40 : decode y_MS_leadsBelow.2.1 40 = .ok (.aload_n 0, 1) := dc9_42 (by decide +kernel)
theorem d_MS_leadsBelow_41 : decode y_MS_leadsBelow.2.1 41 = .ok (.getfield 29, 3) := dc9_180 (by decide +kernel)
theorem d_MS_leadsBelow_44 : decode y_MS_leadsBelow.2.1 44 = .ok (.iload 6, 2) := dc9_21 (by decide +kernel)
theorem d_MS_leadsBelow_46 : decode y_MS_leadsBelow.2.1 46 = .ok (.iaload, 1) := dc9_46 (by decide +kernel)
theorem d_MS_leadsBelow_47 : decode y_MS_leadsBelow.2.1 47 = .ok (.iaload, 1) := dc9_46 (by decide +kernel)
theorem d_MS_leadsBelow_48 : decode y_MS_leadsBelow.2.1 48 = .ok (.istore 7, 2) := dc9_54 (by decide +kernel)
theorem d_MS_leadsBelow_50 : decode y_MS_leadsBelow.2.1 50 = .ok (.iload 5, 2) := dc9_21 (by decide +kernel)
theorem d_MS_leadsBelow_52 : decode y_MS_leadsBelow.2.1 52 = .ok (.ifCond .ne 14, 3) := dc9_154 (by decide +kernel)
theorem d_MS_leadsBelow_55 : decode y_MS_leadsBelow.2.1 55 = .ok (.iload 7, 2) := dc9_21 (by decide +kernel)
theorem d_MS_leadsBelow_57 : decode y_MS_leadsBelow.2.1 57 = .ok (.ifCond .lt 13, 3) := dc9_155 (by decide +kernel)
theorem d_MS_leadsBelow_70 : decode y_MS_leadsBelow.2.1 70 = .ok (.iconst 0, 1) := dc9_3 (by decide +kernel)
theorem d_MS_leadsBelow_60 : decode y_MS_leadsBelow.2.1 60 = .ok (.iload 7, 2) := dc9_21 (by decide +kernel)
theorem d_MS_leadsBelow_62 : decode y_MS_leadsBelow.2.1 62 = .ok (.iload_n 3, 1) := dc9_29 (by decide +kernel)
theorem d_MS_leadsBelow_63 : decode y_MS_leadsBelow.2.1 63 = .ok (.if_icmp .ge 7, 3) := dc9_162 (by decide +kernel)
theorem d_MS_leadsBelow_66 : decode y_MS_leadsBelow.2.1 66 = .ok (.iconst 1, 1) := dc9_4 (by decide +kernel)
theorem d_MS_leadsBelow_67 : decode y_MS_leadsBelow.2.1 67 = .ok (.goto 4, 3) := dc9_167 (by decide +kernel)
theorem d_MS_leadsBelow_71 : decode y_MS_leadsBelow.2.1 71 = .ok (.istore 5, 2) := dc9_54 (by decide +kernel)
theorem d_MS_leadsBelow_73 : decode y_MS_leadsBelow.2.1 73 = .ok (.iinc 6 1, 3) := by decide +kernel
theorem d_MS_leadsBelow_76 : decode y_MS_leadsBelow.2.1 76 = .ok (.goto (-54), 3) := dc9_167 (by decide +kernel)
def h_MS_leadsBelow_22 (G : mG) (d : Nat) (a0 : Nat) (l3 : Int) (l4 : Int) (l5 : Int) (l6 : Int) (M : mM) (Q : Int → mM → Prop) : Prop := mWm G y_MS_leadsBelow d 22 [vr a0, vd, vd, vi l3, vi l4, vi l5, vi l6, vd] [] M (fun r9 M9 => ∃ x9, r9 = some (vi x9) ∧ Q x9 M9)
theorem k_MS_leadsBelow {G : mG} {d : Nat} {a0 : Nat} {l1 : Int} {l2 : Int} {l3 : Int} {M : mM} {Q : Int → mM → Prop} (hO : mOk M) (hi_l1 : i32 l1) (hi_l2 : i32 l2) (hi_l3 : i32 l3)
    (h : mK M a0 = 17 ∧ mK M (mR M a0 5) = 30 ∧ ((0 : Int) ≤ l1 ∧ l1 < (mN M (mR M a0 5) : Int)) ∧ mK M (mR M a0 7) = 30 ∧ ((0 : Int) ≤ (mI M (mR M a0 5) (Int.toNat l1)) + l2 ∧ (mI M (mR M a0 5) (Int.toNat l1)) + l2 < (mN M (mR M a0 7) : Int)) ∧ h_MS_leadsBelow_22 G d a0 l3 ((mI M (mR M a0 5) (Int.toNat l1)) + l2) 0 (mI M (mR M a0 7) (Int.toNat ((mI M (mR M a0 5) (Int.toNat l1)) + l2))) M Q) :
    Ci G y_MS_leadsBelow d [vr a0, vi l1, vi l2, vi l3] M Q := by
  refine wm_open (y := y_MS_leadsBelow) rfl (Nat.le_of_ble_eq_true rfl) (L := [vr a0, vi l1, vi l2, vi l3, vd, vd, vd, vd]) rfl ?_
  obtain ⟨h1, h⟩ := h
  obtain ⟨h2, h⟩ := h
  obtain ⟨h3, h⟩ := h
  obtain ⟨h4, h⟩ := h
  obtain ⟨h5, h⟩ := h
  refine wm_aload_n d_MS_leadsBelow_0 rfl rfl ?_
  refine gf_MS_20 rfl d_MS_leadsBelow_1 h1 ?_
  refine wm_iload_n d_MS_leadsBelow_4 rfl rfl ?_
  refine wm_iald d_MS_leadsBelow_5 h2 h3 ?_
  refine wm_iload_n d_MS_leadsBelow_6 rfl rfl ?_
  refine wm_iadd d_MS_leadsBelow_7 ?_
  refine wm_istore d_MS_leadsBelow_8 (by decide) (L' := [vr a0, vi l1, vi l2, vi l3, vi ((mI M (mR M a0 5) (Int.toNat l1)) + l2), vd, vd, vd]) rfl ?_
  refine wm_iconst d_MS_leadsBelow_10 ?_
  refine wm_istore d_MS_leadsBelow_11 (by decide) (L' := [vr a0, vi l1, vi l2, vi l3, vi ((mI M (mR M a0 5) (Int.toNat l1)) + l2), vi 0, vd, vd]) rfl ?_
  refine wm_aload_n d_MS_leadsBelow_13 rfl rfl ?_
  refine gf_MS_26 rfl d_MS_leadsBelow_14 h1 ?_
  refine wm_iload d_MS_leadsBelow_17 rfl ?_
  refine wm_iald d_MS_leadsBelow_19 h4 h5 ?_
  refine wm_istore d_MS_leadsBelow_20 (by decide) (L' := [vr a0, vi l1, vi l2, vi l3, vi ((mI M (mR M a0 5) (Int.toNat l1)) + l2), vi 0, vi (mI M (mR M a0 7) (Int.toNat ((mI M (mR M a0 5) (Int.toNat l1)) + l2))), vd]) rfl ?_
  refine wm_less (L' := [vr a0, vd, vd, vi l3, vi ((mI M (mR M a0 5) (Int.toNat l1)) + l2), vi 0, vi (mI M (mR M a0 7) (Int.toNat ((mI M (mR M a0 5) (Int.toNat l1)) + l2))), vd]) ⟨Or.inr rfl, Or.inl rfl, Or.inl rfl, Or.inr rfl, Or.inr rfl, Or.inr rfl, Or.inr rfl, Or.inl rfl, trivial⟩ ?_
  exact h
theorem k_MS_leadsBelow_22 {G : mG} {d : Nat} {a0 : Nat} {l3 : Int} {l4 : Int} {l5 : Int} {l6 : Int} {M : mM} {Q : Int → mM → Prop} (hO : mOk M) (hi_l3 : i32 l3) (hi_l4 : i32 l4) (hi_l5 : i32 l5) (hi_l6 : i32 l6)
    (h : mK M a0 = 17 ∧ mK M (mR M a0 7) = 30 ∧ ((0 : Int) ≤ l4 + 1 ∧ l4 + 1 < (mN M (mR M a0 7) : Int)) ∧ ((mI M (mR M a0 7) (Int.toNat (l4 + 1)) ≤ l6) → ((l5 = 0 ∨ l5 = 1) ∧ Q l5 M)) ∧ (¬ (mI M (mR M a0 7) (Int.toNat (l4 + 1)) ≤ l6) → (mK M (mR M a0 8) = 30 ∧ ((0 : Int) ≤ l6 ∧ l6 < (mN M (mR M a0 8) : Int)) ∧ mK M (mR M a0 16) = 30 ∧ ((0 : Int) ≤ mI M (mR M a0 8) (Int.toNat l6) ∧ mI M (mR M a0 8) (Int.toNat l6) < (mN M (mR M a0 16) : Int)) ∧ ∀ v24 : Int, v24 = (if ((l5 = 0) ∧ ((mI M (mR M a0 16) (Int.toNat (mI M (mR M a0 8) (Int.toNat l6))) < 0) ∨ (l3 ≤ mI M (mR M a0 16) (Int.toNat (mI M (mR M a0 8) (Int.toNat l6)))))) then 0 else 1) → h_MS_leadsBelow_22 G d a0 l3 l4 v24 (l6 + 1) M Q))) :
    h_MS_leadsBelow_22 G d a0 l3 l4 l5 l6 M Q := by
  unfold h_MS_leadsBelow_22
  obtain ⟨h6, h⟩ := h
  obtain ⟨h7, h⟩ := h
  obtain ⟨h8, h⟩ := h
  refine wm_iload d_MS_leadsBelow_22 rfl ?_
  refine wm_aload_n d_MS_leadsBelow_24 rfl rfl ?_
  refine gf_MS_26 rfl d_MS_leadsBelow_25 h6 ?_
  refine wm_iload d_MS_leadsBelow_28 rfl ?_
  refine wm_iconst d_MS_leadsBelow_30 ?_
  refine wm_iadd d_MS_leadsBelow_31 ?_
  refine wm_iald d_MS_leadsBelow_32 h7 h8 ?_
  refine wm_icmp_ge (tgt := 79) d_MS_leadsBelow_33 rfl hi_l6 (hO _ _).1 (fun c15 => ?_) (fun c15 => ?_)
  · replace h := h.1 c15
    obtain ⟨h16, h⟩ := h
    refine wm_iload d_MS_leadsBelow_79 rfl ?_
    refine wm_ireturn d_MS_leadsBelow_81 rfl (m_nb h16) ?_
    exact ⟨_, rfl, h⟩
  · replace h := h.2 c15
    obtain ⟨h17, h⟩ := h
    obtain ⟨h18, h⟩ := h
    obtain ⟨h19, h⟩ := h
    obtain ⟨h20, h⟩ := h
    refine wm_aload_n d_MS_leadsBelow_36 rfl rfl ?_
    refine gf_MS_57 rfl d_MS_leadsBelow_37 h6 ?_
    refine wm_aload_n d_MS_leadsBelow_40 rfl rfl ?_
    refine gf_MS_29 rfl d_MS_leadsBelow_41 h6 ?_
    refine wm_iload d_MS_leadsBelow_44 rfl ?_
    refine wm_iald d_MS_leadsBelow_46 h17 h18 ?_
    refine wm_iald d_MS_leadsBelow_47 h19 h20 ?_
    refine wm_istore d_MS_leadsBelow_48 (by decide) (L' := [vr a0, vd, vd, vi l3, vi l4, vi l5, vi l6, vi (mI M (mR M a0 16) (Int.toNat (mI M (mR M a0 8) (Int.toNat l6))))]) rfl ?_
    refine wm_iload d_MS_leadsBelow_50 rfl ?_
    have hJ : ∀ v24 : Int, v24 = (if ((l5 = 0) ∧ ((mI M (mR M a0 16) (Int.toNat (mI M (mR M a0 8) (Int.toNat l6))) < 0) ∨ (l3 ≤ mI M (mR M a0 16) (Int.toNat (mI M (mR M a0 8) (Int.toNat l6)))))) then 0 else 1) → mWm G y_MS_leadsBelow d 71 [vr a0, vd, vd, vi l3, vi l4, vd, vi l6, vd] [vi v24] M (fun r9 M9 => ∃ x9, r9 = some (vi x9) ∧ Q x9 M9) := by
      intro v24 e26
      have h := h v24 e26
      have h27 : i32 v24 := by rw [e26]; (repeat' split) <;> first | exact ⟨by decide, by decide⟩ | exact ⟨by decide, by decide⟩
      have h28 : (v24 = 0 ∨ v24 = 1) := by rw [e26]; (repeat' split) <;> decide
      refine wm_istore d_MS_leadsBelow_71 (by decide) (L' := [vr a0, vd, vd, vi l3, vi l4, vi v24, vi l6, vd]) rfl ?_
      refine wm_iinc d_MS_leadsBelow_73 (by decide) rfl (L' := [vr a0, vd, vd, vi l3, vi l4, vi v24, vi (l6 + 1), vd]) rfl ?_
      refine wm_goto (tgt := 22) d_MS_leadsBelow_76 rfl ?_
      exact h
    clear h
    refine wm_if_ne (tgt := 66) d_MS_leadsBelow_52 rfl hi_l5 (fun c21 => ?_) (fun c21 => ?_)
    · refine wm_iconst d_MS_leadsBelow_66 ?_
      refine wm_goto (tgt := 71) d_MS_leadsBelow_67 rfl ?_
      refine wm_less (L' := [vr a0, vd, vd, vi l3, vi l4, vd, vi l6, vd]) ⟨Or.inr rfl, Or.inl rfl, Or.inl rfl, Or.inr rfl, Or.inr rfl, Or.inl rfl, Or.inr rfl, Or.inl rfl, trivial⟩ ?_
      exact hJ 1 (if_neg (fun z32 => c21 z32.1)).symm
    · replace c21 := Classical.not_not.mp c21
      refine wm_iload d_MS_leadsBelow_55 rfl ?_
      refine wm_if_lt (tgt := 70) d_MS_leadsBelow_57 rfl (hO _ _).1 (fun c22 => ?_) (fun c22 => ?_)
      · refine wm_iconst d_MS_leadsBelow_70 ?_
        refine wm_less (L' := [vr a0, vd, vd, vi l3, vi l4, vd, vi l6, vd]) ⟨Or.inr rfl, Or.inl rfl, Or.inl rfl, Or.inr rfl, Or.inr rfl, Or.inl rfl, Or.inr rfl, Or.inl rfl, trivial⟩ ?_
        exact hJ 0 (if_pos ⟨c21, (Or.inl c22)⟩).symm
      · refine wm_iload d_MS_leadsBelow_60 rfl ?_
        refine wm_iload_n d_MS_leadsBelow_62 rfl rfl ?_
        refine wm_icmp_ge (tgt := 70) d_MS_leadsBelow_63 rfl (hO _ _).1 hi_l3 (fun c23 => ?_) (fun c23 => ?_)
        · refine wm_iconst d_MS_leadsBelow_70 ?_
          refine wm_less (L' := [vr a0, vd, vd, vi l3, vi l4, vd, vi l6, vd]) ⟨Or.inr rfl, Or.inl rfl, Or.inl rfl, Or.inr rfl, Or.inr rfl, Or.inl rfl, Or.inr rfl, Or.inl rfl, trivial⟩ ?_
          exact hJ 0 (if_pos ⟨c21, (Or.inr c23)⟩).symm
        · refine wm_iconst d_MS_leadsBelow_66 ?_
          refine wm_goto (tgt := 71) d_MS_leadsBelow_67 rfl ?_
          refine wm_less (L' := [vr a0, vd, vd, vi l3, vi l4, vd, vi l6, vd]) ⟨Or.inr rfl, Or.inl rfl, Or.inl rfl, Or.inr rfl, Or.inr rfl, Or.inl rfl, Or.inr rfl, Or.inl rfl, trivial⟩ ?_
          exact hJ 1 (if_neg (fun z29 => (fun z30 => Or.elim z30 c22 c23) z29.2)).symm
theorem d_MS_getsRank_0 : decode y_MS_getsRank.2.1 0 = .ok (.iconst 0, 1) := dc9_3 (by decide +kernel)
theorem d_MS_getsRank_1 : decode y_MS_getsRank.2.1 1 = .ok (.istore_n 3, 1) := dc9_62 (by decide +kernel)
theorem d_MS_getsRank_2 : decode y_MS_getsRank.2.1 2 = .ok (.iconst 1, 1) := dc9_4 (by decide +kernel)
theorem d_MS_getsRank_3 : decode y_MS_getsRank.2.1 3 = .ok (.istore 4, 2) := dc9_54 (by decide +kernel)
theorem d_MS_getsRank_5 : decode y_MS_getsRank.2.1 5 = .ok (.iconst 0, 1) := dc9_3 (by decide +kernel)
theorem d_MS_getsRank_6 : decode y_MS_getsRank.2.1 6 = .ok (.istore 5, 2) := dc9_54 (by decide +kernel)
theorem d_MS_getsRank_8 : decode y_MS_getsRank.2.1 8 = .ok (.iload 5, 2) := dc9_21 (by decide +kernel)
theorem d_MS_getsRank_10 : decode y_MS_getsRank.2.1 10 = .ok (.aload_n 0, 1) := dc9_42 (by decide +kernel)
theorem d_MS_getsRank_11 : decode y_MS_getsRank.2.1 11 = .ok (.iload_n 1, 1) := dc9_27 (by decide +kernel)
theorem d_MS_getsRank_12 : decode y_MS_getsRank.2.1 12 = .ok (.invokevirtual 116, 3) := dc9_182 (by decide +kernel)
theorem d_MS_getsRank_15 : decode y_MS_getsRank.2.1 15 = .ok (.if_icmp .ge 61, 3) := dc9_162 (by decide +kernel)
theorem d_MS_getsRank_76 : decode y_MS_getsRank.2.1 76 = .ok (.aload_n 0, 1) := dc9_42 (by decide +kernel)
theorem d_MS_getsRank_77 : decode y_MS_getsRank.2.1 77 = .ok (.getfield 16, 3) := dc9_180 (by decide +kernel)
theorem d_MS_getsRank_80 : decode y_MS_getsRank.2.1 80 = .ok (.iload_n 1, 1) := dc9_27 (by decide +kernel)
theorem d_MS_getsRank_81 : decode y_MS_getsRank.2.1 81 = .ok (.iaload, 1) := dc9_46 (by decide +kernel)
theorem d_MS_getsRank_82 : decode y_MS_getsRank.2.1 82 = .ok (.iconst 1, 1) := dc9_4 (by decide +kernel)
theorem d_MS_getsRank_18 : decode y_MS_getsRank.2.1 18 = .ok (.aload_n 0, 1) := dc9_42 (by decide +kernel)
theorem d_MS_getsRank_19 : decode y_MS_getsRank.2.1 19 = .ok (.iload_n 1, 1) := dc9_27 (by decide +kernel)
theorem d_MS_getsRank_20 : decode y_MS_getsRank.2.1 20 = .ok (.iload 5, 2) := dc9_21 (by decide +kernel)
theorem d_MS_getsRank_83 : decode y_MS_getsRank.2.1 83 = .ok (.if_icmp .ne 7, 3) := dc9_160 (by decide +kernel)
theorem d_MS_getsRank_86 : decode y_MS_getsRank.2.1 86 = .ok (.iload_n 3, 1) := dc9_29 (by decide +kernel)
theorem d_MS_getsRank_87 : decode y_MS_getsRank.2.1 87 = .ok (.goto 5, 3) := dc9_167 (by decide +kernel)
theorem d_MS_getsRank_92 : decode y_MS_getsRank.2.1 92 = .ok (.ireturn, 1) := dc9_172 (by decide +kernel)
theorem d_MS_getsRank_90 : decode y_MS_getsRank.2.1 90 = .ok (.iload 4, 2) := dc9_21 (by decide +kernel)
theorem d_MS_getsRank_22 : decode y_MS_getsRank.2.1 22 = .ok (.invokevirtual 215, 3) := dc9_182 (by decide +kernel)
theorem d_MS_getsRank_25 : decode y_MS_getsRank.2.1 25 = .ok (.ifCond .eq 45, 3) := dc9_153 (by decide +kernel)
theorem d_MS_getsRank_28 : decode y_MS_getsRank.2.1 28 = .ok (.aload_n 0, 1) := dc9_42 (by decide +kernel)
theorem d_MS_getsRank_29 : decode y_MS_getsRank.2.1 29 = .ok (.iload_n 1, 1) := dc9_27 (by decide +kernel)
theorem d_MS_getsRank_30 : decode y_MS_getsRank.2.1 30 = .ok (.iload 5, 2) := dc9_21 (by decide +kernel)
theorem d_MS_getsRank_32 : decode y_MS_getsRank.2.1 32 = .ok (.iload_n 2, 1) := dc9_28 (by decide +kernel)
theorem d_MS_getsRank_70 : decode y_MS_getsRank.2.1 70 = .ok (.iinc 5 1, 3) := by decide +kernel
theorem d_MS_getsRank_73 : decode y_MS_getsRank.2.1 73 = .ok (.goto (-65), 3) := dc9_167 (by decide +kernel)
theorem d_MS_getsRank_33 : decode y_MS_getsRank.2.1 33 = .ok (.invokevirtual 218, 3) := dc9_182 (by decide +kernel)
theorem d_MS_getsRank_36 : decode y_MS_getsRank.2.1 36 = .ok (.istore 6, 2) := dc9_54 (by decide +kernel)
theorem d_MS_getsRank_38 : decode y_MS_getsRank.2.1 38 = .ok (.iload_n 3, 1) := dc9_29 (by decide +kernel)
theorem d_MS_getsRank_39 : decode y_MS_getsRank.2.1 39 = .ok (.ifCond .ne 8, 3) := dc9_154 (by decide +kernel)
theorem d_MS_getsRank_42 : decode y_MS_getsRank.2.1 42 = .ok (.iload 6, 2) := dc9_21 (by decide +kernel)
theorem d_MS_getsRank_44 : decode y_MS_getsRank.2.1 44 = .ok (.ifCond .eq 7, 3) := dc9_153 (by decide +kernel)
theorem d_MS_getsRank_51 : decode y_MS_getsRank.2.1 51 = .ok (.iconst 0, 1) := dc9_3 (by decide +kernel)
theorem d_MS_getsRank_47 : decode y_MS_getsRank.2.1 47 = .ok (.iconst 1, 1) := dc9_4 (by decide +kernel)
theorem d_MS_getsRank_48 : decode y_MS_getsRank.2.1 48 = .ok (.goto 4, 3) := dc9_167 (by decide +kernel)
theorem d_MS_getsRank_52 : decode y_MS_getsRank.2.1 52 = .ok (.istore_n 3, 1) := dc9_62 (by decide +kernel)
theorem d_MS_getsRank_53 : decode y_MS_getsRank.2.1 53 = .ok (.iload 4, 2) := dc9_21 (by decide +kernel)
theorem d_MS_getsRank_55 : decode y_MS_getsRank.2.1 55 = .ok (.ifCond .eq 12, 3) := dc9_153 (by decide +kernel)
theorem d_MS_getsRank_67 : decode y_MS_getsRank.2.1 67 = .ok (.iconst 0, 1) := dc9_3 (by decide +kernel)
theorem d_MS_getsRank_58 : decode y_MS_getsRank.2.1 58 = .ok (.iload 6, 2) := dc9_21 (by decide +kernel)
theorem d_MS_getsRank_60 : decode y_MS_getsRank.2.1 60 = .ok (.ifCond .eq 7, 3) := dc9_153 (by decide +kernel)
theorem d_MS_getsRank_63 : decode y_MS_getsRank.2.1 63 = .ok (.iconst 1, 1) := dc9_4 (by decide +kernel)
theorem d_MS_getsRank_64 : decode y_MS_getsRank.2.1 64 = .ok (.goto 4, 3) := dc9_167 (by decide +kernel)
theorem d_MS_getsRank_68 : decode y_MS_getsRank.2.1 68 = .ok (.istore 4, 2) := dc9_54 (by decide +kernel)
def h_MS_getsRank_8 (G : mG) (d : Nat) (a0 : Nat) (l1 : Int) (l2 : Int) (l3 : Int) (l4 : Int) (l5 : Int) (M : mM) (Q : Int → mM → Prop) : Prop := mWm G y_MS_getsRank (d + 1) 8 [vr a0, vi l1, vi l2, vi l3, vi l4, vi l5, vd] [] M (fun r9 M9 => ∃ x9, r9 = some (vi x9) ∧ Q x9 M9)
theorem k_MS_getsRank {G : mG} {d : Nat} {a0 : Nat} {l1 : Int} {l2 : Int} {M : mM} {Q : Int → mM → Prop} (hO : mOk M) (hi_l1 : i32 l1) (hi_l2 : i32 l2)
    (h : h_MS_getsRank_8 G d a0 l1 l2 0 1 0 M Q) :
    Ci G y_MS_getsRank (d + 1) [vr a0, vi l1, vi l2] M Q := by
  refine wm_open (y := y_MS_getsRank) rfl (Nat.le_of_ble_eq_true rfl) (L := [vr a0, vi l1, vi l2, vd, vd, vd, vd]) rfl ?_
  refine wm_iconst d_MS_getsRank_0 ?_
  refine wm_istore_n d_MS_getsRank_1 rfl (by decide) (L' := [vr a0, vi l1, vi l2, vi 0, vd, vd, vd]) rfl ?_
  refine wm_iconst d_MS_getsRank_2 ?_
  refine wm_istore d_MS_getsRank_3 (by decide) (L' := [vr a0, vi l1, vi l2, vi 0, vi 1, vd, vd]) rfl ?_
  refine wm_iconst d_MS_getsRank_5 ?_
  refine wm_istore d_MS_getsRank_6 (by decide) (L' := [vr a0, vi l1, vi l2, vi 0, vi 1, vi 0, vd]) rfl ?_
  exact h
theorem k_MS_getsRank_8 {G : mG} {d : Nat} {a0 : Nat} {l1 : Int} {l2 : Int} {l3 : Int} {l4 : Int} {l5 : Int} {M : mM} {Q : Int → mM → Prop} (hO : mOk M) (hi_l1 : i32 l1) (hi_l2 : i32 l2) (hi_l3 : i32 l3) (hi_l4 : i32 l4) (hi_l5 : i32 l5)
    (h : mK M a0 = 17 ∧ Ci G y_MS_many d [vr a0, vi l1] M (fun x3 M2 => i32 x3 ∧ mOk M2 ∧ (((x3 ≤ l5) → (mK M2 a0 = 17 ∧ mK M2 (mR M2 a0 4) = 30 ∧ ((0 : Int) ≤ l1 ∧ l1 < (mN M2 (mR M2 a0 4) : Int)) ∧ ∀ v17 : Int, v17 = (if (mI M2 (mR M2 a0 4) (Int.toNat l1) = 1) then l3 else l4) → (v17 = 0 ∨ v17 = 1) ∧ Q v17 M2)) ∧ (¬ (x3 ≤ l5) → (mK M2 a0 = 17 ∧ Ci G y_MS_attains d [vr a0, vi l1, vi l5] M2 (fun x25 M24 => i32 x25 ∧ mOk M24 ∧ (((x25 = 0) → (h_MS_getsRank_8 G d a0 l1 l2 l3 l4 (l5 + 1) M24 Q)) ∧ (¬ (x25 = 0) → (mK M24 a0 = 17 ∧ Ci G y_MS_leadsBelow d [vr a0, vi l1, vi l5, vi l2] M24 (fun x32 M31 => i32 x32 ∧ mOk M31 ∧ (∀ v36 : Int, v36 = (if ((l3 = 0) ∧ (x32 = 0)) then 0 else 1) → ∀ v43 : Int, v43 = (if ((l4 = 0) ∨ (x32 = 0)) then 0 else 1) → h_MS_getsRank_8 G d a0 l1 l2 v36 v43 (l5 + 1) M31 Q))))))))))) :
    h_MS_getsRank_8 G d a0 l1 l2 l3 l4 l5 M Q := by
  unfold h_MS_getsRank_8
  obtain ⟨h1, h⟩ := h
  refine wm_iload d_MS_getsRank_8 rfl ?_
  refine wm_aload_n d_MS_getsRank_10 rfl rfl ?_
  refine wm_iload_n d_MS_getsRank_11 rfl rfl ?_
  refine cf_MS_116 rfl d_MS_getsRank_12 h1 (Nat.le_of_ble_eq_true rfl) (Ci.mono h (fun x3 M2 h => ?_))
  obtain ⟨h4, hOM2, h⟩ := h
  refine wm_icmp_ge (tgt := 76) d_MS_getsRank_15 rfl hi_l5 h4 (fun c12 => ?_) (fun c12 => ?_)
  · replace h := h.1 c12
    obtain ⟨h13, h⟩ := h
    obtain ⟨h14, h⟩ := h
    obtain ⟨h15, h⟩ := h
    refine wm_aload_n d_MS_getsRank_76 rfl rfl ?_
    refine gf_MS_16 rfl d_MS_getsRank_77 h13 ?_
    refine wm_iload_n d_MS_getsRank_80 rfl rfl ?_
    refine wm_iald d_MS_getsRank_81 h14 h15 ?_
    refine wm_iconst d_MS_getsRank_82 ?_
    have hJ : ∀ v17 : Int, v17 = (if (mI M2 (mR M2 a0 4) (Int.toNat l1) = 1) then l3 else l4) → mWm G y_MS_getsRank (d + 1) 92 [vd, vd, vd, vd, vd, vd, vd] [vi v17] M2 (fun r9 M9 => ∃ x9, r9 = some (vi x9) ∧ Q x9 M9) := by
      intro v17 e19
      have h := h v17 e19
      have h20 : i32 v17 := by rw [e19]; (repeat' split) <;> first | exact hi_l3 | exact hi_l4
      obtain ⟨h21, h⟩ := h
      refine wm_ireturn d_MS_getsRank_92 rfl (m_nb h21) ?_
      exact ⟨_, rfl, h⟩
    clear h
    refine wm_icmp_ne (tgt := 90) d_MS_getsRank_83 rfl (hOM2 _ _).1 ⟨by decide, by decide⟩ (fun c16 => ?_) (fun c16 => ?_)
    · refine wm_iload d_MS_getsRank_90 rfl ?_
      refine wm_less (L' := [vd, vd, vd, vd, vd, vd, vd]) ⟨Or.inl rfl, Or.inl rfl, Or.inl rfl, Or.inl rfl, Or.inl rfl, Or.inl rfl, Or.inl rfl, trivial⟩ ?_
      exact hJ l4 (if_neg c16).symm
    · replace c16 := Classical.not_not.mp c16
      refine wm_iload_n d_MS_getsRank_86 rfl rfl ?_
      refine wm_goto (tgt := 92) d_MS_getsRank_87 rfl ?_
      refine wm_less (L' := [vd, vd, vd, vd, vd, vd, vd]) ⟨Or.inl rfl, Or.inl rfl, Or.inl rfl, Or.inl rfl, Or.inl rfl, Or.inl rfl, Or.inl rfl, trivial⟩ ?_
      exact hJ l3 (if_pos c16).symm
  · replace h := h.2 c12
    obtain ⟨h23, h⟩ := h
    refine wm_aload_n d_MS_getsRank_18 rfl rfl ?_
    refine wm_iload_n d_MS_getsRank_19 rfl rfl ?_
    refine wm_iload d_MS_getsRank_20 rfl ?_
    refine cf_MS_215 rfl d_MS_getsRank_22 h23 (Nat.le_of_ble_eq_true rfl) (Ci.mono h (fun x25 M24 h => ?_))
    obtain ⟨h26, hOM24, h⟩ := h
    refine wm_if_eq (tgt := 70) d_MS_getsRank_25 rfl h26 (fun c29 => ?_) (fun c29 => ?_)
    · replace h := h.1 c29
      refine wm_iinc d_MS_getsRank_70 (by decide) rfl (L' := [vr a0, vi l1, vi l2, vi l3, vi l4, vi (l5 + 1), vd]) rfl ?_
      refine wm_goto (tgt := 8) d_MS_getsRank_73 rfl ?_
      exact h
    · replace h := h.2 c29
      obtain ⟨h30, h⟩ := h
      refine wm_aload_n d_MS_getsRank_28 rfl rfl ?_
      refine wm_iload_n d_MS_getsRank_29 rfl rfl ?_
      refine wm_iload d_MS_getsRank_30 rfl ?_
      refine wm_iload_n d_MS_getsRank_32 rfl rfl ?_
      refine cf_MS_218 rfl d_MS_getsRank_33 h30 (Nat.le_of_ble_eq_true rfl) (Ci.mono h (fun x32 M31 h => ?_))
      obtain ⟨h33, hOM31, h⟩ := h
      refine wm_istore d_MS_getsRank_36 (by decide) (L' := [vr a0, vi l1, vi l2, vi l3, vi l4, vi l5, vi x32]) rfl ?_
      refine wm_iload_n d_MS_getsRank_38 rfl rfl ?_
      have hJ : ∀ v36 : Int, v36 = (if ((l3 = 0) ∧ (x32 = 0)) then 0 else 1) → mWm G y_MS_getsRank (d + 1) 52 [vr a0, vi l1, vi l2, vd, vi l4, vi l5, vi x32] [vi v36] M31 (fun r9 M9 => ∃ x9, r9 = some (vi x9) ∧ Q x9 M9) := by
        intro v36 e38
        have h := h v36 e38
        have h39 : i32 v36 := by rw [e38]; (repeat' split) <;> first | exact ⟨by decide, by decide⟩ | exact ⟨by decide, by decide⟩
        have h40 : (v36 = 0 ∨ v36 = 1) := by rw [e38]; (repeat' split) <;> decide
        refine wm_istore_n d_MS_getsRank_52 rfl (by decide) (L' := [vr a0, vi l1, vi l2, vi v36, vi l4, vi l5, vi x32]) rfl ?_
        refine wm_iload d_MS_getsRank_53 rfl ?_
        have hJ : ∀ v43 : Int, v43 = (if ((l4 = 0) ∨ (x32 = 0)) then 0 else 1) → mWm G y_MS_getsRank (d + 1) 68 [vr a0, vi l1, vi l2, vi v36, vd, vi l5, vd] [vi v43] M31 (fun r9 M9 => ∃ x9, r9 = some (vi x9) ∧ Q x9 M9) := by
          intro v43 e45
          have h := h v43 e45
          have h46 : i32 v43 := by rw [e45]; (repeat' split) <;> first | exact ⟨by decide, by decide⟩ | exact ⟨by decide, by decide⟩
          have h47 : (v43 = 0 ∨ v43 = 1) := by rw [e45]; (repeat' split) <;> decide
          refine wm_istore d_MS_getsRank_68 (by decide) (L' := [vr a0, vi l1, vi l2, vi v36, vi v43, vi l5, vd]) rfl ?_
          refine wm_iinc d_MS_getsRank_70 (by decide) rfl (L' := [vr a0, vi l1, vi l2, vi v36, vi v43, vi (l5 + 1), vd]) rfl ?_
          refine wm_goto (tgt := 8) d_MS_getsRank_73 rfl ?_
          exact h
        clear h
        refine wm_if_eq (tgt := 67) d_MS_getsRank_55 rfl hi_l4 (fun c41 => ?_) (fun c41 => ?_)
        · refine wm_iconst d_MS_getsRank_67 ?_
          refine wm_less (L' := [vr a0, vi l1, vi l2, vi v36, vd, vi l5, vd]) ⟨Or.inr rfl, Or.inr rfl, Or.inr rfl, Or.inr rfl, Or.inl rfl, Or.inr rfl, Or.inl rfl, trivial⟩ ?_
          exact hJ 0 (if_pos (Or.inl c41)).symm
        · refine wm_iload d_MS_getsRank_58 rfl ?_
          refine wm_if_eq (tgt := 67) d_MS_getsRank_60 rfl h33 (fun c42 => ?_) (fun c42 => ?_)
          · refine wm_iconst d_MS_getsRank_67 ?_
            refine wm_less (L' := [vr a0, vi l1, vi l2, vi v36, vd, vi l5, vd]) ⟨Or.inr rfl, Or.inr rfl, Or.inr rfl, Or.inr rfl, Or.inl rfl, Or.inr rfl, Or.inl rfl, trivial⟩ ?_
            exact hJ 0 (if_pos (Or.inr c42)).symm
          · refine wm_iconst d_MS_getsRank_63 ?_
            refine wm_goto (tgt := 68) d_MS_getsRank_64 rfl ?_
            refine wm_less (L' := [vr a0, vi l1, vi l2, vi v36, vd, vi l5, vd]) ⟨Or.inr rfl, Or.inr rfl, Or.inr rfl, Or.inr rfl, Or.inl rfl, Or.inr rfl, Or.inl rfl, trivial⟩ ?_
            exact hJ 1 (if_neg (fun z48 => Or.elim z48 c41 c42)).symm
      clear h
      refine wm_if_ne (tgt := 47) d_MS_getsRank_39 rfl hi_l3 (fun c34 => ?_) (fun c34 => ?_)
      · refine wm_iconst d_MS_getsRank_47 ?_
        refine wm_goto (tgt := 52) d_MS_getsRank_48 rfl ?_
        refine wm_less (L' := [vr a0, vi l1, vi l2, vd, vi l4, vi l5, vi x32]) ⟨Or.inr rfl, Or.inr rfl, Or.inr rfl, Or.inl rfl, Or.inr rfl, Or.inr rfl, Or.inr rfl, trivial⟩ ?_
        exact hJ 1 (if_neg (fun z52 => c34 z52.1)).symm
      · replace c34 := Classical.not_not.mp c34
        refine wm_iload d_MS_getsRank_42 rfl ?_
        refine wm_if_eq (tgt := 51) d_MS_getsRank_44 rfl h33 (fun c35 => ?_) (fun c35 => ?_)
        · refine wm_iconst d_MS_getsRank_51 ?_
          refine wm_less (L' := [vr a0, vi l1, vi l2, vd, vi l4, vi l5, vi x32]) ⟨Or.inr rfl, Or.inr rfl, Or.inr rfl, Or.inl rfl, Or.inr rfl, Or.inr rfl, Or.inr rfl, trivial⟩ ?_
          exact hJ 0 (if_pos ⟨c34, c35⟩).symm
        · refine wm_iconst d_MS_getsRank_47 ?_
          refine wm_goto (tgt := 52) d_MS_getsRank_48 rfl ?_
          refine wm_less (L' := [vr a0, vi l1, vi l2, vd, vi l4, vi l5, vi x32]) ⟨Or.inr rfl, Or.inr rfl, Or.inr rfl, Or.inl rfl, Or.inr rfl, Or.inr rfl, Or.inr rfl, trivial⟩ ?_
          exact hJ 1 (if_neg (fun z50 => c35 z50.2)).symm
theorem d_MS_isUnknown_0 : decode y_MS_isUnknown.2.1 0 = .ok (.aload_n 0, 1) := dc9_42 (by decide +kernel)
theorem d_MS_isUnknown_1 : decode y_MS_isUnknown.2.1 1 = .ok (.getfield 16, 3) := dc9_180 (by decide +kernel)
theorem d_MS_isUnknown_4 : decode y_MS_isUnknown.2.1 4 = .ok (.iload_n 1, 1) := dc9_27 (by decide +kernel)
theorem d_MS_isUnknown_5 : decode y_MS_isUnknown.2.1 5 = .ok (.iaload, 1) := dc9_46 (by decide +kernel)
theorem d_MS_isUnknown_6 : decode y_MS_isUnknown.2.1 6 = .ok (.iconst 3, 1) := dc9_6 (by decide +kernel)
theorem d_MS_isUnknown_7 : decode y_MS_isUnknown.2.1 7 = .ok (.if_icmp .eq 21, 3) := dc9_159 (by decide +kernel)
theorem d_MS_isUnknown_28 : decode y_MS_isUnknown.2.1 28 = .ok (.iconst 0, 1) := dc9_3 (by decide +kernel)
theorem d_MS_isUnknown_10 : decode y_MS_isUnknown.2.1 10 = .ok (.aload_n 0, 1) := dc9_42 (by decide +kernel)
theorem d_MS_isUnknown_11 : decode y_MS_isUnknown.2.1 11 = .ok (.getfield 40, 3) := dc9_180 (by decide +kernel)
theorem d_MS_isUnknown_14 : decode y_MS_isUnknown.2.1 14 = .ok (.iconst 3, 1) := dc9_6 (by decide +kernel)
theorem d_MS_isUnknown_15 : decode y_MS_isUnknown.2.1 15 = .ok (.iload_n 1, 1) := dc9_27 (by decide +kernel)
theorem d_MS_isUnknown_16 : decode y_MS_isUnknown.2.1 16 = .ok (.imul, 1) := dc9_104 (by decide +kernel)
theorem d_MS_isUnknown_17 : decode y_MS_isUnknown.2.1 17 = .ok (.aaload, 1) := dc9_50 (by decide +kernel)
theorem d_MS_isUnknown_29 : decode y_MS_isUnknown.2.1 29 = .ok (.ireturn, 1) := dc9_172 (by decide +kernel)
theorem d_MS_isUnknown_18 : decode y_MS_isUnknown.2.1 18 = .ok (.invokevirtual 170, 3) := dc9_182 (by decide +kernel)
theorem d_MS_isUnknown_21 : decode y_MS_isUnknown.2.1 21 = .ok (.ifCond .ne 7, 3) := dc9_154 (by decide +kernel)
theorem d_MS_isUnknown_24 : decode y_MS_isUnknown.2.1 24 = .ok (.iconst 1, 1) := dc9_4 (by decide +kernel)
theorem d_MS_isUnknown_25 : decode y_MS_isUnknown.2.1 25 = .ok (.goto 4, 3) := dc9_167 (by decide +kernel)
theorem k_MS_isUnknown {G : mG} {d : Nat} {a0 : Nat} {l1 : Int} {M : mM} {Q : Int → mM → Prop} (hO : mOk M) (hi_l1 : i32 l1)
    (h : mK M a0 = 17 ∧ mK M (mR M a0 4) = 30 ∧ ((0 : Int) ≤ l1 ∧ l1 < (mN M (mR M a0 4) : Int)) ∧ ((mI M (mR M a0 4) (Int.toNat l1) = 3) → (Q 0 M)) ∧ (¬ (mI M (mR M a0 4) (Int.toNat l1) = 3) → (mK M (mR M a0 11) = 36 ∧ ((0 : Int) ≤ 3 * l1 ∧ 3 * l1 < (mN M (mR M a0 11) : Int)) ∧ mK M (mR M (mR M a0 11) (Int.toNat (3 * l1))) = 19 ∧ Ci G y_MF_isZero d [vr (mR M (mR M a0 11) (Int.toNat (3 * l1)))] M (fun x13 M12 => i32 x13 ∧ mOk M12 ∧ (∀ v16 : Int, v16 = (if (x13 = 0) then 1 else 0) → Q v16 M12))))) :
    Ci G y_MS_isUnknown (d + 1) [vr a0, vi l1] M Q := by
  refine wm_open (y := y_MS_isUnknown) rfl (Nat.le_of_ble_eq_true rfl) (L := [vr a0, vi l1]) rfl ?_
  obtain ⟨h1, h⟩ := h
  obtain ⟨h2, h⟩ := h
  obtain ⟨h3, h⟩ := h
  refine wm_aload_n d_MS_isUnknown_0 rfl rfl ?_
  refine gf_MS_16 rfl d_MS_isUnknown_1 h1 ?_
  refine wm_iload_n d_MS_isUnknown_4 rfl rfl ?_
  refine wm_iald d_MS_isUnknown_5 h2 h3 ?_
  refine wm_iconst d_MS_isUnknown_6 ?_
  refine wm_icmp_eq (tgt := 28) d_MS_isUnknown_7 rfl (hO _ _).1 ⟨by decide, by decide⟩ (fun c8 => ?_) (fun c8 => ?_)
  · replace h := h.1 c8
    refine wm_iconst d_MS_isUnknown_28 ?_
    refine wm_ireturn d_MS_isUnknown_29 rfl (m_nb (by decide)) ?_
    exact ⟨_, rfl, h⟩
  · replace h := h.2 c8
    obtain ⟨h9, h⟩ := h
    obtain ⟨h10, h⟩ := h
    obtain ⟨h11, h⟩ := h
    refine wm_aload_n d_MS_isUnknown_10 rfl rfl ?_
    refine gf_MS_40 rfl d_MS_isUnknown_11 h1 ?_
    refine wm_iconst d_MS_isUnknown_14 ?_
    refine wm_iload_n d_MS_isUnknown_15 rfl rfl ?_
    refine wm_imul d_MS_isUnknown_16 ?_
    refine wm_aald6 d_MS_isUnknown_17 h9 h10 ?_
    refine cf_MS_170 rfl d_MS_isUnknown_18 h11 (Nat.le_of_ble_eq_true rfl) (Ci.mono h (fun x13 M12 h => ?_))
    obtain ⟨h14, hOM12, h⟩ := h
    have hJ : ∀ v16 : Int, v16 = (if (x13 = 0) then 1 else 0) → mWm G y_MS_isUnknown (d + 1) 29 [vd, vd] [vi v16] M12 (fun r9 M9 => ∃ x9, r9 = some (vi x9) ∧ Q x9 M9) := by
      intro v16 e18
      have h := h v16 e18
      have h19 : i32 v16 := by rw [e18]; (repeat' split) <;> first | exact ⟨by decide, by decide⟩ | exact ⟨by decide, by decide⟩
      have h20 : (v16 = 0 ∨ v16 = 1) := by rw [e18]; (repeat' split) <;> decide
      refine wm_ireturn d_MS_isUnknown_29 rfl (m_nb h20) ?_
      exact ⟨_, rfl, h⟩
    clear h
    refine wm_if_ne (tgt := 28) d_MS_isUnknown_21 rfl h14 (fun c15 => ?_) (fun c15 => ?_)
    · refine wm_iconst d_MS_isUnknown_28 ?_
      refine wm_less (L' := [vd, vd]) ⟨Or.inl rfl, Or.inl rfl, trivial⟩ ?_
      exact hJ 0 (if_neg c15).symm
    · replace c15 := Classical.not_not.mp c15
      refine wm_iconst d_MS_isUnknown_24 ?_
      refine wm_goto (tgt := 29) d_MS_isUnknown_25 rfl ?_
      refine wm_less (L' := [vd, vd]) ⟨Or.inl rfl, Or.inl rfl, trivial⟩ ?_
      exact hJ 1 (if_pos c15).symm
theorem d_MS_rank_0 : decode y_MS_rank.2.1 0 = .ok (.iconst 0, 1) := dc9_3 (by decide +kernel)
theorem d_MS_rank_1 : decode y_MS_rank.2.1 1 = .ok (.istore_n 1, 1) := dc9_60 (by decide +kernel)
theorem d_MS_rank_2 : decode y_MS_rank.2.1 2 = .ok (.iload_n 1, 1) := dc9_27 (by decide +kernel)
theorem d_MS_rank_3 : decode y_MS_rank.2.1 3 = .ok (.aload_n 0, 1) := dc9_42 (by decide +kernel)
theorem d_MS_rank_4 : decode y_MS_rank.2.1 4 = .ok (.getfield 103, 3) := dc9_180 (by decide +kernel)
theorem d_MS_rank_7 : decode y_MS_rank.2.1 7 = .ok (.if_icmp .ge 30, 3) := dc9_162 (by decide +kernel)
theorem d_MS_rank_37 : decode y_MS_rank.2.1 37 = .ok (.iconst 1, 1) := dc9_4 (by decide +kernel)
theorem d_MS_rank_38 : decode y_MS_rank.2.1 38 = .ok (.istore_n 1, 1) := dc9_60 (by decide +kernel)
theorem d_MS_rank_39 : decode y_MS_rank.2.1 39 = .ok (.iconst 1, 1) := dc9_4 (by decide +kernel)
theorem d_MS_rank_40 : decode y_MS_rank.2.1 40 = .ok (.istore_n 2, 1) := dc9_61 (by decide +kernel)
theorem d_MS_rank_10 : decode y_MS_rank.2.1 10 = .ok (.aload_n 0, 1) := dc9_42 (by decide +kernel)
theorem d_MS_rank_11 : decode y_MS_rank.2.1 11 = .ok (.getfield 57, 3) := dc9_180 (by decide +kernel)
theorem d_MS_rank_14 : decode y_MS_rank.2.1 14 = .ok (.iload_n 1, 1) := dc9_27 (by decide +kernel)
theorem d_MS_rank_15 : decode y_MS_rank.2.1 15 = .ok (.aload_n 0, 1) := dc9_42 (by decide +kernel)
theorem d_MS_rank_16 : decode y_MS_rank.2.1 16 = .ok (.getfield 16, 3) := dc9_180 (by decide +kernel)
theorem d_MS_rank_19 : decode y_MS_rank.2.1 19 = .ok (.iload_n 1, 1) := dc9_27 (by decide +kernel)
theorem d_MS_rank_20 : decode y_MS_rank.2.1 20 = .ok (.iaload, 1) := dc9_46 (by decide +kernel)
theorem d_MS_rank_21 : decode y_MS_rank.2.1 21 = .ok (.iconst 3, 1) := dc9_6 (by decide +kernel)
theorem d_MS_rank_22 : decode y_MS_rank.2.1 22 = .ok (.if_icmp .ne 7, 3) := dc9_160 (by decide +kernel)
theorem d_MS_rank_25 : decode y_MS_rank.2.1 25 = .ok (.iconst 0, 1) := dc9_3 (by decide +kernel)
theorem d_MS_rank_26 : decode y_MS_rank.2.1 26 = .ok (.goto 4, 3) := dc9_167 (by decide +kernel)
theorem d_MS_rank_29 : decode y_MS_rank.2.1 29 = .ok (.iconst (-1), 1) := dc9_2 (by decide +kernel)
theorem d_MS_rank_30 : decode y_MS_rank.2.1 30 = .ok (.iastore, 1) := dc9_79 (by decide +kernel)
theorem d_MS_rank_31 : decode y_MS_rank.2.1 31 = .ok (.iinc 1 1, 3) := by decide +kernel
theorem d_MS_rank_34 : decode y_MS_rank.2.1 34 = .ok (.goto (-32), 3) := dc9_167 (by decide +kernel)
theorem d_MS_rank_41 : decode y_MS_rank.2.1 41 = .ok (.iload_n 1, 1) := dc9_27 (by decide +kernel)
theorem d_MS_rank_42 : decode y_MS_rank.2.1 42 = .ok (.ifCond .eq 62, 3) := dc9_153 (by decide +kernel)
theorem d_MS_rank_104 : decode y_MS_rank.2.1 104 = .ok (.iconst 0, 1) := dc9_3 (by decide +kernel)
theorem d_MS_rank_105 : decode y_MS_rank.2.1 105 = .ok (.istore_n 2, 1) := dc9_61 (by decide +kernel)
theorem d_MS_rank_45 : decode y_MS_rank.2.1 45 = .ok (.iconst 0, 1) := dc9_3 (by decide +kernel)
theorem d_MS_rank_46 : decode y_MS_rank.2.1 46 = .ok (.istore_n 1, 1) := dc9_60 (by decide +kernel)
theorem d_MS_rank_47 : decode y_MS_rank.2.1 47 = .ok (.iconst 0, 1) := dc9_3 (by decide +kernel)
theorem d_MS_rank_48 : decode y_MS_rank.2.1 48 = .ok (.istore_n 3, 1) := dc9_62 (by decide +kernel)
theorem d_MS_rank_49 : decode y_MS_rank.2.1 49 = .ok (.iload_n 3, 1) := dc9_29 (by decide +kernel)
theorem d_MS_rank_50 : decode y_MS_rank.2.1 50 = .ok (.aload_n 0, 1) := dc9_42 (by decide +kernel)
theorem d_MS_rank_51 : decode y_MS_rank.2.1 51 = .ok (.getfield 103, 3) := dc9_180 (by decide +kernel)
theorem d_MS_rank_54 : decode y_MS_rank.2.1 54 = .ok (.if_icmp .ge 44, 3) := dc9_162 (by decide +kernel)
theorem d_MS_rank_98 : decode y_MS_rank.2.1 98 = .ok (.iinc 2 1, 3) := by decide +kernel
theorem d_MS_rank_101 : decode y_MS_rank.2.1 101 = .ok (.goto (-60), 3) := dc9_167 (by decide +kernel)
theorem d_MS_rank_57 : decode y_MS_rank.2.1 57 = .ok (.aload_n 0, 1) := dc9_42 (by decide +kernel)
theorem d_MS_rank_58 : decode y_MS_rank.2.1 58 = .ok (.getfield 57, 3) := dc9_180 (by decide +kernel)
theorem d_MS_rank_61 : decode y_MS_rank.2.1 61 = .ok (.iload_n 3, 1) := dc9_29 (by decide +kernel)
theorem d_MS_rank_62 : decode y_MS_rank.2.1 62 = .ok (.iaload, 1) := dc9_46 (by decide +kernel)
theorem d_MS_rank_63 : decode y_MS_rank.2.1 63 = .ok (.ifCond .ge 29, 3) := dc9_156 (by decide +kernel)
theorem d_MS_rank_66 : decode y_MS_rank.2.1 66 = .ok (.aload_n 0, 1) := dc9_42 (by decide +kernel)
theorem d_MS_rank_67 : decode y_MS_rank.2.1 67 = .ok (.iload_n 3, 1) := dc9_29 (by decide +kernel)
theorem d_MS_rank_92 : decode y_MS_rank.2.1 92 = .ok (.iinc 3 1, 3) := by decide +kernel
theorem d_MS_rank_95 : decode y_MS_rank.2.1 95 = .ok (.goto (-46), 3) := dc9_167 (by decide +kernel)
theorem d_MS_rank_68 : decode y_MS_rank.2.1 68 = .ok (.invokevirtual 222, 3) := dc9_182 (by decide +kernel)
theorem d_MS_rank_71 : decode y_MS_rank.2.1 71 = .ok (.ifCond .eq 21, 3) := dc9_153 (by decide +kernel)
theorem d_MS_rank_74 : decode y_MS_rank.2.1 74 = .ok (.aload_n 0, 1) := dc9_42 (by decide +kernel)
theorem d_MS_rank_75 : decode y_MS_rank.2.1 75 = .ok (.iload_n 3, 1) := dc9_29 (by decide +kernel)
theorem d_MS_rank_76 : decode y_MS_rank.2.1 76 = .ok (.iload_n 2, 1) := dc9_28 (by decide +kernel)
theorem d_MS_rank_77 : decode y_MS_rank.2.1 77 = .ok (.invokevirtual 226, 3) := dc9_182 (by decide +kernel)
theorem d_MS_rank_80 : decode y_MS_rank.2.1 80 = .ok (.ifCond .eq 12, 3) := dc9_153 (by decide +kernel)
theorem d_MS_rank_83 : decode y_MS_rank.2.1 83 = .ok (.aload_n 0, 1) := dc9_42 (by decide +kernel)
theorem d_MS_rank_84 : decode y_MS_rank.2.1 84 = .ok (.getfield 57, 3) := dc9_180 (by decide +kernel)
theorem d_MS_rank_87 : decode y_MS_rank.2.1 87 = .ok (.iload_n 3, 1) := dc9_29 (by decide +kernel)
theorem d_MS_rank_88 : decode y_MS_rank.2.1 88 = .ok (.iload_n 2, 1) := dc9_28 (by decide +kernel)
theorem d_MS_rank_89 : decode y_MS_rank.2.1 89 = .ok (.iastore, 1) := dc9_79 (by decide +kernel)
theorem d_MS_rank_90 : decode y_MS_rank.2.1 90 = .ok (.iconst 1, 1) := dc9_4 (by decide +kernel)
theorem d_MS_rank_91 : decode y_MS_rank.2.1 91 = .ok (.istore_n 1, 1) := dc9_60 (by decide +kernel)
theorem d_MS_rank_106 : decode y_MS_rank.2.1 106 = .ok (.iload_n 2, 1) := dc9_28 (by decide +kernel)
theorem d_MS_rank_107 : decode y_MS_rank.2.1 107 = .ok (.aload_n 0, 1) := dc9_42 (by decide +kernel)
theorem d_MS_rank_108 : decode y_MS_rank.2.1 108 = .ok (.getfield 103, 3) := dc9_180 (by decide +kernel)
theorem d_MS_rank_111 : decode y_MS_rank.2.1 111 = .ok (.if_icmp .ge 32, 3) := dc9_162 (by decide +kernel)
theorem d_MS_rank_143 : decode y_MS_rank.2.1 143 = .ok (.return_, 1) := dc9_177 (by decide +kernel)
theorem d_MS_rank_114 : decode y_MS_rank.2.1 114 = .ok (.aload_n 0, 1) := dc9_42 (by decide +kernel)
theorem d_MS_rank_115 : decode y_MS_rank.2.1 115 = .ok (.getfield 54, 3) := dc9_180 (by decide +kernel)
theorem d_MS_rank_118 : decode y_MS_rank.2.1 118 = .ok (.iload_n 2, 1) := dc9_28 (by decide +kernel)
theorem d_MS_rank_119 : decode y_MS_rank.2.1 119 = .ok (.aload_n 0, 1) := dc9_42 (by decide +kernel)
theorem d_MS_rank_120 : decode y_MS_rank.2.1 120 = .ok (.iload_n 2, 1) := dc9_28 (by decide +kernel)
theorem d_MS_rank_121 : decode y_MS_rank.2.1 121 = .ok (.invokevirtual 116, 3) := dc9_182 (by decide +kernel)
theorem d_MS_rank_124 : decode y_MS_rank.2.1 124 = .ok (.ifCond .ne 7, 3) := dc9_154 (by decide +kernel)
theorem d_MS_rank_127 : decode y_MS_rank.2.1 127 = .ok (.iconst (-1), 1) := dc9_2 (by decide +kernel)
theorem d_MS_rank_128 : decode y_MS_rank.2.1 128 = .ok (.goto 8, 3) := dc9_167 (by decide +kernel)
theorem d_MS_rank_131 : decode y_MS_rank.2.1 131 = .ok (.aload_n 0, 1) := dc9_42 (by decide +kernel)
theorem d_MS_rank_132 : decode y_MS_rank.2.1 132 = .ok (.iload_n 2, 1) := dc9_28 (by decide +kernel)
theorem d_MS_rank_136 : decode y_MS_rank.2.1 136 = .ok (.iastore, 1) := dc9_79 (by decide +kernel)
theorem d_MS_rank_137 : decode y_MS_rank.2.1 137 = .ok (.iinc 2 1, 3) := by decide +kernel
theorem d_MS_rank_140 : decode y_MS_rank.2.1 140 = .ok (.goto (-34), 3) := dc9_167 (by decide +kernel)
theorem d_MS_rank_133 : decode y_MS_rank.2.1 133 = .ok (.invokevirtual 229, 3) := dc9_182 (by decide +kernel)
def h_MS_rank_2 (G : mG) (d : Nat) (a0 : Nat) (l1 : Int) (M : mM) (Q : mM → Prop) : Prop := mWm G y_MS_rank (d + 1) 2 [vr a0, vi l1, vd, vd] [] M (fun r9 M9 => r9 = none ∧ Q M9)
def h_MS_rank_41 (G : mG) (d : Nat) (a0 : Nat) (l1 : Int) (l2 : Int) (M : mM) (Q : mM → Prop) : Prop := mWm G y_MS_rank (d + 1) 41 [vr a0, vi l1, vi l2, vd] [] M (fun r9 M9 => r9 = none ∧ Q M9)
def h_MS_rank_49 (G : mG) (d : Nat) (a0 : Nat) (l1 : Int) (l2 : Int) (l3 : Int) (M : mM) (Q : mM → Prop) : Prop := mWm G y_MS_rank (d + 1) 49 [vr a0, vi l1, vi l2, vi l3] [] M (fun r9 M9 => r9 = none ∧ Q M9)
def h_MS_rank_106 (G : mG) (d : Nat) (a0 : Nat) (l2 : Int) (M : mM) (Q : mM → Prop) : Prop := mWm G y_MS_rank (d + 1) 106 [vr a0, vd, vi l2, vd] [] M (fun r9 M9 => r9 = none ∧ Q M9)
theorem k_MS_rank {G : mG} {d : Nat} {a0 : Nat} {M : mM} {Q : mM → Prop} (hO : mOk M)
    (h : h_MS_rank_2 G d a0 0 M Q) :
    Cv G y_MS_rank (d + 1) [vr a0] M Q := by
  refine wm_open (y := y_MS_rank) rfl (Nat.le_of_ble_eq_true rfl) (L := [vr a0, vd, vd, vd]) rfl ?_
  refine wm_iconst d_MS_rank_0 ?_
  refine wm_istore_n d_MS_rank_1 rfl (by decide) (L' := [vr a0, vi 0, vd, vd]) rfl ?_
  exact h
theorem k_MS_rank_2 {G : mG} {d : Nat} {a0 : Nat} {l1 : Int} {M : mM} {Q : mM → Prop} (hO : mOk M) (hi_l1 : i32 l1)
    (h : mK M a0 = 17 ∧ ((mI M a0 1 ≤ l1) → (h_MS_rank_41 G d a0 1 1 M Q)) ∧ (¬ (mI M a0 1 ≤ l1) → (mK M (mR M a0 4) = 30 ∧ ((0 : Int) ≤ l1 ∧ l1 < (mN M (mR M a0 4) : Int)) ∧ ∀ v9 : Int, v9 = (if (mI M (mR M a0 4) (Int.toNat l1) = 3) then 0 else (-1)) → mK M (mR M a0 16) = 30 ∧ ((0 : Int) ≤ l1 ∧ l1 < (mN M (mR M a0 16) : Int)) ∧ ∀ M15, M15 = mUI M (mR M a0 16) (Int.toNat l1) v9 → h_MS_rank_2 G d a0 (l1 + 1) M15 Q))) :
    h_MS_rank_2 G d a0 l1 M Q := by
  unfold h_MS_rank_2
  obtain ⟨h1, h⟩ := h
  refine wm_iload_n d_MS_rank_2 rfl rfl ?_
  refine wm_aload_n d_MS_rank_3 rfl rfl ?_
  refine gf_MS_103 rfl d_MS_rank_4 h1 ?_
  refine wm_icmp_ge (tgt := 37) d_MS_rank_7 rfl hi_l1 (hO _ _).1 (fun c5 => ?_) (fun c5 => ?_)
  · replace h := h.1 c5
    refine wm_iconst d_MS_rank_37 ?_
    refine wm_istore_n d_MS_rank_38 rfl (by decide) (L' := [vr a0, vi 1, vd, vd]) rfl ?_
    refine wm_iconst d_MS_rank_39 ?_
    refine wm_istore_n d_MS_rank_40 rfl (by decide) (L' := [vr a0, vi 1, vi 1, vd]) rfl ?_
    exact h
  · replace h := h.2 c5
    obtain ⟨h6, h⟩ := h
    obtain ⟨h7, h⟩ := h
    refine wm_aload_n d_MS_rank_10 rfl rfl ?_
    refine gf_MS_57 rfl d_MS_rank_11 h1 ?_
    refine wm_iload_n d_MS_rank_14 rfl rfl ?_
    refine wm_aload_n d_MS_rank_15 rfl rfl ?_
    refine gf_MS_16 rfl d_MS_rank_16 h1 ?_
    refine wm_iload_n d_MS_rank_19 rfl rfl ?_
    refine wm_iald d_MS_rank_20 h6 h7 ?_
    refine wm_iconst d_MS_rank_21 ?_
    have hJ : ∀ v9 : Int, v9 = (if (mI M (mR M a0 4) (Int.toNat l1) = 3) then 0 else (-1)) → mWm G y_MS_rank (d + 1) 30 [vr a0, vi l1, vd, vd] [vi v9, vi l1, vr (mR M a0 16)] M (fun r9 M9 => r9 = none ∧ Q M9) := by
      intro v9 e11
      have h := h v9 e11
      have h12 : i32 v9 := by rw [e11]; (repeat' split) <;> first | exact ⟨by decide, by decide⟩ | exact ⟨by decide, by decide⟩
      obtain ⟨h13, h⟩ := h
      obtain ⟨h14, h⟩ := h
      obtain ⟨M15, e16⟩ : ∃ M15, M15 = mUI M (mR M a0 16) (Int.toNat l1) v9 := ⟨_, rfl⟩
      replace h := h M15 e16
      have hOM15 : mOk M15 := by rw [e16]; exact mOk_UI hO h12
      refine wm_iastE d_MS_rank_30 h13 h14 h12 e16 ?_
      refine wm_iinc d_MS_rank_31 (by decide) rfl (L' := [vr a0, vi (l1 + 1), vd, vd]) rfl ?_
      refine wm_goto (tgt := 2) d_MS_rank_34 rfl ?_
      exact h
    clear h
    refine wm_icmp_ne (tgt := 29) d_MS_rank_22 rfl (hO _ _).1 ⟨by decide, by decide⟩ (fun c8 => ?_) (fun c8 => ?_)
    · refine wm_iconst d_MS_rank_29 ?_
      exact hJ (-1) (if_neg c8).symm
    · replace c8 := Classical.not_not.mp c8
      refine wm_iconst d_MS_rank_25 ?_
      refine wm_goto (tgt := 30) d_MS_rank_26 rfl ?_
      exact hJ 0 (if_pos c8).symm
theorem k_MS_rank_41 {G : mG} {d : Nat} {a0 : Nat} {l1 : Int} {l2 : Int} {M : mM} {Q : mM → Prop} (hO : mOk M) (hi_l1 : i32 l1) (hi_l2 : i32 l2)
    (h : ((l1 = 0) → (h_MS_rank_106 G d a0 0 M Q)) ∧ (¬ (l1 = 0) → (h_MS_rank_49 G d a0 0 l2 0 M Q))) :
    h_MS_rank_41 G d a0 l1 l2 M Q := by
  unfold h_MS_rank_41
  refine wm_iload_n d_MS_rank_41 rfl rfl ?_
  refine wm_if_eq (tgt := 104) d_MS_rank_42 rfl hi_l1 (fun c19 => ?_) (fun c19 => ?_)
  · replace h := h.1 c19
    refine wm_iconst d_MS_rank_104 ?_
    refine wm_istore_n d_MS_rank_105 rfl (by decide) (L' := [vr a0, vi l1, vi 0, vd]) rfl ?_
    refine wm_less (L' := [vr a0, vd, vi 0, vd]) ⟨Or.inr rfl, Or.inl rfl, Or.inr rfl, Or.inl rfl, trivial⟩ ?_
    exact h
  · replace h := h.2 c19
    refine wm_iconst d_MS_rank_45 ?_
    refine wm_istore_n d_MS_rank_46 rfl (by decide) (L' := [vr a0, vi 0, vi l2, vd]) rfl ?_
    refine wm_iconst d_MS_rank_47 ?_
    refine wm_istore_n d_MS_rank_48 rfl (by decide) (L' := [vr a0, vi 0, vi l2, vi 0]) rfl ?_
    exact h
theorem k_MS_rank_49 {G : mG} {d : Nat} {a0 : Nat} {l1 : Int} {l2 : Int} {l3 : Int} {M : mM} {Q : mM → Prop} (hO : mOk M) (hi_l1 : i32 l1) (hi_l2 : i32 l2) (hi_l3 : i32 l3)
    (h : mK M a0 = 17 ∧ ((mI M a0 1 ≤ l3) → (h_MS_rank_41 G d a0 l1 (l2 + 1) M Q)) ∧ (¬ (mI M a0 1 ≤ l3) → (mK M (mR M a0 16) = 30 ∧ ((0 : Int) ≤ l3 ∧ l3 < (mN M (mR M a0 16) : Int)) ∧ ((0 ≤ mI M (mR M a0 16) (Int.toNat l3)) → (h_MS_rank_49 G d a0 l1 l2 (l3 + 1) M Q)) ∧ (¬ (0 ≤ mI M (mR M a0 16) (Int.toNat l3)) → (Ci G y_MS_isUnknown d [vr a0, vi l3] M (fun x32 M31 => i32 x32 ∧ mOk M31 ∧ (((x32 = 0) → (h_MS_rank_49 G d a0 l1 l2 (l3 + 1) M31 Q)) ∧ (¬ (x32 = 0) → (mK M31 a0 = 17 ∧ Ci G y_MS_getsRank d [vr a0, vi l3, vi l2] M31 (fun x39 M38 => i32 x39 ∧ mOk M38 ∧ ((¬ (x39 = 0) → (mK M38 a0 = 17 ∧ mK M38 (mR M38 a0 16) = 30 ∧ ((0 : Int) ≤ l3 ∧ l3 < (mN M38 (mR M38 a0 16) : Int)))) ∧ ∀ v45 : Int, v45 = (if (x39 = 0) then l1 else 1) → ∀ M46 : mM, M46 = (if (x39 = 0) then M38 else (mUI M38 (mR M38 a0 16) (Int.toNat l3) l2)) → mOk M46 ∧ h_MS_rank_49 G d a0 v45 l2 (l3 + 1) M46 Q))))))))))) :
    h_MS_rank_49 G d a0 l1 l2 l3 M Q := by
  unfold h_MS_rank_49
  obtain ⟨h20, h⟩ := h
  refine wm_iload_n d_MS_rank_49 rfl rfl ?_
  refine wm_aload_n d_MS_rank_50 rfl rfl ?_
  refine gf_MS_103 rfl d_MS_rank_51 h20 ?_
  refine wm_icmp_ge (tgt := 98) d_MS_rank_54 rfl hi_l3 (hO _ _).1 (fun c25 => ?_) (fun c25 => ?_)
  · replace h := h.1 c25
    refine wm_iinc d_MS_rank_98 (by decide) rfl (L' := [vr a0, vi l1, vi (l2 + 1), vi l3]) rfl ?_
    refine wm_goto (tgt := 41) d_MS_rank_101 rfl ?_
    refine wm_less (L' := [vr a0, vi l1, vi (l2 + 1), vd]) ⟨Or.inr rfl, Or.inr rfl, Or.inr rfl, Or.inl rfl, trivial⟩ ?_
    exact h
  · replace h := h.2 c25
    obtain ⟨h26, h⟩ := h
    obtain ⟨h27, h⟩ := h
    refine wm_aload_n d_MS_rank_57 rfl rfl ?_
    refine gf_MS_57 rfl d_MS_rank_58 h20 ?_
    refine wm_iload_n d_MS_rank_61 rfl rfl ?_
    refine wm_iald d_MS_rank_62 h26 h27 ?_
    refine wm_if_ge (tgt := 92) d_MS_rank_63 rfl (hO _ _).1 (fun c30 => ?_) (fun c30 => ?_)
    · replace h := h.1 c30
      refine wm_iinc d_MS_rank_92 (by decide) rfl (L' := [vr a0, vi l1, vi l2, vi (l3 + 1)]) rfl ?_
      refine wm_goto (tgt := 49) d_MS_rank_95 rfl ?_
      exact h
    · replace h := h.2 c30
      refine wm_aload_n d_MS_rank_66 rfl rfl ?_
      refine wm_iload_n d_MS_rank_67 rfl rfl ?_
      refine cf_MS_222 rfl d_MS_rank_68 h20 (Nat.le_of_ble_eq_true rfl) (Ci.mono h (fun x32 M31 h => ?_))
      obtain ⟨h33, hOM31, h⟩ := h
      refine wm_if_eq (tgt := 92) d_MS_rank_71 rfl h33 (fun c36 => ?_) (fun c36 => ?_)
      · replace h := h.1 c36
        refine wm_iinc d_MS_rank_92 (by decide) rfl (L' := [vr a0, vi l1, vi l2, vi (l3 + 1)]) rfl ?_
        refine wm_goto (tgt := 49) d_MS_rank_95 rfl ?_
        exact h
      · replace h := h.2 c36
        obtain ⟨h37, h⟩ := h
        refine wm_aload_n d_MS_rank_74 rfl rfl ?_
        refine wm_iload_n d_MS_rank_75 rfl rfl ?_
        refine wm_iload_n d_MS_rank_76 rfl rfl ?_
        refine cf_MS_226 rfl d_MS_rank_77 h37 (Nat.le_of_ble_eq_true rfl) (Ci.mono h (fun x39 M38 h => ?_))
        obtain ⟨h40, hOM38, h⟩ := h
        obtain ⟨s47, h⟩ := h
        have hJ : ∀ v45 : Int, v45 = (if (x39 = 0) then l1 else 1) → ∀ M46 : mM, M46 = (if (x39 = 0) then M38 else (mUI M38 (mR M38 a0 16) (Int.toNat l3) l2)) → mWm G y_MS_rank (d + 1) 92 [vr a0, vi v45, vi l2, vi l3] [] M46 (fun r9 M9 => r9 = none ∧ Q M9) := by
          intro v45 e48
          intro M46 e49
          have h := h v45 e48 M46 e49
          have h50 : i32 v45 := by rw [e48]; (repeat' split) <;> first | exact hi_l1 | exact ⟨by decide, by decide⟩
          have h51 : mK M46 = mK M38 := by rw [e49]; (repeat' split) <;> rfl
          obtain ⟨hOM46, h⟩ := h
          refine wm_iinc d_MS_rank_92 (by decide) rfl (L' := [vr a0, vi v45, vi l2, vi (l3 + 1)]) rfl ?_
          refine wm_goto (tgt := 49) d_MS_rank_95 rfl ?_
          exact h
        clear h
        have s52 := s47
        refine wm_if_eq (tgt := 92) d_MS_rank_80 rfl h40 (fun c41 => ?_) (fun c41 => ?_)
        · exact hJ l1 (if_pos c41).symm M38 (if_pos c41).symm
        · have s52 := s52 c41
          obtain ⟨h42, h43, h44⟩ := s52
          refine wm_aload_n d_MS_rank_83 rfl rfl ?_
          refine gf_MS_57 rfl d_MS_rank_84 h42 ?_
          refine wm_iload_n d_MS_rank_87 rfl rfl ?_
          refine wm_iload_n d_MS_rank_88 rfl rfl ?_
          refine wm_iastE d_MS_rank_89 h43 h44 hi_l2 rfl ?_
          refine wm_iconst d_MS_rank_90 ?_
          refine wm_istore_n d_MS_rank_91 rfl (by decide) (L' := [vr a0, vi 1, vi l2, vi l3]) rfl ?_
          exact hJ 1 (if_neg c41).symm (mUI M38 (mR M38 a0 16) (Int.toNat l3) l2) (if_neg c41).symm
theorem k_MS_rank_106 {G : mG} {d : Nat} {a0 : Nat} {l2 : Int} {M : mM} {Q : mM → Prop} (hO : mOk M) (hi_l2 : i32 l2)
    (h : mK M a0 = 17 ∧ ((mI M a0 1 ≤ l2) → (Q M)) ∧ (¬ (mI M a0 1 ≤ l2) → (Ci G y_MS_many d [vr a0, vi l2] M (fun x59 M58 => i32 x59 ∧ mOk M58 ∧ (((x59 = 0) → (mK M58 (mR M a0 15) = 30 ∧ ((0 : Int) ≤ l2 ∧ l2 < (mN M58 (mR M a0 15) : Int)) ∧ ∀ M68, M68 = mUI M58 (mR M a0 15) (Int.toNat l2) (-1) → h_MS_rank_106 G d a0 (l2 + 1) M68 Q)) ∧ (¬ (x59 = 0) → (mK M58 a0 = 17 ∧ Ci G y_MS_choose d [vr a0, vi l2] M58 (fun x72 M71 => i32 x72 ∧ mOk M71 ∧ (mK M71 (mR M a0 15) = 30 ∧ ((0 : Int) ≤ l2 ∧ l2 < (mN M71 (mR M a0 15) : Int)) ∧ ∀ M76, M76 = mUI M71 (mR M a0 15) (Int.toNat l2) x72 → h_MS_rank_106 G d a0 (l2 + 1) M76 Q))))))))) :
    h_MS_rank_106 G d a0 l2 M Q := by
  unfold h_MS_rank_106
  obtain ⟨h55, h⟩ := h
  refine wm_iload_n d_MS_rank_106 rfl rfl ?_
  refine wm_aload_n d_MS_rank_107 rfl rfl ?_
  refine gf_MS_103 rfl d_MS_rank_108 h55 ?_
  refine wm_icmp_ge (tgt := 143) d_MS_rank_111 rfl hi_l2 (hO _ _).1 (fun c57 => ?_) (fun c57 => ?_)
  · replace h := h.1 c57
    refine wm_return d_MS_rank_143 rfl ?_
    exact ⟨rfl, h⟩
  · replace h := h.2 c57
    refine wm_aload_n d_MS_rank_114 rfl rfl ?_
    refine gf_MS_54 rfl d_MS_rank_115 h55 ?_
    refine wm_iload_n d_MS_rank_118 rfl rfl ?_
    refine wm_aload_n d_MS_rank_119 rfl rfl ?_
    refine wm_iload_n d_MS_rank_120 rfl rfl ?_
    refine cf_MS_116 rfl d_MS_rank_121 h55 (Nat.le_of_ble_eq_true rfl) (Ci.mono h (fun x59 M58 h => ?_))
    obtain ⟨h60, hOM58, h⟩ := h
    refine wm_if_ne (tgt := 131) d_MS_rank_124 rfl h60 (fun c65 => ?_) (fun c65 => ?_)
    · replace h := h.2 c65
      obtain ⟨h70, h⟩ := h
      refine wm_aload_n d_MS_rank_131 rfl rfl ?_
      refine wm_iload_n d_MS_rank_132 rfl rfl ?_
      refine cf_MS_229 rfl d_MS_rank_133 h70 (Nat.le_of_ble_eq_true rfl) (Ci.mono h (fun x72 M71 h => ?_))
      obtain ⟨h73, hOM71, h⟩ := h
      obtain ⟨h74, h⟩ := h
      obtain ⟨h75, h⟩ := h
      obtain ⟨M76, e77⟩ : ∃ M76, M76 = mUI M71 (mR M a0 15) (Int.toNat l2) x72 := ⟨_, rfl⟩
      replace h := h M76 e77
      have hOM76 : mOk M76 := by rw [e77]; exact mOk_UI hOM71 h73
      refine wm_iastE d_MS_rank_136 h74 h75 h73 e77 ?_
      refine wm_iinc d_MS_rank_137 (by decide) rfl (L' := [vr a0, vd, vi (l2 + 1), vd]) rfl ?_
      refine wm_goto (tgt := 106) d_MS_rank_140 rfl ?_
      exact h
    · replace c65 := Classical.not_not.mp c65
      replace h := h.1 c65
      obtain ⟨h66, h⟩ := h
      obtain ⟨h67, h⟩ := h
      obtain ⟨M68, e69⟩ : ∃ M68, M68 = mUI M58 (mR M a0 15) (Int.toNat l2) (-1) := ⟨_, rfl⟩
      replace h := h M68 e69
      refine wm_iconst d_MS_rank_127 ?_
      refine wm_goto (tgt := 136) d_MS_rank_128 rfl ?_
      have hOM68 : mOk M68 := by rw [e69]; exact mOk_UI hOM58 ⟨by decide, by decide⟩
      refine wm_iastE d_MS_rank_136 h66 h67 ⟨by decide, by decide⟩ e69 ?_
      refine wm_iinc d_MS_rank_137 (by decide) rfl (L' := [vr a0, vd, vi (l2 + 1), vd]) rfl ?_
      refine wm_goto (tgt := 106) d_MS_rank_140 rfl ?_
      exact h
theorem d_MS_choose_0 : decode y_MS_choose.2.1 0 = .ok (.iconst 0, 1) := dc9_3 (by decide +kernel)
theorem d_MS_choose_1 : decode y_MS_choose.2.1 1 = .ok (.istore_n 2, 1) := dc9_61 (by decide +kernel)
theorem d_MS_choose_2 : decode y_MS_choose.2.1 2 = .ok (.iload_n 2, 1) := dc9_28 (by decide +kernel)
theorem d_MS_choose_3 : decode y_MS_choose.2.1 3 = .ok (.aload_n 0, 1) := dc9_42 (by decide +kernel)
theorem d_MS_choose_4 : decode y_MS_choose.2.1 4 = .ok (.iload_n 1, 1) := dc9_27 (by decide +kernel)
theorem d_MS_choose_5 : decode y_MS_choose.2.1 5 = .ok (.invokevirtual 116, 3) := dc9_182 (by decide +kernel)
theorem d_MS_choose_8 : decode y_MS_choose.2.1 8 = .ok (.if_icmp .ge 72, 3) := dc9_162 (by decide +kernel)
theorem d_MS_choose_80 : decode y_MS_choose.2.1 80 = .ok (.iconst 0, 1) := dc9_3 (by decide +kernel)
theorem d_MS_choose_81 : decode y_MS_choose.2.1 81 = .ok (.ireturn, 1) := dc9_172 (by decide +kernel)
theorem d_MS_choose_11 : decode y_MS_choose.2.1 11 = .ok (.aload_n 0, 1) := dc9_42 (by decide +kernel)
theorem d_MS_choose_12 : decode y_MS_choose.2.1 12 = .ok (.getfield 16, 3) := dc9_180 (by decide +kernel)
theorem d_MS_choose_15 : decode y_MS_choose.2.1 15 = .ok (.iload_n 1, 1) := dc9_27 (by decide +kernel)
theorem d_MS_choose_16 : decode y_MS_choose.2.1 16 = .ok (.iaload, 1) := dc9_46 (by decide +kernel)
theorem d_MS_choose_17 : decode y_MS_choose.2.1 17 = .ok (.iconst 2, 1) := dc9_5 (by decide +kernel)
theorem d_MS_choose_18 : decode y_MS_choose.2.1 18 = .ok (.if_icmp .ne 12, 3) := dc9_160 (by decide +kernel)
theorem d_MS_choose_21 : decode y_MS_choose.2.1 21 = .ok (.aload_n 0, 1) := dc9_42 (by decide +kernel)
theorem d_MS_choose_22 : decode y_MS_choose.2.1 22 = .ok (.iload_n 1, 1) := dc9_27 (by decide +kernel)
theorem d_MS_choose_23 : decode y_MS_choose.2.1 23 = .ok (.iload_n 2, 1) := dc9_28 (by decide +kernel)
theorem d_MS_choose_30 : decode y_MS_choose.2.1 30 = .ok (.aload_n 0, 1) := dc9_42 (by decide +kernel)
theorem d_MS_choose_31 : decode y_MS_choose.2.1 31 = .ok (.iload_n 1, 1) := dc9_27 (by decide +kernel)
theorem d_MS_choose_24 : decode y_MS_choose.2.1 24 = .ok (.invokevirtual 215, 3) := dc9_182 (by decide +kernel)
theorem d_MS_choose_27 : decode y_MS_choose.2.1 27 = .ok (.goto 40, 3) := dc9_167 (by decide +kernel)
theorem d_MS_choose_67 : decode y_MS_choose.2.1 67 = .ok (.istore_n 3, 1) := dc9_62 (by decide +kernel)
theorem d_MS_choose_68 : decode y_MS_choose.2.1 68 = .ok (.iload_n 3, 1) := dc9_29 (by decide +kernel)
theorem d_MS_choose_69 : decode y_MS_choose.2.1 69 = .ok (.ifCond .eq 5, 3) := dc9_153 (by decide +kernel)
theorem d_MS_choose_74 : decode y_MS_choose.2.1 74 = .ok (.iinc 2 1, 3) := by decide +kernel
theorem d_MS_choose_77 : decode y_MS_choose.2.1 77 = .ok (.goto (-75), 3) := dc9_167 (by decide +kernel)
theorem d_MS_choose_72 : decode y_MS_choose.2.1 72 = .ok (.iload_n 2, 1) := dc9_28 (by decide +kernel)
theorem d_MS_choose_73 : decode y_MS_choose.2.1 73 = .ok (.ireturn, 1) := dc9_172 (by decide +kernel)
theorem d_MS_choose_32 : decode y_MS_choose.2.1 32 = .ok (.invokevirtual 222, 3) := dc9_182 (by decide +kernel)
theorem d_MS_choose_35 : decode y_MS_choose.2.1 35 = .ok (.ifCond .eq 31, 3) := dc9_153 (by decide +kernel)
theorem d_MS_choose_66 : decode y_MS_choose.2.1 66 = .ok (.iconst 0, 1) := dc9_3 (by decide +kernel)
theorem d_MS_choose_38 : decode y_MS_choose.2.1 38 = .ok (.aload_n 0, 1) := dc9_42 (by decide +kernel)
theorem d_MS_choose_39 : decode y_MS_choose.2.1 39 = .ok (.iload_n 1, 1) := dc9_27 (by decide +kernel)
theorem d_MS_choose_40 : decode y_MS_choose.2.1 40 = .ok (.iload_n 2, 1) := dc9_28 (by decide +kernel)
theorem d_MS_choose_41 : decode y_MS_choose.2.1 41 = .ok (.invokevirtual 215, 3) := dc9_182 (by decide +kernel)
theorem d_MS_choose_44 : decode y_MS_choose.2.1 44 = .ok (.ifCond .eq 22, 3) := dc9_153 (by decide +kernel)
theorem d_MS_choose_47 : decode y_MS_choose.2.1 47 = .ok (.aload_n 0, 1) := dc9_42 (by decide +kernel)
theorem d_MS_choose_48 : decode y_MS_choose.2.1 48 = .ok (.iload_n 1, 1) := dc9_27 (by decide +kernel)
theorem d_MS_choose_49 : decode y_MS_choose.2.1 49 = .ok (.iload_n 2, 1) := dc9_28 (by decide +kernel)
theorem d_MS_choose_50 : decode y_MS_choose.2.1 50 = .ok (.aload_n 0, 1) := dc9_42 (by decide +kernel)
theorem d_MS_choose_51 : decode y_MS_choose.2.1 51 = .ok (.getfield 57, 3) := dc9_180 (by decide +kernel)
theorem d_MS_choose_54 : decode y_MS_choose.2.1 54 = .ok (.iload_n 1, 1) := dc9_27 (by decide +kernel)
theorem d_MS_choose_55 : decode y_MS_choose.2.1 55 = .ok (.iaload, 1) := dc9_46 (by decide +kernel)
theorem d_MS_choose_56 : decode y_MS_choose.2.1 56 = .ok (.invokevirtual 218, 3) := dc9_182 (by decide +kernel)
theorem d_MS_choose_59 : decode y_MS_choose.2.1 59 = .ok (.ifCond .eq 7, 3) := dc9_153 (by decide +kernel)
theorem d_MS_choose_62 : decode y_MS_choose.2.1 62 = .ok (.iconst 1, 1) := dc9_4 (by decide +kernel)
theorem d_MS_choose_63 : decode y_MS_choose.2.1 63 = .ok (.goto 4, 3) := dc9_167 (by decide +kernel)
def h_MS_choose_2 (G : mG) (d : Nat) (a0 : Nat) (l1 : Int) (l2 : Int) (M : mM) (Q : Int → mM → Prop) : Prop := mWm G y_MS_choose (d + 1) 2 [vr a0, vi l1, vi l2, vd] [] M (fun r9 M9 => ∃ x9, r9 = some (vi x9) ∧ Q x9 M9)
theorem k_MS_choose {G : mG} {d : Nat} {a0 : Nat} {l1 : Int} {M : mM} {Q : Int → mM → Prop} (hO : mOk M) (hi_l1 : i32 l1)
    (h : h_MS_choose_2 G d a0 l1 0 M Q) :
    Ci G y_MS_choose (d + 1) [vr a0, vi l1] M Q := by
  refine wm_open (y := y_MS_choose) rfl (Nat.le_of_ble_eq_true rfl) (L := [vr a0, vi l1, vd, vd]) rfl ?_
  refine wm_iconst d_MS_choose_0 ?_
  refine wm_istore_n d_MS_choose_1 rfl (by decide) (L' := [vr a0, vi l1, vi 0, vd]) rfl ?_
  exact h
theorem k_MS_choose_2 {G : mG} {d : Nat} {a0 : Nat} {l1 : Int} {l2 : Int} {M : mM} {Q : Int → mM → Prop} (hO : mOk M) (hi_l1 : i32 l1) (hi_l2 : i32 l2)
    (h : mK M a0 = 17 ∧ Ci G y_MS_many d [vr a0, vi l1] M (fun x3 M2 => i32 x3 ∧ mOk M2 ∧ (((x3 ≤ l2) → (Q 0 M2)) ∧ (¬ (x3 ≤ l2) → (mK M2 a0 = 17 ∧ mK M2 (mR M2 a0 4) = 30 ∧ ((0 : Int) ≤ l1 ∧ l1 < (mN M2 (mR M2 a0 4) : Int)) ∧ ((mI M2 (mR M2 a0 4) (Int.toNat l1) = 2) → (Ci G y_MS_attains d [vr a0, vi l1, vi l2] M2 (fun x18 M17 => i32 x18 ∧ mOk M17 ∧ (((x18 = 0) → (h_MS_choose_2 G d a0 l1 (l2 + 1) M17 Q)) ∧ (¬ (x18 = 0) → (Q l2 M17)))))) ∧ (¬ (mI M2 (mR M2 a0 4) (Int.toNat l1) = 2) → (Ci G y_MS_isUnknown d [vr a0, vi l1] M2 (fun x23 M22 => i32 x23 ∧ mOk M22 ∧ (((x23 = 0) → ((((0 : Int) = 0) → (h_MS_choose_2 G d a0 l1 (l2 + 1) M22 Q)) ∧ (¬ ((0 : Int) = 0) → (Q l2 M22)))) ∧ (¬ (x23 = 0) → (mK M22 a0 = 17 ∧ Ci G y_MS_attains d [vr a0, vi l1, vi l2] M22 (fun x32 M31 => i32 x32 ∧ mOk M31 ∧ (((x32 = 0) → ((((0 : Int) = 0) → (h_MS_choose_2 G d a0 l1 (l2 + 1) M31 Q)) ∧ (¬ ((0 : Int) = 0) → (Q l2 M31)))) ∧ (¬ (x32 = 0) → (mK M31 a0 = 17 ∧ mK M31 (mR M31 a0 16) = 30 ∧ ((0 : Int) ≤ l1 ∧ l1 < (mN M31 (mR M31 a0 16) : Int)) ∧ Ci G y_MS_leadsBelow d [vr a0, vi l1, vi l2, vi (mI M31 (mR M31 a0 16) (Int.toNat l1))] M31 (fun x46 M45 => i32 x46 ∧ mOk M45 ∧ (∀ v49 : Int, v49 = (if (x46 = 0) then 0 else 1) → ((v49 = 0) → (h_MS_choose_2 G d a0 l1 (l2 + 1) M45 Q)) ∧ (¬ (v49 = 0) → (Q l2 M45))))))))))))))))))) :
    h_MS_choose_2 G d a0 l1 l2 M Q := by
  unfold h_MS_choose_2
  obtain ⟨h1, h⟩ := h
  refine wm_iload_n d_MS_choose_2 rfl rfl ?_
  refine wm_aload_n d_MS_choose_3 rfl rfl ?_
  refine wm_iload_n d_MS_choose_4 rfl rfl ?_
  refine cf_MS_116 rfl d_MS_choose_5 h1 (Nat.le_of_ble_eq_true rfl) (Ci.mono h (fun x3 M2 h => ?_))
  obtain ⟨h4, hOM2, h⟩ := h
  refine wm_icmp_ge (tgt := 80) d_MS_choose_8 rfl hi_l2 h4 (fun c10 => ?_) (fun c10 => ?_)
  · replace h := h.1 c10
    refine wm_iconst d_MS_choose_80 ?_
    refine wm_ireturn d_MS_choose_81 rfl rfl ?_
    exact ⟨_, rfl, h⟩
  · replace h := h.2 c10
    obtain ⟨h11, h⟩ := h
    obtain ⟨h12, h⟩ := h
    obtain ⟨h13, h⟩ := h
    refine wm_aload_n d_MS_choose_11 rfl rfl ?_
    refine gf_MS_16 rfl d_MS_choose_12 h11 ?_
    refine wm_iload_n d_MS_choose_15 rfl rfl ?_
    refine wm_iald d_MS_choose_16 h12 h13 ?_
    refine wm_iconst d_MS_choose_17 ?_
    refine wm_icmp_ne (tgt := 30) d_MS_choose_18 rfl (hOM2 _ _).1 ⟨by decide, by decide⟩ (fun c16 => ?_) (fun c16 => ?_)
    · replace h := h.2 c16
      refine wm_aload_n d_MS_choose_30 rfl rfl ?_
      refine wm_iload_n d_MS_choose_31 rfl rfl ?_
      refine cf_MS_222 rfl d_MS_choose_32 h11 (Nat.le_of_ble_eq_true rfl) (Ci.mono h (fun x23 M22 h => ?_))
      obtain ⟨h24, hOM22, h⟩ := h
      refine wm_if_eq (tgt := 66) d_MS_choose_35 rfl h24 (fun c27 => ?_) (fun c27 => ?_)
      · replace h := h.1 c27
        refine wm_iconst d_MS_choose_66 ?_
        refine wm_istore_n d_MS_choose_67 rfl (by decide) (L' := [vr a0, vi l1, vi l2, vi 0]) rfl ?_
        refine wm_iload_n d_MS_choose_68 rfl rfl ?_
        refine wm_if_eq (tgt := 74) d_MS_choose_69 rfl ⟨by decide, by decide⟩ (fun c29 => ?_) (fun c29 => ?_)
        · replace h := h.1 c29
          refine wm_iinc d_MS_choose_74 (by decide) rfl (L' := [vr a0, vi l1, vi (l2 + 1), vi 0]) rfl ?_
          refine wm_goto (tgt := 2) d_MS_choose_77 rfl ?_
          refine wm_less (L' := [vr a0, vi l1, vi (l2 + 1), vd]) ⟨Or.inr rfl, Or.inr rfl, Or.inr rfl, Or.inl rfl, trivial⟩ ?_
          exact h
        · replace h := h.2 c29
          refine wm_iload_n d_MS_choose_72 rfl rfl ?_
          refine wm_ireturn d_MS_choose_73 rfl rfl ?_
          exact ⟨_, rfl, h⟩
      · replace h := h.2 c27
        obtain ⟨h30, h⟩ := h
        refine wm_aload_n d_MS_choose_38 rfl rfl ?_
        refine wm_iload_n d_MS_choose_39 rfl rfl ?_
        refine wm_iload_n d_MS_choose_40 rfl rfl ?_
        refine cf_MS_215 rfl d_MS_choose_41 h30 (Nat.le_of_ble_eq_true rfl) (Ci.mono h (fun x32 M31 h => ?_))
        obtain ⟨h33, hOM31, h⟩ := h
        refine wm_if_eq (tgt := 66) d_MS_choose_44 rfl h33 (fun c39 => ?_) (fun c39 => ?_)
        · replace h := h.1 c39
          refine wm_iconst d_MS_choose_66 ?_
          refine wm_istore_n d_MS_choose_67 rfl (by decide) (L' := [vr a0, vi l1, vi l2, vi 0]) rfl ?_
          refine wm_iload_n d_MS_choose_68 rfl rfl ?_
          refine wm_if_eq (tgt := 74) d_MS_choose_69 rfl ⟨by decide, by decide⟩ (fun c41 => ?_) (fun c41 => ?_)
          · replace h := h.1 c41
            refine wm_iinc d_MS_choose_74 (by decide) rfl (L' := [vr a0, vi l1, vi (l2 + 1), vi 0]) rfl ?_
            refine wm_goto (tgt := 2) d_MS_choose_77 rfl ?_
            refine wm_less (L' := [vr a0, vi l1, vi (l2 + 1), vd]) ⟨Or.inr rfl, Or.inr rfl, Or.inr rfl, Or.inl rfl, trivial⟩ ?_
            exact h
          · replace h := h.2 c41
            refine wm_iload_n d_MS_choose_72 rfl rfl ?_
            refine wm_ireturn d_MS_choose_73 rfl rfl ?_
            exact ⟨_, rfl, h⟩
        · replace h := h.2 c39
          obtain ⟨h42, h⟩ := h
          obtain ⟨h43, h⟩ := h
          obtain ⟨h44, h⟩ := h
          refine wm_aload_n d_MS_choose_47 rfl rfl ?_
          refine wm_iload_n d_MS_choose_48 rfl rfl ?_
          refine wm_iload_n d_MS_choose_49 rfl rfl ?_
          refine wm_aload_n d_MS_choose_50 rfl rfl ?_
          refine gf_MS_57 rfl d_MS_choose_51 h42 ?_
          refine wm_iload_n d_MS_choose_54 rfl rfl ?_
          refine wm_iald d_MS_choose_55 h43 h44 ?_
          refine cf_MS_218 rfl d_MS_choose_56 h42 (Nat.le_of_ble_eq_true rfl) (Ci.mono h (fun x46 M45 h => ?_))
          obtain ⟨h47, hOM45, h⟩ := h
          have hJ : ∀ v49 : Int, v49 = (if (x46 = 0) then 0 else 1) → mWm G y_MS_choose (d + 1) 67 [vr a0, vi l1, vi l2, vd] [vi v49] M45 (fun r9 M9 => ∃ x9, r9 = some (vi x9) ∧ Q x9 M9) := by
            intro v49 e51
            have h := h v49 e51
            have h52 : i32 v49 := by rw [e51]; (repeat' split) <;> first | exact ⟨by decide, by decide⟩ | exact ⟨by decide, by decide⟩
            have h53 : (v49 = 0 ∨ v49 = 1) := by rw [e51]; (repeat' split) <;> decide
            refine wm_istore_n d_MS_choose_67 rfl (by decide) (L' := [vr a0, vi l1, vi l2, vi v49]) rfl ?_
            refine wm_iload_n d_MS_choose_68 rfl rfl ?_
            refine wm_if_eq (tgt := 74) d_MS_choose_69 rfl h52 (fun c55 => ?_) (fun c55 => ?_)
            · replace h := h.1 c55
              refine wm_iinc d_MS_choose_74 (by decide) rfl (L' := [vr a0, vi l1, vi (l2 + 1), vi v49]) rfl ?_
              refine wm_goto (tgt := 2) d_MS_choose_77 rfl ?_
              refine wm_less (L' := [vr a0, vi l1, vi (l2 + 1), vd]) ⟨Or.inr rfl, Or.inr rfl, Or.inr rfl, Or.inl rfl, trivial⟩ ?_
              exact h
            · replace h := h.2 c55
              refine wm_iload_n d_MS_choose_72 rfl rfl ?_
              refine wm_ireturn d_MS_choose_73 rfl rfl ?_
              exact ⟨_, rfl, h⟩
          clear h
          refine wm_if_eq (tgt := 66) d_MS_choose_59 rfl h47 (fun c48 => ?_) (fun c48 => ?_)
          · refine wm_iconst d_MS_choose_66 ?_
            exact hJ 0 (if_pos c48).symm
          · refine wm_iconst d_MS_choose_62 ?_
            refine wm_goto (tgt := 67) d_MS_choose_63 rfl ?_
            exact hJ 1 (if_neg c48).symm
    · replace c16 := Classical.not_not.mp c16
      replace h := h.1 c16
      refine wm_aload_n d_MS_choose_21 rfl rfl ?_
      refine wm_iload_n d_MS_choose_22 rfl rfl ?_
      refine wm_iload_n d_MS_choose_23 rfl rfl ?_
      refine cf_MS_215 rfl d_MS_choose_24 h11 (Nat.le_of_ble_eq_true rfl) (Ci.mono h (fun x18 M17 h => ?_))
      obtain ⟨h19, hOM17, h⟩ := h
      refine wm_goto (tgt := 67) d_MS_choose_27 rfl ?_
      refine wm_istore_n d_MS_choose_67 rfl (by decide) (L' := [vr a0, vi l1, vi l2, vi x18]) rfl ?_
      refine wm_iload_n d_MS_choose_68 rfl rfl ?_
      refine wm_if_eq (tgt := 74) d_MS_choose_69 rfl h19 (fun c21 => ?_) (fun c21 => ?_)
      · replace h := h.1 c21
        refine wm_iinc d_MS_choose_74 (by decide) rfl (L' := [vr a0, vi l1, vi (l2 + 1), vi x18]) rfl ?_
        refine wm_goto (tgt := 2) d_MS_choose_77 rfl ?_
        refine wm_less (L' := [vr a0, vi l1, vi (l2 + 1), vd]) ⟨Or.inr rfl, Or.inr rfl, Or.inr rfl, Or.inl rfl, trivial⟩ ?_
        exact h
      · replace h := h.2 c21
        refine wm_iload_n d_MS_choose_72 rfl rfl ?_
        refine wm_ireturn d_MS_choose_73 rfl rfl ?_
        exact ⟨_, rfl, h⟩
theorem d_MS_move_0 : decode y_MS_move.2.1 0 = .ok (.aload_n 0, 1) := dc9_42 (by decide +kernel)
theorem d_MS_move_1 : decode y_MS_move.2.1 1 = .ok (.getfield 97, 3) := dc9_180 (by decide +kernel)
theorem d_MS_move_4 : decode y_MS_move.2.1 4 = .ok (.aload_n 0, 1) := dc9_42 (by decide +kernel)
theorem d_MS_move_5 : decode y_MS_move.2.1 5 = .ok (.getfield 16, 3) := dc9_180 (by decide +kernel)
theorem d_MS_move_8 : decode y_MS_move.2.1 8 = .ok (.iload_n 1, 1) := dc9_27 (by decide +kernel)
theorem d_MS_move_9 : decode y_MS_move.2.1 9 = .ok (.iaload, 1) := dc9_46 (by decide +kernel)
theorem d_MS_move_10 : decode y_MS_move.2.1 10 = .ok (.iconst 3, 1) := dc9_6 (by decide +kernel)
theorem d_MS_move_11 : decode y_MS_move.2.1 11 = .ok (.if_icmp .ne 7, 3) := dc9_160 (by decide +kernel)
theorem d_MS_move_14 : decode y_MS_move.2.1 14 = .ok (.lconst 1, 1) := dc9_10 (by decide +kernel)
theorem d_MS_move_15 : decode y_MS_move.2.1 15 = .ok (.goto 4, 3) := dc9_167 (by decide +kernel)
theorem d_MS_move_18 : decode y_MS_move.2.1 18 = .ok (.lconst 0, 1) := dc9_9 (by decide +kernel)
theorem d_MS_move_19 : decode y_MS_move.2.1 19 = .ok (.lconst 1, 1) := dc9_10 (by decide +kernel)
theorem d_MS_move_20 : decode y_MS_move.2.1 20 = .ok (.invokevirtual 141, 3) := dc9_182 (by decide +kernel)
theorem d_MS_move_23 : decode y_MS_move.2.1 23 = .ok (.iconst 0, 1) := dc9_3 (by decide +kernel)
theorem d_MS_move_24 : decode y_MS_move.2.1 24 = .ok (.istore_n 2, 1) := dc9_61 (by decide +kernel)
theorem d_MS_move_25 : decode y_MS_move.2.1 25 = .ok (.iload_n 2, 1) := dc9_28 (by decide +kernel)
theorem d_MS_move_26 : decode y_MS_move.2.1 26 = .ok (.aload_n 0, 1) := dc9_42 (by decide +kernel)
theorem d_MS_move_27 : decode y_MS_move.2.1 27 = .ok (.iload_n 1, 1) := dc9_27 (by decide +kernel)
theorem d_MS_move_28 : decode y_MS_move.2.1 28 = .ok (.invokevirtual 116, 3) := dc9_182 (by decide +kernel)
theorem d_MS_move_31 : decode y_MS_move.2.1 31 = .ok (.if_icmp .ge 73, 3) := dc9_162 (by decide +kernel)
theorem d_MS_move_104 : decode y_MS_move.2.1 104 = .ok (.aload_n 0, 1) := dc9_42 (by decide +kernel)
theorem d_MS_move_105 : decode y_MS_move.2.1 105 = .ok (.getfield 97, 3) := dc9_180 (by decide +kernel)
theorem d_MS_move_108 : decode y_MS_move.2.1 108 = .ok (.getfield 232, 3) := dc9_180 (by decide +kernel)
theorem d_MS_move_34 : decode y_MS_move.2.1 34 = .ok (.aload_n 0, 1) := dc9_42 (by decide +kernel)
theorem d_MS_move_35 : decode y_MS_move.2.1 35 = .ok (.iload_n 1, 1) := dc9_27 (by decide +kernel)
theorem d_MS_move_36 : decode y_MS_move.2.1 36 = .ok (.iload_n 2, 1) := dc9_28 (by decide +kernel)
theorem d_MS_move_37 : decode y_MS_move.2.1 37 = .ok (.aload_n 0, 1) := dc9_42 (by decide +kernel)
theorem d_MS_move_38 : decode y_MS_move.2.1 38 = .ok (.getfield 69, 3) := dc9_180 (by decide +kernel)
theorem d_MS_move_41 : decode y_MS_move.2.1 41 = .ok (.iconst 0, 1) := dc9_3 (by decide +kernel)
theorem d_MS_move_42 : decode y_MS_move.2.1 42 = .ok (.iconst 1, 1) := dc9_4 (by decide +kernel)
theorem d_MS_move_111 : decode y_MS_move.2.1 111 = .ok (.invokevirtual 236, 3) := dc9_182 (by decide +kernel)
theorem d_MS_move_114 : decode y_MS_move.2.1 114 = .ok (.sipush 480, 3) := dc9_17 (by decide +kernel)
theorem d_MS_move_117 : decode y_MS_move.2.1 117 = .ok (.if_icmp .gt 23, 3) := dc9_163 (by decide +kernel)
theorem d_MS_move_120 : decode y_MS_move.2.1 120 = .ok (.aload_n 0, 1) := dc9_42 (by decide +kernel)
theorem d_MS_move_121 : decode y_MS_move.2.1 121 = .ok (.getfield 97, 3) := dc9_180 (by decide +kernel)
theorem d_MS_move_124 : decode y_MS_move.2.1 124 = .ok (.getfield 241, 3) := dc9_180 (by decide +kernel)
theorem d_MS_move_140 : decode y_MS_move.2.1 140 = .ok (.iconst 0, 1) := dc9_3 (by decide +kernel)
theorem d_MS_move_127 : decode y_MS_move.2.1 127 = .ok (.invokevirtual 236, 3) := dc9_182 (by decide +kernel)
theorem d_MS_move_130 : decode y_MS_move.2.1 130 = .ok (.sipush 480, 3) := dc9_17 (by decide +kernel)
theorem d_MS_move_133 : decode y_MS_move.2.1 133 = .ok (.if_icmp .gt 7, 3) := dc9_163 (by decide +kernel)
theorem d_MS_move_136 : decode y_MS_move.2.1 136 = .ok (.iconst 1, 1) := dc9_4 (by decide +kernel)
theorem d_MS_move_137 : decode y_MS_move.2.1 137 = .ok (.goto 4, 3) := dc9_167 (by decide +kernel)
theorem d_MS_move_43 : decode y_MS_move.2.1 43 = .ok (.invokevirtual 190, 3) := dc9_182 (by decide +kernel)
theorem d_MS_move_46 : decode y_MS_move.2.1 46 = .ok (.aload_n 0, 1) := dc9_42 (by decide +kernel)
theorem d_MS_move_47 : decode y_MS_move.2.1 47 = .ok (.getfield 10, 3) := dc9_180 (by decide +kernel)
theorem d_MS_move_50 : decode y_MS_move.2.1 50 = .ok (.aload_n 0, 1) := dc9_42 (by decide +kernel)
theorem d_MS_move_51 : decode y_MS_move.2.1 51 = .ok (.getfield 91, 3) := dc9_180 (by decide +kernel)
theorem d_MS_move_54 : decode y_MS_move.2.1 54 = .ok (.aload_n 0, 1) := dc9_42 (by decide +kernel)
theorem d_MS_move_55 : decode y_MS_move.2.1 55 = .ok (.getfield 97, 3) := dc9_180 (by decide +kernel)
theorem d_MS_move_58 : decode y_MS_move.2.1 58 = .ok (.invokevirtual 194, 3) := dc9_182 (by decide +kernel)
theorem d_MS_move_61 : decode y_MS_move.2.1 61 = .ok (.istore_n 3, 1) := dc9_62 (by decide +kernel)
theorem d_MS_move_62 : decode y_MS_move.2.1 62 = .ok (.iload_n 2, 1) := dc9_28 (by decide +kernel)
theorem d_MS_move_63 : decode y_MS_move.2.1 63 = .ok (.ifCond .eq 24, 3) := dc9_153 (by decide +kernel)
theorem d_MS_move_66 : decode y_MS_move.2.1 66 = .ok (.aload_n 0, 1) := dc9_42 (by decide +kernel)
theorem d_MS_move_67 : decode y_MS_move.2.1 67 = .ok (.getfield 16, 3) := dc9_180 (by decide +kernel)
theorem d_MS_move_70 : decode y_MS_move.2.1 70 = .ok (.iload_n 1, 1) := dc9_27 (by decide +kernel)
theorem d_MS_move_71 : decode y_MS_move.2.1 71 = .ok (.iaload, 1) := dc9_46 (by decide +kernel)
theorem d_MS_move_72 : decode y_MS_move.2.1 72 = .ok (.iconst 1, 1) := dc9_4 (by decide +kernel)
theorem d_MS_move_73 : decode y_MS_move.2.1 73 = .ok (.if_icmp .ne 10, 3) := dc9_160 (by decide +kernel)
theorem d_MS_move_76 : decode y_MS_move.2.1 76 = .ok (.iload_n 3, 1) := dc9_29 (by decide +kernel)
theorem d_MS_move_83 : decode y_MS_move.2.1 83 = .ok (.iload_n 3, 1) := dc9_29 (by decide +kernel)
theorem d_MS_move_77 : decode y_MS_move.2.1 77 = .ok (.ifCond .le 21, 3) := dc9_158 (by decide +kernel)
theorem d_MS_move_80 : decode y_MS_move.2.1 80 = .ok (.goto 7, 3) := dc9_167 (by decide +kernel)
theorem d_MS_move_87 : decode y_MS_move.2.1 87 = .ok (.aload_n 0, 1) := dc9_42 (by decide +kernel)
theorem d_MS_move_88 : decode y_MS_move.2.1 88 = .ok (.getfield 97, 3) := dc9_180 (by decide +kernel)
theorem d_MS_move_91 : decode y_MS_move.2.1 91 = .ok (.aload_n 0, 1) := dc9_42 (by decide +kernel)
theorem d_MS_move_92 : decode y_MS_move.2.1 92 = .ok (.getfield 91, 3) := dc9_180 (by decide +kernel)
theorem d_MS_move_84 : decode y_MS_move.2.1 84 = .ok (.ifCond .ge 14, 3) := dc9_156 (by decide +kernel)
theorem d_MS_move_95 : decode y_MS_move.2.1 95 = .ok (.invokevirtual 152, 3) := dc9_182 (by decide +kernel)
theorem d_MS_move_98 : decode y_MS_move.2.1 98 = .ok (.iinc 2 1, 3) := by decide +kernel
theorem d_MS_move_101 : decode y_MS_move.2.1 101 = .ok (.goto (-76), 3) := dc9_167 (by decide +kernel)
theorem d_MS_move_141 : decode y_MS_move.2.1 141 = .ok (.istore_n 2, 1) := dc9_61 (by decide +kernel)
theorem d_MS_move_142 : decode y_MS_move.2.1 142 = .ok (.iload_n 2, 1) := dc9_28 (by decide +kernel)
theorem d_MS_move_143 : decode y_MS_move.2.1 143 = .ok (.ifCond .eq 16, 3) := dc9_153 (by decide +kernel)
theorem d_MS_move_146 : decode y_MS_move.2.1 146 = .ok (.aload_n 0, 1) := dc9_42 (by decide +kernel)
theorem d_MS_move_147 : decode y_MS_move.2.1 147 = .ok (.getfield 48, 3) := dc9_180 (by decide +kernel)
theorem d_MS_move_150 : decode y_MS_move.2.1 150 = .ok (.iload_n 1, 1) := dc9_27 (by decide +kernel)
theorem d_MS_move_151 : decode y_MS_move.2.1 151 = .ok (.aaload, 1) := dc9_50 (by decide +kernel)
theorem d_MS_move_152 : decode y_MS_move.2.1 152 = .ok (.aload_n 0, 1) := dc9_42 (by decide +kernel)
theorem d_MS_move_153 : decode y_MS_move.2.1 153 = .ok (.getfield 97, 3) := dc9_180 (by decide +kernel)
theorem d_MS_move_159 : decode y_MS_move.2.1 159 = .ok (.iload_n 2, 1) := dc9_28 (by decide +kernel)
theorem d_MS_move_160 : decode y_MS_move.2.1 160 = .ok (.ireturn, 1) := dc9_172 (by decide +kernel)
theorem d_MS_move_156 : decode y_MS_move.2.1 156 = .ok (.invokevirtual 152, 3) := dc9_182 (by decide +kernel)
def h_MS_move_25 (G : mG) (d : Nat) (a0 : Nat) (l1 : Int) (l2 : Int) (M : mM) (Q : Int → mM → Prop) : Prop := mWm G y_MS_move (d + 1) 25 [vr a0, vi l1, vi l2, vd] [] M (fun r9 M9 => ∃ x9, r9 = some (vi x9) ∧ Q x9 M9)
def h_MS_move_98 (G : mG) (d : Nat) (a0 : Nat) (l1 : Int) (l2 : Int) (M : mM) (Q : Int → mM → Prop) : Prop := mWm G y_MS_move (d + 1) 98 [vr a0, vi l1, vi l2, vd] [] M (fun r9 M9 => ∃ x9, r9 = some (vi x9) ∧ Q x9 M9)
def h_MS_move_141 (G : mG) (d : Nat) (a0 : Nat) (l1 : Int) (k0 : Int) (M : mM) (Q : Int → mM → Prop) : Prop := mWm G y_MS_move (d + 1) 141 [vr a0, vi l1, vd, vd] [vi k0] M (fun r9 M9 => ∃ x9, r9 = some (vi x9) ∧ Q x9 M9)
theorem k_MS_move {G : mG} {d : Nat} {a0 : Nat} {l1 : Int} {M : mM} {Q : Int → mM → Prop} (hO : mOk M) (hi_l1 : i32 l1)
    (h : mK M a0 = 17 ∧ mK M (mR M a0 4) = 30 ∧ ((0 : Int) ≤ l1 ∧ l1 < (mN M (mR M a0 4) : Int)) ∧ ∀ v5 : Int, v5 = (if (mI M (mR M a0 4) (Int.toNat l1) = 3) then 1 else 0) → mK M (mR M a0 30) = 19 ∧ Cv G y_MF_set d [vr (mR M a0 30), vl v5, vl 1] M (fun M10 => mOk M10 ∧ (h_MS_move_25 G d a0 l1 0 M10 Q))) :
    Ci G y_MS_move (d + 1) [vr a0, vi l1] M Q := by
  refine wm_open (y := y_MS_move) rfl (Nat.le_of_ble_eq_true rfl) (L := [vr a0, vi l1, vd, vd]) rfl ?_
  obtain ⟨h1, h⟩ := h
  obtain ⟨h2, h⟩ := h
  obtain ⟨h3, h⟩ := h
  refine wm_aload_n d_MS_move_0 rfl rfl ?_
  refine gf_MS_97 rfl d_MS_move_1 h1 ?_
  refine wm_aload_n d_MS_move_4 rfl rfl ?_
  refine gf_MS_16 rfl d_MS_move_5 h1 ?_
  refine wm_iload_n d_MS_move_8 rfl rfl ?_
  refine wm_iald d_MS_move_9 h2 h3 ?_
  refine wm_iconst d_MS_move_10 ?_
  have hJ : ∀ v5 : Int, v5 = (if (mI M (mR M a0 4) (Int.toNat l1) = 3) then 1 else 0) → mWm G y_MS_move (d + 1) 19 [vr a0, vi l1, vd, vd] [vl v5, vr (mR M a0 30)] M (fun r9 M9 => ∃ x9, r9 = some (vi x9) ∧ Q x9 M9) := by
    intro v5 e7
    have h := h v5 e7
    have h8 : (v5 = 0 ∨ v5 = 1) := by rw [e7]; (repeat' split) <;> decide
    obtain ⟨h9, h⟩ := h
    refine wm_lconst (x := 1) d_MS_move_19 rfl ?_
    refine cf_MS_141 rfl d_MS_move_20 h9 (Nat.le_of_ble_eq_true rfl) (Cv.mono h (fun M10 h => ?_))
    obtain ⟨hOM10, h⟩ := h
    refine wm_iconst d_MS_move_23 ?_
    refine wm_istore_n d_MS_move_24 rfl (by decide) (L' := [vr a0, vi l1, vi 0, vd]) rfl ?_
    exact h
  clear h
  refine wm_icmp_ne (tgt := 18) d_MS_move_11 rfl (hO _ _).1 ⟨by decide, by decide⟩ (fun c4 => ?_) (fun c4 => ?_)
  · refine wm_lconst (x := 0) d_MS_move_18 rfl ?_
    exact hJ 0 (if_neg c4).symm
  · replace c4 := Classical.not_not.mp c4
    refine wm_lconst (x := 1) d_MS_move_14 rfl ?_
    refine wm_goto (tgt := 19) d_MS_move_15 rfl ?_
    exact hJ 1 (if_pos c4).symm
theorem k_MS_move_25 {G : mG} {d : Nat} {a0 : Nat} {l1 : Int} {l2 : Int} {M : mM} {Q : Int → mM → Prop} (hO : mOk M) (hi_l1 : i32 l1) (hi_l2 : i32 l2)
    (h : mK M a0 = 17 ∧ Ci G y_MS_many d [vr a0, vi l1] M (fun x16 M15 => i32 x16 ∧ mOk M15 ∧ (((x16 ≤ l2) → (mK M15 a0 = 17 ∧ mK M15 (mR M15 a0 30) = 19 ∧ mK M15 (mR M15 (mR M15 a0 30) 0) = 20 ∧ Ci G y_MW_places d [vr (mR M15 (mR M15 a0 30) 0)] M15 (fun x24 M23 => i32 x24 ∧ mOk M23 ∧ (((480 < x24) → (h_MS_move_141 G d a0 l1 0 M23 Q)) ∧ (¬ (480 < x24) → (mK M23 a0 = 17 ∧ mK M23 (mR M23 a0 30) = 19 ∧ mK M23 (mR M23 (mR M23 a0 30) 1) = 20 ∧ Ci G y_MW_places d [vr (mR M23 (mR M23 a0 30) 1)] M23 (fun x32 M31 => i32 x32 ∧ mOk M31 ∧ (((480 < x32) → (h_MS_move_141 G d a0 l1 0 M31 Q)) ∧ (¬ (480 < x32) → (h_MS_move_141 G d a0 l1 1 M31 Q)))))))))) ∧ (¬ (x16 ≤ l2) → (mK M15 a0 = 17 ∧ Cv G y_MS_worthOf d [vr a0, vi l1, vi l2, vr (mR M15 a0 21), vi 0, vi 1] M15 (fun M37 => mOk M37 ∧ (mK M37 a0 = 17 ∧ mK M37 (mR M37 a0 0) = 18 ∧ Ci G y_MU_compare d [vr (mR M37 a0 0), vr (mR M37 a0 28), vr (mR M37 a0 30)] M37 (fun x43 M42 => i32 x43 ∧ mOk M42 ∧ (((l2 = 0) → (mK M42 a0 = 17 ∧ mK M42 (mR M42 a0 30) = 19 ∧ Cv G y_MF_copy d [vr (mR M42 a0 30), vr (mR M42 a0 28)] M42 (fun M57 => mOk M57 ∧ (h_MS_move_98 G d a0 l1 l2 M57 Q)))) ∧ (¬ (l2 = 0) → (mK M42 a0 = 17 ∧ mK M42 (mR M42 a0 4) = 30 ∧ ((0 : Int) ≤ l1 ∧ l1 < (mN M42 (mR M42 a0 4) : Int)) ∧ ((mI M42 (mR M42 a0 4) (Int.toNat l1) = 1) → (((x43 ≤ 0) → (h_MS_move_98 G d a0 l1 l2 M42 Q)) ∧ (¬ (x43 ≤ 0) → (mK M42 (mR M42 a0 30) = 19 ∧ Cv G y_MF_copy d [vr (mR M42 a0 30), vr (mR M42 a0 28)] M42 (fun M72 => mOk M72 ∧ (h_MS_move_98 G d a0 l1 l2 M72 Q)))))) ∧ (¬ (mI M42 (mR M42 a0 4) (Int.toNat l1) = 1) → (((0 ≤ x43) → (h_MS_move_98 G d a0 l1 l2 M42 Q)) ∧ (¬ (0 ≤ x43) → (mK M42 (mR M42 a0 30) = 19 ∧ Cv G y_MF_copy d [vr (mR M42 a0 30), vr (mR M42 a0 28)] M42 (fun M78 => mOk M78 ∧ (h_MS_move_98 G d a0 l1 l2 M78 Q))))))))))))))))) :
    h_MS_move_25 G d a0 l1 l2 M Q := by
  unfold h_MS_move_25
  obtain ⟨h14, h⟩ := h
  refine wm_iload_n d_MS_move_25 rfl rfl ?_
  refine wm_aload_n d_MS_move_26 rfl rfl ?_
  refine wm_iload_n d_MS_move_27 rfl rfl ?_
  refine cf_MS_116 rfl d_MS_move_28 h14 (Nat.le_of_ble_eq_true rfl) (Ci.mono h (fun x16 M15 h => ?_))
  obtain ⟨h17, hOM15, h⟩ := h
  refine wm_icmp_ge (tgt := 104) d_MS_move_31 rfl hi_l2 h17 (fun c19 => ?_) (fun c19 => ?_)
  · replace h := h.1 c19
    obtain ⟨h20, h⟩ := h
    obtain ⟨h21, h⟩ := h
    obtain ⟨h22, h⟩ := h
    refine wm_aload_n d_MS_move_104 rfl rfl ?_
    refine gf_MS_97 rfl d_MS_move_105 h20 ?_
    refine gf_MS_232 rfl d_MS_move_108 h21 ?_
    refine cf_MS_236 rfl d_MS_move_111 h22 (Nat.le_of_ble_eq_true rfl) (Ci.mono h (fun x24 M23 h => ?_))
    obtain ⟨h25, hOM23, h⟩ := h
    refine wm_sipush d_MS_move_114 (by decide) ?_
    refine wm_icmp_gt (tgt := 140) d_MS_move_117 rfl h25 ⟨by decide, by decide⟩ (fun c27 => ?_) (fun c27 => ?_)
    · replace h := h.1 c27
      refine wm_iconst d_MS_move_140 ?_
      refine wm_less (L' := [vr a0, vi l1, vd, vd]) ⟨Or.inr rfl, Or.inr rfl, Or.inl rfl, Or.inl rfl, trivial⟩ ?_
      exact h
    · replace h := h.2 c27
      obtain ⟨h28, h⟩ := h
      obtain ⟨h29, h⟩ := h
      obtain ⟨h30, h⟩ := h
      refine wm_aload_n d_MS_move_120 rfl rfl ?_
      refine gf_MS_97 rfl d_MS_move_121 h28 ?_
      refine gf_MS_241 rfl d_MS_move_124 h29 ?_
      refine cf_MS_236 rfl d_MS_move_127 h30 (Nat.le_of_ble_eq_true rfl) (Ci.mono h (fun x32 M31 h => ?_))
      obtain ⟨h33, hOM31, h⟩ := h
      refine wm_sipush d_MS_move_130 (by decide) ?_
      refine wm_icmp_gt (tgt := 140) d_MS_move_133 rfl h33 ⟨by decide, by decide⟩ (fun c35 => ?_) (fun c35 => ?_)
      · replace h := h.1 c35
        refine wm_iconst d_MS_move_140 ?_
        refine wm_less (L' := [vr a0, vi l1, vd, vd]) ⟨Or.inr rfl, Or.inr rfl, Or.inl rfl, Or.inl rfl, trivial⟩ ?_
        exact h
      · replace h := h.2 c35
        refine wm_iconst d_MS_move_136 ?_
        refine wm_goto (tgt := 141) d_MS_move_137 rfl ?_
        refine wm_less (L' := [vr a0, vi l1, vd, vd]) ⟨Or.inr rfl, Or.inr rfl, Or.inl rfl, Or.inl rfl, trivial⟩ ?_
        exact h
  · replace h := h.2 c19
    obtain ⟨h36, h⟩ := h
    refine wm_aload_n d_MS_move_34 rfl rfl ?_
    refine wm_iload_n d_MS_move_35 rfl rfl ?_
    refine wm_iload_n d_MS_move_36 rfl rfl ?_
    refine wm_aload_n d_MS_move_37 rfl rfl ?_
    refine gf_MS_69 rfl d_MS_move_38 h36 ?_
    refine wm_iconst d_MS_move_41 ?_
    refine wm_iconst d_MS_move_42 ?_
    refine cf_MS_190 rfl d_MS_move_43 h36 (Nat.le_of_ble_eq_true rfl) (Cv.mono h (fun M37 h => ?_))
    obtain ⟨hOM37, h⟩ := h
    obtain ⟨h40, h⟩ := h
    obtain ⟨h41, h⟩ := h
    refine wm_aload_n d_MS_move_46 rfl rfl ?_
    refine gf_MS_10 rfl d_MS_move_47 h40 ?_
    refine wm_aload_n d_MS_move_50 rfl rfl ?_
    refine gf_MS_91 rfl d_MS_move_51 h40 ?_
    refine wm_aload_n d_MS_move_54 rfl rfl ?_
    refine gf_MS_97 rfl d_MS_move_55 h40 ?_
    refine cf_MS_194 rfl d_MS_move_58 h41 (Nat.le_of_ble_eq_true rfl) (Ci.mono h (fun x43 M42 h => ?_))
    obtain ⟨h44, hOM42, h⟩ := h
    refine wm_istore_n d_MS_move_61 rfl (by decide) (L' := [vr a0, vi l1, vi l2, vi x43]) rfl ?_
    refine wm_iload_n d_MS_move_62 rfl rfl ?_
    refine wm_if_eq (tgt := 87) d_MS_move_63 rfl hi_l2 (fun c54 => ?_) (fun c54 => ?_)
    · replace h := h.1 c54
      obtain ⟨h55, h⟩ := h
      obtain ⟨h56, h⟩ := h
      refine wm_aload_n d_MS_move_87 rfl rfl ?_
      refine gf_MS_97 rfl d_MS_move_88 h55 ?_
      refine wm_aload_n d_MS_move_91 rfl rfl ?_
      refine gf_MS_91 rfl d_MS_move_92 h55 ?_
      refine cf_MS_152 rfl d_MS_move_95 h56 (Nat.le_of_ble_eq_true rfl) (Cv.mono h (fun M57 h => ?_))
      obtain ⟨hOM57, h⟩ := h
      refine wm_less (L' := [vr a0, vi l1, vi l2, vd]) ⟨Or.inr rfl, Or.inr rfl, Or.inr rfl, Or.inl rfl, trivial⟩ ?_
      exact h
    · replace h := h.2 c54
      obtain ⟨h60, h⟩ := h
      obtain ⟨h61, h⟩ := h
      obtain ⟨h62, h⟩ := h
      refine wm_aload_n d_MS_move_66 rfl rfl ?_
      refine gf_MS_16 rfl d_MS_move_67 h60 ?_
      refine wm_iload_n d_MS_move_70 rfl rfl ?_
      refine wm_iald d_MS_move_71 h61 h62 ?_
      refine wm_iconst d_MS_move_72 ?_
      refine wm_icmp_ne (tgt := 83) d_MS_move_73 rfl (hOM42 _ _).1 ⟨by decide, by decide⟩ (fun c68 => ?_) (fun c68 => ?_)
      · replace h := h.2 c68
        refine wm_iload_n d_MS_move_83 rfl rfl ?_
        refine wm_if_ge (tgt := 98) d_MS_move_84 rfl h44 (fun c76 => ?_) (fun c76 => ?_)
        · replace h := h.1 c76
          refine wm_less (L' := [vr a0, vi l1, vi l2, vd]) ⟨Or.inr rfl, Or.inr rfl, Or.inr rfl, Or.inl rfl, trivial⟩ ?_
          exact h
        · replace h := h.2 c76
          obtain ⟨h77, h⟩ := h
          refine wm_aload_n d_MS_move_87 rfl rfl ?_
          refine gf_MS_97 rfl d_MS_move_88 h60 ?_
          refine wm_aload_n d_MS_move_91 rfl rfl ?_
          refine gf_MS_91 rfl d_MS_move_92 h60 ?_
          refine cf_MS_152 rfl d_MS_move_95 h77 (Nat.le_of_ble_eq_true rfl) (Cv.mono h (fun M78 h => ?_))
          obtain ⟨hOM78, h⟩ := h
          refine wm_less (L' := [vr a0, vi l1, vi l2, vd]) ⟨Or.inr rfl, Or.inr rfl, Or.inr rfl, Or.inl rfl, trivial⟩ ?_
          exact h
      · replace c68 := Classical.not_not.mp c68
        replace h := h.1 c68
        refine wm_iload_n d_MS_move_76 rfl rfl ?_
        refine wm_if_le (tgt := 98) d_MS_move_77 rfl h44 (fun c70 => ?_) (fun c70 => ?_)
        · replace h := h.1 c70
          refine wm_less (L' := [vr a0, vi l1, vi l2, vd]) ⟨Or.inr rfl, Or.inr rfl, Or.inr rfl, Or.inl rfl, trivial⟩ ?_
          exact h
        · replace h := h.2 c70
          obtain ⟨h71, h⟩ := h
          refine wm_goto (tgt := 87) d_MS_move_80 rfl ?_
          refine wm_aload_n d_MS_move_87 rfl rfl ?_
          refine gf_MS_97 rfl d_MS_move_88 h60 ?_
          refine wm_aload_n d_MS_move_91 rfl rfl ?_
          refine gf_MS_91 rfl d_MS_move_92 h60 ?_
          refine cf_MS_152 rfl d_MS_move_95 h71 (Nat.le_of_ble_eq_true rfl) (Cv.mono h (fun M72 h => ?_))
          obtain ⟨hOM72, h⟩ := h
          refine wm_less (L' := [vr a0, vi l1, vi l2, vd]) ⟨Or.inr rfl, Or.inr rfl, Or.inr rfl, Or.inl rfl, trivial⟩ ?_
          exact h
theorem k_MS_move_98 {G : mG} {d : Nat} {a0 : Nat} {l1 : Int} {l2 : Int} {M : mM} {Q : Int → mM → Prop} (hO : mOk M) (hi_l1 : i32 l1) (hi_l2 : i32 l2)
    (h : h_MS_move_25 G d a0 l1 (l2 + 1) M Q) :
    h_MS_move_98 G d a0 l1 l2 M Q := by
  unfold h_MS_move_98
  refine wm_iinc d_MS_move_98 (by decide) rfl (L' := [vr a0, vi l1, vi (l2 + 1), vd]) rfl ?_
  refine wm_goto (tgt := 25) d_MS_move_101 rfl ?_
  exact h
theorem k_MS_move_141 {G : mG} {d : Nat} {a0 : Nat} {l1 : Int} {k0 : Int} {M : mM} {Q : Int → mM → Prop} (hO : mOk M) (hi_l1 : i32 l1) (hi_k0 : i32 k0)
    (h : ((k0 = 0) → ((k0 = 0 ∨ k0 = 1) ∧ Q k0 M)) ∧ (¬ (k0 = 0) → (mK M a0 = 17 ∧ mK M (mR M a0 13) = 36 ∧ ((0 : Int) ≤ l1 ∧ l1 < (mN M (mR M a0 13) : Int)) ∧ mK M (mR M (mR M a0 13) (Int.toNat l1)) = 19 ∧ Cv G y_MF_copy d [vr (mR M (mR M a0 13) (Int.toNat l1)), vr (mR M a0 30)] M (fun M92 => mOk M92 ∧ ((k0 = 0 ∨ k0 = 1) ∧ Q k0 M92))))) :
    h_MS_move_141 G d a0 l1 k0 M Q := by
  unfold h_MS_move_141
  refine wm_istore_n d_MS_move_141 rfl (by decide) (L' := [vr a0, vi l1, vi k0, vd]) rfl ?_
  refine wm_iload_n d_MS_move_142 rfl rfl ?_
  refine wm_if_eq (tgt := 159) d_MS_move_143 rfl hi_k0 (fun c86 => ?_) (fun c86 => ?_)
  · replace h := h.1 c86
    obtain ⟨h87, h⟩ := h
    refine wm_iload_n d_MS_move_159 rfl rfl ?_
    refine wm_ireturn d_MS_move_160 rfl (m_nb h87) ?_
    exact ⟨_, rfl, h⟩
  · replace h := h.2 c86
    obtain ⟨h88, h⟩ := h
    obtain ⟨h89, h⟩ := h
    obtain ⟨h90, h⟩ := h
    obtain ⟨h91, h⟩ := h
    refine wm_aload_n d_MS_move_146 rfl rfl ?_
    refine gf_MS_48 rfl d_MS_move_147 h88 ?_
    refine wm_iload_n d_MS_move_150 rfl rfl ?_
    refine wm_aald6 d_MS_move_151 h89 h90 ?_
    refine wm_aload_n d_MS_move_152 rfl rfl ?_
    refine gf_MS_97 rfl d_MS_move_153 h88 ?_
    refine cf_MS_152 rfl d_MS_move_156 h91 (Nat.le_of_ble_eq_true rfl) (Cv.mono h (fun M92 h => ?_))
    obtain ⟨hOM92, h⟩ := h
    obtain ⟨h95, h⟩ := h
    refine wm_iload_n d_MS_move_159 rfl rfl ?_
    refine wm_ireturn d_MS_move_160 rfl (m_nb h95) ?_
    exact ⟨_, rfl, h⟩
end
section
theorem d_MS_within_0 : decode y_MS_within.2.1 0 = .ok (.aload_n 0, 1) := dc9_42 (by decide +kernel)
theorem d_MS_within_1 : decode y_MS_within.2.1 1 = .ok (.getfield 44, 3) := dc9_180 (by decide +kernel)
theorem d_MS_within_4 : decode y_MS_within.2.1 4 = .ok (.iconst 1, 1) := dc9_4 (by decide +kernel)
theorem d_MS_within_5 : decode y_MS_within.2.1 5 = .ok (.iconst 0, 1) := dc9_3 (by decide +kernel)
theorem d_MS_within_6 : decode y_MS_within.2.1 6 = .ok (.bastore, 1) := dc9_84 (by decide +kernel)
theorem d_MS_within_7 : decode y_MS_within.2.1 7 = .ok (.iconst 0, 1) := dc9_3 (by decide +kernel)
theorem d_MS_within_8 : decode y_MS_within.2.1 8 = .ok (.istore_n 2, 1) := dc9_61 (by decide +kernel)
theorem d_MS_within_9 : decode y_MS_within.2.1 9 = .ok (.iload_n 2, 1) := dc9_28 (by decide +kernel)
theorem d_MS_within_10 : decode y_MS_within.2.1 10 = .ok (.aload_n 0, 1) := dc9_42 (by decide +kernel)
theorem d_MS_within_11 : decode y_MS_within.2.1 11 = .ok (.getfield 103, 3) := dc9_180 (by decide +kernel)
theorem d_MS_within_14 : decode y_MS_within.2.1 14 = .ok (.if_icmp .ge 34, 3) := dc9_162 (by decide +kernel)
theorem d_MS_within_48 : decode y_MS_within.2.1 48 = .ok (.iconst 0, 1) := dc9_3 (by decide +kernel)
theorem d_MS_within_49 : decode y_MS_within.2.1 49 = .ok (.istore_n 2, 1) := dc9_61 (by decide +kernel)
theorem d_MS_within_17 : decode y_MS_within.2.1 17 = .ok (.aload_n 0, 1) := dc9_42 (by decide +kernel)
theorem d_MS_within_18 : decode y_MS_within.2.1 18 = .ok (.getfield 69, 3) := dc9_180 (by decide +kernel)
theorem d_MS_within_21 : decode y_MS_within.2.1 21 = .ok (.iload_n 2, 1) := dc9_28 (by decide +kernel)
theorem d_MS_within_22 : decode y_MS_within.2.1 22 = .ok (.aaload, 1) := dc9_50 (by decide +kernel)
theorem d_MS_within_23 : decode y_MS_within.2.1 23 = .ok (.aload_n 0, 1) := dc9_42 (by decide +kernel)
theorem d_MS_within_24 : decode y_MS_within.2.1 24 = .ok (.getfield 16, 3) := dc9_180 (by decide +kernel)
theorem d_MS_within_27 : decode y_MS_within.2.1 27 = .ok (.iload_n 2, 1) := dc9_28 (by decide +kernel)
theorem d_MS_within_28 : decode y_MS_within.2.1 28 = .ok (.iaload, 1) := dc9_46 (by decide +kernel)
theorem d_MS_within_29 : decode y_MS_within.2.1 29 = .ok (.iconst 3, 1) := dc9_6 (by decide +kernel)
theorem d_MS_within_30 : decode y_MS_within.2.1 30 = .ok (.if_icmp .ne 7, 3) := dc9_160 (by decide +kernel)
theorem d_MS_within_33 : decode y_MS_within.2.1 33 = .ok (.lconst 1, 1) := dc9_10 (by decide +kernel)
theorem d_MS_within_34 : decode y_MS_within.2.1 34 = .ok (.goto 4, 3) := dc9_167 (by decide +kernel)
theorem d_MS_within_37 : decode y_MS_within.2.1 37 = .ok (.lconst 0, 1) := dc9_9 (by decide +kernel)
theorem d_MS_within_38 : decode y_MS_within.2.1 38 = .ok (.lconst 1, 1) := dc9_10 (by decide +kernel)
theorem d_MS_within_39 : decode y_MS_within.2.1 39 = .ok (.invokevirtual 141, 3) := dc9_182 (by decide +kernel)
theorem d_MS_within_42 : decode y_MS_within.2.1 42 = .ok (.iinc 2 1, 3) := by decide +kernel
theorem d_MS_within_45 : decode y_MS_within.2.1 45 = .ok (.goto (-36), 3) := dc9_167 (by decide +kernel)
theorem d_MS_within_50 : decode y_MS_within.2.1 50 = .ok (.iload_n 2, 1) := dc9_28 (by decide +kernel)
theorem d_MS_within_51 : decode y_MS_within.2.1 51 = .ok (.iload_n 1, 1) := dc9_27 (by decide +kernel)
theorem d_MS_within_52 : decode y_MS_within.2.1 52 = .ok (.if_icmp .ge 67, 3) := dc9_162 (by decide +kernel)
theorem d_MS_within_119 : decode y_MS_within.2.1 119 = .ok (.iconst 0, 1) := dc9_3 (by decide +kernel)
theorem d_MS_within_120 : decode y_MS_within.2.1 120 = .ok (.istore_n 2, 1) := dc9_61 (by decide +kernel)
theorem d_MS_within_55 : decode y_MS_within.2.1 55 = .ok (.iconst 0, 1) := dc9_3 (by decide +kernel)
theorem d_MS_within_56 : decode y_MS_within.2.1 56 = .ok (.istore_n 3, 1) := dc9_62 (by decide +kernel)
theorem d_MS_within_57 : decode y_MS_within.2.1 57 = .ok (.iload_n 3, 1) := dc9_29 (by decide +kernel)
theorem d_MS_within_58 : decode y_MS_within.2.1 58 = .ok (.aload_n 0, 1) := dc9_42 (by decide +kernel)
theorem d_MS_within_59 : decode y_MS_within.2.1 59 = .ok (.getfield 103, 3) := dc9_180 (by decide +kernel)
theorem d_MS_within_62 : decode y_MS_within.2.1 62 = .ok (.if_icmp .ge 20, 3) := dc9_162 (by decide +kernel)
theorem d_MS_within_82 : decode y_MS_within.2.1 82 = .ok (.iconst 0, 1) := dc9_3 (by decide +kernel)
theorem d_MS_within_83 : decode y_MS_within.2.1 83 = .ok (.istore_n 3, 1) := dc9_62 (by decide +kernel)
theorem d_MS_within_65 : decode y_MS_within.2.1 65 = .ok (.aload_n 0, 1) := dc9_42 (by decide +kernel)
theorem d_MS_within_66 : decode y_MS_within.2.1 66 = .ok (.iload_n 3, 1) := dc9_29 (by decide +kernel)
theorem d_MS_within_67 : decode y_MS_within.2.1 67 = .ok (.invokevirtual 244, 3) := dc9_182 (by decide +kernel)
theorem d_MS_within_70 : decode y_MS_within.2.1 70 = .ok (.ifCond .ne 6, 3) := dc9_154 (by decide +kernel)
theorem d_MS_within_73 : decode y_MS_within.2.1 73 = .ok (.bipush 6, 2) := dc9_16 (by decide +kernel)
theorem d_MS_within_75 : decode y_MS_within.2.1 75 = .ok (.ireturn, 1) := dc9_172 (by decide +kernel)
theorem d_MS_within_76 : decode y_MS_within.2.1 76 = .ok (.iinc 3 1, 3) := by decide +kernel
theorem d_MS_within_79 : decode y_MS_within.2.1 79 = .ok (.goto (-22), 3) := dc9_167 (by decide +kernel)
theorem d_MS_within_84 : decode y_MS_within.2.1 84 = .ok (.iload_n 3, 1) := dc9_29 (by decide +kernel)
theorem d_MS_within_85 : decode y_MS_within.2.1 85 = .ok (.aload_n 0, 1) := dc9_42 (by decide +kernel)
theorem d_MS_within_86 : decode y_MS_within.2.1 86 = .ok (.getfield 103, 3) := dc9_180 (by decide +kernel)
theorem d_MS_within_89 : decode y_MS_within.2.1 89 = .ok (.if_icmp .ge 24, 3) := dc9_162 (by decide +kernel)
theorem d_MS_within_113 : decode y_MS_within.2.1 113 = .ok (.iinc 2 1, 3) := by decide +kernel
theorem d_MS_within_116 : decode y_MS_within.2.1 116 = .ok (.goto (-66), 3) := dc9_167 (by decide +kernel)
theorem d_MS_within_92 : decode y_MS_within.2.1 92 = .ok (.aload_n 0, 1) := dc9_42 (by decide +kernel)
theorem d_MS_within_93 : decode y_MS_within.2.1 93 = .ok (.getfield 69, 3) := dc9_180 (by decide +kernel)
theorem d_MS_within_96 : decode y_MS_within.2.1 96 = .ok (.iload_n 3, 1) := dc9_29 (by decide +kernel)
theorem d_MS_within_97 : decode y_MS_within.2.1 97 = .ok (.aaload, 1) := dc9_50 (by decide +kernel)
theorem d_MS_within_98 : decode y_MS_within.2.1 98 = .ok (.aload_n 0, 1) := dc9_42 (by decide +kernel)
theorem d_MS_within_99 : decode y_MS_within.2.1 99 = .ok (.getfield 48, 3) := dc9_180 (by decide +kernel)
theorem d_MS_within_102 : decode y_MS_within.2.1 102 = .ok (.iload_n 3, 1) := dc9_29 (by decide +kernel)
theorem d_MS_within_103 : decode y_MS_within.2.1 103 = .ok (.aaload, 1) := dc9_50 (by decide +kernel)
theorem d_MS_within_104 : decode y_MS_within.2.1 104 = .ok (.invokevirtual 152, 3) := dc9_182 (by decide +kernel)
theorem d_MS_within_107 : decode y_MS_within.2.1 107 = .ok (.iinc 3 1, 3) := by decide +kernel
theorem d_MS_within_110 : decode y_MS_within.2.1 110 = .ok (.goto (-26), 3) := dc9_167 (by decide +kernel)
theorem d_MS_within_121 : decode y_MS_within.2.1 121 = .ok (.iload_n 2, 1) := dc9_28 (by decide +kernel)
theorem d_MS_within_122 : decode y_MS_within.2.1 122 = .ok (.aload_n 0, 1) := dc9_42 (by decide +kernel)
theorem d_MS_within_123 : decode y_MS_within.2.1 123 = .ok (.getfield 103, 3) := dc9_180 (by decide +kernel)
theorem d_MS_within_126 : decode y_MS_within.2.1 126 = .ok (.if_icmp .ge 28, 3) := dc9_162 (by decide +kernel)
theorem d_MS_within_154 : decode y_MS_within.2.1 154 = .ok (.aload_n 0, 1) := dc9_42 (by decide +kernel)
theorem d_MS_within_155 : decode y_MS_within.2.1 155 = .ok (.getfield 44, 3) := dc9_180 (by decide +kernel)
theorem d_MS_within_158 : decode y_MS_within.2.1 158 = .ok (.iconst 1, 1) := dc9_4 (by decide +kernel)
theorem d_MS_within_159 : decode y_MS_within.2.1 159 = .ok (.iconst 1, 1) := dc9_4 (by decide +kernel)
theorem d_MS_within_160 : decode y_MS_within.2.1 160 = .ok (.bastore, 1) := dc9_84 (by decide +kernel)
theorem d_MS_within_161 : decode y_MS_within.2.1 161 = .ok (.iconst 0, 1) := dc9_3 (by decide +kernel)
theorem d_MS_within_162 : decode y_MS_within.2.1 162 = .ok (.ireturn, 1) := dc9_172 (by decide +kernel)
theorem d_MS_within_129 : decode y_MS_within.2.1 129 = .ok (.aload_n 0, 1) := dc9_42 (by decide +kernel)
theorem d_MS_within_130 : decode y_MS_within.2.1 130 = .ok (.getfield 40, 3) := dc9_180 (by decide +kernel)
theorem d_MS_within_133 : decode y_MS_within.2.1 133 = .ok (.iconst 3, 1) := dc9_6 (by decide +kernel)
theorem d_MS_within_134 : decode y_MS_within.2.1 134 = .ok (.iload_n 2, 1) := dc9_28 (by decide +kernel)
theorem d_MS_within_135 : decode y_MS_within.2.1 135 = .ok (.imul, 1) := dc9_104 (by decide +kernel)
theorem d_MS_within_136 : decode y_MS_within.2.1 136 = .ok (.iconst 1, 1) := dc9_4 (by decide +kernel)
theorem d_MS_within_137 : decode y_MS_within.2.1 137 = .ok (.iadd, 1) := dc9_96 (by decide +kernel)
theorem d_MS_within_138 : decode y_MS_within.2.1 138 = .ok (.aaload, 1) := dc9_50 (by decide +kernel)
theorem d_MS_within_139 : decode y_MS_within.2.1 139 = .ok (.aload_n 0, 1) := dc9_42 (by decide +kernel)
theorem d_MS_within_140 : decode y_MS_within.2.1 140 = .ok (.getfield 69, 3) := dc9_180 (by decide +kernel)
theorem d_MS_within_143 : decode y_MS_within.2.1 143 = .ok (.iload_n 2, 1) := dc9_28 (by decide +kernel)
theorem d_MS_within_144 : decode y_MS_within.2.1 144 = .ok (.aaload, 1) := dc9_50 (by decide +kernel)
theorem d_MS_within_145 : decode y_MS_within.2.1 145 = .ok (.invokevirtual 152, 3) := dc9_182 (by decide +kernel)
theorem d_MS_within_148 : decode y_MS_within.2.1 148 = .ok (.iinc 2 1, 3) := by decide +kernel
theorem d_MS_within_151 : decode y_MS_within.2.1 151 = .ok (.goto (-30), 3) := dc9_167 (by decide +kernel)
def h_MS_within_9 (G : mG) (d : Nat) (a0 : Nat) (l1 : Int) (l2 : Int) (M : mM) (Q : Int → mM → Prop) : Prop := mWm G y_MS_within (d + 1) 9 [vr a0, vi l1, vi l2, vd] [] M (fun r9 M9 => ∃ x9, r9 = some (vi x9) ∧ Q x9 M9)
def h_MS_within_50 (G : mG) (d : Nat) (a0 : Nat) (l1 : Int) (l2 : Int) (M : mM) (Q : Int → mM → Prop) : Prop := mWm G y_MS_within (d + 1) 50 [vr a0, vi l1, vi l2, vd] [] M (fun r9 M9 => ∃ x9, r9 = some (vi x9) ∧ Q x9 M9)
def h_MS_within_57 (G : mG) (d : Nat) (a0 : Nat) (l1 : Int) (l2 : Int) (l3 : Int) (M : mM) (Q : Int → mM → Prop) : Prop := mWm G y_MS_within (d + 1) 57 [vr a0, vi l1, vi l2, vi l3] [] M (fun r9 M9 => ∃ x9, r9 = some (vi x9) ∧ Q x9 M9)
def h_MS_within_84 (G : mG) (d : Nat) (a0 : Nat) (l1 : Int) (l2 : Int) (l3 : Int) (M : mM) (Q : Int → mM → Prop) : Prop := mWm G y_MS_within (d + 1) 84 [vr a0, vi l1, vi l2, vi l3] [] M (fun r9 M9 => ∃ x9, r9 = some (vi x9) ∧ Q x9 M9)
def h_MS_within_121 (G : mG) (d : Nat) (a0 : Nat) (l2 : Int) (M : mM) (Q : Int → mM → Prop) : Prop := mWm G y_MS_within (d + 1) 121 [vr a0, vd, vi l2, vd] [] M (fun r9 M9 => ∃ x9, r9 = some (vi x9) ∧ Q x9 M9)
theorem k_MS_within {G : mG} {d : Nat} {a0 : Nat} {l1 : Int} {M : mM} {Q : Int → mM → Prop} (hO : mOk M) (hi_l1 : i32 l1)
    (h : mK M a0 = 17 ∧ mK M (mR M a0 12) = 31 ∧ ((0 : Int) ≤ 1 ∧ 1 < (mN M (mR M a0 12) : Int)) ∧ ∀ M4, M4 = mUI M (mR M a0 12) 1 0 → h_MS_within_9 G d a0 l1 0 M4 Q) :
    Ci G y_MS_within (d + 1) [vr a0, vi l1] M Q := by
  refine wm_open (y := y_MS_within) rfl (Nat.le_of_ble_eq_true rfl) (L := [vr a0, vi l1, vd, vd]) rfl ?_
  obtain ⟨h1, h⟩ := h
  obtain ⟨h2, h⟩ := h
  obtain ⟨h3, h⟩ := h
  obtain ⟨M4, e5⟩ : ∃ M4, M4 = mUI M (mR M a0 12) 1 0 := ⟨_, rfl⟩
  replace h := h M4 e5
  refine wm_aload_n d_MS_within_0 rfl rfl ?_
  refine gf_MS_44 rfl d_MS_within_1 h1 ?_
  refine wm_iconst d_MS_within_4 ?_
  refine wm_iconst d_MS_within_5 ?_
  have hOM4 : mOk M4 := by rw [e5]; exact mOk_UI hO (m_b32 (by decide))
  refine wm_zastE d_MS_within_6 h2 h3 (by decide) e5 ?_
  refine wm_iconst d_MS_within_7 ?_
  refine wm_istore_n d_MS_within_8 rfl (by decide) (L' := [vr a0, vi l1, vi 0, vd]) rfl ?_
  exact h
theorem k_MS_within_9 {G : mG} {d : Nat} {a0 : Nat} {l1 : Int} {l2 : Int} {M : mM} {Q : Int → mM → Prop} (hO : mOk M) (hi_l1 : i32 l1) (hi_l2 : i32 l2)
    (h : mK M a0 = 17 ∧ ((mI M a0 1 ≤ l2) → (h_MS_within_50 G d a0 l1 0 M Q)) ∧ (¬ (mI M a0 1 ≤ l2) → (mK M (mR M a0 21) = 36 ∧ ((0 : Int) ≤ l2 ∧ l2 < (mN M (mR M a0 21) : Int)) ∧ mK M (mR M a0 4) = 30 ∧ ((0 : Int) ≤ l2 ∧ l2 < (mN M (mR M a0 4) : Int)) ∧ ∀ v18 : Int, v18 = (if (mI M (mR M a0 4) (Int.toNat l2) = 3) then 1 else 0) → mK M (mR M (mR M a0 21) (Int.toNat l2)) = 19 ∧ Cv G y_MF_set d [vr (mR M (mR M a0 21) (Int.toNat l2)), vl v18, vl 1] M (fun M23 => mOk M23 ∧ (h_MS_within_9 G d a0 l1 (l2 + 1) M23 Q))))) :
    h_MS_within_9 G d a0 l1 l2 M Q := by
  unfold h_MS_within_9
  obtain ⟨h6, h⟩ := h
  refine wm_iload_n d_MS_within_9 rfl rfl ?_
  refine wm_aload_n d_MS_within_10 rfl rfl ?_
  refine gf_MS_103 rfl d_MS_within_11 h6 ?_
  refine wm_icmp_ge (tgt := 48) d_MS_within_14 rfl hi_l2 (hO _ _).1 (fun c12 => ?_) (fun c12 => ?_)
  · replace h := h.1 c12
    refine wm_iconst d_MS_within_48 ?_
    refine wm_istore_n d_MS_within_49 rfl (by decide) (L' := [vr a0, vi l1, vi 0, vd]) rfl ?_
    exact h
  · replace h := h.2 c12
    obtain ⟨h13, h⟩ := h
    obtain ⟨h14, h⟩ := h
    obtain ⟨h15, h⟩ := h
    obtain ⟨h16, h⟩ := h
    refine wm_aload_n d_MS_within_17 rfl rfl ?_
    refine gf_MS_69 rfl d_MS_within_18 h6 ?_
    refine wm_iload_n d_MS_within_21 rfl rfl ?_
    refine wm_aald6 d_MS_within_22 h13 h14 ?_
    refine wm_aload_n d_MS_within_23 rfl rfl ?_
    refine gf_MS_16 rfl d_MS_within_24 h6 ?_
    refine wm_iload_n d_MS_within_27 rfl rfl ?_
    refine wm_iald d_MS_within_28 h15 h16 ?_
    refine wm_iconst d_MS_within_29 ?_
    have hJ : ∀ v18 : Int, v18 = (if (mI M (mR M a0 4) (Int.toNat l2) = 3) then 1 else 0) → mWm G y_MS_within (d + 1) 38 [vr a0, vi l1, vi l2, vd] [vl v18, vr (mR M (mR M a0 21) (Int.toNat l2))] M (fun r9 M9 => ∃ x9, r9 = some (vi x9) ∧ Q x9 M9) := by
      intro v18 e20
      have h := h v18 e20
      have h21 : (v18 = 0 ∨ v18 = 1) := by rw [e20]; (repeat' split) <;> decide
      obtain ⟨h22, h⟩ := h
      refine wm_lconst (x := 1) d_MS_within_38 rfl ?_
      refine cf_MS_141 rfl d_MS_within_39 h22 (Nat.le_of_ble_eq_true rfl) (Cv.mono h (fun M23 h => ?_))
      obtain ⟨hOM23, h⟩ := h
      refine wm_iinc d_MS_within_42 (by decide) rfl (L' := [vr a0, vi l1, vi (l2 + 1), vd]) rfl ?_
      refine wm_goto (tgt := 9) d_MS_within_45 rfl ?_
      exact h
    clear h
    refine wm_icmp_ne (tgt := 37) d_MS_within_30 rfl (hO _ _).1 ⟨by decide, by decide⟩ (fun c17 => ?_) (fun c17 => ?_)
    · refine wm_lconst (x := 0) d_MS_within_37 rfl ?_
      exact hJ 0 (if_neg c17).symm
    · replace c17 := Classical.not_not.mp c17
      refine wm_lconst (x := 1) d_MS_within_33 rfl ?_
      refine wm_goto (tgt := 38) d_MS_within_34 rfl ?_
      exact hJ 1 (if_pos c17).symm
theorem k_MS_within_50 {G : mG} {d : Nat} {a0 : Nat} {l1 : Int} {l2 : Int} {M : mM} {Q : Int → mM → Prop} (hO : mOk M) (hi_l1 : i32 l1) (hi_l2 : i32 l2)
    (h : ((l1 ≤ l2) → (h_MS_within_121 G d a0 0 M Q)) ∧ (¬ (l1 ≤ l2) → (h_MS_within_57 G d a0 l1 l2 0 M Q))) :
    h_MS_within_50 G d a0 l1 l2 M Q := by
  unfold h_MS_within_50
  refine wm_iload_n d_MS_within_50 rfl rfl ?_
  refine wm_iload_n d_MS_within_51 rfl rfl ?_
  refine wm_icmp_ge (tgt := 119) d_MS_within_52 rfl hi_l2 hi_l1 (fun c28 => ?_) (fun c28 => ?_)
  · replace h := h.1 c28
    refine wm_iconst d_MS_within_119 ?_
    refine wm_istore_n d_MS_within_120 rfl (by decide) (L' := [vr a0, vi l1, vi 0, vd]) rfl ?_
    refine wm_less (L' := [vr a0, vd, vi 0, vd]) ⟨Or.inr rfl, Or.inl rfl, Or.inr rfl, Or.inl rfl, trivial⟩ ?_
    exact h
  · replace h := h.2 c28
    refine wm_iconst d_MS_within_55 ?_
    refine wm_istore_n d_MS_within_56 rfl (by decide) (L' := [vr a0, vi l1, vi l2, vi 0]) rfl ?_
    exact h
theorem k_MS_within_57 {G : mG} {d : Nat} {a0 : Nat} {l1 : Int} {l2 : Int} {l3 : Int} {M : mM} {Q : Int → mM → Prop} (hO : mOk M) (hi_l1 : i32 l1) (hi_l2 : i32 l2) (hi_l3 : i32 l3)
    (h : mK M a0 = 17 ∧ ((mI M a0 1 ≤ l3) → (h_MS_within_84 G d a0 l1 l2 0 M Q)) ∧ (¬ (mI M a0 1 ≤ l3) → (Ci G y_MS_move d [vr a0, vi l3] M (fun x33 M32 => i32 x33 ∧ mOk M32 ∧ (((x33 = 0) → (Q 6 M32)) ∧ (¬ (x33 = 0) → (h_MS_within_57 G d a0 l1 l2 (l3 + 1) M32 Q))))))) :
    h_MS_within_57 G d a0 l1 l2 l3 M Q := by
  unfold h_MS_within_57
  obtain ⟨h29, h⟩ := h
  refine wm_iload_n d_MS_within_57 rfl rfl ?_
  refine wm_aload_n d_MS_within_58 rfl rfl ?_
  refine gf_MS_103 rfl d_MS_within_59 h29 ?_
  refine wm_icmp_ge (tgt := 82) d_MS_within_62 rfl hi_l3 (hO _ _).1 (fun c31 => ?_) (fun c31 => ?_)
  · replace h := h.1 c31
    refine wm_iconst d_MS_within_82 ?_
    refine wm_istore_n d_MS_within_83 rfl (by decide) (L' := [vr a0, vi l1, vi l2, vi 0]) rfl ?_
    exact h
  · replace h := h.2 c31
    refine wm_aload_n d_MS_within_65 rfl rfl ?_
    refine wm_iload_n d_MS_within_66 rfl rfl ?_
    refine cf_MS_244 rfl d_MS_within_67 h29 (Nat.le_of_ble_eq_true rfl) (Ci.mono h (fun x33 M32 h => ?_))
    obtain ⟨h34, hOM32, h⟩ := h
    refine wm_if_ne (tgt := 76) d_MS_within_70 rfl h34 (fun c36 => ?_) (fun c36 => ?_)
    · replace h := h.2 c36
      refine wm_iinc d_MS_within_76 (by decide) rfl (L' := [vr a0, vi l1, vi l2, vi (l3 + 1)]) rfl ?_
      refine wm_goto (tgt := 57) d_MS_within_79 rfl ?_
      exact h
    · replace c36 := Classical.not_not.mp c36
      replace h := h.1 c36
      refine wm_bipush d_MS_within_73 (by decide) ?_
      refine wm_ireturn d_MS_within_75 rfl rfl ?_
      exact ⟨_, rfl, h⟩
theorem k_MS_within_84 {G : mG} {d : Nat} {a0 : Nat} {l1 : Int} {l2 : Int} {l3 : Int} {M : mM} {Q : Int → mM → Prop} (hO : mOk M) (hi_l1 : i32 l1) (hi_l2 : i32 l2) (hi_l3 : i32 l3)
    (h : mK M a0 = 17 ∧ ((mI M a0 1 ≤ l3) → (h_MS_within_50 G d a0 l1 (l2 + 1) M Q)) ∧ (¬ (mI M a0 1 ≤ l3) → (mK M (mR M a0 21) = 36 ∧ ((0 : Int) ≤ l3 ∧ l3 < (mN M (mR M a0 21) : Int)) ∧ mK M (mR M a0 13) = 36 ∧ ((0 : Int) ≤ l3 ∧ l3 < (mN M (mR M a0 13) : Int)) ∧ mK M (mR M (mR M a0 21) (Int.toNat l3)) = 19 ∧ Cv G y_MF_copy d [vr (mR M (mR M a0 21) (Int.toNat l3)), vr (mR M (mR M a0 13) (Int.toNat l3))] M (fun M45 => mOk M45 ∧ (h_MS_within_84 G d a0 l1 l2 (l3 + 1) M45 Q))))) :
    h_MS_within_84 G d a0 l1 l2 l3 M Q := by
  unfold h_MS_within_84
  obtain ⟨h37, h⟩ := h
  refine wm_iload_n d_MS_within_84 rfl rfl ?_
  refine wm_aload_n d_MS_within_85 rfl rfl ?_
  refine gf_MS_103 rfl d_MS_within_86 h37 ?_
  refine wm_icmp_ge (tgt := 113) d_MS_within_89 rfl hi_l3 (hO _ _).1 (fun c39 => ?_) (fun c39 => ?_)
  · replace h := h.1 c39
    refine wm_iinc d_MS_within_113 (by decide) rfl (L' := [vr a0, vi l1, vi (l2 + 1), vi l3]) rfl ?_
    refine wm_goto (tgt := 50) d_MS_within_116 rfl ?_
    refine wm_less (L' := [vr a0, vi l1, vi (l2 + 1), vd]) ⟨Or.inr rfl, Or.inr rfl, Or.inr rfl, Or.inl rfl, trivial⟩ ?_
    exact h
  · replace h := h.2 c39
    obtain ⟨h40, h⟩ := h
    obtain ⟨h41, h⟩ := h
    obtain ⟨h42, h⟩ := h
    obtain ⟨h43, h⟩ := h
    obtain ⟨h44, h⟩ := h
    refine wm_aload_n d_MS_within_92 rfl rfl ?_
    refine gf_MS_69 rfl d_MS_within_93 h37 ?_
    refine wm_iload_n d_MS_within_96 rfl rfl ?_
    refine wm_aald6 d_MS_within_97 h40 h41 ?_
    refine wm_aload_n d_MS_within_98 rfl rfl ?_
    refine gf_MS_48 rfl d_MS_within_99 h37 ?_
    refine wm_iload_n d_MS_within_102 rfl rfl ?_
    refine wm_aald6 d_MS_within_103 h42 h43 ?_
    refine cf_MS_152 rfl d_MS_within_104 h44 (Nat.le_of_ble_eq_true rfl) (Cv.mono h (fun M45 h => ?_))
    obtain ⟨hOM45, h⟩ := h
    refine wm_iinc d_MS_within_107 (by decide) rfl (L' := [vr a0, vi l1, vi l2, vi (l3 + 1)]) rfl ?_
    refine wm_goto (tgt := 84) d_MS_within_110 rfl ?_
    exact h
theorem k_MS_within_121 {G : mG} {d : Nat} {a0 : Nat} {l2 : Int} {M : mM} {Q : Int → mM → Prop} (hO : mOk M) (hi_l2 : i32 l2)
    (h : mK M a0 = 17 ∧ ((mI M a0 1 ≤ l2) → (mK M (mR M a0 12) = 31 ∧ ((0 : Int) ≤ 1 ∧ 1 < (mN M (mR M a0 12) : Int)) ∧ ∀ M55, M55 = mUI M (mR M a0 12) 1 1 → Q 0 M55)) ∧ (¬ (mI M a0 1 ≤ l2) → (mK M (mR M a0 11) = 36 ∧ ((0 : Int) ≤ (3 * l2) + 1 ∧ (3 * l2) + 1 < (mN M (mR M a0 11) : Int)) ∧ mK M (mR M a0 21) = 36 ∧ ((0 : Int) ≤ l2 ∧ l2 < (mN M (mR M a0 21) : Int)) ∧ mK M (mR M (mR M a0 11) (Int.toNat ((3 * l2) + 1))) = 19 ∧ Cv G y_MF_copy d [vr (mR M (mR M a0 11) (Int.toNat ((3 * l2) + 1))), vr (mR M (mR M a0 21) (Int.toNat l2))] M (fun M62 => mOk M62 ∧ (h_MS_within_121 G d a0 (l2 + 1) M62 Q))))) :
    h_MS_within_121 G d a0 l2 M Q := by
  unfold h_MS_within_121
  obtain ⟨h48, h⟩ := h
  refine wm_iload_n d_MS_within_121 rfl rfl ?_
  refine wm_aload_n d_MS_within_122 rfl rfl ?_
  refine gf_MS_103 rfl d_MS_within_123 h48 ?_
  refine wm_icmp_ge (tgt := 154) d_MS_within_126 rfl hi_l2 (hO _ _).1 (fun c52 => ?_) (fun c52 => ?_)
  · replace h := h.1 c52
    obtain ⟨h53, h⟩ := h
    obtain ⟨h54, h⟩ := h
    obtain ⟨M55, e56⟩ : ∃ M55, M55 = mUI M (mR M a0 12) 1 1 := ⟨_, rfl⟩
    replace h := h M55 e56
    refine wm_aload_n d_MS_within_154 rfl rfl ?_
    refine gf_MS_44 rfl d_MS_within_155 h48 ?_
    refine wm_iconst d_MS_within_158 ?_
    refine wm_iconst d_MS_within_159 ?_
    have hOM55 : mOk M55 := by rw [e56]; exact mOk_UI hO (m_b32 (by decide))
    refine wm_zastE d_MS_within_160 h53 h54 (by decide) e56 ?_
    refine wm_iconst d_MS_within_161 ?_
    refine wm_ireturn d_MS_within_162 rfl rfl ?_
    exact ⟨_, rfl, h⟩
  · replace h := h.2 c52
    obtain ⟨h57, h⟩ := h
    obtain ⟨h58, h⟩ := h
    obtain ⟨h59, h⟩ := h
    obtain ⟨h60, h⟩ := h
    obtain ⟨h61, h⟩ := h
    refine wm_aload_n d_MS_within_129 rfl rfl ?_
    refine gf_MS_40 rfl d_MS_within_130 h48 ?_
    refine wm_iconst d_MS_within_133 ?_
    refine wm_iload_n d_MS_within_134 rfl rfl ?_
    refine wm_imul d_MS_within_135 ?_
    refine wm_iconst d_MS_within_136 ?_
    refine wm_iadd d_MS_within_137 ?_
    refine wm_aald6 d_MS_within_138 h57 h58 ?_
    refine wm_aload_n d_MS_within_139 rfl rfl ?_
    refine gf_MS_69 rfl d_MS_within_140 h48 ?_
    refine wm_iload_n d_MS_within_143 rfl rfl ?_
    refine wm_aald6 d_MS_within_144 h59 h60 ?_
    refine cf_MS_152 rfl d_MS_within_145 h61 (Nat.le_of_ble_eq_true rfl) (Cv.mono h (fun M62 h => ?_))
    obtain ⟨hOM62, h⟩ := h
    refine wm_iinc d_MS_within_148 (by decide) rfl (L' := [vr a0, vd, vi (l2 + 1), vd]) rfl ?_
    refine wm_goto (tgt := 121) d_MS_within_151 rfl ?_
    exact h
theorem d_MS_isThere_0 : decode y_MS_isThere.2.1 0 = .ok (.iload_n 1, 1) := dc9_27 (by decide +kernel)
theorem d_MS_isThere_1 : decode y_MS_isThere.2.1 1 = .ok (.ifCond .lt 33, 3) := dc9_155 (by decide +kernel)
theorem d_MS_isThere_34 : decode y_MS_isThere.2.1 34 = .ok (.iconst 0, 1) := dc9_3 (by decide +kernel)
theorem d_MS_isThere_4 : decode y_MS_isThere.2.1 4 = .ok (.iload_n 1, 1) := dc9_27 (by decide +kernel)
theorem d_MS_isThere_5 : decode y_MS_isThere.2.1 5 = .ok (.aload_n 0, 1) := dc9_42 (by decide +kernel)
theorem d_MS_isThere_6 : decode y_MS_isThere.2.1 6 = .ok (.getfield 103, 3) := dc9_180 (by decide +kernel)
theorem d_MS_isThere_9 : decode y_MS_isThere.2.1 9 = .ok (.if_icmp .ge 25, 3) := dc9_162 (by decide +kernel)
theorem d_MS_isThere_12 : decode y_MS_isThere.2.1 12 = .ok (.iload_n 2, 1) := dc9_28 (by decide +kernel)
theorem d_MS_isThere_13 : decode y_MS_isThere.2.1 13 = .ok (.ifCond .lt 21, 3) := dc9_155 (by decide +kernel)
theorem d_MS_isThere_16 : decode y_MS_isThere.2.1 16 = .ok (.iload_n 2, 1) := dc9_28 (by decide +kernel)
theorem d_MS_isThere_17 : decode y_MS_isThere.2.1 17 = .ok (.iconst 2, 1) := dc9_5 (by decide +kernel)
theorem d_MS_isThere_18 : decode y_MS_isThere.2.1 18 = .ok (.if_icmp .gt 16, 3) := dc9_163 (by decide +kernel)
theorem d_MS_isThere_21 : decode y_MS_isThere.2.1 21 = .ok (.aload_n 0, 1) := dc9_42 (by decide +kernel)
theorem d_MS_isThere_22 : decode y_MS_isThere.2.1 22 = .ok (.getfield 44, 3) := dc9_180 (by decide +kernel)
theorem d_MS_isThere_25 : decode y_MS_isThere.2.1 25 = .ok (.iload_n 2, 1) := dc9_28 (by decide +kernel)
theorem d_MS_isThere_26 : decode y_MS_isThere.2.1 26 = .ok (.baload, 1) := dc9_51 (by decide +kernel)
theorem d_MS_isThere_27 : decode y_MS_isThere.2.1 27 = .ok (.ifCond .eq 7, 3) := dc9_153 (by decide +kernel)
theorem d_MS_isThere_30 : decode y_MS_isThere.2.1 30 = .ok (.iconst 1, 1) := dc9_4 (by decide +kernel)
theorem d_MS_isThere_31 : decode y_MS_isThere.2.1 31 = .ok (.goto 4, 3) := dc9_167 (by decide +kernel)
theorem d_MS_isThere_35 : decode y_MS_isThere.2.1 35 = .ok (.ireturn, 1) := dc9_172 (by decide +kernel)
theorem k_MS_isThere {G : mG} {d : Nat} {a0 : Nat} {l1 : Int} {l2 : Int} {M : mM} {Q : Int → mM → Prop} (hO : mOk M) (hi_l1 : i32 l1) (hi_l2 : i32 l2)
    (h : (¬ (l1 < 0) → (mK M a0 = 17 ∧ (¬ (mI M a0 1 ≤ l1) → (¬ (l2 < 0) → (¬ (2 < l2) → (mK M (mR M a0 12) = 31 ∧ ((0 : Int) ≤ l2 ∧ l2 < (mN M (mR M a0 12) : Int)))))))) ∧ ∀ v9 : Int, v9 = (if ((l1 < 0) ∨ ((mI M a0 1 ≤ l1) ∨ ((l2 < 0) ∨ ((2 < l2) ∨ (mI M (mR M a0 12) (Int.toNat l2) = 0))))) then 0 else 1) → Q v9 M) :
    Ci G y_MS_isThere d [vr a0, vi l1, vi l2] M Q := by
  refine wm_open (y := y_MS_isThere) rfl (Nat.le_of_ble_eq_true rfl) (L := [vr a0, vi l1, vi l2]) rfl ?_
  refine wm_iload_n d_MS_isThere_0 rfl rfl ?_
  obtain ⟨s10, h⟩ := h
  have hJ : ∀ v9 : Int, v9 = (if ((l1 < 0) ∨ ((mI M a0 1 ≤ l1) ∨ ((l2 < 0) ∨ ((2 < l2) ∨ (mI M (mR M a0 12) (Int.toNat l2) = 0))))) then 0 else 1) → mWm G y_MS_isThere d 35 [vd, vd, vd] [vi v9] M (fun r9 M9 => ∃ x9, r9 = some (vi x9) ∧ Q x9 M9) := by
    intro v9 e11
    have h := h v9 e11
    have h12 : i32 v9 := by rw [e11]; (repeat' split) <;> first | exact ⟨by decide, by decide⟩ | exact ⟨by decide, by decide⟩
    have h13 : (v9 = 0 ∨ v9 = 1) := by rw [e11]; (repeat' split) <;> decide
    refine wm_ireturn d_MS_isThere_35 rfl (m_nb h13) ?_
    exact ⟨_, rfl, h⟩
  clear h
  have s14 := s10
  refine wm_if_lt (tgt := 34) d_MS_isThere_1 rfl hi_l1 (fun c1 => ?_) (fun c1 => ?_)
  · refine wm_iconst d_MS_isThere_34 ?_
    refine wm_less (L' := [vd, vd, vd]) ⟨Or.inl rfl, Or.inl rfl, Or.inl rfl, trivial⟩ ?_
    exact hJ 0 (if_pos (Or.inl c1)).symm
  · have s14 := s14 c1
    obtain ⟨h2, s15⟩ := s14
    refine wm_iload_n d_MS_isThere_4 rfl rfl ?_
    refine wm_aload_n d_MS_isThere_5 rfl rfl ?_
    refine gf_MS_103 rfl d_MS_isThere_6 h2 ?_
    refine wm_icmp_ge (tgt := 34) d_MS_isThere_9 rfl hi_l1 (hO _ _).1 (fun c3 => ?_) (fun c3 => ?_)
    · refine wm_iconst d_MS_isThere_34 ?_
      refine wm_less (L' := [vd, vd, vd]) ⟨Or.inl rfl, Or.inl rfl, Or.inl rfl, trivial⟩ ?_
      exact hJ 0 (if_pos (Or.inr (Or.inl c3))).symm
    · have s15 := s15 c3
      have s16 := s15
      refine wm_iload_n d_MS_isThere_12 rfl rfl ?_
      refine wm_if_lt (tgt := 34) d_MS_isThere_13 rfl hi_l2 (fun c4 => ?_) (fun c4 => ?_)
      · refine wm_iconst d_MS_isThere_34 ?_
        refine wm_less (L' := [vd, vd, vd]) ⟨Or.inl rfl, Or.inl rfl, Or.inl rfl, trivial⟩ ?_
        exact hJ 0 (if_pos (Or.inr (Or.inr (Or.inl c4)))).symm
      · have s16 := s16 c4
        have s17 := s16
        refine wm_iload_n d_MS_isThere_16 rfl rfl ?_
        refine wm_iconst d_MS_isThere_17 ?_
        refine wm_icmp_gt (tgt := 34) d_MS_isThere_18 rfl hi_l2 ⟨by decide, by decide⟩ (fun c5 => ?_) (fun c5 => ?_)
        · refine wm_iconst d_MS_isThere_34 ?_
          refine wm_less (L' := [vd, vd, vd]) ⟨Or.inl rfl, Or.inl rfl, Or.inl rfl, trivial⟩ ?_
          exact hJ 0 (if_pos (Or.inr (Or.inr (Or.inr (Or.inl c5))))).symm
        · have s17 := s17 c5
          obtain ⟨h6, h7⟩ := s17
          refine wm_aload_n d_MS_isThere_21 rfl rfl ?_
          refine gf_MS_44 rfl d_MS_isThere_22 h2 ?_
          refine wm_iload_n d_MS_isThere_25 rfl rfl ?_
          refine wm_zald d_MS_isThere_26 h6 h7 ?_
          refine wm_if_eq (tgt := 34) d_MS_isThere_27 rfl (hO _ _).1 (fun c8 => ?_) (fun c8 => ?_)
          · refine wm_iconst d_MS_isThere_34 ?_
            refine wm_less (L' := [vd, vd, vd]) ⟨Or.inl rfl, Or.inl rfl, Or.inl rfl, trivial⟩ ?_
            exact hJ 0 (if_pos (Or.inr (Or.inr (Or.inr (Or.inr c8))))).symm
          · refine wm_iconst d_MS_isThere_30 ?_
            refine wm_goto (tgt := 35) d_MS_isThere_31 rfl ?_
            refine wm_less (L' := [vd, vd, vd]) ⟨Or.inl rfl, Or.inl rfl, Or.inl rfl, trivial⟩ ?_
            exact hJ 1 (if_neg (fun z18 => Or.elim z18 c1 (fun z19 => Or.elim z19 c3 (fun z20 => Or.elim z20 c4 (fun z21 => Or.elim z21 c5 c8))))).symm
theorem d_MS_compare_0 : decode y_MS_compare.2.1 0 = .ok (.aload_n 0, 1) := dc9_42 (by decide +kernel)
theorem d_MS_compare_1 : decode y_MS_compare.2.1 1 = .ok (.getfield 10, 3) := dc9_180 (by decide +kernel)
theorem d_MS_compare_4 : decode y_MS_compare.2.1 4 = .ok (.aload_n 0, 1) := dc9_42 (by decide +kernel)
theorem d_MS_compare_5 : decode y_MS_compare.2.1 5 = .ok (.getfield 40, 3) := dc9_180 (by decide +kernel)
theorem d_MS_compare_8 : decode y_MS_compare.2.1 8 = .ok (.iconst 3, 1) := dc9_6 (by decide +kernel)
theorem d_MS_compare_9 : decode y_MS_compare.2.1 9 = .ok (.iload_n 1, 1) := dc9_27 (by decide +kernel)
theorem d_MS_compare_10 : decode y_MS_compare.2.1 10 = .ok (.imul, 1) := dc9_104 (by decide +kernel)
theorem d_MS_compare_11 : decode y_MS_compare.2.1 11 = .ok (.iload_n 2, 1) := dc9_28 (by decide +kernel)
theorem d_MS_compare_12 : decode y_MS_compare.2.1 12 = .ok (.iadd, 1) := dc9_96 (by decide +kernel)
theorem d_MS_compare_13 : decode y_MS_compare.2.1 13 = .ok (.aaload, 1) := dc9_50 (by decide +kernel)
theorem d_MS_compare_14 : decode y_MS_compare.2.1 14 = .ok (.aload_n 0, 1) := dc9_42 (by decide +kernel)
theorem d_MS_compare_15 : decode y_MS_compare.2.1 15 = .ok (.getfield 40, 3) := dc9_180 (by decide +kernel)
theorem d_MS_compare_18 : decode y_MS_compare.2.1 18 = .ok (.iconst 3, 1) := dc9_6 (by decide +kernel)
theorem d_MS_compare_19 : decode y_MS_compare.2.1 19 = .ok (.iload_n 3, 1) := dc9_29 (by decide +kernel)
theorem d_MS_compare_20 : decode y_MS_compare.2.1 20 = .ok (.imul, 1) := dc9_104 (by decide +kernel)
theorem d_MS_compare_21 : decode y_MS_compare.2.1 21 = .ok (.iload 4, 2) := dc9_21 (by decide +kernel)
theorem d_MS_compare_23 : decode y_MS_compare.2.1 23 = .ok (.iadd, 1) := dc9_96 (by decide +kernel)
theorem d_MS_compare_24 : decode y_MS_compare.2.1 24 = .ok (.aaload, 1) := dc9_50 (by decide +kernel)
theorem d_MS_compare_25 : decode y_MS_compare.2.1 25 = .ok (.invokevirtual 194, 3) := dc9_182 (by decide +kernel)
theorem d_MS_compare_28 : decode y_MS_compare.2.1 28 = .ok (.ireturn, 1) := dc9_172 (by decide +kernel)
theorem k_MS_compare {G : mG} {d : Nat} {a0 : Nat} {l1 : Int} {l2 : Int} {l3 : Int} {l4 : Int} {M : mM} {Q : Int → mM → Prop} (hO : mOk M) (hi_l1 : i32 l1) (hi_l2 : i32 l2) (hi_l3 : i32 l3) (hi_l4 : i32 l4)
    (h : mK M a0 = 17 ∧ mK M (mR M a0 11) = 36 ∧ ((0 : Int) ≤ (3 * l1) + l2 ∧ (3 * l1) + l2 < (mN M (mR M a0 11) : Int)) ∧ ((0 : Int) ≤ (3 * l3) + l4 ∧ (3 * l3) + l4 < (mN M (mR M a0 11) : Int)) ∧ mK M (mR M a0 0) = 18 ∧ Ci G y_MU_compare d [vr (mR M a0 0), vr (mR M (mR M a0 11) (Int.toNat ((3 * l1) + l2))), vr (mR M (mR M a0 11) (Int.toNat ((3 * l3) + l4)))] M (fun x7 M6 => i32 x7 ∧ mOk M6 ∧ (Q x7 M6))) :
    Ci G y_MS_compare (d + 1) [vr a0, vi l1, vi l2, vi l3, vi l4] M Q := by
  refine wm_open (y := y_MS_compare) rfl (Nat.le_of_ble_eq_true rfl) (L := [vr a0, vi l1, vi l2, vi l3, vi l4]) rfl ?_
  obtain ⟨h1, h⟩ := h
  obtain ⟨h2, h⟩ := h
  obtain ⟨h3, h⟩ := h
  obtain ⟨h4, h⟩ := h
  obtain ⟨h5, h⟩ := h
  refine wm_aload_n d_MS_compare_0 rfl rfl ?_
  refine gf_MS_10 rfl d_MS_compare_1 h1 ?_
  refine wm_aload_n d_MS_compare_4 rfl rfl ?_
  refine gf_MS_40 rfl d_MS_compare_5 h1 ?_
  refine wm_iconst d_MS_compare_8 ?_
  refine wm_iload_n d_MS_compare_9 rfl rfl ?_
  refine wm_imul d_MS_compare_10 ?_
  refine wm_iload_n d_MS_compare_11 rfl rfl ?_
  refine wm_iadd d_MS_compare_12 ?_
  refine wm_aald6 d_MS_compare_13 h2 h3 ?_
  refine wm_aload_n d_MS_compare_14 rfl rfl ?_
  refine gf_MS_40 rfl d_MS_compare_15 h1 ?_
  refine wm_iconst d_MS_compare_18 ?_
  refine wm_iload_n d_MS_compare_19 rfl rfl ?_
  refine wm_imul d_MS_compare_20 ?_
  refine wm_iload d_MS_compare_21 rfl ?_
  refine wm_iadd d_MS_compare_23 ?_
  refine wm_aald6 d_MS_compare_24 h2 h4 ?_
  refine cf_MS_194 rfl d_MS_compare_25 h5 (Nat.le_of_ble_eq_true rfl) (Ci.mono h (fun x7 M6 h => ?_))
  obtain ⟨h8, hOM6, h⟩ := h
  refine wm_ireturn d_MS_compare_28 rfl rfl ?_
  exact ⟨_, rfl, h⟩
theorem d_MS_billionths_0 : decode y_MS_billionths.2.1 0 = .ok (.aload_n 0, 1) := dc9_42 (by decide +kernel)
theorem d_MS_billionths_1 : decode y_MS_billionths.2.1 1 = .ok (.getfield 10, 3) := dc9_180 (by decide +kernel)
theorem d_MS_billionths_4 : decode y_MS_billionths.2.1 4 = .ok (.aload_n 0, 1) := dc9_42 (by decide +kernel)
theorem d_MS_billionths_5 : decode y_MS_billionths.2.1 5 = .ok (.getfield 40, 3) := dc9_180 (by decide +kernel)
theorem d_MS_billionths_8 : decode y_MS_billionths.2.1 8 = .ok (.iconst 3, 1) := dc9_6 (by decide +kernel)
theorem d_MS_billionths_9 : decode y_MS_billionths.2.1 9 = .ok (.iload_n 1, 1) := dc9_27 (by decide +kernel)
theorem d_MS_billionths_10 : decode y_MS_billionths.2.1 10 = .ok (.imul, 1) := dc9_104 (by decide +kernel)
theorem d_MS_billionths_11 : decode y_MS_billionths.2.1 11 = .ok (.iload_n 2, 1) := dc9_28 (by decide +kernel)
theorem d_MS_billionths_12 : decode y_MS_billionths.2.1 12 = .ok (.iadd, 1) := dc9_96 (by decide +kernel)
theorem d_MS_billionths_13 : decode y_MS_billionths.2.1 13 = .ok (.aaload, 1) := dc9_50 (by decide +kernel)
theorem d_MS_billionths_14 : decode y_MS_billionths.2.1 14 = .ok (.invokevirtual 247, 3) := dc9_182 (by decide +kernel)
theorem d_MS_billionths_17 : decode y_MS_billionths.2.1 17 = .ok (.ireturn, 1) := dc9_172 (by decide +kernel)
theorem k_MS_billionths {G : mG} {d : Nat} {a0 : Nat} {l1 : Int} {l2 : Int} {M : mM} {Q : Int → mM → Prop} (hO : mOk M) (hi_l1 : i32 l1) (hi_l2 : i32 l2)
    (h : mK M a0 = 17 ∧ mK M (mR M a0 11) = 36 ∧ ((0 : Int) ≤ (3 * l1) + l2 ∧ (3 * l1) + l2 < (mN M (mR M a0 11) : Int)) ∧ mK M (mR M a0 0) = 18 ∧ Ci G y_MU_billionths d [vr (mR M a0 0), vr (mR M (mR M a0 11) (Int.toNat ((3 * l1) + l2)))] M (fun x6 M5 => i32 x6 ∧ mOk M5 ∧ (Q x6 M5))) :
    Ci G y_MS_billionths (d + 1) [vr a0, vi l1, vi l2] M Q := by
  refine wm_open (y := y_MS_billionths) rfl (Nat.le_of_ble_eq_true rfl) (L := [vr a0, vi l1, vi l2]) rfl ?_
  obtain ⟨h1, h⟩ := h
  obtain ⟨h2, h⟩ := h
  obtain ⟨h3, h⟩ := h
  obtain ⟨h4, h⟩ := h
  refine wm_aload_n d_MS_billionths_0 rfl rfl ?_
  refine gf_MS_10 rfl d_MS_billionths_1 h1 ?_
  refine wm_aload_n d_MS_billionths_4 rfl rfl ?_
  refine gf_MS_40 rfl d_MS_billionths_5 h1 ?_
  refine wm_iconst d_MS_billionths_8 ?_
  refine wm_iload_n d_MS_billionths_9 rfl rfl ?_
  refine wm_imul d_MS_billionths_10 ?_
  refine wm_iload_n d_MS_billionths_11 rfl rfl ?_
  refine wm_iadd d_MS_billionths_12 ?_
  refine wm_aald6 d_MS_billionths_13 h2 h3 ?_
  refine cf_MS_247 rfl d_MS_billionths_14 h4 (Nat.le_of_ble_eq_true rfl) (Ci.mono h (fun x6 M5 h => ?_))
  obtain ⟨h7, hOM5, h⟩ := h
  refine wm_ireturn d_MS_billionths_17 rfl rfl ?_
  exact ⟨_, rfl, h⟩
theorem d_MS_say_0 : decode y_MS_say.2.1 0 = .ok (.aload_n 0, 1) := dc9_42 (by decide +kernel)
theorem d_MS_say_1 : decode y_MS_say.2.1 1 = .ok (.getfield 10, 3) := dc9_180 (by decide +kernel)
theorem d_MS_say_4 : decode y_MS_say.2.1 4 = .ok (.aload_n 1, 1) := dc9_43 (by decide +kernel)
theorem d_MS_say_5 : decode y_MS_say.2.1 5 = .ok (.aload_n 0, 1) := dc9_42 (by decide +kernel)
theorem d_MS_say_6 : decode y_MS_say.2.1 6 = .ok (.getfield 100, 3) := dc9_180 (by decide +kernel)
theorem d_MS_say_9 : decode y_MS_say.2.1 9 = .ok (.invokevirtual 251, 3) := dc9_182 (by decide +kernel)
theorem d_MS_say_12 : decode y_MS_say.2.1 12 = .ok (.istore 4, 2) := dc9_54 (by decide +kernel)
theorem d_MS_say_14 : decode y_MS_say.2.1 14 = .ok (.iconst 0, 1) := dc9_3 (by decide +kernel)
theorem d_MS_say_15 : decode y_MS_say.2.1 15 = .ok (.istore 5, 2) := dc9_54 (by decide +kernel)
theorem d_MS_say_17 : decode y_MS_say.2.1 17 = .ok (.iload 5, 2) := dc9_21 (by decide +kernel)
theorem d_MS_say_19 : decode y_MS_say.2.1 19 = .ok (.iload 4, 2) := dc9_21 (by decide +kernel)
theorem d_MS_say_21 : decode y_MS_say.2.1 21 = .ok (.if_icmp .ge 30, 3) := dc9_162 (by decide +kernel)
theorem d_MS_say_51 : decode y_MS_say.2.1 51 = .ok (.iload_n 3, 1) := dc9_29 (by decide +kernel)
theorem d_MS_say_52 : decode y_MS_say.2.1 52 = .ok (.iload 4, 2) := dc9_21 (by decide +kernel)
theorem d_MS_say_54 : decode y_MS_say.2.1 54 = .ok (.iadd, 1) := dc9_96 (by decide +kernel)
theorem d_MS_say_55 : decode y_MS_say.2.1 55 = .ok (.ireturn, 1) := dc9_172 (by decide +kernel)
theorem d_MS_say_24 : decode y_MS_say.2.1 24 = .ok (.aload_n 2, 1) := dc9_44 (by decide +kernel)
theorem d_MS_say_25 : decode y_MS_say.2.1 25 = .ok (.iload_n 3, 1) := dc9_29 (by decide +kernel)
theorem d_MS_say_26 : decode y_MS_say.2.1 26 = .ok (.iload 5, 2) := dc9_21 (by decide +kernel)
theorem d_MS_say_28 : decode y_MS_say.2.1 28 = .ok (.iadd, 1) := dc9_96 (by decide +kernel)
theorem d_MS_say_29 : decode y_MS_say.2.1 29 = .ok (.bipush 48, 2) := dc9_16 (by decide +kernel)
theorem d_MS_say_31 : decode y_MS_say.2.1 31 = .ok (.aload_n 0, 1) := dc9_42 (by decide +kernel)
theorem d_MS_say_32 : decode y_MS_say.2.1 32 = .ok (.getfield 100, 3) := dc9_180 (by decide +kernel)
theorem d_MS_say_35 : decode y_MS_say.2.1 35 = .ok (.iload 4, 2) := dc9_21 (by decide +kernel)
theorem d_MS_say_37 : decode y_MS_say.2.1 37 = .ok (.iconst 1, 1) := dc9_4 (by decide +kernel)
theorem d_MS_say_38 : decode y_MS_say.2.1 38 = .ok (.isub, 1) := dc9_100 (by decide +kernel)
theorem d_MS_say_39 : decode y_MS_say.2.1 39 = .ok (.iload 5, 2) := dc9_21 (by decide +kernel)
theorem d_MS_say_41 : decode y_MS_say.2.1 41 = .ok (.isub, 1) := dc9_100 (by decide +kernel)
theorem d_MS_say_42 : decode y_MS_say.2.1 42 = .ok (.iaload, 1) := dc9_46 (by decide +kernel)
theorem d_MS_say_43 : decode y_MS_say.2.1 43 = .ok (.iadd, 1) := dc9_96 (by decide +kernel)
theorem d_MS_say_44 : decode y_MS_say.2.1 44 = .ok (.iastore, 1) := dc9_79 (by decide +kernel)
theorem d_MS_say_45 : decode y_MS_say.2.1 45 = .ok (.iinc 5 1, 3) := by decide +kernel
theorem d_MS_say_48 : decode y_MS_say.2.1 48 = .ok (.goto (-31), 3) := dc9_167 (by decide +kernel)
def h_MS_say_17 (G : mG) (d : Nat) (a0 : Nat) (a2 : Nat) (l3 : Int) (l4 : Int) (l5 : Int) (M : mM) (Q : Int → mM → Prop) : Prop := mWm G y_MS_say (d + 1) 17 [vr a0, vd, vr a2, vi l3, vi l4, vi l5] [] M (fun r9 M9 => ∃ x9, r9 = some (vi x9) ∧ Q x9 M9)
theorem k_MS_say {G : mG} {d : Nat} {a0 : Nat} {a1 : Nat} {a2 : Nat} {l3 : Int} {M : mM} {Q : Int → mM → Prop} (hO : mOk M) (hi_l3 : i32 l3)
    (h : mK M a0 = 17 ∧ mK M (mR M a0 0) = 18 ∧ Ci G y_MU_digits d [vr (mR M a0 0), vr a1, vr (mR M a0 31)] M (fun x4 M3 => i32 x4 ∧ mOk M3 ∧ (h_MS_say_17 G d a0 a2 l3 x4 0 M3 Q))) :
    Ci G y_MS_say (d + 1) [vr a0, vr a1, vr a2, vi l3] M Q := by
  refine wm_open (y := y_MS_say) rfl (Nat.le_of_ble_eq_true rfl) (L := [vr a0, vr a1, vr a2, vi l3, vd, vd]) rfl ?_
  obtain ⟨h1, h⟩ := h
  obtain ⟨h2, h⟩ := h
  refine wm_aload_n d_MS_say_0 rfl rfl ?_
  refine gf_MS_10 rfl d_MS_say_1 h1 ?_
  refine wm_aload_n d_MS_say_4 rfl rfl ?_
  refine wm_aload_n d_MS_say_5 rfl rfl ?_
  refine gf_MS_100 rfl d_MS_say_6 h1 ?_
  refine cf_MS_251 rfl d_MS_say_9 h2 (Nat.le_of_ble_eq_true rfl) (Ci.mono h (fun x4 M3 h => ?_))
  obtain ⟨h5, hOM3, h⟩ := h
  refine wm_istore d_MS_say_12 (by decide) (L' := [vr a0, vr a1, vr a2, vi l3, vi x4, vd]) rfl ?_
  refine wm_iconst d_MS_say_14 ?_
  refine wm_istore d_MS_say_15 (by decide) (L' := [vr a0, vr a1, vr a2, vi l3, vi x4, vi 0]) rfl ?_
  refine wm_less (L' := [vr a0, vd, vr a2, vi l3, vi x4, vi 0]) ⟨Or.inr rfl, Or.inl rfl, Or.inr rfl, Or.inr rfl, Or.inr rfl, Or.inr rfl, trivial⟩ ?_
  exact h
theorem k_MS_say_17 {G : mG} {d : Nat} {a0 : Nat} {a2 : Nat} {l3 : Int} {l4 : Int} {l5 : Int} {M : mM} {Q : Int → mM → Prop} (hO : mOk M) (hi_l3 : i32 l3) (hi_l4 : i32 l4) (hi_l5 : i32 l5)
    (h : ((l4 ≤ l5) → (Q (l3 + l4) M)) ∧ (¬ (l4 ≤ l5) → (mK M a0 = 17 ∧ mK M (mR M a0 31) = 30 ∧ ((0 : Int) ≤ (l4 - 1) - l5 ∧ (l4 - 1) - l5 < (mN M (mR M a0 31) : Int)) ∧ mK M a2 = 30 ∧ ((0 : Int) ≤ l3 + l5 ∧ l3 + l5 < (mN M a2 : Int)) ∧ i32 (48 + (mI M (mR M a0 31) (Int.toNat ((l4 - 1) - l5)))) ∧ ∀ M20, M20 = mUI M a2 (Int.toNat (l3 + l5)) (48 + (mI M (mR M a0 31) (Int.toNat ((l4 - 1) - l5)))) → h_MS_say_17 G d a0 a2 l3 l4 (l5 + 1) M20 Q))) :
    h_MS_say_17 G d a0 a2 l3 l4 l5 M Q := by
  unfold h_MS_say_17
  refine wm_iload d_MS_say_17 rfl ?_
  refine wm_iload d_MS_say_19 rfl ?_
  refine wm_icmp_ge (tgt := 51) d_MS_say_21 rfl hi_l5 hi_l4 (fun c13 => ?_) (fun c13 => ?_)
  · replace h := h.1 c13
    refine wm_iload_n d_MS_say_51 rfl rfl ?_
    refine wm_iload d_MS_say_52 rfl ?_
    refine wm_iadd d_MS_say_54 ?_
    refine wm_ireturn d_MS_say_55 rfl rfl ?_
    exact ⟨_, rfl, h⟩
  · replace h := h.2 c13
    obtain ⟨h14, h⟩ := h
    obtain ⟨h15, h⟩ := h
    obtain ⟨h16, h⟩ := h
    obtain ⟨h17, h⟩ := h
    obtain ⟨h18, h⟩ := h
    obtain ⟨h19, h⟩ := h
    obtain ⟨M20, e21⟩ : ∃ M20, M20 = mUI M a2 (Int.toNat (l3 + l5)) (48 + (mI M (mR M a0 31) (Int.toNat ((l4 - 1) - l5)))) := ⟨_, rfl⟩
    replace h := h M20 e21
    refine wm_aload_n d_MS_say_24 rfl rfl ?_
    refine wm_iload_n d_MS_say_25 rfl rfl ?_
    refine wm_iload d_MS_say_26 rfl ?_
    refine wm_iadd d_MS_say_28 ?_
    refine wm_bipush d_MS_say_29 (by decide) ?_
    refine wm_aload_n d_MS_say_31 rfl rfl ?_
    refine gf_MS_100 rfl d_MS_say_32 h14 ?_
    refine wm_iload d_MS_say_35 rfl ?_
    refine wm_iconst d_MS_say_37 ?_
    refine wm_isub d_MS_say_38 ?_
    refine wm_iload d_MS_say_39 rfl ?_
    refine wm_isub d_MS_say_41 ?_
    refine wm_iald d_MS_say_42 h15 h16 ?_
    refine wm_iadd d_MS_say_43 ?_
    have hOM20 : mOk M20 := by rw [e21]; exact mOk_UI hO h19
    refine wm_iastE d_MS_say_44 h17 h18 h19 e21 ?_
    refine wm_iinc d_MS_say_45 (by decide) rfl (L' := [vr a0, vd, vr a2, vi l3, vi l4, vi (l5 + 1)]) rfl ?_
    refine wm_goto (tgt := 17) d_MS_say_48 rfl ?_
    exact h
theorem d_MS_print_0 : decode y_MS_print.2.1 0 = .ok (.aload_n 0, 1) := dc9_42 (by decide +kernel)
theorem d_MS_print_1 : decode y_MS_print.2.1 1 = .ok (.getfield 40, 3) := dc9_180 (by decide +kernel)
theorem d_MS_print_4 : decode y_MS_print.2.1 4 = .ok (.iconst 3, 1) := dc9_6 (by decide +kernel)
theorem d_MS_print_5 : decode y_MS_print.2.1 5 = .ok (.iload_n 1, 1) := dc9_27 (by decide +kernel)
theorem d_MS_print_6 : decode y_MS_print.2.1 6 = .ok (.imul, 1) := dc9_104 (by decide +kernel)
theorem d_MS_print_7 : decode y_MS_print.2.1 7 = .ok (.iload_n 2, 1) := dc9_28 (by decide +kernel)
theorem d_MS_print_8 : decode y_MS_print.2.1 8 = .ok (.iadd, 1) := dc9_96 (by decide +kernel)
theorem d_MS_print_9 : decode y_MS_print.2.1 9 = .ok (.aaload, 1) := dc9_50 (by decide +kernel)
theorem d_MS_print_10 : decode y_MS_print.2.1 10 = .ok (.astore 4, 2) := dc9_58 (by decide +kernel)
theorem d_MS_print_12 : decode y_MS_print.2.1 12 = .ok (.aload_n 0, 1) := dc9_42 (by decide +kernel)
theorem d_MS_print_13 : decode y_MS_print.2.1 13 = .ok (.aload 4, 2) := dc9_25 (by decide +kernel)
theorem d_MS_print_15 : decode y_MS_print.2.1 15 = .ok (.getfield 232, 3) := dc9_180 (by decide +kernel)
theorem d_MS_print_18 : decode y_MS_print.2.1 18 = .ok (.aload_n 3, 1) := dc9_45 (by decide +kernel)
theorem d_MS_print_19 : decode y_MS_print.2.1 19 = .ok (.iconst 0, 1) := dc9_3 (by decide +kernel)
theorem d_MS_print_20 : decode y_MS_print.2.1 20 = .ok (.invokevirtual 254, 3) := dc9_182 (by decide +kernel)
theorem d_MS_print_23 : decode y_MS_print.2.1 23 = .ok (.istore 5, 2) := dc9_54 (by decide +kernel)
theorem d_MS_print_25 : decode y_MS_print.2.1 25 = .ok (.aload 4, 2) := dc9_25 (by decide +kernel)
theorem d_MS_print_27 : decode y_MS_print.2.1 27 = .ok (.getfield 241, 3) := dc9_180 (by decide +kernel)
theorem d_MS_print_30 : decode y_MS_print.2.1 30 = .ok (.invokevirtual 258, 3) := dc9_182 (by decide +kernel)
theorem d_MS_print_33 : decode y_MS_print.2.1 33 = .ok (.ifCond .ne 25, 3) := dc9_154 (by decide +kernel)
theorem d_MS_print_36 : decode y_MS_print.2.1 36 = .ok (.aload_n 3, 1) := dc9_45 (by decide +kernel)
theorem d_MS_print_37 : decode y_MS_print.2.1 37 = .ok (.iload 5, 2) := dc9_21 (by decide +kernel)
theorem d_MS_print_39 : decode y_MS_print.2.1 39 = .ok (.bipush 47, 2) := dc9_16 (by decide +kernel)
theorem d_MS_print_41 : decode y_MS_print.2.1 41 = .ok (.iastore, 1) := dc9_79 (by decide +kernel)
theorem d_MS_print_42 : decode y_MS_print.2.1 42 = .ok (.aload_n 0, 1) := dc9_42 (by decide +kernel)
theorem d_MS_print_43 : decode y_MS_print.2.1 43 = .ok (.aload 4, 2) := dc9_25 (by decide +kernel)
theorem d_MS_print_45 : decode y_MS_print.2.1 45 = .ok (.getfield 241, 3) := dc9_180 (by decide +kernel)
theorem d_MS_print_48 : decode y_MS_print.2.1 48 = .ok (.aload_n 3, 1) := dc9_45 (by decide +kernel)
theorem d_MS_print_49 : decode y_MS_print.2.1 49 = .ok (.iload 5, 2) := dc9_21 (by decide +kernel)
theorem d_MS_print_51 : decode y_MS_print.2.1 51 = .ok (.iconst 1, 1) := dc9_4 (by decide +kernel)
theorem d_MS_print_52 : decode y_MS_print.2.1 52 = .ok (.iadd, 1) := dc9_96 (by decide +kernel)
theorem d_MS_print_53 : decode y_MS_print.2.1 53 = .ok (.invokevirtual 254, 3) := dc9_182 (by decide +kernel)
theorem d_MS_print_56 : decode y_MS_print.2.1 56 = .ok (.istore 5, 2) := dc9_54 (by decide +kernel)
theorem d_MS_print_58 : decode y_MS_print.2.1 58 = .ok (.iload 5, 2) := dc9_21 (by decide +kernel)
theorem d_MS_print_60 : decode y_MS_print.2.1 60 = .ok (.ireturn, 1) := dc9_172 (by decide +kernel)
theorem k_MS_print {G : mG} {d : Nat} {a0 : Nat} {l1 : Int} {l2 : Int} {a3 : Nat} {M : mM} {Q : Int → mM → Prop} (hO : mOk M) (hi_l1 : i32 l1) (hi_l2 : i32 l2)
    (h : mK M a0 = 17 ∧ mK M (mR M a0 11) = 36 ∧ ((0 : Int) ≤ (3 * l1) + l2 ∧ (3 * l1) + l2 < (mN M (mR M a0 11) : Int)) ∧ mK M (mR M (mR M a0 11) (Int.toNat ((3 * l1) + l2))) = 19 ∧ Ci G y_MS_say d [vr a0, vr (mR M (mR M (mR M a0 11) (Int.toNat ((3 * l1) + l2))) 0), vr a3, vi 0] M (fun x6 M5 => i32 x6 ∧ mOk M5 ∧ (mK M5 (mR M (mR M a0 11) (Int.toNat ((3 * l1) + l2))) = 19 ∧ mK M5 (mR M5 (mR M (mR M a0 11) (Int.toNat ((3 * l1) + l2))) 1) = 20 ∧ Ci G y_MW_isOne d [vr (mR M5 (mR M (mR M a0 11) (Int.toNat ((3 * l1) + l2))) 1)] M5 (fun x11 M10 => i32 x11 ∧ mOk M10 ∧ (((x11 = 0) → (mK M10 a3 = 30 ∧ ((0 : Int) ≤ x6 ∧ x6 < (mN M10 a3 : Int)) ∧ ∀ M21, M21 = mUI M10 a3 (Int.toNat x6) 47 → mK M21 (mR M (mR M a0 11) (Int.toNat ((3 * l1) + l2))) = 19 ∧ mK M21 a0 = 17 ∧ Ci G y_MS_say d [vr a0, vr (mR M21 (mR M (mR M a0 11) (Int.toNat ((3 * l1) + l2))) 1), vr a3, vi (x6 + 1)] M21 (fun x26 M25 => i32 x26 ∧ mOk M25 ∧ (Q x26 M25)))) ∧ (¬ (x11 = 0) → (Q x6 M10))))))) :
    Ci G y_MS_print (d + 1) [vr a0, vi l1, vi l2, vr a3] M Q := by
  refine wm_open (y := y_MS_print) rfl (Nat.le_of_ble_eq_true rfl) (L := [vr a0, vi l1, vi l2, vr a3, vd, vd]) rfl ?_
  obtain ⟨h1, h⟩ := h
  obtain ⟨h2, h⟩ := h
  obtain ⟨h3, h⟩ := h
  obtain ⟨h4, h⟩ := h
  refine wm_aload_n d_MS_print_0 rfl rfl ?_
  refine gf_MS_40 rfl d_MS_print_1 h1 ?_
  refine wm_iconst d_MS_print_4 ?_
  refine wm_iload_n d_MS_print_5 rfl rfl ?_
  refine wm_imul d_MS_print_6 ?_
  refine wm_iload_n d_MS_print_7 rfl rfl ?_
  refine wm_iadd d_MS_print_8 ?_
  refine wm_aald6 d_MS_print_9 h2 h3 ?_
  refine wm_astore d_MS_print_10 (by decide) (L' := [vr a0, vi l1, vi l2, vr a3, vr (mR M (mR M a0 11) (Int.toNat ((3 * l1) + l2))), vd]) rfl ?_
  refine wm_aload_n d_MS_print_12 rfl rfl ?_
  refine wm_aload d_MS_print_13 rfl ?_
  refine gf_MS_232 rfl d_MS_print_15 h4 ?_
  refine wm_aload_n d_MS_print_18 rfl rfl ?_
  refine wm_iconst d_MS_print_19 ?_
  refine cf_MS_254 rfl d_MS_print_20 h1 (Nat.le_of_ble_eq_true rfl) (Ci.mono h (fun x6 M5 h => ?_))
  obtain ⟨h7, hOM5, h⟩ := h
  obtain ⟨h8, h⟩ := h
  obtain ⟨h9, h⟩ := h
  refine wm_istore d_MS_print_23 (by decide) (L' := [vr a0, vi l1, vi l2, vr a3, vr (mR M (mR M a0 11) (Int.toNat ((3 * l1) + l2))), vi x6]) rfl ?_
  refine wm_aload d_MS_print_25 rfl ?_
  refine gf_MS_241 rfl d_MS_print_27 h8 ?_
  refine cf_MS_258 rfl d_MS_print_30 h9 (Nat.le_of_ble_eq_true rfl) (Ci.mono h (fun x11 M10 h => ?_))
  obtain ⟨h12, hOM10, h⟩ := h
  refine wm_if_ne (tgt := 58) d_MS_print_33 rfl h12 (fun c18 => ?_) (fun c18 => ?_)
  · replace h := h.2 c18
    refine wm_iload d_MS_print_58 rfl ?_
    refine wm_ireturn d_MS_print_60 rfl rfl ?_
    exact ⟨_, rfl, h⟩
  · replace c18 := Classical.not_not.mp c18
    replace h := h.1 c18
    obtain ⟨h19, h⟩ := h
    obtain ⟨h20, h⟩ := h
    obtain ⟨M21, e22⟩ : ∃ M21, M21 = mUI M10 a3 (Int.toNat x6) 47 := ⟨_, rfl⟩
    replace h := h M21 e22
    obtain ⟨h23, h⟩ := h
    obtain ⟨h24, h⟩ := h
    refine wm_aload_n d_MS_print_36 rfl rfl ?_
    refine wm_iload d_MS_print_37 rfl ?_
    refine wm_bipush d_MS_print_39 (by decide) ?_
    have hOM21 : mOk M21 := by rw [e22]; exact mOk_UI hOM10 ⟨by decide, by decide⟩
    refine wm_iastE d_MS_print_41 h19 h20 ⟨by decide, by decide⟩ e22 ?_
    refine wm_aload_n d_MS_print_42 rfl rfl ?_
    refine wm_aload d_MS_print_43 rfl ?_
    refine gf_MS_241 rfl d_MS_print_45 h23 ?_
    refine wm_aload_n d_MS_print_48 rfl rfl ?_
    refine wm_iload d_MS_print_49 rfl ?_
    refine wm_iconst d_MS_print_51 ?_
    refine wm_iadd d_MS_print_52 ?_
    refine cf_MS_254 rfl d_MS_print_53 h24 (Nat.le_of_ble_eq_true rfl) (Ci.mono h (fun x26 M25 h => ?_))
    obtain ⟨h27, hOM25, h⟩ := h
    refine wm_istore d_MS_print_56 (by decide) (L' := [vr a0, vi l1, vi l2, vr a3, vr (mR M (mR M a0 11) (Int.toNat ((3 * l1) + l2))), vi x26]) rfl ?_
    refine wm_iload d_MS_print_58 rfl ?_
    refine wm_ireturn d_MS_print_60 rfl rfl ?_
    exact ⟨_, rfl, h⟩
theorem d_MS_tell_0 : decode y_MS_tell.2.1 0 = .ok (.aload_n 0, 1) := dc9_42 (by decide +kernel)
theorem d_MS_tell_1 : decode y_MS_tell.2.1 1 = .ok (.getfield 51, 3) := dc9_180 (by decide +kernel)
theorem d_MS_tell_4 : decode y_MS_tell.2.1 4 = .ok (.iload_n 1, 1) := dc9_27 (by decide +kernel)
theorem d_MS_tell_5 : decode y_MS_tell.2.1 5 = .ok (.iload_n 2, 1) := dc9_28 (by decide +kernel)
theorem d_MS_tell_6 : decode y_MS_tell.2.1 6 = .ok (.iastore, 1) := dc9_79 (by decide +kernel)
theorem d_MS_tell_7 : decode y_MS_tell.2.1 7 = .ok (.return_, 1) := dc9_177 (by decide +kernel)
theorem k_MS_tell {G : mG} {d : Nat} {a0 : Nat} {l1 : Int} {l2 : Int} {M : mM} {Q : mM → Prop} (hO : mOk M) (hi_l1 : i32 l1) (hi_l2 : i32 l2)
    (h : mK M a0 = 17 ∧ mK M (mR M a0 14) = 30 ∧ ((0 : Int) ≤ l1 ∧ l1 < (mN M (mR M a0 14) : Int)) ∧ ∀ M4, M4 = mUI M (mR M a0 14) (Int.toNat l1) l2 → Q M4) :
    Cv G y_MS_tell d [vr a0, vi l1, vi l2] M Q := by
  refine wm_open (y := y_MS_tell) rfl (Nat.le_of_ble_eq_true rfl) (L := [vr a0, vi l1, vi l2]) rfl ?_
  obtain ⟨h1, h⟩ := h
  obtain ⟨h2, h⟩ := h
  obtain ⟨h3, h⟩ := h
  obtain ⟨M4, e5⟩ : ∃ M4, M4 = mUI M (mR M a0 14) (Int.toNat l1) l2 := ⟨_, rfl⟩
  replace h := h M4 e5
  refine wm_aload_n d_MS_tell_0 rfl rfl ?_
  refine gf_MS_51 rfl d_MS_tell_1 h1 ?_
  refine wm_iload_n d_MS_tell_4 rfl rfl ?_
  refine wm_iload_n d_MS_tell_5 rfl rfl ?_
  have hOM4 : mOk M4 := by rw [e5]; exact mOk_UI hO hi_l2
  refine wm_iastE d_MS_tell_6 h2 h3 hi_l2 e5 ?_
  refine wm_return d_MS_tell_7 rfl ?_
  exact ⟨rfl, h⟩
theorem d_MS_adopt_0 : decode y_MS_adopt.2.1 0 = .ok (.iconst 0, 1) := dc9_3 (by decide +kernel)
theorem d_MS_adopt_1 : decode y_MS_adopt.2.1 1 = .ok (.istore_n 1, 1) := dc9_60 (by decide +kernel)
theorem d_MS_adopt_2 : decode y_MS_adopt.2.1 2 = .ok (.iload_n 1, 1) := dc9_27 (by decide +kernel)
theorem d_MS_adopt_3 : decode y_MS_adopt.2.1 3 = .ok (.aload_n 0, 1) := dc9_42 (by decide +kernel)
theorem d_MS_adopt_4 : decode y_MS_adopt.2.1 4 = .ok (.getfield 103, 3) := dc9_180 (by decide +kernel)
theorem d_MS_adopt_7 : decode y_MS_adopt.2.1 7 = .ok (.if_icmp .ge 33, 3) := dc9_162 (by decide +kernel)
theorem d_MS_adopt_40 : decode y_MS_adopt.2.1 40 = .ok (.return_, 1) := dc9_177 (by decide +kernel)
theorem d_MS_adopt_10 : decode y_MS_adopt.2.1 10 = .ok (.aload_n 0, 1) := dc9_42 (by decide +kernel)
theorem d_MS_adopt_11 : decode y_MS_adopt.2.1 11 = .ok (.getfield 51, 3) := dc9_180 (by decide +kernel)
theorem d_MS_adopt_14 : decode y_MS_adopt.2.1 14 = .ok (.iload_n 1, 1) := dc9_27 (by decide +kernel)
theorem d_MS_adopt_15 : decode y_MS_adopt.2.1 15 = .ok (.aload_n 0, 1) := dc9_42 (by decide +kernel)
theorem d_MS_adopt_16 : decode y_MS_adopt.2.1 16 = .ok (.iload_n 1, 1) := dc9_27 (by decide +kernel)
theorem d_MS_adopt_17 : decode y_MS_adopt.2.1 17 = .ok (.invokevirtual 116, 3) := dc9_182 (by decide +kernel)
theorem d_MS_adopt_20 : decode y_MS_adopt.2.1 20 = .ok (.ifCond .ne 7, 3) := dc9_154 (by decide +kernel)
theorem d_MS_adopt_23 : decode y_MS_adopt.2.1 23 = .ok (.iconst 0, 1) := dc9_3 (by decide +kernel)
theorem d_MS_adopt_24 : decode y_MS_adopt.2.1 24 = .ok (.goto 9, 3) := dc9_167 (by decide +kernel)
theorem d_MS_adopt_27 : decode y_MS_adopt.2.1 27 = .ok (.aload_n 0, 1) := dc9_42 (by decide +kernel)
theorem d_MS_adopt_28 : decode y_MS_adopt.2.1 28 = .ok (.getfield 54, 3) := dc9_180 (by decide +kernel)
theorem d_MS_adopt_31 : decode y_MS_adopt.2.1 31 = .ok (.iload_n 1, 1) := dc9_27 (by decide +kernel)
theorem d_MS_adopt_32 : decode y_MS_adopt.2.1 32 = .ok (.iaload, 1) := dc9_46 (by decide +kernel)
theorem d_MS_adopt_33 : decode y_MS_adopt.2.1 33 = .ok (.iastore, 1) := dc9_79 (by decide +kernel)
theorem d_MS_adopt_34 : decode y_MS_adopt.2.1 34 = .ok (.iinc 1 1, 3) := by decide +kernel
theorem d_MS_adopt_37 : decode y_MS_adopt.2.1 37 = .ok (.goto (-35), 3) := dc9_167 (by decide +kernel)
def h_MS_adopt_2 (G : mG) (d : Nat) (a0 : Nat) (l1 : Int) (M : mM) (Q : mM → Prop) : Prop := mWm G y_MS_adopt (d + 1) 2 [vr a0, vi l1] [] M (fun r9 M9 => r9 = none ∧ Q M9)
theorem k_MS_adopt {G : mG} {d : Nat} {a0 : Nat} {M : mM} {Q : mM → Prop} (hO : mOk M)
    (h : h_MS_adopt_2 G d a0 0 M Q) :
    Cv G y_MS_adopt (d + 1) [vr a0] M Q := by
  refine wm_open (y := y_MS_adopt) rfl (Nat.le_of_ble_eq_true rfl) (L := [vr a0, vd]) rfl ?_
  refine wm_iconst d_MS_adopt_0 ?_
  refine wm_istore_n d_MS_adopt_1 rfl (by decide) (L' := [vr a0, vi 0]) rfl ?_
  exact h
theorem k_MS_adopt_2 {G : mG} {d : Nat} {a0 : Nat} {l1 : Int} {M : mM} {Q : mM → Prop} (hO : mOk M) (hi_l1 : i32 l1)
    (h : mK M a0 = 17 ∧ ((mI M a0 1 ≤ l1) → (Q M)) ∧ (¬ (mI M a0 1 ≤ l1) → (Ci G y_MS_many d [vr a0, vi l1] M (fun x5 M4 => i32 x5 ∧ mOk M4 ∧ ((¬ (x5 = 0) → (mK M4 a0 = 17 ∧ mK M4 (mR M4 a0 15) = 30 ∧ ((0 : Int) ≤ l1 ∧ l1 < (mN M4 (mR M4 a0 15) : Int)))) ∧ ∀ v11 : Int, v11 = (if (x5 = 0) then 0 else mI M4 (mR M4 a0 15) (Int.toNat l1)) → mK M4 (mR M a0 14) = 30 ∧ ((0 : Int) ≤ l1 ∧ l1 < (mN M4 (mR M a0 14) : Int)) ∧ i32 v11 ∧ ∀ M17, M17 = mUI M4 (mR M a0 14) (Int.toNat l1) v11 → h_MS_adopt_2 G d a0 (l1 + 1) M17 Q))))) :
    h_MS_adopt_2 G d a0 l1 M Q := by
  unfold h_MS_adopt_2
  obtain ⟨h1, h⟩ := h
  refine wm_iload_n d_MS_adopt_2 rfl rfl ?_
  refine wm_aload_n d_MS_adopt_3 rfl rfl ?_
  refine gf_MS_103 rfl d_MS_adopt_4 h1 ?_
  refine wm_icmp_ge (tgt := 40) d_MS_adopt_7 rfl hi_l1 (hO _ _).1 (fun c3 => ?_) (fun c3 => ?_)
  · replace h := h.1 c3
    refine wm_return d_MS_adopt_40 rfl ?_
    exact ⟨rfl, h⟩
  · replace h := h.2 c3
    refine wm_aload_n d_MS_adopt_10 rfl rfl ?_
    refine gf_MS_51 rfl d_MS_adopt_11 h1 ?_
    refine wm_iload_n d_MS_adopt_14 rfl rfl ?_
    refine wm_aload_n d_MS_adopt_15 rfl rfl ?_
    refine wm_iload_n d_MS_adopt_16 rfl rfl ?_
    refine cf_MS_116 rfl d_MS_adopt_17 h1 (Nat.le_of_ble_eq_true rfl) (Ci.mono h (fun x5 M4 h => ?_))
    obtain ⟨h6, hOM4, h⟩ := h
    obtain ⟨s12, h⟩ := h
    have hJ : ∀ v11 : Int, v11 = (if (x5 = 0) then 0 else mI M4 (mR M4 a0 15) (Int.toNat l1)) → mWm G y_MS_adopt (d + 1) 33 [vr a0, vi l1] [vi v11, vi l1, vr (mR M a0 14)] M4 (fun r9 M9 => r9 = none ∧ Q M9) := by
      intro v11 e13
      have h := h v11 e13
      obtain ⟨h14, h⟩ := h
      obtain ⟨h15, h⟩ := h
      obtain ⟨h16, h⟩ := h
      obtain ⟨M17, e18⟩ : ∃ M17, M17 = mUI M4 (mR M a0 14) (Int.toNat l1) v11 := ⟨_, rfl⟩
      replace h := h M17 e18
      have hOM17 : mOk M17 := by rw [e18]; exact mOk_UI hOM4 h16
      refine wm_iastE d_MS_adopt_33 h14 h15 h16 e18 ?_
      refine wm_iinc d_MS_adopt_34 (by decide) rfl (L' := [vr a0, vi (l1 + 1)]) rfl ?_
      refine wm_goto (tgt := 2) d_MS_adopt_37 rfl ?_
      exact h
    clear h
    have s19 := s12
    refine wm_if_ne (tgt := 27) d_MS_adopt_20 rfl h6 (fun c7 => ?_) (fun c7 => ?_)
    · have s19 := s19 c7
      obtain ⟨h8, h9, h10⟩ := s19
      refine wm_aload_n d_MS_adopt_27 rfl rfl ?_
      refine gf_MS_54 rfl d_MS_adopt_28 h8 ?_
      refine wm_iload_n d_MS_adopt_31 rfl rfl ?_
      refine wm_iald d_MS_adopt_32 h9 h10 ?_
      exact hJ (mI M4 (mR M4 a0 15) (Int.toNat l1)) (if_neg c7).symm
    · replace c7 := Classical.not_not.mp c7
      refine wm_iconst d_MS_adopt_23 ?_
      refine wm_goto (tgt := 33) d_MS_adopt_24 rfl ?_
      exact hJ 0 (if_pos c7).symm
theorem d_MS_hasValues_0 : decode y_MS_hasValues.2.1 0 = .ok (.aload_n 0, 1) := dc9_42 (by decide +kernel)
theorem d_MS_hasValues_1 : decode y_MS_hasValues.2.1 1 = .ok (.getfield 44, 3) := dc9_180 (by decide +kernel)
theorem d_MS_hasValues_4 : decode y_MS_hasValues.2.1 4 = .ok (.iconst 0, 1) := dc9_3 (by decide +kernel)
theorem d_MS_hasValues_5 : decode y_MS_hasValues.2.1 5 = .ok (.baload, 1) := dc9_51 (by decide +kernel)
theorem d_MS_hasValues_6 : decode y_MS_hasValues.2.1 6 = .ok (.ireturn, 1) := dc9_172 (by decide +kernel)
theorem k_MS_hasValues {G : mG} {d : Nat} {a0 : Nat} {M : mM} {Q : Int → mM → Prop} (hO : mOk M)
    (h : mK M a0 = 17 ∧ mK M (mR M a0 12) = 31 ∧ ((0 : Int) ≤ 0 ∧ 0 < (mN M (mR M a0 12) : Int)) ∧ ((mI M (mR M a0 12) 0) = 0 ∨ (mI M (mR M a0 12) 0) = 1) ∧ Q (mI M (mR M a0 12) 0) M) :
    Ci G y_MS_hasValues d [vr a0] M Q := by
  refine wm_open (y := y_MS_hasValues) rfl (Nat.le_of_ble_eq_true rfl) (L := [vr a0]) rfl ?_
  obtain ⟨h1, h⟩ := h
  obtain ⟨h2, h⟩ := h
  obtain ⟨h3, h⟩ := h
  obtain ⟨h4, h⟩ := h
  refine wm_aload_n d_MS_hasValues_0 rfl rfl ?_
  refine gf_MS_44 rfl d_MS_hasValues_1 h1 ?_
  refine wm_iconst d_MS_hasValues_4 ?_
  refine wm_zald d_MS_hasValues_5 h2 h3 ?_
  refine wm_ireturn d_MS_hasValues_6 rfl (m_nb h4) ?_
  exact ⟨_, rfl, h⟩
theorem d_MS_choiceOf_0 : decode y_MS_choiceOf.2.1 0 = .ok (.aload_n 0, 1) := dc9_42 (by decide +kernel)
theorem d_MS_choiceOf_1 : decode y_MS_choiceOf.2.1 1 = .ok (.getfield 54, 3) := dc9_180 (by decide +kernel)
theorem d_MS_choiceOf_4 : decode y_MS_choiceOf.2.1 4 = .ok (.iload_n 1, 1) := dc9_27 (by decide +kernel)
theorem d_MS_choiceOf_5 : decode y_MS_choiceOf.2.1 5 = .ok (.iaload, 1) := dc9_46 (by decide +kernel)
theorem d_MS_choiceOf_6 : decode y_MS_choiceOf.2.1 6 = .ok (.ireturn, 1) := dc9_172 (by decide +kernel)
theorem k_MS_choiceOf {G : mG} {d : Nat} {a0 : Nat} {l1 : Int} {M : mM} {Q : Int → mM → Prop} (hO : mOk M) (hi_l1 : i32 l1)
    (h : mK M a0 = 17 ∧ mK M (mR M a0 15) = 30 ∧ ((0 : Int) ≤ l1 ∧ l1 < (mN M (mR M a0 15) : Int)) ∧ Q (mI M (mR M a0 15) (Int.toNat l1)) M) :
    Ci G y_MS_choiceOf d [vr a0, vi l1] M Q := by
  refine wm_open (y := y_MS_choiceOf) rfl (Nat.le_of_ble_eq_true rfl) (L := [vr a0, vi l1]) rfl ?_
  obtain ⟨h1, h⟩ := h
  obtain ⟨h2, h⟩ := h
  obtain ⟨h3, h⟩ := h
  refine wm_aload_n d_MS_choiceOf_0 rfl rfl ?_
  refine gf_MS_54 rfl d_MS_choiceOf_1 h1 ?_
  refine wm_iload_n d_MS_choiceOf_4 rfl rfl ?_
  refine wm_iald d_MS_choiceOf_5 h2 h3 ?_
  refine wm_ireturn d_MS_choiceOf_6 rfl rfl ?_
  exact ⟨_, rfl, h⟩
theorem d_MS_rankOf_0 : decode y_MS_rankOf.2.1 0 = .ok (.aload_n 0, 1) := dc9_42 (by decide +kernel)
theorem d_MS_rankOf_1 : decode y_MS_rankOf.2.1 1 = .ok (.getfield 57, 3) := dc9_180 (by decide +kernel)
theorem d_MS_rankOf_4 : decode y_MS_rankOf.2.1 4 = .ok (.iload_n 1, 1) := dc9_27 (by decide +kernel)
theorem d_MS_rankOf_5 : decode y_MS_rankOf.2.1 5 = .ok (.iaload, 1) := dc9_46 (by decide +kernel)
theorem d_MS_rankOf_6 : decode y_MS_rankOf.2.1 6 = .ok (.ireturn, 1) := dc9_172 (by decide +kernel)
theorem k_MS_rankOf {G : mG} {d : Nat} {a0 : Nat} {l1 : Int} {M : mM} {Q : Int → mM → Prop} (hO : mOk M) (hi_l1 : i32 l1)
    (h : mK M a0 = 17 ∧ mK M (mR M a0 16) = 30 ∧ ((0 : Int) ≤ l1 ∧ l1 < (mN M (mR M a0 16) : Int)) ∧ Q (mI M (mR M a0 16) (Int.toNat l1)) M) :
    Ci G y_MS_rankOf d [vr a0, vi l1] M Q := by
  refine wm_open (y := y_MS_rankOf) rfl (Nat.le_of_ble_eq_true rfl) (L := [vr a0, vi l1]) rfl ?_
  obtain ⟨h1, h⟩ := h
  obtain ⟨h2, h⟩ := h
  obtain ⟨h3, h⟩ := h
  refine wm_aload_n d_MS_rankOf_0 rfl rfl ?_
  refine gf_MS_57 rfl d_MS_rankOf_1 h1 ?_
  refine wm_iload_n d_MS_rankOf_4 rfl rfl ?_
  refine wm_iald d_MS_rankOf_5 h2 h3 ?_
  refine wm_ireturn d_MS_rankOf_6 rfl rfl ?_
  exact ⟨_, rfl, h⟩
theorem d_MS_nextOf_0 : decode y_MS_nextOf.2.1 0 = .ok (.aload_n 0, 1) := dc9_42 (by decide +kernel)
theorem d_MS_nextOf_1 : decode y_MS_nextOf.2.1 1 = .ok (.iload_n 1, 1) := dc9_27 (by decide +kernel)
theorem d_MS_nextOf_2 : decode y_MS_nextOf.2.1 2 = .ok (.invokevirtual 116, 3) := dc9_182 (by decide +kernel)
theorem d_MS_nextOf_5 : decode y_MS_nextOf.2.1 5 = .ok (.ifCond .ne 5, 3) := dc9_154 (by decide +kernel)
theorem d_MS_nextOf_8 : decode y_MS_nextOf.2.1 8 = .ok (.iload_n 1, 1) := dc9_27 (by decide +kernel)
theorem d_MS_nextOf_9 : decode y_MS_nextOf.2.1 9 = .ok (.ireturn, 1) := dc9_172 (by decide +kernel)
theorem d_MS_nextOf_10 : decode y_MS_nextOf.2.1 10 = .ok (.aload_n 0, 1) := dc9_42 (by decide +kernel)
theorem d_MS_nextOf_11 : decode y_MS_nextOf.2.1 11 = .ok (.getfield 20, 3) := dc9_180 (by decide +kernel)
theorem d_MS_nextOf_14 : decode y_MS_nextOf.2.1 14 = .ok (.iload_n 1, 1) := dc9_27 (by decide +kernel)
theorem d_MS_nextOf_15 : decode y_MS_nextOf.2.1 15 = .ok (.iaload, 1) := dc9_46 (by decide +kernel)
theorem d_MS_nextOf_16 : decode y_MS_nextOf.2.1 16 = .ok (.aload_n 0, 1) := dc9_42 (by decide +kernel)
theorem d_MS_nextOf_17 : decode y_MS_nextOf.2.1 17 = .ok (.getfield 51, 3) := dc9_180 (by decide +kernel)
theorem d_MS_nextOf_20 : decode y_MS_nextOf.2.1 20 = .ok (.iload_n 1, 1) := dc9_27 (by decide +kernel)
theorem d_MS_nextOf_21 : decode y_MS_nextOf.2.1 21 = .ok (.iaload, 1) := dc9_46 (by decide +kernel)
theorem d_MS_nextOf_22 : decode y_MS_nextOf.2.1 22 = .ok (.iadd, 1) := dc9_96 (by decide +kernel)
theorem d_MS_nextOf_23 : decode y_MS_nextOf.2.1 23 = .ok (.istore_n 3, 1) := dc9_62 (by decide +kernel)
theorem d_MS_nextOf_24 : decode y_MS_nextOf.2.1 24 = .ok (.aload_n 0, 1) := dc9_42 (by decide +kernel)
theorem d_MS_nextOf_25 : decode y_MS_nextOf.2.1 25 = .ok (.getfield 23, 3) := dc9_180 (by decide +kernel)
theorem d_MS_nextOf_28 : decode y_MS_nextOf.2.1 28 = .ok (.iload_n 3, 1) := dc9_29 (by decide +kernel)
theorem d_MS_nextOf_29 : decode y_MS_nextOf.2.1 29 = .ok (.iaload, 1) := dc9_46 (by decide +kernel)
theorem d_MS_nextOf_30 : decode y_MS_nextOf.2.1 30 = .ok (.i2l, 1) := dc9_133 (by decide +kernel)
theorem d_MS_nextOf_31 : decode y_MS_nextOf.2.1 31 = .ok (.lstore 4, 2) := dc9_55 (by decide +kernel)
theorem d_MS_nextOf_33 : decode y_MS_nextOf.2.1 33 = .ok (.lconst 0, 1) := dc9_9 (by decide +kernel)
theorem d_MS_nextOf_34 : decode y_MS_nextOf.2.1 34 = .ok (.lstore 6, 2) := dc9_55 (by decide +kernel)
theorem d_MS_nextOf_36 : decode y_MS_nextOf.2.1 36 = .ok (.aload_n 0, 1) := dc9_42 (by decide +kernel)
theorem d_MS_nextOf_37 : decode y_MS_nextOf.2.1 37 = .ok (.getfield 26, 3) := dc9_180 (by decide +kernel)
theorem d_MS_nextOf_40 : decode y_MS_nextOf.2.1 40 = .ok (.iload_n 3, 1) := dc9_29 (by decide +kernel)
theorem d_MS_nextOf_41 : decode y_MS_nextOf.2.1 41 = .ok (.iaload, 1) := dc9_46 (by decide +kernel)
theorem d_MS_nextOf_42 : decode y_MS_nextOf.2.1 42 = .ok (.iconst 1, 1) := dc9_4 (by decide +kernel)
theorem d_MS_nextOf_43 : decode y_MS_nextOf.2.1 43 = .ok (.isub, 1) := dc9_100 (by decide +kernel)
theorem d_MS_nextOf_44 : decode y_MS_nextOf.2.1 44 = .ok (.istore 8, 2) := dc9_54 (by decide +kernel)
theorem d_MS_nextOf_46 : decode y_MS_nextOf.2.1 46 = .ok (.iinc 8 1, 3) := by decide +kernel
theorem d_MS_nextOf_49 : decode y_MS_nextOf.2.1 49 = .ok (.lload 6, 2) := dc9_22 (by decide +kernel)
theorem d_MS_nextOf_51 : decode y_MS_nextOf.2.1 51 = .ok (.aload_n 0, 1) := dc9_42 (by decide +kernel)
theorem d_MS_nextOf_52 : decode y_MS_nextOf.2.1 52 = .ok (.getfield 32, 3) := dc9_180 (by decide +kernel)
theorem d_MS_nextOf_55 : decode y_MS_nextOf.2.1 55 = .ok (.iload 8, 2) := dc9_21 (by decide +kernel)
theorem d_MS_nextOf_57 : decode y_MS_nextOf.2.1 57 = .ok (.iaload, 1) := dc9_46 (by decide +kernel)
theorem d_MS_nextOf_58 : decode y_MS_nextOf.2.1 58 = .ok (.i2l, 1) := dc9_133 (by decide +kernel)
theorem d_MS_nextOf_59 : decode y_MS_nextOf.2.1 59 = .ok (.lload 4, 2) := dc9_22 (by decide +kernel)
theorem d_MS_nextOf_61 : decode y_MS_nextOf.2.1 61 = .ok (.aload_n 0, 1) := dc9_42 (by decide +kernel)
theorem d_MS_nextOf_62 : decode y_MS_nextOf.2.1 62 = .ok (.getfield 35, 3) := dc9_180 (by decide +kernel)
theorem d_MS_nextOf_65 : decode y_MS_nextOf.2.1 65 = .ok (.iload 8, 2) := dc9_21 (by decide +kernel)
theorem d_MS_nextOf_67 : decode y_MS_nextOf.2.1 67 = .ok (.iaload, 1) := dc9_46 (by decide +kernel)
theorem d_MS_nextOf_68 : decode y_MS_nextOf.2.1 68 = .ok (.i2l, 1) := dc9_133 (by decide +kernel)
theorem d_MS_nextOf_69 : decode y_MS_nextOf.2.1 69 = .ok (.ldiv, 1) := dc9_109 (by decide +kernel)
theorem d_MS_nextOf_70 : decode y_MS_nextOf.2.1 70 = .ok (.lmul, 1) := dc9_105 (by decide +kernel)
theorem d_MS_nextOf_71 : decode y_MS_nextOf.2.1 71 = .ok (.ladd, 1) := dc9_97 (by decide +kernel)
theorem d_MS_nextOf_72 : decode y_MS_nextOf.2.1 72 = .ok (.lstore 6, 2) := dc9_55 (by decide +kernel)
theorem d_MS_nextOf_74 : decode y_MS_nextOf.2.1 74 = .ok (.lload 6, 2) := dc9_22 (by decide +kernel)
theorem d_MS_nextOf_76 : decode y_MS_nextOf.2.1 76 = .ok (.ldc2_w 261, 3) := dc9_20 (by decide +kernel)
theorem d_MS_nextOf_79 : decode y_MS_nextOf.2.1 79 = .ok (.lmul, 1) := dc9_105 (by decide +kernel)
theorem d_MS_nextOf_80 : decode y_MS_nextOf.2.1 80 = .ok (.iload_n 2, 1) := dc9_28 (by decide +kernel)
theorem d_MS_nextOf_81 : decode y_MS_nextOf.2.1 81 = .ok (.i2l, 1) := dc9_133 (by decide +kernel)
theorem d_MS_nextOf_82 : decode y_MS_nextOf.2.1 82 = .ok (.lload 4, 2) := dc9_22 (by decide +kernel)
theorem d_MS_nextOf_84 : decode y_MS_nextOf.2.1 84 = .ok (.lmul, 1) := dc9_105 (by decide +kernel)
theorem d_MS_nextOf_85 : decode y_MS_nextOf.2.1 85 = .ok (.lcmp, 1) := dc9_148 (by decide +kernel)
theorem d_MS_nextOf_86 : decode y_MS_nextOf.2.1 86 = .ok (.ifCond .le (-40), 3) := dc9_158 (by decide +kernel)
theorem d_MS_nextOf_89 : decode y_MS_nextOf.2.1 89 = .ok (.aload_n 0, 1) := dc9_42 (by decide +kernel)
theorem d_MS_nextOf_90 : decode y_MS_nextOf.2.1 90 = .ok (.getfield 29, 3) := dc9_180 (by decide +kernel)
theorem d_MS_nextOf_93 : decode y_MS_nextOf.2.1 93 = .ok (.iload 8, 2) := dc9_21 (by decide +kernel)
theorem d_MS_nextOf_95 : decode y_MS_nextOf.2.1 95 = .ok (.iaload, 1) := dc9_46 (by decide +kernel)
theorem d_MS_nextOf_96 : decode y_MS_nextOf.2.1 96 = .ok (.ireturn, 1) := dc9_172 (by decide +kernel)
def h_MS_nextOf_46 (G : mG) (d : Nat) (a0 : Nat) (l2 : Int) (j4 : Int) (j6 : Int) (l8 : Int) (M : mM) (Q : Int → mM → Prop) : Prop := mWm G y_MS_nextOf (d + 1) 46 [vr a0, vd, vi l2, vd, vl j4, vd, vl j6, vd, vi l8] [] M (fun r9 M9 => ∃ x9, r9 = some (vi x9) ∧ Q x9 M9)
theorem k_MS_nextOf {G : mG} {d : Nat} {a0 : Nat} {l1 : Int} {l2 : Int} {M : mM} {Q : Int → mM → Prop} (hO : mOk M) (hi_l1 : i32 l1) (hi_l2 : i32 l2)
    (h : mK M a0 = 17 ∧ Ci G y_MS_many d [vr a0, vi l1] M (fun x3 M2 => i32 x3 ∧ mOk M2 ∧ (((x3 = 0) → (Q l1 M2)) ∧ (¬ (x3 = 0) → (mK M2 a0 = 17 ∧ mK M2 (mR M2 a0 5) = 30 ∧ ((0 : Int) ≤ l1 ∧ l1 < (mN M2 (mR M2 a0 5) : Int)) ∧ mK M2 (mR M2 a0 14) = 30 ∧ ((0 : Int) ≤ l1 ∧ l1 < (mN M2 (mR M2 a0 14) : Int)) ∧ mK M2 (mR M2 a0 6) = 30 ∧ ((0 : Int) ≤ (mI M2 (mR M2 a0 5) (Int.toNat l1)) + (mI M2 (mR M2 a0 14) (Int.toNat l1)) ∧ (mI M2 (mR M2 a0 5) (Int.toNat l1)) + (mI M2 (mR M2 a0 14) (Int.toNat l1)) < (mN M2 (mR M2 a0 6) : Int)) ∧ mK M2 (mR M2 a0 7) = 30 ∧ ((0 : Int) ≤ (mI M2 (mR M2 a0 5) (Int.toNat l1)) + (mI M2 (mR M2 a0 14) (Int.toNat l1)) ∧ (mI M2 (mR M2 a0 5) (Int.toNat l1)) + (mI M2 (mR M2 a0 14) (Int.toNat l1)) < (mN M2 (mR M2 a0 7) : Int)) ∧ h_MS_nextOf_46 G d a0 l2 (mI M2 (mR M2 a0 6) (Int.toNat ((mI M2 (mR M2 a0 5) (Int.toNat l1)) + (mI M2 (mR M2 a0 14) (Int.toNat l1))))) 0 ((mI M2 (mR M2 a0 7) (Int.toNat ((mI M2 (mR M2 a0 5) (Int.toNat l1)) + (mI M2 (mR M2 a0 14) (Int.toNat l1))))) - 1) M2 Q))))) :
    Ci G y_MS_nextOf (d + 1) [vr a0, vi l1, vi l2] M Q := by
  refine wm_open (y := y_MS_nextOf) rfl (Nat.le_of_ble_eq_true rfl) (L := [vr a0, vi l1, vi l2, vd, vd, vd, vd, vd, vd]) rfl ?_
  obtain ⟨h1, h⟩ := h
  refine wm_aload_n d_MS_nextOf_0 rfl rfl ?_
  refine wm_iload_n d_MS_nextOf_1 rfl rfl ?_
  refine cf_MS_116 rfl d_MS_nextOf_2 h1 (Nat.le_of_ble_eq_true rfl) (Ci.mono h (fun x3 M2 h => ?_))
  obtain ⟨h4, hOM2, h⟩ := h
  refine wm_if_ne (tgt := 10) d_MS_nextOf_5 rfl h4 (fun c15 => ?_) (fun c15 => ?_)
  · replace h := h.2 c15
    obtain ⟨h16, h⟩ := h
    obtain ⟨h17, h⟩ := h
    obtain ⟨h18, h⟩ := h
    obtain ⟨h19, h⟩ := h
    obtain ⟨h20, h⟩ := h
    obtain ⟨h21, h⟩ := h
    obtain ⟨h22, h⟩ := h
    obtain ⟨h23, h⟩ := h
    obtain ⟨h24, h⟩ := h
    refine wm_aload_n d_MS_nextOf_10 rfl rfl ?_
    refine gf_MS_20 rfl d_MS_nextOf_11 h16 ?_
    refine wm_iload_n d_MS_nextOf_14 rfl rfl ?_
    refine wm_iald d_MS_nextOf_15 h17 h18 ?_
    refine wm_aload_n d_MS_nextOf_16 rfl rfl ?_
    refine gf_MS_51 rfl d_MS_nextOf_17 h16 ?_
    refine wm_iload_n d_MS_nextOf_20 rfl rfl ?_
    refine wm_iald d_MS_nextOf_21 h19 h20 ?_
    refine wm_iadd d_MS_nextOf_22 ?_
    refine wm_istore_n d_MS_nextOf_23 rfl (by decide) (L' := [vr a0, vi l1, vi l2, vi ((mI M2 (mR M2 a0 5) (Int.toNat l1)) + (mI M2 (mR M2 a0 14) (Int.toNat l1))), vd, vd, vd, vd, vd]) rfl ?_
    refine wm_aload_n d_MS_nextOf_24 rfl rfl ?_
    refine gf_MS_23 rfl d_MS_nextOf_25 h16 ?_
    refine wm_iload_n d_MS_nextOf_28 rfl rfl ?_
    refine wm_iald d_MS_nextOf_29 h21 h22 ?_
    refine wm_i2l d_MS_nextOf_30 (hOM2 _ _).1 ?_
    refine wm_lstore d_MS_nextOf_31 (by decide) (L' := [vr a0, vi l1, vi l2, vi ((mI M2 (mR M2 a0 5) (Int.toNat l1)) + (mI M2 (mR M2 a0 14) (Int.toNat l1))), vl (mI M2 (mR M2 a0 6) (Int.toNat ((mI M2 (mR M2 a0 5) (Int.toNat l1)) + (mI M2 (mR M2 a0 14) (Int.toNat l1))))), vd, vd, vd, vd]) rfl ?_
    refine wm_lconst (x := 0) d_MS_nextOf_33 rfl ?_
    refine wm_lstore d_MS_nextOf_34 (by decide) (L' := [vr a0, vi l1, vi l2, vi ((mI M2 (mR M2 a0 5) (Int.toNat l1)) + (mI M2 (mR M2 a0 14) (Int.toNat l1))), vl (mI M2 (mR M2 a0 6) (Int.toNat ((mI M2 (mR M2 a0 5) (Int.toNat l1)) + (mI M2 (mR M2 a0 14) (Int.toNat l1))))), vd, vl 0, vd, vd]) rfl ?_
    refine wm_aload_n d_MS_nextOf_36 rfl rfl ?_
    refine gf_MS_26 rfl d_MS_nextOf_37 h16 ?_
    refine wm_iload_n d_MS_nextOf_40 rfl rfl ?_
    refine wm_iald d_MS_nextOf_41 h23 h24 ?_
    refine wm_iconst d_MS_nextOf_42 ?_
    refine wm_isub d_MS_nextOf_43 ?_
    refine wm_istore d_MS_nextOf_44 (by decide) (L' := [vr a0, vi l1, vi l2, vi ((mI M2 (mR M2 a0 5) (Int.toNat l1)) + (mI M2 (mR M2 a0 14) (Int.toNat l1))), vl (mI M2 (mR M2 a0 6) (Int.toNat ((mI M2 (mR M2 a0 5) (Int.toNat l1)) + (mI M2 (mR M2 a0 14) (Int.toNat l1))))), vd, vl 0, vd, vi ((mI M2 (mR M2 a0 7) (Int.toNat ((mI M2 (mR M2 a0 5) (Int.toNat l1)) + (mI M2 (mR M2 a0 14) (Int.toNat l1))))) - 1)]) rfl ?_
    refine wm_less (L' := [vr a0, vd, vi l2, vd, vl (mI M2 (mR M2 a0 6) (Int.toNat ((mI M2 (mR M2 a0 5) (Int.toNat l1)) + (mI M2 (mR M2 a0 14) (Int.toNat l1))))), vd, vl 0, vd, vi ((mI M2 (mR M2 a0 7) (Int.toNat ((mI M2 (mR M2 a0 5) (Int.toNat l1)) + (mI M2 (mR M2 a0 14) (Int.toNat l1))))) - 1)]) ⟨Or.inr rfl, Or.inl rfl, Or.inr rfl, Or.inl rfl, Or.inr rfl, Or.inl rfl, Or.inr rfl, Or.inl rfl, Or.inr rfl, trivial⟩ ?_
    exact h
  · replace c15 := Classical.not_not.mp c15
    replace h := h.1 c15
    refine wm_iload_n d_MS_nextOf_8 rfl rfl ?_
    refine wm_ireturn d_MS_nextOf_9 rfl rfl ?_
    exact ⟨_, rfl, h⟩
theorem k_MS_nextOf_46 {G : mG} {d : Nat} {a0 : Nat} {l2 : Int} {j4 : Int} {j6 : Int} {l8 : Int} {M : mM} {Q : Int → mM → Prop} (hO : mOk M) (hi_l2 : i32 l2) (hi_j4 : i64 j4) (hi_j6 : i64 j6) (hi_l8 : i32 l8)
    (h : mK M a0 = 17 ∧ mK M (mR M a0 9) = 30 ∧ ((0 : Int) ≤ l8 + 1 ∧ l8 + 1 < (mN M (mR M a0 9) : Int)) ∧ mK M (mR M a0 10) = 30 ∧ ((0 : Int) ≤ l8 + 1 ∧ l8 + 1 < (mN M (mR M a0 10) : Int)) ∧ (mI M (mR M a0 10) (Int.toNat (l8 + 1))) ≠ 0 ∧ i64 ((j6 + ((mI M (mR M a0 9) (Int.toNat (l8 + 1))) * (Int.tdiv j4 (mI M (mR M a0 10) (Int.toNat (l8 + 1)))))) * 2147483648) ∧ i64 (l2 * j4) ∧ ((cmpL ((j6 + ((mI M (mR M a0 9) (Int.toNat (l8 + 1))) * (Int.tdiv j4 (mI M (mR M a0 10) (Int.toNat (l8 + 1)))))) * 2147483648) (l2 * j4) ≤ 0) → (h_MS_nextOf_46 G d a0 l2 j4 (j6 + ((mI M (mR M a0 9) (Int.toNat (l8 + 1))) * (Int.tdiv j4 (mI M (mR M a0 10) (Int.toNat (l8 + 1)))))) (l8 + 1) M Q)) ∧ (¬ (cmpL ((j6 + ((mI M (mR M a0 9) (Int.toNat (l8 + 1))) * (Int.tdiv j4 (mI M (mR M a0 10) (Int.toNat (l8 + 1)))))) * 2147483648) (l2 * j4) ≤ 0) → (mK M (mR M a0 8) = 30 ∧ ((0 : Int) ≤ l8 + 1 ∧ l8 + 1 < (mN M (mR M a0 8) : Int)) ∧ Q (mI M (mR M a0 8) (Int.toNat (l8 + 1))) M))) :
    h_MS_nextOf_46 G d a0 l2 j4 j6 l8 M Q := by
  unfold h_MS_nextOf_46
  obtain ⟨h25, h⟩ := h
  obtain ⟨h26, h⟩ := h
  obtain ⟨h27, h⟩ := h
  obtain ⟨h28, h⟩ := h
  obtain ⟨h29, h⟩ := h
  obtain ⟨h30, h⟩ := h
  obtain ⟨h31, h⟩ := h
  obtain ⟨h32, h⟩ := h
  refine wm_iinc d_MS_nextOf_46 (by decide) rfl (L' := [vr a0, vd, vi l2, vd, vl j4, vd, vl j6, vd, vi (l8 + 1)]) rfl ?_
  refine wm_lload d_MS_nextOf_49 rfl ?_
  refine wm_aload_n d_MS_nextOf_51 rfl rfl ?_
  refine gf_MS_32 rfl d_MS_nextOf_52 h25 ?_
  refine wm_iload d_MS_nextOf_55 rfl ?_
  refine wm_iald d_MS_nextOf_57 h26 h27 ?_
  refine wm_i2l d_MS_nextOf_58 (hO _ _).1 ?_
  refine wm_lload d_MS_nextOf_59 rfl ?_
  refine wm_aload_n d_MS_nextOf_61 rfl rfl ?_
  refine gf_MS_35 rfl d_MS_nextOf_62 h25 ?_
  refine wm_iload d_MS_nextOf_65 rfl ?_
  refine wm_iald d_MS_nextOf_67 h28 h29 ?_
  refine wm_i2l d_MS_nextOf_68 (hO _ _).1 ?_
  refine wm_ldiv d_MS_nextOf_69 hi_j4 (i64_of32 (hO _ _).1) h30 ?_
  refine wm_lmul d_MS_nextOf_70 ?_
  refine wm_ladd d_MS_nextOf_71 ?_
  refine wm_lstore d_MS_nextOf_72 (by decide) (L' := [vr a0, vd, vi l2, vd, vl j4, vd, vl (j6 + ((mI M (mR M a0 9) (Int.toNat (l8 + 1))) * (Int.tdiv j4 (mI M (mR M a0 10) (Int.toNat (l8 + 1)))))), vd, vi (l8 + 1)]) rfl ?_
  refine wm_lload d_MS_nextOf_74 rfl ?_
  refine wm_ldc2 (x := 2147483648) d_MS_nextOf_76 k14_22 (by decide) ?_
  refine wm_lmul d_MS_nextOf_79 ?_
  refine wm_iload_n d_MS_nextOf_80 rfl rfl ?_
  refine wm_i2l d_MS_nextOf_81 hi_l2 ?_
  refine wm_lload d_MS_nextOf_82 rfl ?_
  refine wm_lmul d_MS_nextOf_84 ?_
  refine wm_lcmp d_MS_nextOf_85 h31 h32 ?_
  refine wm_if_le (tgt := 46) d_MS_nextOf_86 rfl (m_cmp32 _ _) (fun c36 => ?_) (fun c36 => ?_)
  · replace h := h.1 c36
    exact h
  · replace h := h.2 c36
    obtain ⟨h37, h⟩ := h
    obtain ⟨h38, h⟩ := h
    refine wm_aload_n d_MS_nextOf_89 rfl rfl ?_
    refine gf_MS_29 rfl d_MS_nextOf_90 h25 ?_
    refine wm_iload d_MS_nextOf_93 rfl ?_
    refine wm_iald d_MS_nextOf_95 h37 h38 ?_
    refine wm_ireturn d_MS_nextOf_96 rfl rfl ?_
    exact ⟨_, rfl, h⟩
theorem d_MU_init_0 : decode y_MU_init.2.1 0 = .ok (.aload_n 0, 1) := dc9_42 (by decide +kernel)
theorem d_MU_init_1 : decode y_MU_init.2.1 1 = .ok (.invokespecial 1, 3) := dc9_183 (by decide +kernel)
theorem d_MU_init_4 : decode y_MU_init.2.1 4 = .ok (.aload_n 0, 1) := dc9_42 (by decide +kernel)
theorem d_MU_init_5 : decode y_MU_init.2.1 5 = .ok (.new 7, 3) := dc9_187 (by decide +kernel)
theorem d_MU_init_8 : decode y_MU_init.2.1 8 = .ok (.dup, 1) := dc9_89 (by decide +kernel)
theorem d_MU_init_9 : decode y_MU_init.2.1 9 = .ok (.sipush 900, 3) := dc9_17 (by decide +kernel)
theorem d_MU_init_12 : decode y_MU_init.2.1 12 = .ok (.invokespecial 11, 3) := dc9_183 (by decide +kernel)
theorem d_MU_init_15 : decode y_MU_init.2.1 15 = .ok (.putfield 14, 3) := dc9_181 (by decide +kernel)
theorem d_MU_init_18 : decode y_MU_init.2.1 18 = .ok (.aload_n 0, 1) := dc9_42 (by decide +kernel)
theorem d_MU_init_19 : decode y_MU_init.2.1 19 = .ok (.new 7, 3) := dc9_187 (by decide +kernel)
theorem d_MU_init_22 : decode y_MU_init.2.1 22 = .ok (.dup, 1) := dc9_89 (by decide +kernel)
theorem d_MU_init_23 : decode y_MU_init.2.1 23 = .ok (.sipush 900, 3) := dc9_17 (by decide +kernel)
theorem d_MU_init_26 : decode y_MU_init.2.1 26 = .ok (.invokespecial 11, 3) := dc9_183 (by decide +kernel)
theorem d_MU_init_29 : decode y_MU_init.2.1 29 = .ok (.putfield 18, 3) := dc9_181 (by decide +kernel)
theorem d_MU_init_32 : decode y_MU_init.2.1 32 = .ok (.aload_n 0, 1) := dc9_42 (by decide +kernel)
theorem d_MU_init_33 : decode y_MU_init.2.1 33 = .ok (.new 21, 3) := dc9_187 (by decide +kernel)
theorem d_MU_init_36 : decode y_MU_init.2.1 36 = .ok (.dup, 1) := dc9_89 (by decide +kernel)
theorem d_MU_init_37 : decode y_MU_init.2.1 37 = .ok (.sipush 900, 3) := dc9_17 (by decide +kernel)
theorem d_MU_init_40 : decode y_MU_init.2.1 40 = .ok (.invokespecial 23, 3) := dc9_183 (by decide +kernel)
theorem d_MU_init_43 : decode y_MU_init.2.1 43 = .ok (.putfield 24, 3) := dc9_181 (by decide +kernel)
theorem d_MU_init_46 : decode y_MU_init.2.1 46 = .ok (.aload_n 0, 1) := dc9_42 (by decide +kernel)
theorem d_MU_init_47 : decode y_MU_init.2.1 47 = .ok (.new 21, 3) := dc9_187 (by decide +kernel)
theorem d_MU_init_50 : decode y_MU_init.2.1 50 = .ok (.dup, 1) := dc9_89 (by decide +kernel)
theorem d_MU_init_51 : decode y_MU_init.2.1 51 = .ok (.sipush 900, 3) := dc9_17 (by decide +kernel)
theorem d_MU_init_54 : decode y_MU_init.2.1 54 = .ok (.invokespecial 23, 3) := dc9_183 (by decide +kernel)
theorem d_MU_init_57 : decode y_MU_init.2.1 57 = .ok (.putfield 28, 3) := dc9_181 (by decide +kernel)
theorem d_MU_init_60 : decode y_MU_init.2.1 60 = .ok (.aload_n 0, 1) := dc9_42 (by decide +kernel)
theorem d_MU_init_61 : decode y_MU_init.2.1 61 = .ok (.new 21, 3) := dc9_187 (by decide +kernel)
theorem d_MU_init_64 : decode y_MU_init.2.1 64 = .ok (.dup, 1) := dc9_89 (by decide +kernel)
theorem d_MU_init_65 : decode y_MU_init.2.1 65 = .ok (.sipush 900, 3) := dc9_17 (by decide +kernel)
theorem d_MU_init_68 : decode y_MU_init.2.1 68 = .ok (.invokespecial 23, 3) := dc9_183 (by decide +kernel)
theorem d_MU_init_71 : decode y_MU_init.2.1 71 = .ok (.putfield 31, 3) := dc9_181 (by decide +kernel)
theorem d_MU_init_74 : decode y_MU_init.2.1 74 = .ok (.aload_n 0, 1) := dc9_42 (by decide +kernel)
theorem d_MU_init_75 : decode y_MU_init.2.1 75 = .ok (.new 21, 3) := dc9_187 (by decide +kernel)
theorem d_MU_init_78 : decode y_MU_init.2.1 78 = .ok (.dup, 1) := dc9_89 (by decide +kernel)
theorem d_MU_init_79 : decode y_MU_init.2.1 79 = .ok (.sipush 900, 3) := dc9_17 (by decide +kernel)
theorem d_MU_init_82 : decode y_MU_init.2.1 82 = .ok (.invokespecial 23, 3) := dc9_183 (by decide +kernel)
theorem d_MU_init_85 : decode y_MU_init.2.1 85 = .ok (.putfield 34, 3) := dc9_181 (by decide +kernel)
theorem d_MU_init_88 : decode y_MU_init.2.1 88 = .ok (.aload_n 0, 1) := dc9_42 (by decide +kernel)
theorem d_MU_init_89 : decode y_MU_init.2.1 89 = .ok (.new 21, 3) := dc9_187 (by decide +kernel)
theorem d_MU_init_92 : decode y_MU_init.2.1 92 = .ok (.dup, 1) := dc9_89 (by decide +kernel)
theorem d_MU_init_93 : decode y_MU_init.2.1 93 = .ok (.sipush 900, 3) := dc9_17 (by decide +kernel)
theorem d_MU_init_96 : decode y_MU_init.2.1 96 = .ok (.invokespecial 23, 3) := dc9_183 (by decide +kernel)
theorem d_MU_init_99 : decode y_MU_init.2.1 99 = .ok (.putfield 37, 3) := dc9_181 (by decide +kernel)
theorem d_MU_init_102 : decode y_MU_init.2.1 102 = .ok (.return_, 1) := dc9_177 (by decide +kernel)
theorem k_MU_init {G : mG} {d : Nat} {a0 : Nat} {M : mM} {Q : mM → Prop} (hO : mOk M)
    (h : 0 < a0 ∧ ∀ M2, M2 = mNew M 19 0 3 → Cv G y_MF_init d [vr (mZ M), vi 900] M2 (fun M4 => mOk M4 ∧ (mK M4 a0 = 18 ∧ ∀ M8, M8 = mUR M4 a0 0 (mZ M) → ∀ M10, M10 = mNew M8 19 0 3 → Cv G y_MF_init d [vr (mZ M8), vi 900] M10 (fun M12 => mOk M12 ∧ (mK M12 a0 = 18 ∧ ∀ M16, M16 = mUR M12 a0 1 (mZ M8) → ∀ M18, M18 = mNew M16 20 0 2 → Cv G y_MW_init d [vr (mZ M16), vi 900] M18 (fun M20 => mOk M20 ∧ (mK M20 a0 = 18 ∧ ∀ M24, M24 = mUR M20 a0 2 (mZ M16) → ∀ M26, M26 = mNew M24 20 0 2 → Cv G y_MW_init d [vr (mZ M24), vi 900] M26 (fun M28 => mOk M28 ∧ (mK M28 a0 = 18 ∧ ∀ M32, M32 = mUR M28 a0 3 (mZ M24) → ∀ M34, M34 = mNew M32 20 0 2 → Cv G y_MW_init d [vr (mZ M32), vi 900] M34 (fun M36 => mOk M36 ∧ (mK M36 a0 = 18 ∧ ∀ M40, M40 = mUR M36 a0 4 (mZ M32) → ∀ M42, M42 = mNew M40 20 0 2 → Cv G y_MW_init d [vr (mZ M40), vi 900] M42 (fun M44 => mOk M44 ∧ (mK M44 a0 = 18 ∧ ∀ M48, M48 = mUR M44 a0 5 (mZ M40) → ∀ M50, M50 = mNew M48 20 0 2 → Cv G y_MW_init d [vr (mZ M48), vi 900] M50 (fun M52 => mOk M52 ∧ (mK M52 a0 = 18 ∧ ∀ M56, M56 = mUR M52 a0 6 (mZ M48) → Q M56))))))))))))))) :
    Cv G y_MU_init (d + 1) [vr a0] M Q := by
  refine wm_open (y := y_MU_init) rfl (Nat.le_of_ble_eq_true rfl) (L := [vr a0]) rfl ?_
  obtain ⟨h1, h⟩ := h
  obtain ⟨M2, e3⟩ : ∃ M2, M2 = mNew M 19 0 3 := ⟨_, rfl⟩
  replace h := h M2 e3
  refine wm_aload_n d_MU_init_0 rfl rfl ?_
  refine wm_objInit trivial k9_156 kO_inst kO_code (Nat.le_of_ble_eq_true rfl) d_MU_init_1 h1 ?_
  refine wm_aload_n d_MU_init_4 rfl rfl ?_
  have hOM2 : mOk M2 := by rw [e3]; exact mOk_New hO
  refine nf_MU_7 rfl d_MU_init_5 e3 ?_
  refine wm_dup d_MU_init_8 rfl ?_
  refine wm_sipush d_MU_init_9 (by decide) ?_
  refine cf_MU_11 rfl d_MU_init_12 (by rw [e3]; exact if_pos rfl) (Nat.le_of_ble_eq_true rfl) (Cv.mono h (fun M4 h => ?_))
  obtain ⟨hOM4, h⟩ := h
  obtain ⟨h7, h⟩ := h
  obtain ⟨M8, e9⟩ : ∃ M8, M8 = mUR M4 a0 0 (mZ M) := ⟨_, rfl⟩
  replace h := h M8 e9
  obtain ⟨M10, e11⟩ : ∃ M10, M10 = mNew M8 19 0 3 := ⟨_, rfl⟩
  replace h := h M10 e11
  have hOM8 : mOk M8 := by rw [e9]; exact mOk_UR hOM4
  refine pf_MU_14 rfl rfl d_MU_init_15 h7 e9 ?_
  refine wm_aload_n d_MU_init_18 rfl rfl ?_
  have hOM10 : mOk M10 := by rw [e11]; exact mOk_New hOM8
  refine nf_MU_7 rfl d_MU_init_19 e11 ?_
  refine wm_dup d_MU_init_22 rfl ?_
  refine wm_sipush d_MU_init_23 (by decide) ?_
  refine cf_MU_11 rfl d_MU_init_26 (by rw [e11]; exact if_pos rfl) (Nat.le_of_ble_eq_true rfl) (Cv.mono h (fun M12 h => ?_))
  obtain ⟨hOM12, h⟩ := h
  obtain ⟨h15, h⟩ := h
  obtain ⟨M16, e17⟩ : ∃ M16, M16 = mUR M12 a0 1 (mZ M8) := ⟨_, rfl⟩
  replace h := h M16 e17
  obtain ⟨M18, e19⟩ : ∃ M18, M18 = mNew M16 20 0 2 := ⟨_, rfl⟩
  replace h := h M18 e19
  have hOM16 : mOk M16 := by rw [e17]; exact mOk_UR hOM12
  refine pf_MU_18 rfl rfl d_MU_init_29 h15 e17 ?_
  refine wm_aload_n d_MU_init_32 rfl rfl ?_
  have hOM18 : mOk M18 := by rw [e19]; exact mOk_New hOM16
  refine nf_MU_21 rfl d_MU_init_33 e19 ?_
  refine wm_dup d_MU_init_36 rfl ?_
  refine wm_sipush d_MU_init_37 (by decide) ?_
  refine cf_MU_23 rfl d_MU_init_40 (by rw [e19]; exact if_pos rfl) (Nat.le_of_ble_eq_true rfl) (Cv.mono h (fun M20 h => ?_))
  obtain ⟨hOM20, h⟩ := h
  obtain ⟨h23, h⟩ := h
  obtain ⟨M24, e25⟩ : ∃ M24, M24 = mUR M20 a0 2 (mZ M16) := ⟨_, rfl⟩
  replace h := h M24 e25
  obtain ⟨M26, e27⟩ : ∃ M26, M26 = mNew M24 20 0 2 := ⟨_, rfl⟩
  replace h := h M26 e27
  have hOM24 : mOk M24 := by rw [e25]; exact mOk_UR hOM20
  refine pf_MU_24 rfl rfl d_MU_init_43 h23 e25 ?_
  refine wm_aload_n d_MU_init_46 rfl rfl ?_
  have hOM26 : mOk M26 := by rw [e27]; exact mOk_New hOM24
  refine nf_MU_21 rfl d_MU_init_47 e27 ?_
  refine wm_dup d_MU_init_50 rfl ?_
  refine wm_sipush d_MU_init_51 (by decide) ?_
  refine cf_MU_23 rfl d_MU_init_54 (by rw [e27]; exact if_pos rfl) (Nat.le_of_ble_eq_true rfl) (Cv.mono h (fun M28 h => ?_))
  obtain ⟨hOM28, h⟩ := h
  obtain ⟨h31, h⟩ := h
  obtain ⟨M32, e33⟩ : ∃ M32, M32 = mUR M28 a0 3 (mZ M24) := ⟨_, rfl⟩
  replace h := h M32 e33
  obtain ⟨M34, e35⟩ : ∃ M34, M34 = mNew M32 20 0 2 := ⟨_, rfl⟩
  replace h := h M34 e35
  have hOM32 : mOk M32 := by rw [e33]; exact mOk_UR hOM28
  refine pf_MU_28 rfl rfl d_MU_init_57 h31 e33 ?_
  refine wm_aload_n d_MU_init_60 rfl rfl ?_
  have hOM34 : mOk M34 := by rw [e35]; exact mOk_New hOM32
  refine nf_MU_21 rfl d_MU_init_61 e35 ?_
  refine wm_dup d_MU_init_64 rfl ?_
  refine wm_sipush d_MU_init_65 (by decide) ?_
  refine cf_MU_23 rfl d_MU_init_68 (by rw [e35]; exact if_pos rfl) (Nat.le_of_ble_eq_true rfl) (Cv.mono h (fun M36 h => ?_))
  obtain ⟨hOM36, h⟩ := h
  obtain ⟨h39, h⟩ := h
  obtain ⟨M40, e41⟩ : ∃ M40, M40 = mUR M36 a0 4 (mZ M32) := ⟨_, rfl⟩
  replace h := h M40 e41
  obtain ⟨M42, e43⟩ : ∃ M42, M42 = mNew M40 20 0 2 := ⟨_, rfl⟩
  replace h := h M42 e43
  have hOM40 : mOk M40 := by rw [e41]; exact mOk_UR hOM36
  refine pf_MU_31 rfl rfl d_MU_init_71 h39 e41 ?_
  refine wm_aload_n d_MU_init_74 rfl rfl ?_
  have hOM42 : mOk M42 := by rw [e43]; exact mOk_New hOM40
  refine nf_MU_21 rfl d_MU_init_75 e43 ?_
  refine wm_dup d_MU_init_78 rfl ?_
  refine wm_sipush d_MU_init_79 (by decide) ?_
  refine cf_MU_23 rfl d_MU_init_82 (by rw [e43]; exact if_pos rfl) (Nat.le_of_ble_eq_true rfl) (Cv.mono h (fun M44 h => ?_))
  obtain ⟨hOM44, h⟩ := h
  obtain ⟨h47, h⟩ := h
  obtain ⟨M48, e49⟩ : ∃ M48, M48 = mUR M44 a0 5 (mZ M40) := ⟨_, rfl⟩
  replace h := h M48 e49
  obtain ⟨M50, e51⟩ : ∃ M50, M50 = mNew M48 20 0 2 := ⟨_, rfl⟩
  replace h := h M50 e51
  have hOM48 : mOk M48 := by rw [e49]; exact mOk_UR hOM44
  refine pf_MU_34 rfl rfl d_MU_init_85 h47 e49 ?_
  refine wm_aload_n d_MU_init_88 rfl rfl ?_
  have hOM50 : mOk M50 := by rw [e51]; exact mOk_New hOM48
  refine nf_MU_21 rfl d_MU_init_89 e51 ?_
  refine wm_dup d_MU_init_92 rfl ?_
  refine wm_sipush d_MU_init_93 (by decide) ?_
  refine cf_MU_23 rfl d_MU_init_96 (by rw [e51]; exact if_pos rfl) (Nat.le_of_ble_eq_true rfl) (Cv.mono h (fun M52 h => ?_))
  obtain ⟨hOM52, h⟩ := h
  obtain ⟨h55, h⟩ := h
  obtain ⟨M56, e57⟩ : ∃ M56, M56 = mUR M52 a0 6 (mZ M48) := ⟨_, rfl⟩
  replace h := h M56 e57
  have hOM56 : mOk M56 := by rw [e57]; exact mOk_UR hOM52
  refine pf_MU_37 rfl rfl d_MU_init_99 h55 e57 ?_
  refine wm_return d_MU_init_102 rfl ?_
  exact ⟨rfl, h⟩
theorem d_MU_bring_0 : decode y_MU_bring.2.1 0 = .ok (.aload_n 0, 1) := dc9_42 (by decide +kernel)
theorem d_MU_bring_1 : decode y_MU_bring.2.1 1 = .ok (.invokevirtual 40, 3) := dc9_182 (by decide +kernel)
theorem d_MU_bring_4 : decode y_MU_bring.2.1 4 = .ok (.ifCond .eq 19, 3) := dc9_153 (by decide +kernel)
theorem d_MU_bring_23 : decode y_MU_bring.2.1 23 = .ok (.aload_n 0, 1) := dc9_42 (by decide +kernel)
theorem d_MU_bring_24 : decode y_MU_bring.2.1 24 = .ok (.iload_n 1, 1) := dc9_27 (by decide +kernel)
theorem d_MU_bring_7 : decode y_MU_bring.2.1 7 = .ok (.aload_n 0, 1) := dc9_42 (by decide +kernel)
theorem d_MU_bring_8 : decode y_MU_bring.2.1 8 = .ok (.iload_n 1, 1) := dc9_27 (by decide +kernel)
theorem d_MU_bring_25 : decode y_MU_bring.2.1 25 = .ok (.invokevirtual 48, 3) := dc9_182 (by decide +kernel)
theorem d_MU_bring_28 : decode y_MU_bring.2.1 28 = .ok (.return_, 1) := dc9_177 (by decide +kernel)
theorem d_MU_bring_9 : decode y_MU_bring.2.1 9 = .ok (.ifCond .eq 7, 3) := dc9_153 (by decide +kernel)
theorem d_MU_bring_16 : decode y_MU_bring.2.1 16 = .ok (.lconst 0, 1) := dc9_9 (by decide +kernel)
theorem d_MU_bring_12 : decode y_MU_bring.2.1 12 = .ok (.lconst 1, 1) := dc9_10 (by decide +kernel)
theorem d_MU_bring_13 : decode y_MU_bring.2.1 13 = .ok (.goto 4, 3) := dc9_167 (by decide +kernel)
theorem d_MU_bring_17 : decode y_MU_bring.2.1 17 = .ok (.invokevirtual 44, 3) := dc9_182 (by decide +kernel)
theorem d_MU_bring_20 : decode y_MU_bring.2.1 20 = .ok (.goto 8, 3) := dc9_167 (by decide +kernel)
theorem k_MU_bring {G : mG} {d : Nat} {a0 : Nat} {l1 : Int} {M : mM} {Q : mM → Prop} (hO : mOk M) (hi_l1 : i32 l1)
    (h : mK M a0 = 20 ∧ Ci G y_MW_isZero d [vr a0] M (fun x3 M2 => i32 x3 ∧ mOk M2 ∧ (((x3 = 0) → (mK M2 a0 = 20 ∧ Cv G y_MW_twice d [vr a0, vi l1] M2 (fun M9 => mOk M9 ∧ (Q M9)))) ∧ (¬ (x3 = 0) → (∀ v13 : Int, v13 = (if (l1 = 0) then 0 else 1) → mK M2 a0 = 20 ∧ Cv G y_MW_set d [vr a0, vl v13] M2 (fun M18 => mOk M18 ∧ (Q M18))))))) :
    Cv G y_MU_bring (d + 1) [vr a0, vi l1] M Q := by
  refine wm_open (y := y_MU_bring) rfl (Nat.le_of_ble_eq_true rfl) (L := [vr a0, vi l1]) rfl ?_
  obtain ⟨h1, h⟩ := h
  refine wm_aload_n d_MU_bring_0 rfl rfl ?_
  refine cf_MU_40 rfl d_MU_bring_1 h1 (Nat.le_of_ble_eq_true rfl) (Ci.mono h (fun x3 M2 h => ?_))
  obtain ⟨h4, hOM2, h⟩ := h
  refine wm_if_eq (tgt := 23) d_MU_bring_4 rfl h4 (fun c7 => ?_) (fun c7 => ?_)
  · replace h := h.1 c7
    obtain ⟨h8, h⟩ := h
    refine wm_aload_n d_MU_bring_23 rfl rfl ?_
    refine wm_iload_n d_MU_bring_24 rfl rfl ?_
    refine cf_MU_48 rfl d_MU_bring_25 h8 (Nat.le_of_ble_eq_true rfl) (Cv.mono h (fun M9 h => ?_))
    obtain ⟨hOM9, h⟩ := h
    refine wm_return d_MU_bring_28 rfl ?_
    exact ⟨rfl, h⟩
  · replace h := h.2 c7
    refine wm_aload_n d_MU_bring_7 rfl rfl ?_
    refine wm_iload_n d_MU_bring_8 rfl rfl ?_
    have hJ : ∀ v13 : Int, v13 = (if (l1 = 0) then 0 else 1) → mWm G y_MU_bring (d + 1) 17 [vd, vd] [vl v13, vr a0] M2 (fun r9 M9 => r9 = none ∧ Q M9) := by
      intro v13 e15
      have h := h v13 e15
      have h16 : (v13 = 0 ∨ v13 = 1) := by rw [e15]; (repeat' split) <;> decide
      obtain ⟨h17, h⟩ := h
      refine cf_MU_44 rfl d_MU_bring_17 h17 (Nat.le_of_ble_eq_true rfl) (Cv.mono h (fun M18 h => ?_))
      obtain ⟨hOM18, h⟩ := h
      refine wm_goto (tgt := 28) d_MU_bring_20 rfl ?_
      refine wm_return d_MU_bring_28 rfl ?_
      exact ⟨rfl, h⟩
    clear h
    refine wm_if_eq (tgt := 16) d_MU_bring_9 rfl hi_l1 (fun c12 => ?_) (fun c12 => ?_)
    · refine wm_lconst (x := 0) d_MU_bring_16 rfl ?_
      refine wm_less (L' := [vd, vd]) ⟨Or.inl rfl, Or.inl rfl, trivial⟩ ?_
      exact hJ 0 (if_pos c12).symm
    · refine wm_lconst (x := 1) d_MU_bring_12 rfl ?_
      refine wm_goto (tgt := 17) d_MU_bring_13 rfl ?_
      refine wm_less (L' := [vd, vd]) ⟨Or.inl rfl, Or.inl rfl, trivial⟩ ?_
      exact hJ 1 (if_neg c12).symm
theorem d_MU_divide0_0 : decode y_MU_divide0.2.1 0 = .ok (.aload_n 0, 1) := dc9_42 (by decide +kernel)
theorem d_MU_divide0_1 : decode y_MU_divide0.2.1 1 = .ok (.getfield 34, 3) := dc9_180 (by decide +kernel)
theorem d_MU_divide0_4 : decode y_MU_divide0.2.1 4 = .ok (.lconst 0, 1) := dc9_9 (by decide +kernel)
theorem d_MU_divide0_5 : decode y_MU_divide0.2.1 5 = .ok (.invokevirtual 44, 3) := dc9_182 (by decide +kernel)
theorem d_MU_divide0_8 : decode y_MU_divide0.2.1 8 = .ok (.aload_n 0, 1) := dc9_42 (by decide +kernel)
theorem d_MU_divide0_9 : decode y_MU_divide0.2.1 9 = .ok (.getfield 37, 3) := dc9_180 (by decide +kernel)
theorem d_MU_divide0_12 : decode y_MU_divide0.2.1 12 = .ok (.lconst 0, 1) := dc9_9 (by decide +kernel)
theorem d_MU_divide0_13 : decode y_MU_divide0.2.1 13 = .ok (.invokevirtual 44, 3) := dc9_182 (by decide +kernel)
theorem d_MU_divide0_16 : decode y_MU_divide0.2.1 16 = .ok (.aload_n 1, 1) := dc9_43 (by decide +kernel)
theorem d_MU_divide0_17 : decode y_MU_divide0.2.1 17 = .ok (.invokevirtual 52, 3) := dc9_182 (by decide +kernel)
theorem d_MU_divide0_20 : decode y_MU_divide0.2.1 20 = .ok (.iconst 1, 1) := dc9_4 (by decide +kernel)
theorem d_MU_divide0_21 : decode y_MU_divide0.2.1 21 = .ok (.isub, 1) := dc9_100 (by decide +kernel)
theorem d_MU_divide0_22 : decode y_MU_divide0.2.1 22 = .ok (.istore_n 3, 1) := dc9_62 (by decide +kernel)
theorem d_MU_divide0_23 : decode y_MU_divide0.2.1 23 = .ok (.iload_n 3, 1) := dc9_29 (by decide +kernel)
theorem d_MU_divide0_24 : decode y_MU_divide0.2.1 24 = .ok (.ifCond .lt 61, 3) := dc9_155 (by decide +kernel)
theorem d_MU_divide0_85 : decode y_MU_divide0.2.1 85 = .ok (.return_, 1) := dc9_177 (by decide +kernel)
theorem d_MU_divide0_27 : decode y_MU_divide0.2.1 27 = .ok (.aload_n 0, 1) := dc9_42 (by decide +kernel)
theorem d_MU_divide0_28 : decode y_MU_divide0.2.1 28 = .ok (.getfield 37, 3) := dc9_180 (by decide +kernel)
theorem d_MU_divide0_31 : decode y_MU_divide0.2.1 31 = .ok (.aload_n 1, 1) := dc9_43 (by decide +kernel)
theorem d_MU_divide0_32 : decode y_MU_divide0.2.1 32 = .ok (.iload_n 3, 1) := dc9_29 (by decide +kernel)
theorem d_MU_divide0_33 : decode y_MU_divide0.2.1 33 = .ok (.invokevirtual 56, 3) := dc9_182 (by decide +kernel)
theorem d_MU_divide0_36 : decode y_MU_divide0.2.1 36 = .ok (.invokestatic 60, 3) := dc9_184 (by decide +kernel)
theorem d_MU_divide0_39 : decode y_MU_divide0.2.1 39 = .ok (.aload_n 0, 1) := dc9_42 (by decide +kernel)
theorem d_MU_divide0_40 : decode y_MU_divide0.2.1 40 = .ok (.getfield 37, 3) := dc9_180 (by decide +kernel)
theorem d_MU_divide0_43 : decode y_MU_divide0.2.1 43 = .ok (.aload_n 2, 1) := dc9_44 (by decide +kernel)
theorem d_MU_divide0_44 : decode y_MU_divide0.2.1 44 = .ok (.invokevirtual 64, 3) := dc9_182 (by decide +kernel)
theorem d_MU_divide0_47 : decode y_MU_divide0.2.1 47 = .ok (.ifCond .lt 7, 3) := dc9_155 (by decide +kernel)
theorem d_MU_divide0_54 : decode y_MU_divide0.2.1 54 = .ok (.iconst 0, 1) := dc9_3 (by decide +kernel)
theorem d_MU_divide0_50 : decode y_MU_divide0.2.1 50 = .ok (.iconst 1, 1) := dc9_4 (by decide +kernel)
theorem d_MU_divide0_51 : decode y_MU_divide0.2.1 51 = .ok (.goto 4, 3) := dc9_167 (by decide +kernel)
theorem d_MU_divide0_55 : decode y_MU_divide0.2.1 55 = .ok (.istore 4, 2) := dc9_54 (by decide +kernel)
theorem d_MU_divide0_57 : decode y_MU_divide0.2.1 57 = .ok (.iload 4, 2) := dc9_21 (by decide +kernel)
theorem d_MU_divide0_59 : decode y_MU_divide0.2.1 59 = .ok (.ifCond .eq 11, 3) := dc9_153 (by decide +kernel)
theorem d_MU_divide0_62 : decode y_MU_divide0.2.1 62 = .ok (.aload_n 0, 1) := dc9_42 (by decide +kernel)
theorem d_MU_divide0_63 : decode y_MU_divide0.2.1 63 = .ok (.getfield 37, 3) := dc9_180 (by decide +kernel)
theorem d_MU_divide0_66 : decode y_MU_divide0.2.1 66 = .ok (.aload_n 2, 1) := dc9_44 (by decide +kernel)
theorem d_MU_divide0_70 : decode y_MU_divide0.2.1 70 = .ok (.aload_n 0, 1) := dc9_42 (by decide +kernel)
theorem d_MU_divide0_71 : decode y_MU_divide0.2.1 71 = .ok (.getfield 34, 3) := dc9_180 (by decide +kernel)
theorem d_MU_divide0_74 : decode y_MU_divide0.2.1 74 = .ok (.iload 4, 2) := dc9_21 (by decide +kernel)
theorem d_MU_divide0_76 : decode y_MU_divide0.2.1 76 = .ok (.invokestatic 60, 3) := dc9_184 (by decide +kernel)
theorem d_MU_divide0_79 : decode y_MU_divide0.2.1 79 = .ok (.iinc 3 (-1), 3) := by decide +kernel
theorem d_MU_divide0_82 : decode y_MU_divide0.2.1 82 = .ok (.goto (-59), 3) := dc9_167 (by decide +kernel)
theorem d_MU_divide0_67 : decode y_MU_divide0.2.1 67 = .ok (.invokevirtual 68, 3) := dc9_182 (by decide +kernel)
def h_MU_divide0_23 (G : mG) (d : Nat) (a0 : Nat) (a1 : Nat) (a2 : Nat) (l3 : Int) (M : mM) (Q : mM → Prop) : Prop := mWm G y_MU_divide0 (d + 1) 23 [vr a0, vr a1, vr a2, vi l3, vd] [] M (fun r9 M9 => r9 = none ∧ Q M9)
theorem k_MU_divide0 {G : mG} {d : Nat} {a0 : Nat} {a1 : Nat} {a2 : Nat} {M : mM} {Q : mM → Prop} (hO : mOk M)
    (h : mK M a0 = 18 ∧ mK M (mR M a0 5) = 20 ∧ Cv G y_MW_set d [vr (mR M a0 5), vl 0] M (fun M3 => mOk M3 ∧ (mK M3 a0 = 18 ∧ mK M3 (mR M3 a0 6) = 20 ∧ Cv G y_MW_set d [vr (mR M3 a0 6), vl 0] M3 (fun M8 => mOk M8 ∧ (mK M8 a1 = 20 ∧ Ci G y_MW_places d [vr a1] M8 (fun x13 M12 => i32 x13 ∧ mOk M12 ∧ (h_MU_divide0_23 G d a0 a1 a2 (x13 - 1) M12 Q))))))) :
    Cv G y_MU_divide0 (d + 1) [vr a0, vr a1, vr a2] M Q := by
  refine wm_open (y := y_MU_divide0) rfl (Nat.le_of_ble_eq_true rfl) (L := [vr a0, vr a1, vr a2, vd, vd]) rfl ?_
  obtain ⟨h1, h⟩ := h
  obtain ⟨h2, h⟩ := h
  refine wm_aload_n d_MU_divide0_0 rfl rfl ?_
  refine gf_MU_34 rfl d_MU_divide0_1 h1 ?_
  refine wm_lconst (x := 0) d_MU_divide0_4 rfl ?_
  refine cf_MU_44 rfl d_MU_divide0_5 h2 (Nat.le_of_ble_eq_true rfl) (Cv.mono h (fun M3 h => ?_))
  obtain ⟨hOM3, h⟩ := h
  obtain ⟨h6, h⟩ := h
  obtain ⟨h7, h⟩ := h
  refine wm_aload_n d_MU_divide0_8 rfl rfl ?_
  refine gf_MU_37 rfl d_MU_divide0_9 h6 ?_
  refine wm_lconst (x := 0) d_MU_divide0_12 rfl ?_
  refine cf_MU_44 rfl d_MU_divide0_13 h7 (Nat.le_of_ble_eq_true rfl) (Cv.mono h (fun M8 h => ?_))
  obtain ⟨hOM8, h⟩ := h
  obtain ⟨h11, h⟩ := h
  refine wm_aload_n d_MU_divide0_16 rfl rfl ?_
  refine cf_MU_52 rfl d_MU_divide0_17 h11 (Nat.le_of_ble_eq_true rfl) (Ci.mono h (fun x13 M12 h => ?_))
  obtain ⟨h14, hOM12, h⟩ := h
  refine wm_iconst d_MU_divide0_20 ?_
  refine wm_isub d_MU_divide0_21 ?_
  refine wm_istore_n d_MU_divide0_22 rfl (by decide) (L' := [vr a0, vr a1, vr a2, vi (x13 - 1), vd]) rfl ?_
  exact h
theorem k_MU_divide0_23 {G : mG} {d : Nat} {a0 : Nat} {a1 : Nat} {a2 : Nat} {l3 : Int} {M : mM} {Q : mM → Prop} (hO : mOk M) (hi_l3 : i32 l3)
    (h : ((l3 < 0) → (Q M)) ∧ (¬ (l3 < 0) → (mK M a0 = 18 ∧ mK M a1 = 20 ∧ Ci G y_MW_bit d [vr a1, vi l3] M (fun x20 M19 => i32 x20 ∧ mOk M19 ∧ (Cv G y_MU_bring d [vr (mR M a0 6), vi x20] M19 (fun M22 => mOk M22 ∧ (mK M22 a0 = 18 ∧ mK M22 (mR M22 a0 6) = 20 ∧ Ci G y_MW_compare d [vr (mR M22 a0 6), vr a2] M22 (fun x28 M27 => i32 x28 ∧ mOk M27 ∧ (∀ v31 : Int, v31 = (if (x28 < 0) then 0 else 1) → ((v31 = 0) → (mK M27 a0 = 18 ∧ Cv G y_MU_bring d [vr (mR M27 a0 5), vi v31] M27 (fun M41 => mOk M41 ∧ (h_MU_divide0_23 G d a0 a1 a2 (l3 + (-1)) M41 Q)))) ∧ (¬ (v31 = 0) → (mK M27 a0 = 18 ∧ mK M27 (mR M27 a0 6) = 20 ∧ Cv G y_MW_less d [vr (mR M27 a0 6), vr a2] M27 (fun M46 => mOk M46 ∧ (mK M46 a0 = 18 ∧ Cv G y_MU_bring d [vr (mR M46 a0 5), vi v31] M46 (fun M50 => mOk M50 ∧ (h_MU_divide0_23 G d a0 a1 a2 (l3 + (-1)) M50 Q))))))))))))))) :
    h_MU_divide0_23 G d a0 a1 a2 l3 M Q := by
  unfold h_MU_divide0_23
  refine wm_iload_n d_MU_divide0_23 rfl rfl ?_
  refine wm_if_lt (tgt := 85) d_MU_divide0_24 rfl hi_l3 (fun c16 => ?_) (fun c16 => ?_)
  · replace h := h.1 c16
    refine wm_return d_MU_divide0_85 rfl ?_
    exact ⟨rfl, h⟩
  · replace h := h.2 c16
    obtain ⟨h17, h⟩ := h
    obtain ⟨h18, h⟩ := h
    refine wm_aload_n d_MU_divide0_27 rfl rfl ?_
    refine gf_MU_37 rfl d_MU_divide0_28 h17 ?_
    refine wm_aload_n d_MU_divide0_31 rfl rfl ?_
    refine wm_iload_n d_MU_divide0_32 rfl rfl ?_
    refine cf_MU_56 rfl d_MU_divide0_33 h18 (Nat.le_of_ble_eq_true rfl) (Ci.mono h (fun x20 M19 h => ?_))
    obtain ⟨h21, hOM19, h⟩ := h
    refine cf_MU_60 rfl d_MU_divide0_36 (Nat.le_of_ble_eq_true rfl) (Cv.mono h (fun M22 h => ?_))
    obtain ⟨hOM22, h⟩ := h
    obtain ⟨h25, h⟩ := h
    obtain ⟨h26, h⟩ := h
    refine wm_aload_n d_MU_divide0_39 rfl rfl ?_
    refine gf_MU_37 rfl d_MU_divide0_40 h25 ?_
    refine wm_aload_n d_MU_divide0_43 rfl rfl ?_
    refine cf_MU_64 rfl d_MU_divide0_44 h26 (Nat.le_of_ble_eq_true rfl) (Ci.mono h (fun x28 M27 h => ?_))
    obtain ⟨h29, hOM27, h⟩ := h
    have hJ : ∀ v31 : Int, v31 = (if (x28 < 0) then 0 else 1) → mWm G y_MU_divide0 (d + 1) 55 [vr a0, vr a1, vr a2, vi l3, vd] [vi v31] M27 (fun r9 M9 => r9 = none ∧ Q M9) := by
      intro v31 e33
      have h := h v31 e33
      have h34 : i32 v31 := by rw [e33]; (repeat' split) <;> first | exact ⟨by decide, by decide⟩ | exact ⟨by decide, by decide⟩
      have h35 : (v31 = 0 ∨ v31 = 1) := by rw [e33]; (repeat' split) <;> decide
      refine wm_istore d_MU_divide0_55 (by decide) (L' := [vr a0, vr a1, vr a2, vi l3, vi v31]) rfl ?_
      refine wm_iload d_MU_divide0_57 rfl ?_
      refine wm_if_eq (tgt := 70) d_MU_divide0_59 rfl h34 (fun c39 => ?_) (fun c39 => ?_)
      · replace h := h.1 c39
        obtain ⟨h40, h⟩ := h
        refine wm_aload_n d_MU_divide0_70 rfl rfl ?_
        refine gf_MU_34 rfl d_MU_divide0_71 h40 ?_
        refine wm_iload d_MU_divide0_74 rfl ?_
        refine cf_MU_60 rfl d_MU_divide0_76 (Nat.le_of_ble_eq_true rfl) (Cv.mono h (fun M41 h => ?_))
        obtain ⟨hOM41, h⟩ := h
        refine wm_iinc d_MU_divide0_79 (by decide) rfl (L' := [vr a0, vr a1, vr a2, vi (l3 + (-1)), vi v31]) rfl ?_
        refine wm_goto (tgt := 23) d_MU_divide0_82 rfl ?_
        refine wm_less (L' := [vr a0, vr a1, vr a2, vi (l3 + (-1)), vd]) ⟨Or.inr rfl, Or.inr rfl, Or.inr rfl, Or.inr rfl, Or.inl rfl, trivial⟩ ?_
        exact h
      · replace h := h.2 c39
        obtain ⟨h44, h⟩ := h
        obtain ⟨h45, h⟩ := h
        refine wm_aload_n d_MU_divide0_62 rfl rfl ?_
        refine gf_MU_37 rfl d_MU_divide0_63 h44 ?_
        refine wm_aload_n d_MU_divide0_66 rfl rfl ?_
        refine cf_MU_68 rfl d_MU_divide0_67 h45 (Nat.le_of_ble_eq_true rfl) (Cv.mono h (fun M46 h => ?_))
        obtain ⟨hOM46, h⟩ := h
        obtain ⟨h49, h⟩ := h
        refine wm_aload_n d_MU_divide0_70 rfl rfl ?_
        refine gf_MU_34 rfl d_MU_divide0_71 h49 ?_
        refine wm_iload d_MU_divide0_74 rfl ?_
        refine cf_MU_60 rfl d_MU_divide0_76 (Nat.le_of_ble_eq_true rfl) (Cv.mono h (fun M50 h => ?_))
        obtain ⟨hOM50, h⟩ := h
        refine wm_iinc d_MU_divide0_79 (by decide) rfl (L' := [vr a0, vr a1, vr a2, vi (l3 + (-1)), vi v31]) rfl ?_
        refine wm_goto (tgt := 23) d_MU_divide0_82 rfl ?_
        refine wm_less (L' := [vr a0, vr a1, vr a2, vi (l3 + (-1)), vd]) ⟨Or.inr rfl, Or.inr rfl, Or.inr rfl, Or.inr rfl, Or.inl rfl, trivial⟩ ?_
        exact h
    clear h
    refine wm_if_lt (tgt := 54) d_MU_divide0_47 rfl h29 (fun c30 => ?_) (fun c30 => ?_)
    · refine wm_iconst d_MU_divide0_54 ?_
      exact hJ 0 (if_pos c30).symm
    · refine wm_iconst d_MU_divide0_50 ?_
      refine wm_goto (tgt := 55) d_MU_divide0_51 rfl ?_
      exact hJ 1 (if_neg c30).symm
theorem d_MU_common_0 : decode y_MU_common.2.1 0 = .ok (.iconst 0, 1) := dc9_3 (by decide +kernel)
theorem d_MU_common_1 : decode y_MU_common.2.1 1 = .ok (.istore_n 1, 1) := dc9_60 (by decide +kernel)
theorem d_MU_common_2 : decode y_MU_common.2.1 2 = .ok (.aload_n 0, 1) := dc9_42 (by decide +kernel)
theorem d_MU_common_3 : decode y_MU_common.2.1 3 = .ok (.getfield 24, 3) := dc9_180 (by decide +kernel)
theorem d_MU_common_6 : decode y_MU_common.2.1 6 = .ok (.invokevirtual 72, 3) := dc9_182 (by decide +kernel)
theorem d_MU_common_9 : decode y_MU_common.2.1 9 = .ok (.ifCond .ne 33, 3) := dc9_154 (by decide +kernel)
theorem d_MU_common_12 : decode y_MU_common.2.1 12 = .ok (.aload_n 0, 1) := dc9_42 (by decide +kernel)
theorem d_MU_common_13 : decode y_MU_common.2.1 13 = .ok (.getfield 28, 3) := dc9_180 (by decide +kernel)
theorem d_MU_common_16 : decode y_MU_common.2.1 16 = .ok (.invokevirtual 72, 3) := dc9_182 (by decide +kernel)
theorem d_MU_common_19 : decode y_MU_common.2.1 19 = .ok (.ifCond .ne 23, 3) := dc9_154 (by decide +kernel)
theorem d_MU_common_22 : decode y_MU_common.2.1 22 = .ok (.aload_n 0, 1) := dc9_42 (by decide +kernel)
theorem d_MU_common_23 : decode y_MU_common.2.1 23 = .ok (.getfield 24, 3) := dc9_180 (by decide +kernel)
theorem d_MU_common_26 : decode y_MU_common.2.1 26 = .ok (.invokevirtual 75, 3) := dc9_182 (by decide +kernel)
theorem d_MU_common_29 : decode y_MU_common.2.1 29 = .ok (.aload_n 0, 1) := dc9_42 (by decide +kernel)
theorem d_MU_common_30 : decode y_MU_common.2.1 30 = .ok (.getfield 28, 3) := dc9_180 (by decide +kernel)
theorem d_MU_common_33 : decode y_MU_common.2.1 33 = .ok (.invokevirtual 75, 3) := dc9_182 (by decide +kernel)
theorem d_MU_common_36 : decode y_MU_common.2.1 36 = .ok (.iinc 1 1, 3) := by decide +kernel
theorem d_MU_common_39 : decode y_MU_common.2.1 39 = .ok (.goto (-37), 3) := dc9_167 (by decide +kernel)
theorem d_MU_common_42 : decode y_MU_common.2.1 42 = .ok (.aload_n 0, 1) := dc9_42 (by decide +kernel)
theorem d_MU_common_43 : decode y_MU_common.2.1 43 = .ok (.getfield 24, 3) := dc9_180 (by decide +kernel)
theorem d_MU_common_46 : decode y_MU_common.2.1 46 = .ok (.invokevirtual 72, 3) := dc9_182 (by decide +kernel)
theorem d_MU_common_49 : decode y_MU_common.2.1 49 = .ok (.ifCond .ne 13, 3) := dc9_154 (by decide +kernel)
theorem d_MU_common_52 : decode y_MU_common.2.1 52 = .ok (.aload_n 0, 1) := dc9_42 (by decide +kernel)
theorem d_MU_common_53 : decode y_MU_common.2.1 53 = .ok (.getfield 24, 3) := dc9_180 (by decide +kernel)
theorem d_MU_common_56 : decode y_MU_common.2.1 56 = .ok (.invokevirtual 75, 3) := dc9_182 (by decide +kernel)
theorem d_MU_common_59 : decode y_MU_common.2.1 59 = .ok (.goto (-17), 3) := dc9_167 (by decide +kernel)
theorem d_MU_common_62 : decode y_MU_common.2.1 62 = .ok (.aload_n 0, 1) := dc9_42 (by decide +kernel)
theorem d_MU_common_63 : decode y_MU_common.2.1 63 = .ok (.getfield 28, 3) := dc9_180 (by decide +kernel)
theorem d_MU_common_66 : decode y_MU_common.2.1 66 = .ok (.invokevirtual 40, 3) := dc9_182 (by decide +kernel)
theorem d_MU_common_69 : decode y_MU_common.2.1 69 = .ok (.ifCond .ne 84, 3) := dc9_154 (by decide +kernel)
theorem d_MU_common_153 : decode y_MU_common.2.1 153 = .ok (.iconst 0, 1) := dc9_3 (by decide +kernel)
theorem d_MU_common_154 : decode y_MU_common.2.1 154 = .ok (.istore_n 2, 1) := dc9_61 (by decide +kernel)
theorem d_MU_common_72 : decode y_MU_common.2.1 72 = .ok (.aload_n 0, 1) := dc9_42 (by decide +kernel)
theorem d_MU_common_73 : decode y_MU_common.2.1 73 = .ok (.getfield 28, 3) := dc9_180 (by decide +kernel)
theorem d_MU_common_76 : decode y_MU_common.2.1 76 = .ok (.invokevirtual 72, 3) := dc9_182 (by decide +kernel)
theorem d_MU_common_79 : decode y_MU_common.2.1 79 = .ok (.ifCond .ne 13, 3) := dc9_154 (by decide +kernel)
theorem d_MU_common_82 : decode y_MU_common.2.1 82 = .ok (.aload_n 0, 1) := dc9_42 (by decide +kernel)
theorem d_MU_common_83 : decode y_MU_common.2.1 83 = .ok (.getfield 28, 3) := dc9_180 (by decide +kernel)
theorem d_MU_common_92 : decode y_MU_common.2.1 92 = .ok (.aload_n 0, 1) := dc9_42 (by decide +kernel)
theorem d_MU_common_93 : decode y_MU_common.2.1 93 = .ok (.getfield 24, 3) := dc9_180 (by decide +kernel)
theorem d_MU_common_96 : decode y_MU_common.2.1 96 = .ok (.aload_n 0, 1) := dc9_42 (by decide +kernel)
theorem d_MU_common_97 : decode y_MU_common.2.1 97 = .ok (.getfield 28, 3) := dc9_180 (by decide +kernel)
theorem d_MU_common_86 : decode y_MU_common.2.1 86 = .ok (.invokevirtual 75, 3) := dc9_182 (by decide +kernel)
theorem d_MU_common_89 : decode y_MU_common.2.1 89 = .ok (.goto (-17), 3) := dc9_167 (by decide +kernel)
theorem d_MU_common_100 : decode y_MU_common.2.1 100 = .ok (.invokevirtual 64, 3) := dc9_182 (by decide +kernel)
theorem d_MU_common_103 : decode y_MU_common.2.1 103 = .ok (.ifCond .le 36, 3) := dc9_158 (by decide +kernel)
theorem d_MU_common_106 : decode y_MU_common.2.1 106 = .ok (.aload_n 0, 1) := dc9_42 (by decide +kernel)
theorem d_MU_common_107 : decode y_MU_common.2.1 107 = .ok (.getfield 31, 3) := dc9_180 (by decide +kernel)
theorem d_MU_common_110 : decode y_MU_common.2.1 110 = .ok (.aload_n 0, 1) := dc9_42 (by decide +kernel)
theorem d_MU_common_111 : decode y_MU_common.2.1 111 = .ok (.getfield 24, 3) := dc9_180 (by decide +kernel)
theorem d_MU_common_139 : decode y_MU_common.2.1 139 = .ok (.aload_n 0, 1) := dc9_42 (by decide +kernel)
theorem d_MU_common_140 : decode y_MU_common.2.1 140 = .ok (.getfield 28, 3) := dc9_180 (by decide +kernel)
theorem d_MU_common_143 : decode y_MU_common.2.1 143 = .ok (.aload_n 0, 1) := dc9_42 (by decide +kernel)
theorem d_MU_common_144 : decode y_MU_common.2.1 144 = .ok (.getfield 24, 3) := dc9_180 (by decide +kernel)
theorem d_MU_common_147 : decode y_MU_common.2.1 147 = .ok (.invokevirtual 68, 3) := dc9_182 (by decide +kernel)
theorem d_MU_common_150 : decode y_MU_common.2.1 150 = .ok (.goto (-88), 3) := dc9_167 (by decide +kernel)
theorem d_MU_common_114 : decode y_MU_common.2.1 114 = .ok (.invokevirtual 78, 3) := dc9_182 (by decide +kernel)
theorem d_MU_common_117 : decode y_MU_common.2.1 117 = .ok (.aload_n 0, 1) := dc9_42 (by decide +kernel)
theorem d_MU_common_118 : decode y_MU_common.2.1 118 = .ok (.getfield 24, 3) := dc9_180 (by decide +kernel)
theorem d_MU_common_121 : decode y_MU_common.2.1 121 = .ok (.aload_n 0, 1) := dc9_42 (by decide +kernel)
theorem d_MU_common_122 : decode y_MU_common.2.1 122 = .ok (.getfield 28, 3) := dc9_180 (by decide +kernel)
theorem d_MU_common_125 : decode y_MU_common.2.1 125 = .ok (.invokevirtual 78, 3) := dc9_182 (by decide +kernel)
theorem d_MU_common_128 : decode y_MU_common.2.1 128 = .ok (.aload_n 0, 1) := dc9_42 (by decide +kernel)
theorem d_MU_common_129 : decode y_MU_common.2.1 129 = .ok (.getfield 28, 3) := dc9_180 (by decide +kernel)
theorem d_MU_common_132 : decode y_MU_common.2.1 132 = .ok (.aload_n 0, 1) := dc9_42 (by decide +kernel)
theorem d_MU_common_133 : decode y_MU_common.2.1 133 = .ok (.getfield 31, 3) := dc9_180 (by decide +kernel)
theorem d_MU_common_136 : decode y_MU_common.2.1 136 = .ok (.invokevirtual 78, 3) := dc9_182 (by decide +kernel)
theorem d_MU_common_155 : decode y_MU_common.2.1 155 = .ok (.iload_n 2, 1) := dc9_28 (by decide +kernel)
theorem d_MU_common_156 : decode y_MU_common.2.1 156 = .ok (.iload_n 1, 1) := dc9_27 (by decide +kernel)
theorem d_MU_common_157 : decode y_MU_common.2.1 157 = .ok (.if_icmp .ge 17, 3) := dc9_162 (by decide +kernel)
theorem d_MU_common_174 : decode y_MU_common.2.1 174 = .ok (.return_, 1) := dc9_177 (by decide +kernel)
theorem d_MU_common_160 : decode y_MU_common.2.1 160 = .ok (.aload_n 0, 1) := dc9_42 (by decide +kernel)
theorem d_MU_common_161 : decode y_MU_common.2.1 161 = .ok (.getfield 24, 3) := dc9_180 (by decide +kernel)
theorem d_MU_common_164 : decode y_MU_common.2.1 164 = .ok (.iconst 0, 1) := dc9_3 (by decide +kernel)
theorem d_MU_common_165 : decode y_MU_common.2.1 165 = .ok (.invokevirtual 48, 3) := dc9_182 (by decide +kernel)
theorem d_MU_common_168 : decode y_MU_common.2.1 168 = .ok (.iinc 2 1, 3) := by decide +kernel
theorem d_MU_common_171 : decode y_MU_common.2.1 171 = .ok (.goto (-16), 3) := dc9_167 (by decide +kernel)
def h_MU_common_2 (G : mG) (d : Nat) (a0 : Nat) (l1 : Int) (M : mM) (Q : mM → Prop) : Prop := mWm G y_MU_common (d + 1) 2 [vr a0, vi l1, vd] [] M (fun r9 M9 => r9 = none ∧ Q M9)
def h_MU_common_42 (G : mG) (d : Nat) (a0 : Nat) (l1 : Int) (M : mM) (Q : mM → Prop) : Prop := mWm G y_MU_common (d + 1) 42 [vr a0, vi l1, vd] [] M (fun r9 M9 => r9 = none ∧ Q M9)
def h_MU_common_62 (G : mG) (d : Nat) (a0 : Nat) (l1 : Int) (M : mM) (Q : mM → Prop) : Prop := mWm G y_MU_common (d + 1) 62 [vr a0, vi l1, vd] [] M (fun r9 M9 => r9 = none ∧ Q M9)
def h_MU_common_72 (G : mG) (d : Nat) (a0 : Nat) (l1 : Int) (M : mM) (Q : mM → Prop) : Prop := mWm G y_MU_common (d + 1) 72 [vr a0, vi l1, vd] [] M (fun r9 M9 => r9 = none ∧ Q M9)
def h_MU_common_155 (G : mG) (d : Nat) (a0 : Nat) (l1 : Int) (l2 : Int) (M : mM) (Q : mM → Prop) : Prop := mWm G y_MU_common (d + 1) 155 [vr a0, vi l1, vi l2] [] M (fun r9 M9 => r9 = none ∧ Q M9)
theorem k_MU_common {G : mG} {d : Nat} {a0 : Nat} {M : mM} {Q : mM → Prop} (hO : mOk M)
    (h : h_MU_common_2 G d a0 0 M Q) :
    Cv G y_MU_common (d + 1) [vr a0] M Q := by
  refine wm_open (y := y_MU_common) rfl (Nat.le_of_ble_eq_true rfl) (L := [vr a0, vd, vd]) rfl ?_
  refine wm_iconst d_MU_common_0 ?_
  refine wm_istore_n d_MU_common_1 rfl (by decide) (L' := [vr a0, vi 0, vd]) rfl ?_
  exact h
theorem k_MU_common_2 {G : mG} {d : Nat} {a0 : Nat} {l1 : Int} {M : mM} {Q : mM → Prop} (hO : mOk M) (hi_l1 : i32 l1)
    (h : mK M a0 = 18 ∧ mK M (mR M a0 2) = 20 ∧ Ci G y_MW_isOdd d [vr (mR M a0 2)] M (fun x4 M3 => i32 x4 ∧ mOk M3 ∧ (((x4 = 0) → (mK M3 a0 = 18 ∧ mK M3 (mR M3 a0 3) = 20 ∧ Ci G y_MW_isOdd d [vr (mR M3 a0 3)] M3 (fun x11 M10 => i32 x11 ∧ mOk M10 ∧ (((x11 = 0) → (mK M10 a0 = 18 ∧ mK M10 (mR M10 a0 2) = 20 ∧ Cv G y_MW_halve d [vr (mR M10 a0 2)] M10 (fun M17 => mOk M17 ∧ (mK M17 a0 = 18 ∧ mK M17 (mR M17 a0 3) = 20 ∧ Cv G y_MW_halve d [vr (mR M17 a0 3)] M17 (fun M22 => mOk M22 ∧ (h_MU_common_2 G d a0 (l1 + 1) M22 Q)))))) ∧ (¬ (x11 = 0) → (h_MU_common_42 G d a0 l1 M10 Q)))))) ∧ (¬ (x4 = 0) → (h_MU_common_42 G d a0 l1 M3 Q))))) :
    h_MU_common_2 G d a0 l1 M Q := by
  unfold h_MU_common_2
  obtain ⟨h1, h⟩ := h
  obtain ⟨h2, h⟩ := h
  refine wm_aload_n d_MU_common_2 rfl rfl ?_
  refine gf_MU_24 rfl d_MU_common_3 h1 ?_
  refine cf_MU_72 rfl d_MU_common_6 h2 (Nat.le_of_ble_eq_true rfl) (Ci.mono h (fun x4 M3 h => ?_))
  obtain ⟨h5, hOM3, h⟩ := h
  refine wm_if_ne (tgt := 42) d_MU_common_9 rfl h5 (fun c7 => ?_) (fun c7 => ?_)
  · replace h := h.2 c7
    exact h
  · replace c7 := Classical.not_not.mp c7
    replace h := h.1 c7
    obtain ⟨h8, h⟩ := h
    obtain ⟨h9, h⟩ := h
    refine wm_aload_n d_MU_common_12 rfl rfl ?_
    refine gf_MU_28 rfl d_MU_common_13 h8 ?_
    refine cf_MU_72 rfl d_MU_common_16 h9 (Nat.le_of_ble_eq_true rfl) (Ci.mono h (fun x11 M10 h => ?_))
    obtain ⟨h12, hOM10, h⟩ := h
    refine wm_if_ne (tgt := 42) d_MU_common_19 rfl h12 (fun c14 => ?_) (fun c14 => ?_)
    · replace h := h.2 c14
      exact h
    · replace c14 := Classical.not_not.mp c14
      replace h := h.1 c14
      obtain ⟨h15, h⟩ := h
      obtain ⟨h16, h⟩ := h
      refine wm_aload_n d_MU_common_22 rfl rfl ?_
      refine gf_MU_24 rfl d_MU_common_23 h15 ?_
      refine cf_MU_75 rfl d_MU_common_26 h16 (Nat.le_of_ble_eq_true rfl) (Cv.mono h (fun M17 h => ?_))
      obtain ⟨hOM17, h⟩ := h
      obtain ⟨h20, h⟩ := h
      obtain ⟨h21, h⟩ := h
      refine wm_aload_n d_MU_common_29 rfl rfl ?_
      refine gf_MU_28 rfl d_MU_common_30 h20 ?_
      refine cf_MU_75 rfl d_MU_common_33 h21 (Nat.le_of_ble_eq_true rfl) (Cv.mono h (fun M22 h => ?_))
      obtain ⟨hOM22, h⟩ := h
      refine wm_iinc d_MU_common_36 (by decide) rfl (L' := [vr a0, vi (l1 + 1), vd]) rfl ?_
      refine wm_goto (tgt := 2) d_MU_common_39 rfl ?_
      exact h
theorem k_MU_common_42 {G : mG} {d : Nat} {a0 : Nat} {l1 : Int} {M : mM} {Q : mM → Prop} (hO : mOk M) (hi_l1 : i32 l1)
    (h : mK M a0 = 18 ∧ mK M (mR M a0 2) = 20 ∧ Ci G y_MW_isOdd d [vr (mR M a0 2)] M (fun x28 M27 => i32 x28 ∧ mOk M27 ∧ (((x28 = 0) → (mK M27 a0 = 18 ∧ mK M27 (mR M27 a0 2) = 20 ∧ Cv G y_MW_halve d [vr (mR M27 a0 2)] M27 (fun M34 => mOk M34 ∧ (h_MU_common_42 G d a0 l1 M34 Q)))) ∧ (¬ (x28 = 0) → (h_MU_common_62 G d a0 l1 M27 Q))))) :
    h_MU_common_42 G d a0 l1 M Q := by
  unfold h_MU_common_42
  obtain ⟨h25, h⟩ := h
  obtain ⟨h26, h⟩ := h
  refine wm_aload_n d_MU_common_42 rfl rfl ?_
  refine gf_MU_24 rfl d_MU_common_43 h25 ?_
  refine cf_MU_72 rfl d_MU_common_46 h26 (Nat.le_of_ble_eq_true rfl) (Ci.mono h (fun x28 M27 h => ?_))
  obtain ⟨h29, hOM27, h⟩ := h
  refine wm_if_ne (tgt := 62) d_MU_common_49 rfl h29 (fun c31 => ?_) (fun c31 => ?_)
  · replace h := h.2 c31
    exact h
  · replace c31 := Classical.not_not.mp c31
    replace h := h.1 c31
    obtain ⟨h32, h⟩ := h
    obtain ⟨h33, h⟩ := h
    refine wm_aload_n d_MU_common_52 rfl rfl ?_
    refine gf_MU_24 rfl d_MU_common_53 h32 ?_
    refine cf_MU_75 rfl d_MU_common_56 h33 (Nat.le_of_ble_eq_true rfl) (Cv.mono h (fun M34 h => ?_))
    obtain ⟨hOM34, h⟩ := h
    refine wm_goto (tgt := 42) d_MU_common_59 rfl ?_
    exact h
theorem k_MU_common_62 {G : mG} {d : Nat} {a0 : Nat} {l1 : Int} {M : mM} {Q : mM → Prop} (hO : mOk M) (hi_l1 : i32 l1)
    (h : mK M a0 = 18 ∧ mK M (mR M a0 3) = 20 ∧ Ci G y_MW_isZero d [vr (mR M a0 3)] M (fun x40 M39 => i32 x40 ∧ mOk M39 ∧ (((x40 = 0) → (h_MU_common_72 G d a0 l1 M39 Q)) ∧ (¬ (x40 = 0) → (h_MU_common_155 G d a0 l1 0 M39 Q))))) :
    h_MU_common_62 G d a0 l1 M Q := by
  unfold h_MU_common_62
  obtain ⟨h37, h⟩ := h
  obtain ⟨h38, h⟩ := h
  refine wm_aload_n d_MU_common_62 rfl rfl ?_
  refine gf_MU_28 rfl d_MU_common_63 h37 ?_
  refine cf_MU_40 rfl d_MU_common_66 h38 (Nat.le_of_ble_eq_true rfl) (Ci.mono h (fun x40 M39 h => ?_))
  obtain ⟨h41, hOM39, h⟩ := h
  refine wm_if_ne (tgt := 153) d_MU_common_69 rfl h41 (fun c43 => ?_) (fun c43 => ?_)
  · replace h := h.2 c43
    refine wm_iconst d_MU_common_153 ?_
    refine wm_istore_n d_MU_common_154 rfl (by decide) (L' := [vr a0, vi l1, vi 0]) rfl ?_
    exact h
  · replace c43 := Classical.not_not.mp c43
    replace h := h.1 c43
    exact h
theorem k_MU_common_72 {G : mG} {d : Nat} {a0 : Nat} {l1 : Int} {M : mM} {Q : mM → Prop} (hO : mOk M) (hi_l1 : i32 l1)
    (h : mK M a0 = 18 ∧ mK M (mR M a0 3) = 20 ∧ Ci G y_MW_isOdd d [vr (mR M a0 3)] M (fun x47 M46 => i32 x47 ∧ mOk M46 ∧ (((x47 = 0) → (mK M46 a0 = 18 ∧ mK M46 (mR M46 a0 3) = 20 ∧ Cv G y_MW_halve d [vr (mR M46 a0 3)] M46 (fun M53 => mOk M53 ∧ (h_MU_common_72 G d a0 l1 M53 Q)))) ∧ (¬ (x47 = 0) → (mK M46 a0 = 18 ∧ mK M46 (mR M46 a0 2) = 20 ∧ Ci G y_MW_compare d [vr (mR M46 a0 2), vr (mR M46 a0 3)] M46 (fun x59 M58 => i32 x59 ∧ mOk M58 ∧ (((x59 ≤ 0) → (mK M58 a0 = 18 ∧ mK M58 (mR M58 a0 3) = 20 ∧ Cv G y_MW_less d [vr (mR M58 a0 3), vr (mR M58 a0 2)] M58 (fun M67 => mOk M67 ∧ (h_MU_common_62 G d a0 l1 M67 Q)))) ∧ (¬ (x59 ≤ 0) → (mK M58 a0 = 18 ∧ mK M58 (mR M58 a0 4) = 20 ∧ Cv G y_MW_copy d [vr (mR M58 a0 4), vr (mR M58 a0 2)] M58 (fun M72 => mOk M72 ∧ (mK M72 a0 = 18 ∧ mK M72 (mR M72 a0 2) = 20 ∧ Cv G y_MW_copy d [vr (mR M72 a0 2), vr (mR M72 a0 3)] M72 (fun M77 => mOk M77 ∧ (mK M77 a0 = 18 ∧ mK M77 (mR M77 a0 3) = 20 ∧ Cv G y_MW_copy d [vr (mR M77 a0 3), vr (mR M77 a0 4)] M77 (fun M82 => mOk M82 ∧ (mK M82 a0 = 18 ∧ mK M82 (mR M82 a0 3) = 20 ∧ Cv G y_MW_less d [vr (mR M82 a0 3), vr (mR M82 a0 2)] M82 (fun M87 => mOk M87 ∧ (h_MU_common_62 G d a0 l1 M87 Q))))))))))))))))) :
    h_MU_common_72 G d a0 l1 M Q := by
  unfold h_MU_common_72
  obtain ⟨h44, h⟩ := h
  obtain ⟨h45, h⟩ := h
  refine wm_aload_n d_MU_common_72 rfl rfl ?_
  refine gf_MU_28 rfl d_MU_common_73 h44 ?_
  refine cf_MU_72 rfl d_MU_common_76 h45 (Nat.le_of_ble_eq_true rfl) (Ci.mono h (fun x47 M46 h => ?_))
  obtain ⟨h48, hOM46, h⟩ := h
  refine wm_if_ne (tgt := 92) d_MU_common_79 rfl h48 (fun c50 => ?_) (fun c50 => ?_)
  · replace h := h.2 c50
    obtain ⟨h56, h⟩ := h
    obtain ⟨h57, h⟩ := h
    refine wm_aload_n d_MU_common_92 rfl rfl ?_
    refine gf_MU_24 rfl d_MU_common_93 h56 ?_
    refine wm_aload_n d_MU_common_96 rfl rfl ?_
    refine gf_MU_28 rfl d_MU_common_97 h56 ?_
    refine cf_MU_64 rfl d_MU_common_100 h57 (Nat.le_of_ble_eq_true rfl) (Ci.mono h (fun x59 M58 h => ?_))
    obtain ⟨h60, hOM58, h⟩ := h
    refine wm_if_le (tgt := 139) d_MU_common_103 rfl h60 (fun c64 => ?_) (fun c64 => ?_)
    · replace h := h.1 c64
      obtain ⟨h65, h⟩ := h
      obtain ⟨h66, h⟩ := h
      refine wm_aload_n d_MU_common_139 rfl rfl ?_
      refine gf_MU_28 rfl d_MU_common_140 h65 ?_
      refine wm_aload_n d_MU_common_143 rfl rfl ?_
      refine gf_MU_24 rfl d_MU_common_144 h65 ?_
      refine cf_MU_68 rfl d_MU_common_147 h66 (Nat.le_of_ble_eq_true rfl) (Cv.mono h (fun M67 h => ?_))
      obtain ⟨hOM67, h⟩ := h
      refine wm_goto (tgt := 62) d_MU_common_150 rfl ?_
      exact h
    · replace h := h.2 c64
      obtain ⟨h70, h⟩ := h
      obtain ⟨h71, h⟩ := h
      refine wm_aload_n d_MU_common_106 rfl rfl ?_
      refine gf_MU_31 rfl d_MU_common_107 h70 ?_
      refine wm_aload_n d_MU_common_110 rfl rfl ?_
      refine gf_MU_24 rfl d_MU_common_111 h70 ?_
      refine cf_MU_78 rfl d_MU_common_114 h71 (Nat.le_of_ble_eq_true rfl) (Cv.mono h (fun M72 h => ?_))
      obtain ⟨hOM72, h⟩ := h
      obtain ⟨h75, h⟩ := h
      obtain ⟨h76, h⟩ := h
      refine wm_aload_n d_MU_common_117 rfl rfl ?_
      refine gf_MU_24 rfl d_MU_common_118 h75 ?_
      refine wm_aload_n d_MU_common_121 rfl rfl ?_
      refine gf_MU_28 rfl d_MU_common_122 h75 ?_
      refine cf_MU_78 rfl d_MU_common_125 h76 (Nat.le_of_ble_eq_true rfl) (Cv.mono h (fun M77 h => ?_))
      obtain ⟨hOM77, h⟩ := h
      obtain ⟨h80, h⟩ := h
      obtain ⟨h81, h⟩ := h
      refine wm_aload_n d_MU_common_128 rfl rfl ?_
      refine gf_MU_28 rfl d_MU_common_129 h80 ?_
      refine wm_aload_n d_MU_common_132 rfl rfl ?_
      refine gf_MU_31 rfl d_MU_common_133 h80 ?_
      refine cf_MU_78 rfl d_MU_common_136 h81 (Nat.le_of_ble_eq_true rfl) (Cv.mono h (fun M82 h => ?_))
      obtain ⟨hOM82, h⟩ := h
      obtain ⟨h85, h⟩ := h
      obtain ⟨h86, h⟩ := h
      refine wm_aload_n d_MU_common_139 rfl rfl ?_
      refine gf_MU_28 rfl d_MU_common_140 h85 ?_
      refine wm_aload_n d_MU_common_143 rfl rfl ?_
      refine gf_MU_24 rfl d_MU_common_144 h85 ?_
      refine cf_MU_68 rfl d_MU_common_147 h86 (Nat.le_of_ble_eq_true rfl) (Cv.mono h (fun M87 h => ?_))
      obtain ⟨hOM87, h⟩ := h
      refine wm_goto (tgt := 62) d_MU_common_150 rfl ?_
      exact h
  · replace c50 := Classical.not_not.mp c50
    replace h := h.1 c50
    obtain ⟨h51, h⟩ := h
    obtain ⟨h52, h⟩ := h
    refine wm_aload_n d_MU_common_82 rfl rfl ?_
    refine gf_MU_28 rfl d_MU_common_83 h51 ?_
    refine cf_MU_75 rfl d_MU_common_86 h52 (Nat.le_of_ble_eq_true rfl) (Cv.mono h (fun M53 h => ?_))
    obtain ⟨hOM53, h⟩ := h
    refine wm_goto (tgt := 72) d_MU_common_89 rfl ?_
    exact h
theorem k_MU_common_155 {G : mG} {d : Nat} {a0 : Nat} {l1 : Int} {l2 : Int} {M : mM} {Q : mM → Prop} (hO : mOk M) (hi_l1 : i32 l1) (hi_l2 : i32 l2)
    (h : ((l1 ≤ l2) → (Q M)) ∧ (¬ (l1 ≤ l2) → (mK M a0 = 18 ∧ mK M (mR M a0 2) = 20 ∧ Cv G y_MW_twice d [vr (mR M a0 2), vi 0] M (fun M94 => mOk M94 ∧ (h_MU_common_155 G d a0 l1 (l2 + 1) M94 Q))))) :
    h_MU_common_155 G d a0 l1 l2 M Q := by
  unfold h_MU_common_155
  refine wm_iload_n d_MU_common_155 rfl rfl ?_
  refine wm_iload_n d_MU_common_156 rfl rfl ?_
  refine wm_icmp_ge (tgt := 174) d_MU_common_157 rfl hi_l2 hi_l1 (fun c91 => ?_) (fun c91 => ?_)
  · replace h := h.1 c91
    refine wm_return d_MU_common_174 rfl ?_
    exact ⟨rfl, h⟩
  · replace h := h.2 c91
    obtain ⟨h92, h⟩ := h
    obtain ⟨h93, h⟩ := h
    refine wm_aload_n d_MU_common_160 rfl rfl ?_
    refine gf_MU_24 rfl d_MU_common_161 h92 ?_
    refine wm_iconst d_MU_common_164 ?_
    refine cf_MU_48 rfl d_MU_common_165 h93 (Nat.le_of_ble_eq_true rfl) (Cv.mono h (fun M94 h => ?_))
    obtain ⟨hOM94, h⟩ := h
    refine wm_iinc d_MU_common_168 (by decide) rfl (L' := [vr a0, vi l1, vi (l2 + 1)]) rfl ?_
    refine wm_goto (tgt := 155) d_MU_common_171 rfl ?_
    exact h
theorem d_MU_settle_0 : decode y_MU_settle.2.1 0 = .ok (.aload_n 0, 1) := dc9_42 (by decide +kernel)
theorem d_MU_settle_1 : decode y_MU_settle.2.1 1 = .ok (.getfield 14, 3) := dc9_180 (by decide +kernel)
theorem d_MU_settle_4 : decode y_MU_settle.2.1 4 = .ok (.getfield 81, 3) := dc9_180 (by decide +kernel)
theorem d_MU_settle_7 : decode y_MU_settle.2.1 7 = .ok (.invokevirtual 40, 3) := dc9_182 (by decide +kernel)
theorem d_MU_settle_10 : decode y_MU_settle.2.1 10 = .ok (.ifCond .eq 23, 3) := dc9_153 (by decide +kernel)
theorem d_MU_settle_33 : decode y_MU_settle.2.1 33 = .ok (.aload_n 0, 1) := dc9_42 (by decide +kernel)
theorem d_MU_settle_34 : decode y_MU_settle.2.1 34 = .ok (.getfield 24, 3) := dc9_180 (by decide +kernel)
theorem d_MU_settle_37 : decode y_MU_settle.2.1 37 = .ok (.aload_n 0, 1) := dc9_42 (by decide +kernel)
theorem d_MU_settle_38 : decode y_MU_settle.2.1 38 = .ok (.getfield 14, 3) := dc9_180 (by decide +kernel)
theorem d_MU_settle_41 : decode y_MU_settle.2.1 41 = .ok (.getfield 81, 3) := dc9_180 (by decide +kernel)
theorem d_MU_settle_13 : decode y_MU_settle.2.1 13 = .ok (.aload_n 0, 1) := dc9_42 (by decide +kernel)
theorem d_MU_settle_14 : decode y_MU_settle.2.1 14 = .ok (.getfield 14, 3) := dc9_180 (by decide +kernel)
theorem d_MU_settle_17 : decode y_MU_settle.2.1 17 = .ok (.iconst 0, 1) := dc9_3 (by decide +kernel)
theorem d_MU_settle_18 : decode y_MU_settle.2.1 18 = .ok (.putfield 84, 3) := dc9_181 (by decide +kernel)
theorem d_MU_settle_21 : decode y_MU_settle.2.1 21 = .ok (.aload_n 0, 1) := dc9_42 (by decide +kernel)
theorem d_MU_settle_22 : decode y_MU_settle.2.1 22 = .ok (.getfield 14, 3) := dc9_180 (by decide +kernel)
theorem d_MU_settle_25 : decode y_MU_settle.2.1 25 = .ok (.getfield 88, 3) := dc9_180 (by decide +kernel)
theorem d_MU_settle_28 : decode y_MU_settle.2.1 28 = .ok (.lconst 1, 1) := dc9_10 (by decide +kernel)
theorem d_MU_settle_44 : decode y_MU_settle.2.1 44 = .ok (.invokevirtual 78, 3) := dc9_182 (by decide +kernel)
theorem d_MU_settle_47 : decode y_MU_settle.2.1 47 = .ok (.aload_n 0, 1) := dc9_42 (by decide +kernel)
theorem d_MU_settle_48 : decode y_MU_settle.2.1 48 = .ok (.getfield 28, 3) := dc9_180 (by decide +kernel)
theorem d_MU_settle_51 : decode y_MU_settle.2.1 51 = .ok (.aload_n 0, 1) := dc9_42 (by decide +kernel)
theorem d_MU_settle_52 : decode y_MU_settle.2.1 52 = .ok (.getfield 14, 3) := dc9_180 (by decide +kernel)
theorem d_MU_settle_55 : decode y_MU_settle.2.1 55 = .ok (.getfield 88, 3) := dc9_180 (by decide +kernel)
theorem d_MU_settle_58 : decode y_MU_settle.2.1 58 = .ok (.invokevirtual 78, 3) := dc9_182 (by decide +kernel)
theorem d_MU_settle_61 : decode y_MU_settle.2.1 61 = .ok (.aload_n 0, 1) := dc9_42 (by decide +kernel)
theorem d_MU_settle_62 : decode y_MU_settle.2.1 62 = .ok (.invokevirtual 91, 3) := dc9_182 (by decide +kernel)
theorem d_MU_settle_65 : decode y_MU_settle.2.1 65 = .ok (.aload_n 0, 1) := dc9_42 (by decide +kernel)
theorem d_MU_settle_66 : decode y_MU_settle.2.1 66 = .ok (.getfield 24, 3) := dc9_180 (by decide +kernel)
theorem d_MU_settle_69 : decode y_MU_settle.2.1 69 = .ok (.invokevirtual 94, 3) := dc9_182 (by decide +kernel)
theorem d_MU_settle_72 : decode y_MU_settle.2.1 72 = .ok (.ifCond .ne 72, 3) := dc9_154 (by decide +kernel)
theorem d_MU_settle_75 : decode y_MU_settle.2.1 75 = .ok (.aload_n 0, 1) := dc9_42 (by decide +kernel)
theorem d_MU_settle_76 : decode y_MU_settle.2.1 76 = .ok (.getfield 31, 3) := dc9_180 (by decide +kernel)
theorem d_MU_settle_79 : decode y_MU_settle.2.1 79 = .ok (.aload_n 0, 1) := dc9_42 (by decide +kernel)
theorem d_MU_settle_80 : decode y_MU_settle.2.1 80 = .ok (.getfield 24, 3) := dc9_180 (by decide +kernel)
theorem d_MU_settle_83 : decode y_MU_settle.2.1 83 = .ok (.invokevirtual 78, 3) := dc9_182 (by decide +kernel)
theorem d_MU_settle_86 : decode y_MU_settle.2.1 86 = .ok (.aload_n 0, 1) := dc9_42 (by decide +kernel)
theorem d_MU_settle_87 : decode y_MU_settle.2.1 87 = .ok (.aload_n 0, 1) := dc9_42 (by decide +kernel)
theorem d_MU_settle_88 : decode y_MU_settle.2.1 88 = .ok (.getfield 14, 3) := dc9_180 (by decide +kernel)
theorem d_MU_settle_91 : decode y_MU_settle.2.1 91 = .ok (.getfield 81, 3) := dc9_180 (by decide +kernel)
theorem d_MU_settle_94 : decode y_MU_settle.2.1 94 = .ok (.aload_n 0, 1) := dc9_42 (by decide +kernel)
theorem d_MU_settle_95 : decode y_MU_settle.2.1 95 = .ok (.getfield 31, 3) := dc9_180 (by decide +kernel)
theorem d_MU_settle_98 : decode y_MU_settle.2.1 98 = .ok (.invokevirtual 97, 3) := dc9_182 (by decide +kernel)
theorem d_MU_settle_101 : decode y_MU_settle.2.1 101 = .ok (.aload_n 0, 1) := dc9_42 (by decide +kernel)
theorem d_MU_settle_102 : decode y_MU_settle.2.1 102 = .ok (.getfield 14, 3) := dc9_180 (by decide +kernel)
theorem d_MU_settle_105 : decode y_MU_settle.2.1 105 = .ok (.getfield 81, 3) := dc9_180 (by decide +kernel)
theorem d_MU_settle_108 : decode y_MU_settle.2.1 108 = .ok (.aload_n 0, 1) := dc9_42 (by decide +kernel)
theorem d_MU_settle_109 : decode y_MU_settle.2.1 109 = .ok (.getfield 34, 3) := dc9_180 (by decide +kernel)
theorem d_MU_settle_112 : decode y_MU_settle.2.1 112 = .ok (.invokevirtual 78, 3) := dc9_182 (by decide +kernel)
theorem d_MU_settle_115 : decode y_MU_settle.2.1 115 = .ok (.aload_n 0, 1) := dc9_42 (by decide +kernel)
theorem d_MU_settle_116 : decode y_MU_settle.2.1 116 = .ok (.aload_n 0, 1) := dc9_42 (by decide +kernel)
theorem d_MU_settle_117 : decode y_MU_settle.2.1 117 = .ok (.getfield 14, 3) := dc9_180 (by decide +kernel)
theorem d_MU_settle_120 : decode y_MU_settle.2.1 120 = .ok (.getfield 88, 3) := dc9_180 (by decide +kernel)
theorem d_MU_settle_123 : decode y_MU_settle.2.1 123 = .ok (.aload_n 0, 1) := dc9_42 (by decide +kernel)
theorem d_MU_settle_124 : decode y_MU_settle.2.1 124 = .ok (.getfield 31, 3) := dc9_180 (by decide +kernel)
theorem d_MU_settle_127 : decode y_MU_settle.2.1 127 = .ok (.invokevirtual 97, 3) := dc9_182 (by decide +kernel)
theorem d_MU_settle_130 : decode y_MU_settle.2.1 130 = .ok (.aload_n 0, 1) := dc9_42 (by decide +kernel)
theorem d_MU_settle_131 : decode y_MU_settle.2.1 131 = .ok (.getfield 14, 3) := dc9_180 (by decide +kernel)
theorem d_MU_settle_134 : decode y_MU_settle.2.1 134 = .ok (.getfield 88, 3) := dc9_180 (by decide +kernel)
theorem d_MU_settle_137 : decode y_MU_settle.2.1 137 = .ok (.aload_n 0, 1) := dc9_42 (by decide +kernel)
theorem d_MU_settle_138 : decode y_MU_settle.2.1 138 = .ok (.getfield 34, 3) := dc9_180 (by decide +kernel)
theorem d_MU_settle_141 : decode y_MU_settle.2.1 141 = .ok (.invokevirtual 78, 3) := dc9_182 (by decide +kernel)
theorem d_MU_settle_144 : decode y_MU_settle.2.1 144 = .ok (.return_, 1) := dc9_177 (by decide +kernel)
theorem d_MU_settle_29 : decode y_MU_settle.2.1 29 = .ok (.invokevirtual 44, 3) := dc9_182 (by decide +kernel)
theorem d_MU_settle_32 : decode y_MU_settle.2.1 32 = .ok (.return_, 1) := dc9_177 (by decide +kernel)
theorem k_MU_settle {G : mG} {d : Nat} {a0 : Nat} {M : mM} {Q : mM → Prop} (hO : mOk M)
    (h : mK M a0 = 18 ∧ mK M (mR M a0 0) = 19 ∧ mK M (mR M (mR M a0 0) 0) = 20 ∧ Ci G y_MW_isZero d [vr (mR M (mR M a0 0) 0)] M (fun x5 M4 => i32 x5 ∧ mOk M4 ∧ (((x5 = 0) → (mK M4 a0 = 18 ∧ mK M4 (mR M4 a0 0) = 19 ∧ mK M4 (mR M4 a0 2) = 20 ∧ Cv G y_MW_copy d [vr (mR M4 a0 2), vr (mR M4 (mR M4 a0 0) 0)] M4 (fun M12 => mOk M12 ∧ (mK M12 a0 = 18 ∧ mK M12 (mR M12 a0 0) = 19 ∧ mK M12 (mR M12 a0 3) = 20 ∧ Cv G y_MW_copy d [vr (mR M12 a0 3), vr (mR M12 (mR M12 a0 0) 1)] M12 (fun M18 => mOk M18 ∧ (mK M18 a0 = 18 ∧ Cv G y_MU_common d [vr a0] M18 (fun M22 => mOk M22 ∧ (mK M22 a0 = 18 ∧ mK M22 (mR M22 a0 2) = 20 ∧ Ci G y_MW_isOne d [vr (mR M22 a0 2)] M22 (fun x28 M27 => i32 x28 ∧ mOk M27 ∧ (((x28 = 0) → (mK M27 a0 = 18 ∧ mK M27 (mR M27 a0 4) = 20 ∧ Cv G y_MW_copy d [vr (mR M27 a0 4), vr (mR M27 a0 2)] M27 (fun M36 => mOk M36 ∧ (mK M36 a0 = 18 ∧ mK M36 (mR M36 a0 0) = 19 ∧ Cv G y_MU_divide0 d [vr a0, vr (mR M36 (mR M36 a0 0) 0), vr (mR M36 a0 4)] M36 (fun M41 => mOk M41 ∧ (mK M41 a0 = 18 ∧ mK M41 (mR M41 a0 0) = 19 ∧ mK M41 (mR M41 (mR M41 a0 0) 0) = 20 ∧ Cv G y_MW_copy d [vr (mR M41 (mR M41 a0 0) 0), vr (mR M41 a0 5)] M41 (fun M47 => mOk M47 ∧ (mK M47 a0 = 18 ∧ mK M47 (mR M47 a0 0) = 19 ∧ Cv G y_MU_divide0 d [vr a0, vr (mR M47 (mR M47 a0 0) 1), vr (mR M47 a0 4)] M47 (fun M52 => mOk M52 ∧ (mK M52 a0 = 18 ∧ mK M52 (mR M52 a0 0) = 19 ∧ mK M52 (mR M52 (mR M52 a0 0) 1) = 20 ∧ Cv G y_MW_copy d [vr (mR M52 (mR M52 a0 0) 1), vr (mR M52 a0 5)] M52 (fun M58 => mOk M58 ∧ (Q M58)))))))))))) ∧ (¬ (x28 = 0) → (Q M27)))))))))))) ∧ (¬ (x5 = 0) → (mK M4 a0 = 18 ∧ mK M4 (mR M4 a0 0) = 19 ∧ ∀ M63, M63 = mUI M4 (mR M4 a0 0) 2 0 → mK M63 (mR M63 a0 0) = 19 ∧ mK M63 (mR M63 (mR M63 a0 0) 1) = 20 ∧ Cv G y_MW_set d [vr (mR M63 (mR M63 a0 0) 1), vl 1] M63 (fun M67 => mOk M67 ∧ (Q M67))))))) :
    Cv G y_MU_settle (d + 1) [vr a0] M Q := by
  refine wm_open (y := y_MU_settle) rfl (Nat.le_of_ble_eq_true rfl) (L := [vr a0]) rfl ?_
  obtain ⟨h1, h⟩ := h
  obtain ⟨h2, h⟩ := h
  obtain ⟨h3, h⟩ := h
  refine wm_aload_n d_MU_settle_0 rfl rfl ?_
  refine gf_MU_14 rfl d_MU_settle_1 h1 ?_
  refine gf_MU_81 rfl d_MU_settle_4 h2 ?_
  refine cf_MU_40 rfl d_MU_settle_7 h3 (Nat.le_of_ble_eq_true rfl) (Ci.mono h (fun x5 M4 h => ?_))
  obtain ⟨h6, hOM4, h⟩ := h
  refine wm_if_eq (tgt := 33) d_MU_settle_10 rfl h6 (fun c8 => ?_) (fun c8 => ?_)
  · replace h := h.1 c8
    obtain ⟨h9, h⟩ := h
    obtain ⟨h10, h⟩ := h
    obtain ⟨h11, h⟩ := h
    refine wm_aload_n d_MU_settle_33 rfl rfl ?_
    refine gf_MU_24 rfl d_MU_settle_34 h9 ?_
    refine wm_aload_n d_MU_settle_37 rfl rfl ?_
    refine gf_MU_14 rfl d_MU_settle_38 h9 ?_
    refine gf_MU_81 rfl d_MU_settle_41 h10 ?_
    refine cf_MU_78 rfl d_MU_settle_44 h11 (Nat.le_of_ble_eq_true rfl) (Cv.mono h (fun M12 h => ?_))
    obtain ⟨hOM12, h⟩ := h
    obtain ⟨h15, h⟩ := h
    obtain ⟨h16, h⟩ := h
    obtain ⟨h17, h⟩ := h
    refine wm_aload_n d_MU_settle_47 rfl rfl ?_
    refine gf_MU_28 rfl d_MU_settle_48 h15 ?_
    refine wm_aload_n d_MU_settle_51 rfl rfl ?_
    refine gf_MU_14 rfl d_MU_settle_52 h15 ?_
    refine gf_MU_88 rfl d_MU_settle_55 h16 ?_
    refine cf_MU_78 rfl d_MU_settle_58 h17 (Nat.le_of_ble_eq_true rfl) (Cv.mono h (fun M18 h => ?_))
    obtain ⟨hOM18, h⟩ := h
    obtain ⟨h21, h⟩ := h
    refine wm_aload_n d_MU_settle_61 rfl rfl ?_
    refine cf_MU_91 rfl d_MU_settle_62 h21 (Nat.le_of_ble_eq_true rfl) (Cv.mono h (fun M22 h => ?_))
    obtain ⟨hOM22, h⟩ := h
    obtain ⟨h25, h⟩ := h
    obtain ⟨h26, h⟩ := h
    refine wm_aload_n d_MU_settle_65 rfl rfl ?_
    refine gf_MU_24 rfl d_MU_settle_66 h25 ?_
    refine cf_MU_94 rfl d_MU_settle_69 h26 (Nat.le_of_ble_eq_true rfl) (Ci.mono h (fun x28 M27 h => ?_))
    obtain ⟨h29, hOM27, h⟩ := h
    refine wm_if_ne (tgt := 144) d_MU_settle_72 rfl h29 (fun c33 => ?_) (fun c33 => ?_)
    · replace h := h.2 c33
      refine wm_return d_MU_settle_144 rfl ?_
      exact ⟨rfl, h⟩
    · replace c33 := Classical.not_not.mp c33
      replace h := h.1 c33
      obtain ⟨h34, h⟩ := h
      obtain ⟨h35, h⟩ := h
      refine wm_aload_n d_MU_settle_75 rfl rfl ?_
      refine gf_MU_31 rfl d_MU_settle_76 h34 ?_
      refine wm_aload_n d_MU_settle_79 rfl rfl ?_
      refine gf_MU_24 rfl d_MU_settle_80 h34 ?_
      refine cf_MU_78 rfl d_MU_settle_83 h35 (Nat.le_of_ble_eq_true rfl) (Cv.mono h (fun M36 h => ?_))
      obtain ⟨hOM36, h⟩ := h
      obtain ⟨h39, h⟩ := h
      obtain ⟨h40, h⟩ := h
      refine wm_aload_n d_MU_settle_86 rfl rfl ?_
      refine wm_aload_n d_MU_settle_87 rfl rfl ?_
      refine gf_MU_14 rfl d_MU_settle_88 h39 ?_
      refine gf_MU_81 rfl d_MU_settle_91 h40 ?_
      refine wm_aload_n d_MU_settle_94 rfl rfl ?_
      refine gf_MU_31 rfl d_MU_settle_95 h39 ?_
      refine cf_MU_97 rfl d_MU_settle_98 h39 (Nat.le_of_ble_eq_true rfl) (Cv.mono h (fun M41 h => ?_))
      obtain ⟨hOM41, h⟩ := h
      obtain ⟨h44, h⟩ := h
      obtain ⟨h45, h⟩ := h
      obtain ⟨h46, h⟩ := h
      refine wm_aload_n d_MU_settle_101 rfl rfl ?_
      refine gf_MU_14 rfl d_MU_settle_102 h44 ?_
      refine gf_MU_81 rfl d_MU_settle_105 h45 ?_
      refine wm_aload_n d_MU_settle_108 rfl rfl ?_
      refine gf_MU_34 rfl d_MU_settle_109 h44 ?_
      refine cf_MU_78 rfl d_MU_settle_112 h46 (Nat.le_of_ble_eq_true rfl) (Cv.mono h (fun M47 h => ?_))
      obtain ⟨hOM47, h⟩ := h
      obtain ⟨h50, h⟩ := h
      obtain ⟨h51, h⟩ := h
      refine wm_aload_n d_MU_settle_115 rfl rfl ?_
      refine wm_aload_n d_MU_settle_116 rfl rfl ?_
      refine gf_MU_14 rfl d_MU_settle_117 h50 ?_
      refine gf_MU_88 rfl d_MU_settle_120 h51 ?_
      refine wm_aload_n d_MU_settle_123 rfl rfl ?_
      refine gf_MU_31 rfl d_MU_settle_124 h50 ?_
      refine cf_MU_97 rfl d_MU_settle_127 h50 (Nat.le_of_ble_eq_true rfl) (Cv.mono h (fun M52 h => ?_))
      obtain ⟨hOM52, h⟩ := h
      obtain ⟨h55, h⟩ := h
      obtain ⟨h56, h⟩ := h
      obtain ⟨h57, h⟩ := h
      refine wm_aload_n d_MU_settle_130 rfl rfl ?_
      refine gf_MU_14 rfl d_MU_settle_131 h55 ?_
      refine gf_MU_88 rfl d_MU_settle_134 h56 ?_
      refine wm_aload_n d_MU_settle_137 rfl rfl ?_
      refine gf_MU_34 rfl d_MU_settle_138 h55 ?_
      refine cf_MU_78 rfl d_MU_settle_141 h57 (Nat.le_of_ble_eq_true rfl) (Cv.mono h (fun M58 h => ?_))
      obtain ⟨hOM58, h⟩ := h
      refine wm_return d_MU_settle_144 rfl ?_
      exact ⟨rfl, h⟩
  · replace h := h.2 c8
    obtain ⟨h61, h⟩ := h
    obtain ⟨h62, h⟩ := h
    obtain ⟨M63, e64⟩ : ∃ M63, M63 = mUI M4 (mR M4 a0 0) 2 0 := ⟨_, rfl⟩
    replace h := h M63 e64
    obtain ⟨h65, h⟩ := h
    obtain ⟨h66, h⟩ := h
    refine wm_aload_n d_MU_settle_13 rfl rfl ?_
    refine gf_MU_14 rfl d_MU_settle_14 h61 ?_
    refine wm_iconst d_MU_settle_17 ?_
    have hOM63 : mOk M63 := by rw [e64]; exact mOk_UI hOM4 (m_b32 (by decide))
    refine pf_MU_84 rfl d_MU_settle_18 h62 (by decide) e64 ?_
    refine wm_aload_n d_MU_settle_21 rfl rfl ?_
    refine gf_MU_14 rfl d_MU_settle_22 (by rw [e64]; exact h61) ?_
    refine gf_MU_88 rfl d_MU_settle_25 h65 ?_
    refine wm_lconst (x := 1) d_MU_settle_28 rfl ?_
    refine cf_MU_44 rfl d_MU_settle_29 h66 (Nat.le_of_ble_eq_true rfl) (Cv.mono h (fun M67 h => ?_))
    obtain ⟨hOM67, h⟩ := h
    refine wm_return d_MU_settle_32 rfl ?_
    exact ⟨rfl, h⟩
theorem d_MU_add_0 : decode y_MU_add.2.1 0 = .ok (.aload_n 2, 1) := dc9_44 (by decide +kernel)
theorem d_MU_add_1 : decode y_MU_add.2.1 1 = .ok (.getfield 84, 3) := dc9_180 (by decide +kernel)
theorem d_MU_add_4 : decode y_MU_add.2.1 4 = .ok (.iload_n 3, 1) := dc9_29 (by decide +kernel)
theorem d_MU_add_5 : decode y_MU_add.2.1 5 = .ok (.if_icmp .eq 7, 3) := dc9_159 (by decide +kernel)
theorem d_MU_add_12 : decode y_MU_add.2.1 12 = .ok (.iconst 0, 1) := dc9_3 (by decide +kernel)
theorem d_MU_add_8 : decode y_MU_add.2.1 8 = .ok (.iconst 1, 1) := dc9_4 (by decide +kernel)
theorem d_MU_add_9 : decode y_MU_add.2.1 9 = .ok (.goto 4, 3) := dc9_167 (by decide +kernel)
theorem d_MU_add_13 : decode y_MU_add.2.1 13 = .ok (.istore 4, 2) := dc9_54 (by decide +kernel)
theorem d_MU_add_15 : decode y_MU_add.2.1 15 = .ok (.aload_n 0, 1) := dc9_42 (by decide +kernel)
theorem d_MU_add_16 : decode y_MU_add.2.1 16 = .ok (.getfield 24, 3) := dc9_180 (by decide +kernel)
theorem d_MU_add_19 : decode y_MU_add.2.1 19 = .ok (.aload_n 1, 1) := dc9_43 (by decide +kernel)
theorem d_MU_add_20 : decode y_MU_add.2.1 20 = .ok (.getfield 81, 3) := dc9_180 (by decide +kernel)
theorem d_MU_add_23 : decode y_MU_add.2.1 23 = .ok (.aload_n 2, 1) := dc9_44 (by decide +kernel)
theorem d_MU_add_24 : decode y_MU_add.2.1 24 = .ok (.getfield 88, 3) := dc9_180 (by decide +kernel)
theorem d_MU_add_27 : decode y_MU_add.2.1 27 = .ok (.invokevirtual 101, 3) := dc9_182 (by decide +kernel)
theorem d_MU_add_30 : decode y_MU_add.2.1 30 = .ok (.aload_n 0, 1) := dc9_42 (by decide +kernel)
theorem d_MU_add_31 : decode y_MU_add.2.1 31 = .ok (.getfield 28, 3) := dc9_180 (by decide +kernel)
theorem d_MU_add_34 : decode y_MU_add.2.1 34 = .ok (.aload_n 2, 1) := dc9_44 (by decide +kernel)
theorem d_MU_add_35 : decode y_MU_add.2.1 35 = .ok (.getfield 81, 3) := dc9_180 (by decide +kernel)
theorem d_MU_add_38 : decode y_MU_add.2.1 38 = .ok (.aload_n 1, 1) := dc9_43 (by decide +kernel)
theorem d_MU_add_39 : decode y_MU_add.2.1 39 = .ok (.getfield 88, 3) := dc9_180 (by decide +kernel)
theorem d_MU_add_42 : decode y_MU_add.2.1 42 = .ok (.invokevirtual 101, 3) := dc9_182 (by decide +kernel)
theorem d_MU_add_45 : decode y_MU_add.2.1 45 = .ok (.aload_n 0, 1) := dc9_42 (by decide +kernel)
theorem d_MU_add_46 : decode y_MU_add.2.1 46 = .ok (.getfield 31, 3) := dc9_180 (by decide +kernel)
theorem d_MU_add_49 : decode y_MU_add.2.1 49 = .ok (.aload_n 1, 1) := dc9_43 (by decide +kernel)
theorem d_MU_add_50 : decode y_MU_add.2.1 50 = .ok (.getfield 88, 3) := dc9_180 (by decide +kernel)
theorem d_MU_add_53 : decode y_MU_add.2.1 53 = .ok (.aload_n 2, 1) := dc9_44 (by decide +kernel)
theorem d_MU_add_54 : decode y_MU_add.2.1 54 = .ok (.getfield 88, 3) := dc9_180 (by decide +kernel)
theorem d_MU_add_57 : decode y_MU_add.2.1 57 = .ok (.invokevirtual 101, 3) := dc9_182 (by decide +kernel)
theorem d_MU_add_60 : decode y_MU_add.2.1 60 = .ok (.aload_n 1, 1) := dc9_43 (by decide +kernel)
theorem d_MU_add_61 : decode y_MU_add.2.1 61 = .ok (.getfield 84, 3) := dc9_180 (by decide +kernel)
theorem d_MU_add_64 : decode y_MU_add.2.1 64 = .ok (.iload 4, 2) := dc9_21 (by decide +kernel)
theorem d_MU_add_66 : decode y_MU_add.2.1 66 = .ok (.if_icmp .ne 28, 3) := dc9_160 (by decide +kernel)
theorem d_MU_add_69 : decode y_MU_add.2.1 69 = .ok (.aload_n 0, 1) := dc9_42 (by decide +kernel)
theorem d_MU_add_70 : decode y_MU_add.2.1 70 = .ok (.getfield 24, 3) := dc9_180 (by decide +kernel)
theorem d_MU_add_73 : decode y_MU_add.2.1 73 = .ok (.aload_n 0, 1) := dc9_42 (by decide +kernel)
theorem d_MU_add_74 : decode y_MU_add.2.1 74 = .ok (.getfield 28, 3) := dc9_180 (by decide +kernel)
theorem d_MU_add_94 : decode y_MU_add.2.1 94 = .ok (.aload_n 0, 1) := dc9_42 (by decide +kernel)
theorem d_MU_add_95 : decode y_MU_add.2.1 95 = .ok (.getfield 24, 3) := dc9_180 (by decide +kernel)
theorem d_MU_add_98 : decode y_MU_add.2.1 98 = .ok (.aload_n 0, 1) := dc9_42 (by decide +kernel)
theorem d_MU_add_99 : decode y_MU_add.2.1 99 = .ok (.getfield 28, 3) := dc9_180 (by decide +kernel)
theorem d_MU_add_77 : decode y_MU_add.2.1 77 = .ok (.invokevirtual 104, 3) := dc9_182 (by decide +kernel)
theorem d_MU_add_80 : decode y_MU_add.2.1 80 = .ok (.aload_n 0, 1) := dc9_42 (by decide +kernel)
theorem d_MU_add_81 : decode y_MU_add.2.1 81 = .ok (.getfield 14, 3) := dc9_180 (by decide +kernel)
theorem d_MU_add_84 : decode y_MU_add.2.1 84 = .ok (.aload_n 1, 1) := dc9_43 (by decide +kernel)
theorem d_MU_add_85 : decode y_MU_add.2.1 85 = .ok (.getfield 84, 3) := dc9_180 (by decide +kernel)
theorem d_MU_add_88 : decode y_MU_add.2.1 88 = .ok (.putfield 84, 3) := dc9_181 (by decide +kernel)
theorem d_MU_add_91 : decode y_MU_add.2.1 91 = .ok (.goto 73, 3) := dc9_167 (by decide +kernel)
theorem d_MU_add_102 : decode y_MU_add.2.1 102 = .ok (.invokevirtual 64, 3) := dc9_182 (by decide +kernel)
theorem d_MU_add_105 : decode y_MU_add.2.1 105 = .ok (.ifCond .lt 28, 3) := dc9_155 (by decide +kernel)
theorem d_MU_add_133 : decode y_MU_add.2.1 133 = .ok (.aload_n 0, 1) := dc9_42 (by decide +kernel)
theorem d_MU_add_134 : decode y_MU_add.2.1 134 = .ok (.getfield 28, 3) := dc9_180 (by decide +kernel)
theorem d_MU_add_137 : decode y_MU_add.2.1 137 = .ok (.aload_n 0, 1) := dc9_42 (by decide +kernel)
theorem d_MU_add_138 : decode y_MU_add.2.1 138 = .ok (.getfield 24, 3) := dc9_180 (by decide +kernel)
theorem d_MU_add_108 : decode y_MU_add.2.1 108 = .ok (.aload_n 0, 1) := dc9_42 (by decide +kernel)
theorem d_MU_add_109 : decode y_MU_add.2.1 109 = .ok (.getfield 24, 3) := dc9_180 (by decide +kernel)
theorem d_MU_add_112 : decode y_MU_add.2.1 112 = .ok (.aload_n 0, 1) := dc9_42 (by decide +kernel)
theorem d_MU_add_113 : decode y_MU_add.2.1 113 = .ok (.getfield 28, 3) := dc9_180 (by decide +kernel)
theorem d_MU_add_141 : decode y_MU_add.2.1 141 = .ok (.invokevirtual 68, 3) := dc9_182 (by decide +kernel)
theorem d_MU_add_144 : decode y_MU_add.2.1 144 = .ok (.aload_n 0, 1) := dc9_42 (by decide +kernel)
theorem d_MU_add_145 : decode y_MU_add.2.1 145 = .ok (.getfield 24, 3) := dc9_180 (by decide +kernel)
theorem d_MU_add_148 : decode y_MU_add.2.1 148 = .ok (.aload_n 0, 1) := dc9_42 (by decide +kernel)
theorem d_MU_add_149 : decode y_MU_add.2.1 149 = .ok (.getfield 28, 3) := dc9_180 (by decide +kernel)
theorem d_MU_add_152 : decode y_MU_add.2.1 152 = .ok (.invokevirtual 78, 3) := dc9_182 (by decide +kernel)
theorem d_MU_add_155 : decode y_MU_add.2.1 155 = .ok (.aload_n 0, 1) := dc9_42 (by decide +kernel)
theorem d_MU_add_156 : decode y_MU_add.2.1 156 = .ok (.getfield 14, 3) := dc9_180 (by decide +kernel)
theorem d_MU_add_159 : decode y_MU_add.2.1 159 = .ok (.iload 4, 2) := dc9_21 (by decide +kernel)
theorem d_MU_add_161 : decode y_MU_add.2.1 161 = .ok (.putfield 84, 3) := dc9_181 (by decide +kernel)
theorem d_MU_add_116 : decode y_MU_add.2.1 116 = .ok (.invokevirtual 68, 3) := dc9_182 (by decide +kernel)
theorem d_MU_add_119 : decode y_MU_add.2.1 119 = .ok (.aload_n 0, 1) := dc9_42 (by decide +kernel)
theorem d_MU_add_120 : decode y_MU_add.2.1 120 = .ok (.getfield 14, 3) := dc9_180 (by decide +kernel)
theorem d_MU_add_123 : decode y_MU_add.2.1 123 = .ok (.aload_n 1, 1) := dc9_43 (by decide +kernel)
theorem d_MU_add_124 : decode y_MU_add.2.1 124 = .ok (.getfield 84, 3) := dc9_180 (by decide +kernel)
theorem d_MU_add_127 : decode y_MU_add.2.1 127 = .ok (.putfield 84, 3) := dc9_181 (by decide +kernel)
theorem d_MU_add_130 : decode y_MU_add.2.1 130 = .ok (.goto 34, 3) := dc9_167 (by decide +kernel)
theorem d_MU_add_164 : decode y_MU_add.2.1 164 = .ok (.aload_n 0, 1) := dc9_42 (by decide +kernel)
theorem d_MU_add_165 : decode y_MU_add.2.1 165 = .ok (.getfield 14, 3) := dc9_180 (by decide +kernel)
theorem d_MU_add_168 : decode y_MU_add.2.1 168 = .ok (.getfield 88, 3) := dc9_180 (by decide +kernel)
theorem d_MU_add_171 : decode y_MU_add.2.1 171 = .ok (.aload_n 0, 1) := dc9_42 (by decide +kernel)
theorem d_MU_add_172 : decode y_MU_add.2.1 172 = .ok (.getfield 31, 3) := dc9_180 (by decide +kernel)
theorem d_MU_add_175 : decode y_MU_add.2.1 175 = .ok (.invokevirtual 78, 3) := dc9_182 (by decide +kernel)
theorem d_MU_add_178 : decode y_MU_add.2.1 178 = .ok (.aload_n 0, 1) := dc9_42 (by decide +kernel)
theorem d_MU_add_179 : decode y_MU_add.2.1 179 = .ok (.getfield 14, 3) := dc9_180 (by decide +kernel)
theorem d_MU_add_182 : decode y_MU_add.2.1 182 = .ok (.getfield 81, 3) := dc9_180 (by decide +kernel)
theorem d_MU_add_185 : decode y_MU_add.2.1 185 = .ok (.aload_n 0, 1) := dc9_42 (by decide +kernel)
theorem d_MU_add_186 : decode y_MU_add.2.1 186 = .ok (.getfield 24, 3) := dc9_180 (by decide +kernel)
theorem d_MU_add_189 : decode y_MU_add.2.1 189 = .ok (.invokevirtual 78, 3) := dc9_182 (by decide +kernel)
theorem d_MU_add_192 : decode y_MU_add.2.1 192 = .ok (.aload_n 0, 1) := dc9_42 (by decide +kernel)
theorem d_MU_add_193 : decode y_MU_add.2.1 193 = .ok (.invokevirtual 107, 3) := dc9_182 (by decide +kernel)
theorem d_MU_add_196 : decode y_MU_add.2.1 196 = .ok (.return_, 1) := dc9_177 (by decide +kernel)
def h_MU_add_164 (G : mG) (d : Nat) (a0 : Nat) (M : mM) (Q : mM → Prop) : Prop := mWm G y_MU_add (d + 1) 164 [vr a0, vd, vd, vd, vd] [] M (fun r9 M9 => r9 = none ∧ Q M9)
theorem k_MU_add {G : mG} {d : Nat} {a0 : Nat} {a1 : Nat} {a2 : Nat} {l3 : Int} {M : mM} {Q : mM → Prop} (hO : mOk M) (hi_l3 : i32 l3)
    (h : mK M a2 = 19 ∧ ∀ v3 : Int, v3 = (if (mI M a2 2 = l3) then 0 else 1) → mK M a0 = 18 ∧ mK M a1 = 19 ∧ mK M (mR M a0 2) = 20 ∧ Cv G y_MW_product d [vr (mR M a0 2), vr (mR M a1 0), vr (mR M a2 1)] M (fun M11 => mOk M11 ∧ (mK M11 a0 = 18 ∧ mK M11 a2 = 19 ∧ mK M11 a1 = 19 ∧ mK M11 (mR M11 a0 3) = 20 ∧ Cv G y_MW_product d [vr (mR M11 a0 3), vr (mR M11 a2 0), vr (mR M11 a1 1)] M11 (fun M18 => mOk M18 ∧ (mK M18 a0 = 18 ∧ mK M18 a1 = 19 ∧ mK M18 a2 = 19 ∧ mK M18 (mR M18 a0 4) = 20 ∧ Cv G y_MW_product d [vr (mR M18 a0 4), vr (mR M18 a1 1), vr (mR M18 a2 1)] M18 (fun M25 => mOk M25 ∧ (mK M25 a1 = 19 ∧ ((mI M25 a1 2 = v3) → (mK M25 a0 = 18 ∧ mK M25 (mR M25 a0 2) = 20 ∧ Cv G y_MW_add d [vr (mR M25 a0 2), vr (mR M25 a0 3)] M25 (fun M33 => mOk M33 ∧ (mK M33 a0 = 18 ∧ mK M33 a1 = 19 ∧ mK M33 (mR M33 a0 0) = 19 ∧ ((mI M33 a1 2) = 0 ∨ (mI M33 a1 2) = 1) ∧ ∀ M40, M40 = mUI M33 (mR M33 a0 0) 2 (mI M33 a1 2) → h_MU_add_164 G d a0 M40 Q)))) ∧ (¬ (mI M25 a1 2 = v3) → (mK M25 a0 = 18 ∧ mK M25 (mR M25 a0 2) = 20 ∧ Ci G y_MW_compare d [vr (mR M25 a0 2), vr (mR M25 a0 3)] M25 (fun x45 M44 => i32 x45 ∧ mOk M44 ∧ (((x45 < 0) → (mK M44 a0 = 18 ∧ mK M44 (mR M44 a0 3) = 20 ∧ Cv G y_MW_less d [vr (mR M44 a0 3), vr (mR M44 a0 2)] M44 (fun M51 => mOk M51 ∧ (mK M51 a0 = 18 ∧ mK M51 (mR M51 a0 2) = 20 ∧ Cv G y_MW_copy d [vr (mR M51 a0 2), vr (mR M51 a0 3)] M51 (fun M56 => mOk M56 ∧ (mK M56 a0 = 18 ∧ mK M56 (mR M56 a0 0) = 19 ∧ ∀ M61, M61 = mUI M56 (mR M56 a0 0) 2 v3 → h_MU_add_164 G d a0 M61 Q)))))) ∧ (¬ (x45 < 0) → (mK M44 a0 = 18 ∧ mK M44 (mR M44 a0 2) = 20 ∧ Cv G y_MW_less d [vr (mR M44 a0 2), vr (mR M44 a0 3)] M44 (fun M65 => mOk M65 ∧ (mK M65 a0 = 18 ∧ mK M65 a1 = 19 ∧ mK M65 (mR M65 a0 0) = 19 ∧ ((mI M65 a1 2) = 0 ∨ (mI M65 a1 2) = 1) ∧ ∀ M72, M72 = mUI M65 (mR M65 a0 0) 2 (mI M65 a1 2) → h_MU_add_164 G d a0 M72 Q))))))))))))))) :
    Cv G y_MU_add (d + 1) [vr a0, vr a1, vr a2, vi l3] M Q := by
  refine wm_open (y := y_MU_add) rfl (Nat.le_of_ble_eq_true rfl) (L := [vr a0, vr a1, vr a2, vi l3, vd]) rfl ?_
  obtain ⟨h1, h⟩ := h
  refine wm_aload_n d_MU_add_0 rfl rfl ?_
  refine gf_MU_84 rfl d_MU_add_1 h1 ?_
  refine wm_iload_n d_MU_add_4 rfl rfl ?_
  have hJ : ∀ v3 : Int, v3 = (if (mI M a2 2 = l3) then 0 else 1) → mWm G y_MU_add (d + 1) 13 [vr a0, vr a1, vr a2, vd, vd] [vi v3] M (fun r9 M9 => r9 = none ∧ Q M9) := by
    intro v3 e5
    have h := h v3 e5
    have h6 : i32 v3 := by rw [e5]; (repeat' split) <;> first | exact ⟨by decide, by decide⟩ | exact ⟨by decide, by decide⟩
    have h7 : (v3 = 0 ∨ v3 = 1) := by rw [e5]; (repeat' split) <;> decide
    obtain ⟨h8, h⟩ := h
    obtain ⟨h9, h⟩ := h
    obtain ⟨h10, h⟩ := h
    refine wm_istore d_MU_add_13 (by decide) (L' := [vr a0, vr a1, vr a2, vd, vi v3]) rfl ?_
    refine wm_aload_n d_MU_add_15 rfl rfl ?_
    refine gf_MU_24 rfl d_MU_add_16 h8 ?_
    refine wm_aload_n d_MU_add_19 rfl rfl ?_
    refine gf_MU_81 rfl d_MU_add_20 h9 ?_
    refine wm_aload_n d_MU_add_23 rfl rfl ?_
    refine gf_MU_88 rfl d_MU_add_24 h1 ?_
    refine cf_MU_101 rfl d_MU_add_27 h10 (Nat.le_of_ble_eq_true rfl) (Cv.mono h (fun M11 h => ?_))
    obtain ⟨hOM11, h⟩ := h
    obtain ⟨h14, h⟩ := h
    obtain ⟨h15, h⟩ := h
    obtain ⟨h16, h⟩ := h
    obtain ⟨h17, h⟩ := h
    refine wm_aload_n d_MU_add_30 rfl rfl ?_
    refine gf_MU_28 rfl d_MU_add_31 h14 ?_
    refine wm_aload_n d_MU_add_34 rfl rfl ?_
    refine gf_MU_81 rfl d_MU_add_35 h15 ?_
    refine wm_aload_n d_MU_add_38 rfl rfl ?_
    refine gf_MU_88 rfl d_MU_add_39 h16 ?_
    refine cf_MU_101 rfl d_MU_add_42 h17 (Nat.le_of_ble_eq_true rfl) (Cv.mono h (fun M18 h => ?_))
    obtain ⟨hOM18, h⟩ := h
    obtain ⟨h21, h⟩ := h
    obtain ⟨h22, h⟩ := h
    obtain ⟨h23, h⟩ := h
    obtain ⟨h24, h⟩ := h
    refine wm_aload_n d_MU_add_45 rfl rfl ?_
    refine gf_MU_31 rfl d_MU_add_46 h21 ?_
    refine wm_aload_n d_MU_add_49 rfl rfl ?_
    refine gf_MU_88 rfl d_MU_add_50 h22 ?_
    refine wm_aload_n d_MU_add_53 rfl rfl ?_
    refine gf_MU_88 rfl d_MU_add_54 h23 ?_
    refine cf_MU_101 rfl d_MU_add_57 h24 (Nat.le_of_ble_eq_true rfl) (Cv.mono h (fun M25 h => ?_))
    obtain ⟨hOM25, h⟩ := h
    obtain ⟨h28, h⟩ := h
    refine wm_aload_n d_MU_add_60 rfl rfl ?_
    refine gf_MU_84 rfl d_MU_add_61 h28 ?_
    refine wm_iload d_MU_add_64 rfl ?_
    refine wm_icmp_ne (tgt := 94) d_MU_add_66 rfl (hOM25 _ _).1 h6 (fun c30 => ?_) (fun c30 => ?_)
    · replace h := h.2 c30
      obtain ⟨h42, h⟩ := h
      obtain ⟨h43, h⟩ := h
      refine wm_aload_n d_MU_add_94 rfl rfl ?_
      refine gf_MU_24 rfl d_MU_add_95 h42 ?_
      refine wm_aload_n d_MU_add_98 rfl rfl ?_
      refine gf_MU_28 rfl d_MU_add_99 h42 ?_
      refine cf_MU_64 rfl d_MU_add_102 h43 (Nat.le_of_ble_eq_true rfl) (Ci.mono h (fun x45 M44 h => ?_))
      obtain ⟨h46, hOM44, h⟩ := h
      refine wm_if_lt (tgt := 133) d_MU_add_105 rfl h46 (fun c48 => ?_) (fun c48 => ?_)
      · replace h := h.1 c48
        obtain ⟨h49, h⟩ := h
        obtain ⟨h50, h⟩ := h
        refine wm_aload_n d_MU_add_133 rfl rfl ?_
        refine gf_MU_28 rfl d_MU_add_134 h49 ?_
        refine wm_aload_n d_MU_add_137 rfl rfl ?_
        refine gf_MU_24 rfl d_MU_add_138 h49 ?_
        refine cf_MU_68 rfl d_MU_add_141 h50 (Nat.le_of_ble_eq_true rfl) (Cv.mono h (fun M51 h => ?_))
        obtain ⟨hOM51, h⟩ := h
        obtain ⟨h54, h⟩ := h
        obtain ⟨h55, h⟩ := h
        refine wm_aload_n d_MU_add_144 rfl rfl ?_
        refine gf_MU_24 rfl d_MU_add_145 h54 ?_
        refine wm_aload_n d_MU_add_148 rfl rfl ?_
        refine gf_MU_28 rfl d_MU_add_149 h54 ?_
        refine cf_MU_78 rfl d_MU_add_152 h55 (Nat.le_of_ble_eq_true rfl) (Cv.mono h (fun M56 h => ?_))
        obtain ⟨hOM56, h⟩ := h
        obtain ⟨h59, h⟩ := h
        obtain ⟨h60, h⟩ := h
        obtain ⟨M61, e62⟩ : ∃ M61, M61 = mUI M56 (mR M56 a0 0) 2 v3 := ⟨_, rfl⟩
        replace h := h M61 e62
        refine wm_aload_n d_MU_add_155 rfl rfl ?_
        refine gf_MU_14 rfl d_MU_add_156 h59 ?_
        refine wm_iload d_MU_add_159 rfl ?_
        have hOM61 : mOk M61 := by rw [e62]; exact mOk_UI hOM56 (m_b32 h7)
        refine pf_MU_84 rfl d_MU_add_161 h60 h7 e62 ?_
        refine wm_less (L' := [vr a0, vd, vd, vd, vd]) ⟨Or.inr rfl, Or.inl rfl, Or.inl rfl, Or.inl rfl, Or.inl rfl, trivial⟩ ?_
        exact h
      · replace h := h.2 c48
        obtain ⟨h63, h⟩ := h
        obtain ⟨h64, h⟩ := h
        refine wm_aload_n d_MU_add_108 rfl rfl ?_
        refine gf_MU_24 rfl d_MU_add_109 h63 ?_
        refine wm_aload_n d_MU_add_112 rfl rfl ?_
        refine gf_MU_28 rfl d_MU_add_113 h63 ?_
        refine cf_MU_68 rfl d_MU_add_116 h64 (Nat.le_of_ble_eq_true rfl) (Cv.mono h (fun M65 h => ?_))
        obtain ⟨hOM65, h⟩ := h
        obtain ⟨h68, h⟩ := h
        obtain ⟨h69, h⟩ := h
        obtain ⟨h70, h⟩ := h
        obtain ⟨h71, h⟩ := h
        obtain ⟨M72, e73⟩ : ∃ M72, M72 = mUI M65 (mR M65 a0 0) 2 (mI M65 a1 2) := ⟨_, rfl⟩
        replace h := h M72 e73
        refine wm_aload_n d_MU_add_119 rfl rfl ?_
        refine gf_MU_14 rfl d_MU_add_120 h68 ?_
        refine wm_aload_n d_MU_add_123 rfl rfl ?_
        refine gf_MU_84 rfl d_MU_add_124 h69 ?_
        have hOM72 : mOk M72 := by rw [e73]; exact mOk_UI hOM65 (m_b32 h71)
        refine pf_MU_84 rfl d_MU_add_127 h70 h71 e73 ?_
        refine wm_goto (tgt := 164) d_MU_add_130 rfl ?_
        refine wm_less (L' := [vr a0, vd, vd, vd, vd]) ⟨Or.inr rfl, Or.inl rfl, Or.inl rfl, Or.inl rfl, Or.inl rfl, trivial⟩ ?_
        exact h
    · replace c30 := Classical.not_not.mp c30
      replace h := h.1 c30
      obtain ⟨h31, h⟩ := h
      obtain ⟨h32, h⟩ := h
      refine wm_aload_n d_MU_add_69 rfl rfl ?_
      refine gf_MU_24 rfl d_MU_add_70 h31 ?_
      refine wm_aload_n d_MU_add_73 rfl rfl ?_
      refine gf_MU_28 rfl d_MU_add_74 h31 ?_
      refine cf_MU_104 rfl d_MU_add_77 h32 (Nat.le_of_ble_eq_true rfl) (Cv.mono h (fun M33 h => ?_))
      obtain ⟨hOM33, h⟩ := h
      obtain ⟨h36, h⟩ := h
      obtain ⟨h37, h⟩ := h
      obtain ⟨h38, h⟩ := h
      obtain ⟨h39, h⟩ := h
      obtain ⟨M40, e41⟩ : ∃ M40, M40 = mUI M33 (mR M33 a0 0) 2 (mI M33 a1 2) := ⟨_, rfl⟩
      replace h := h M40 e41
      refine wm_aload_n d_MU_add_80 rfl rfl ?_
      refine gf_MU_14 rfl d_MU_add_81 h36 ?_
      refine wm_aload_n d_MU_add_84 rfl rfl ?_
      refine gf_MU_84 rfl d_MU_add_85 h37 ?_
      have hOM40 : mOk M40 := by rw [e41]; exact mOk_UI hOM33 (m_b32 h39)
      refine pf_MU_84 rfl d_MU_add_88 h38 h39 e41 ?_
      refine wm_goto (tgt := 164) d_MU_add_91 rfl ?_
      refine wm_less (L' := [vr a0, vd, vd, vd, vd]) ⟨Or.inr rfl, Or.inl rfl, Or.inl rfl, Or.inl rfl, Or.inl rfl, trivial⟩ ?_
      exact h
  clear h
  refine wm_icmp_eq (tgt := 12) d_MU_add_5 rfl (hO _ _).1 hi_l3 (fun c2 => ?_) (fun c2 => ?_)
  · refine wm_iconst d_MU_add_12 ?_
    refine wm_less (L' := [vr a0, vr a1, vr a2, vd, vd]) ⟨Or.inr rfl, Or.inr rfl, Or.inr rfl, Or.inl rfl, Or.inl rfl, trivial⟩ ?_
    exact hJ 0 (if_pos c2).symm
  · refine wm_iconst d_MU_add_8 ?_
    refine wm_goto (tgt := 13) d_MU_add_9 rfl ?_
    refine wm_less (L' := [vr a0, vr a1, vr a2, vd, vd]) ⟨Or.inr rfl, Or.inr rfl, Or.inr rfl, Or.inl rfl, Or.inl rfl, trivial⟩ ?_
    exact hJ 1 (if_neg c2).symm
theorem k_MU_add_164 {G : mG} {d : Nat} {a0 : Nat} {M : mM} {Q : mM → Prop} (hO : mOk M)
    (h : mK M a0 = 18 ∧ mK M (mR M a0 0) = 19 ∧ mK M (mR M (mR M a0 0) 1) = 20 ∧ Cv G y_MW_copy d [vr (mR M (mR M a0 0) 1), vr (mR M a0 4)] M (fun M78 => mOk M78 ∧ (mK M78 a0 = 18 ∧ mK M78 (mR M78 a0 0) = 19 ∧ mK M78 (mR M78 (mR M78 a0 0) 0) = 20 ∧ Cv G y_MW_copy d [vr (mR M78 (mR M78 a0 0) 0), vr (mR M78 a0 2)] M78 (fun M84 => mOk M84 ∧ (mK M84 a0 = 18 ∧ Cv G y_MU_settle d [vr a0] M84 (fun M88 => mOk M88 ∧ (Q M88))))))) :
    h_MU_add_164 G d a0 M Q := by
  unfold h_MU_add_164
  obtain ⟨h75, h⟩ := h
  obtain ⟨h76, h⟩ := h
  obtain ⟨h77, h⟩ := h
  refine wm_aload_n d_MU_add_164 rfl rfl ?_
  refine gf_MU_14 rfl d_MU_add_165 h75 ?_
  refine gf_MU_88 rfl d_MU_add_168 h76 ?_
  refine wm_aload_n d_MU_add_171 rfl rfl ?_
  refine gf_MU_31 rfl d_MU_add_172 h75 ?_
  refine cf_MU_78 rfl d_MU_add_175 h77 (Nat.le_of_ble_eq_true rfl) (Cv.mono h (fun M78 h => ?_))
  obtain ⟨hOM78, h⟩ := h
  obtain ⟨h81, h⟩ := h
  obtain ⟨h82, h⟩ := h
  obtain ⟨h83, h⟩ := h
  refine wm_aload_n d_MU_add_178 rfl rfl ?_
  refine gf_MU_14 rfl d_MU_add_179 h81 ?_
  refine gf_MU_81 rfl d_MU_add_182 h82 ?_
  refine wm_aload_n d_MU_add_185 rfl rfl ?_
  refine gf_MU_24 rfl d_MU_add_186 h81 ?_
  refine cf_MU_78 rfl d_MU_add_189 h83 (Nat.le_of_ble_eq_true rfl) (Cv.mono h (fun M84 h => ?_))
  obtain ⟨hOM84, h⟩ := h
  obtain ⟨h87, h⟩ := h
  refine wm_aload_n d_MU_add_192 rfl rfl ?_
  refine cf_MU_107 rfl d_MU_add_193 h87 (Nat.le_of_ble_eq_true rfl) (Cv.mono h (fun M88 h => ?_))
  obtain ⟨hOM88, h⟩ := h
  refine wm_return d_MU_add_196 rfl ?_
  exact ⟨rfl, h⟩
end
