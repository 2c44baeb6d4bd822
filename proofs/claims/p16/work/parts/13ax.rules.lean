theorem d_TR_translate_0 : decode y_TR_translate.2.1 0 = .ok (.aload_n 0, 1) := by decide +kernel
theorem d_TR_translate_1 : decode y_TR_translate.2.1 1 = .ok (.aload_n 2, 1) := by decide +kernel
theorem d_TR_translate_2 : decode y_TR_translate.2.1 2 = .ok (.putfield 36, 3) := by decide +kernel
theorem d_TR_translate_5 : decode y_TR_translate.2.1 5 = .ok (.aload_n 0, 1) := by decide +kernel
theorem d_TR_translate_6 : decode y_TR_translate.2.1 6 = .ok (.getfield 36, 3) := by decide +kernel
theorem d_TR_translate_9 : decode y_TR_translate.2.1 9 = .ok (.aload_n 1, 1) := by decide +kernel
theorem d_TR_translate_10 : decode y_TR_translate.2.1 10 = .ok (.getfield 40, 3) := by decide +kernel
theorem d_TR_translate_13 : decode y_TR_translate.2.1 13 = .ok (.invokevirtual 45, 3) := by decide +kernel
theorem d_TR_translate_16 : decode y_TR_translate.2.1 16 = .ok (.aload_n 0, 1) := by decide +kernel
theorem d_TR_translate_17 : decode y_TR_translate.2.1 17 = .ok (.getfield 21, 3) := by decide +kernel
theorem d_TR_translate_20 : decode y_TR_translate.2.1 20 = .ok (.aload_n 0, 1) := by decide +kernel
theorem d_TR_translate_21 : decode y_TR_translate.2.1 21 = .ok (.getfield 36, 3) := by decide +kernel
theorem d_TR_translate_24 : decode y_TR_translate.2.1 24 = .ok (.putfield 51, 3) := by decide +kernel
theorem d_TR_translate_27 : decode y_TR_translate.2.1 27 = .ok (.aload_n 0, 1) := by decide +kernel
theorem d_TR_translate_28 : decode y_TR_translate.2.1 28 = .ok (.getfield 12, 3) := by decide +kernel
theorem d_TR_translate_31 : decode y_TR_translate.2.1 31 = .ok (.aload_n 1, 1) := by decide +kernel
theorem d_TR_translate_32 : decode y_TR_translate.2.1 32 = .ok (.aload_n 0, 1) := by decide +kernel
theorem d_TR_translate_33 : decode y_TR_translate.2.1 33 = .ok (.getfield 36, 3) := by decide +kernel
theorem d_TR_translate_36 : decode y_TR_translate.2.1 36 = .ok (.invokevirtual 52, 3) := by decide +kernel
theorem d_TR_translate_39 : decode y_TR_translate.2.1 39 = .ok (.iconst 0, 1) := by decide +kernel
theorem d_TR_translate_40 : decode y_TR_translate.2.1 40 = .ok (.istore_n 3, 1) := by decide +kernel
theorem d_TR_translate_41 : decode y_TR_translate.2.1 41 = .ok (.iload_n 3, 1) := by decide +kernel
theorem d_TR_translate_42 : decode y_TR_translate.2.1 42 = .ok (.aload_n 1, 1) := by decide +kernel
theorem d_TR_translate_43 : decode y_TR_translate.2.1 43 = .ok (.getfield 40, 3) := by decide +kernel
theorem d_TR_translate_46 : decode y_TR_translate.2.1 46 = .ok (.if_icmp .ge 178, 3) := by decide +kernel
theorem d_TR_translate_49 : decode y_TR_translate.2.1 49 = .ok (.aload_n 1, 1) := by decide +kernel
theorem d_TR_translate_50 : decode y_TR_translate.2.1 50 = .ok (.getfield 56, 3) := by decide +kernel
theorem d_TR_translate_53 : decode y_TR_translate.2.1 53 = .ok (.aload_n 0, 1) := by decide +kernel
theorem d_TR_translate_54 : decode y_TR_translate.2.1 54 = .ok (.getfield 12, 3) := by decide +kernel
theorem d_TR_translate_57 : decode y_TR_translate.2.1 57 = .ok (.getfield 59, 3) := by decide +kernel
theorem d_TR_translate_60 : decode y_TR_translate.2.1 60 = .ok (.iaload, 1) := by decide +kernel
theorem d_TR_translate_61 : decode y_TR_translate.2.1 61 = .ok (.ifCond .eq 163, 3) := by decide +kernel
theorem d_TR_translate_64 : decode y_TR_translate.2.1 64 = .ok (.aload_n 1, 1) := by decide +kernel
theorem d_TR_translate_65 : decode y_TR_translate.2.1 65 = .ok (.getfield 56, 3) := by decide +kernel
theorem d_TR_translate_68 : decode y_TR_translate.2.1 68 = .ok (.aload_n 0, 1) := by decide +kernel
theorem d_TR_translate_69 : decode y_TR_translate.2.1 69 = .ok (.getfield 12, 3) := by decide +kernel
theorem d_TR_translate_72 : decode y_TR_translate.2.1 72 = .ok (.getfield 59, 3) := by decide +kernel
theorem d_TR_translate_75 : decode y_TR_translate.2.1 75 = .ok (.iaload, 1) := by decide +kernel
theorem d_TR_translate_76 : decode y_TR_translate.2.1 76 = .ok (.istore 4, 2) := by decide +kernel
theorem d_TR_translate_78 : decode y_TR_translate.2.1 78 = .ok (.iload 4, 2) := by decide +kernel
theorem d_TR_translate_80 : decode y_TR_translate.2.1 80 = .ok (.iconst 5, 1) := by decide +kernel
theorem d_TR_translate_224 : decode y_TR_translate.2.1 224 = .ok (.aload_n 0, 1) := by decide +kernel
theorem d_TR_translate_225 : decode y_TR_translate.2.1 225 = .ok (.getfield 36, 3) := by decide +kernel
theorem d_TR_translate_228 : decode y_TR_translate.2.1 228 = .ok (.getfield 89, 3) := by decide +kernel
theorem d_TR_translate_231 : decode y_TR_translate.2.1 231 = .ok (.iconst (-1), 1) := by decide +kernel
theorem d_TR_translate_232 : decode y_TR_translate.2.1 232 = .ok (.if_icmp .ne 16, 3) := by decide +kernel
theorem d_TR_translate_235 : decode y_TR_translate.2.1 235 = .ok (.aload_n 0, 1) := by decide +kernel
theorem d_TR_translate_236 : decode y_TR_translate.2.1 236 = .ok (.getfield 12, 3) := by decide +kernel
theorem d_TR_translate_239 : decode y_TR_translate.2.1 239 = .ok (.bipush 10, 2) := by decide +kernel
theorem d_TR_translate_241 : decode y_TR_translate.2.1 241 = .ok (.aload_n 1, 1) := by decide +kernel
theorem d_TR_translate_242 : decode y_TR_translate.2.1 242 = .ok (.getfield 92, 3) := by decide +kernel
theorem d_TR_translate_245 : decode y_TR_translate.2.1 245 = .ok (.invokevirtual 95, 3) := by decide +kernel
theorem d_TR_translate_81 : decode y_TR_translate.2.1 81 = .ok (.if_icmp .ne 10, 3) := by decide +kernel
theorem d_TR_translate_84 : decode y_TR_translate.2.1 84 = .ok (.aload_n 0, 1) := by decide +kernel
theorem d_TR_translate_91 : decode y_TR_translate.2.1 91 = .ok (.iload 4, 2) := by decide +kernel
theorem d_TR_translate_93 : decode y_TR_translate.2.1 93 = .ok (.bipush 12, 2) := by decide +kernel
theorem d_TR_translate_95 : decode y_TR_translate.2.1 95 = .ok (.if_icmp .ne 10, 3) := by decide +kernel
theorem d_TR_translate_98 : decode y_TR_translate.2.1 98 = .ok (.aload_n 0, 1) := by decide +kernel
theorem d_TR_translate_105 : decode y_TR_translate.2.1 105 = .ok (.iload 4, 2) := by decide +kernel
theorem d_TR_translate_107 : decode y_TR_translate.2.1 107 = .ok (.bipush 8, 2) := by decide +kernel
theorem d_TR_translate_109 : decode y_TR_translate.2.1 109 = .ok (.if_icmp .eq 10, 3) := by decide +kernel
theorem d_TR_translate_112 : decode y_TR_translate.2.1 112 = .ok (.iload 4, 2) := by decide +kernel
theorem d_TR_translate_114 : decode y_TR_translate.2.1 114 = .ok (.bipush 9, 2) := by decide +kernel
theorem d_TR_translate_116 : decode y_TR_translate.2.1 116 = .ok (.if_icmp .ne 12, 3) := by decide +kernel
theorem d_TR_translate_128 : decode y_TR_translate.2.1 128 = .ok (.iload 4, 2) := by decide +kernel
theorem d_TR_translate_130 : decode y_TR_translate.2.1 130 = .ok (.iconst 4, 1) := by decide +kernel
theorem d_TR_translate_131 : decode y_TR_translate.2.1 131 = .ok (.if_icmp .eq 10, 3) := by decide +kernel
theorem d_TR_translate_134 : decode y_TR_translate.2.1 134 = .ok (.iload 4, 2) := by decide +kernel
theorem d_TR_translate_136 : decode y_TR_translate.2.1 136 = .ok (.bipush 7, 2) := by decide +kernel
theorem d_TR_translate_138 : decode y_TR_translate.2.1 138 = .ok (.if_icmp .ne 16, 3) := by decide +kernel
theorem d_TR_translate_85 : decode y_TR_translate.2.1 85 = .ok (.invokevirtual 62, 3) := by decide +kernel
theorem d_TR_translate_88 : decode y_TR_translate.2.1 88 = .ok (.goto 67, 3) := by decide +kernel
theorem d_TR_translate_99 : decode y_TR_translate.2.1 99 = .ok (.invokevirtual 66, 3) := by decide +kernel
theorem d_TR_translate_102 : decode y_TR_translate.2.1 102 = .ok (.goto 53, 3) := by decide +kernel
theorem d_TR_translate_119 : decode y_TR_translate.2.1 119 = .ok (.aload_n 0, 1) := by decide +kernel
theorem d_TR_translate_120 : decode y_TR_translate.2.1 120 = .ok (.iload 4, 2) := by decide +kernel
theorem d_TR_translate_122 : decode y_TR_translate.2.1 122 = .ok (.invokevirtual 69, 3) := by decide +kernel
theorem d_TR_translate_125 : decode y_TR_translate.2.1 125 = .ok (.goto 30, 3) := by decide +kernel
theorem d_TR_translate_141 : decode y_TR_translate.2.1 141 = .ok (.aload_n 0, 1) := by decide +kernel
theorem d_TR_translate_142 : decode y_TR_translate.2.1 142 = .ok (.iload 4, 2) := by decide +kernel
theorem d_TR_translate_144 : decode y_TR_translate.2.1 144 = .ok (.invokevirtual 73, 3) := by decide +kernel
theorem d_TR_translate_147 : decode y_TR_translate.2.1 147 = .ok (.ifCond .eq 7, 3) := by decide +kernel
theorem d_TR_translate_150 : decode y_TR_translate.2.1 150 = .ok (.iconst 1, 1) := by decide +kernel
theorem d_TR_translate_151 : decode y_TR_translate.2.1 151 = .ok (.goto 4, 3) := by decide +kernel
theorem d_TR_translate_154 : decode y_TR_translate.2.1 154 = .ok (.iconst 0, 1) := by decide +kernel
theorem d_TR_translate_155 : decode y_TR_translate.2.1 155 = .ok (.istore 5, 2) := by decide +kernel
theorem d_TR_translate_157 : decode y_TR_translate.2.1 157 = .ok (.iload 5, 2) := by decide +kernel
theorem d_TR_translate_159 : decode y_TR_translate.2.1 159 = .ok (.ifCond .ne 27, 3) := by decide +kernel
theorem d_TR_translate_162 : decode y_TR_translate.2.1 162 = .ok (.aload_n 0, 1) := by decide +kernel
theorem d_TR_translate_163 : decode y_TR_translate.2.1 163 = .ok (.getfield 12, 3) := by decide +kernel
theorem d_TR_translate_166 : decode y_TR_translate.2.1 166 = .ok (.iconst 1, 1) := by decide +kernel
theorem d_TR_translate_167 : decode y_TR_translate.2.1 167 = .ok (.putfield 76, 3) := by decide +kernel
theorem d_TR_translate_170 : decode y_TR_translate.2.1 170 = .ok (.aload_n 0, 1) := by decide +kernel
theorem d_TR_translate_171 : decode y_TR_translate.2.1 171 = .ok (.getfield 12, 3) := by decide +kernel
theorem d_TR_translate_174 : decode y_TR_translate.2.1 174 = .ok (.aload_n 0, 1) := by decide +kernel
theorem d_TR_translate_175 : decode y_TR_translate.2.1 175 = .ok (.getfield 12, 3) := by decide +kernel
theorem d_TR_translate_186 : decode y_TR_translate.2.1 186 = .ok (.iload 4, 2) := by decide +kernel
theorem d_TR_translate_188 : decode y_TR_translate.2.1 188 = .ok (.iconst 5, 1) := by decide +kernel
theorem d_TR_translate_189 : decode y_TR_translate.2.1 189 = .ok (.if_icmp .ne 10, 3) := by decide +kernel
theorem d_TR_translate_192 : decode y_TR_translate.2.1 192 = .ok (.aload_n 0, 1) := by decide +kernel
theorem d_TR_translate_199 : decode y_TR_translate.2.1 199 = .ok (.iload 4, 2) := by decide +kernel
theorem d_TR_translate_201 : decode y_TR_translate.2.1 201 = .ok (.iconst 4, 1) := by decide +kernel
theorem d_TR_translate_202 : decode y_TR_translate.2.1 202 = .ok (.if_icmp .eq 10, 3) := by decide +kernel
theorem d_TR_translate_205 : decode y_TR_translate.2.1 205 = .ok (.iload 4, 2) := by decide +kernel
theorem d_TR_translate_207 : decode y_TR_translate.2.1 207 = .ok (.bipush 7, 2) := by decide +kernel
theorem d_TR_translate_209 : decode y_TR_translate.2.1 209 = .ok (.if_icmp .ne 9, 3) := by decide +kernel
theorem d_TR_translate_178 : decode y_TR_translate.2.1 178 = .ok (.invokevirtual 79, 3) := by decide +kernel
theorem d_TR_translate_181 : decode y_TR_translate.2.1 181 = .ok (.putfield 32, 3) := by decide +kernel
theorem d_TR_translate_184 : decode y_TR_translate.2.1 184 = .ok (.iconst 1, 1) := by decide +kernel
theorem d_TR_translate_185 : decode y_TR_translate.2.1 185 = .ok (.ireturn, 1) := by decide +kernel
theorem d_TR_translate_193 : decode y_TR_translate.2.1 193 = .ok (.invokevirtual 83, 3) := by decide +kernel
theorem d_TR_translate_196 : decode y_TR_translate.2.1 196 = .ok (.goto 22, 3) := by decide +kernel
theorem d_TR_translate_212 : decode y_TR_translate.2.1 212 = .ok (.aload_n 0, 1) := by decide +kernel
theorem d_TR_translate_213 : decode y_TR_translate.2.1 213 = .ok (.iload 4, 2) := by decide +kernel
theorem d_TR_translate_215 : decode y_TR_translate.2.1 215 = .ok (.invokevirtual 86, 3) := by decide +kernel
theorem d_TR_translate_218 : decode y_TR_translate.2.1 218 = .ok (.iinc 3 1, 3) := by decide +kernel
theorem d_TR_translate_221 : decode y_TR_translate.2.1 221 = .ok (.goto (-180), 3) := by decide +kernel
theorem d_TR_translate_248 : decode y_TR_translate.2.1 248 = .ok (.aload_n 0, 1) := by decide +kernel
theorem d_TR_translate_249 : decode y_TR_translate.2.1 249 = .ok (.getfield 12, 3) := by decide +kernel
theorem d_TR_translate_252 : decode y_TR_translate.2.1 252 = .ok (.getfield 76, 3) := by decide +kernel
theorem d_TR_translate_255 : decode y_TR_translate.2.1 255 = .ok (.ireturn, 1) := by decide +kernel
def h_TR_translate_41 (G : mG) (d : Nat) (a0 : Nat) (a1 : Nat) (l3 : Int) (M : mM) (Q : Int → mM → Prop) : Prop := mWm G y_TR_translate (d + 1) 41 [vr a0, vr a1, vd, vi l3, vd, vd] [] M (fun r9 M9 => ∃ x9, r9 = some (vi x9) ∧ Q x9 M9)
def h_TR_translate_155 (G : mG) (d : Nat) (a0 : Nat) (a1 : Nat) (l3 : Int) (l4 : Int) (k0 : Int) (M : mM) (Q : Int → mM → Prop) : Prop := mWm G y_TR_translate (d + 1) 155 [vr a0, vr a1, vd, vi l3, vi l4, vd] [vi k0] M (fun r9 M9 => ∃ x9, r9 = some (vi x9) ∧ Q x9 M9)
def h_TR_translate_218 (G : mG) (d : Nat) (a0 : Nat) (a1 : Nat) (l3 : Int) (M : mM) (Q : Int → mM → Prop) : Prop := mWm G y_TR_translate (d + 1) 218 [vr a0, vr a1, vd, vi l3, vd, vd] [] M (fun r9 M9 => ∃ x9, r9 = some (vi x9) ∧ Q x9 M9)
def h_TR_translate_248 (G : mG) (d : Nat) (a0 : Nat) (M : mM) (Q : Int → mM → Prop) : Prop := mWm G y_TR_translate (d + 1) 248 [vr a0, vd, vd, vd, vd, vd] [] M (fun r9 M9 => ∃ x9, r9 = some (vi x9) ∧ Q x9 M9)
theorem k_TR_translate {G : mG} {d : Nat} {a0 : Nat} {a1 : Nat} {a2 : Nat} {M : mM} {Q : Int → mM → Prop} (hO : mOk M)
    (h : mK M a0 = 3 ∧ ∀ M2, M2 = mUR M a0 2 a2 → mK M2 a1 = 2 ∧ mK M2 (mR M2 a0 2) = 6 ∧ Cv G y_Pr_clear d [vr (mR M2 a0 2), vi (mI M2 a1 2)] M2 (fun M6 => mOk M6 ∧ (mK M6 a0 = 3 ∧ mK M6 (mR M6 a0 1) = 5 ∧ ∀ M11, M11 = mUR M6 (mR M6 a0 1) 0 (mR M6 a0 2) → mK M11 (mR M11 a0 0) = 4 ∧ Cv G y_RR_begin d [vr (mR M11 a0 0), vr a1, vr (mR M11 a0 2)] M11 (fun M14 => mOk M14 ∧ (h_TR_translate_41 G d a0 a1 0 M14 Q))))) :
    Ci G y_TR_translate (d + 1) [vr a0, vr a1, vr a2] M Q := by
  refine wm_open (y := y_TR_translate) rfl (Nat.le_of_ble_eq_true rfl) (L := [vr a0, vr a1, vr a2, vd, vd, vd]) rfl ?_
  obtain ⟨h1, h⟩ := h
  obtain ⟨M2, e3⟩ : ∃ M2, M2 = mUR M a0 2 a2 := ⟨_, rfl⟩
  replace h := h M2 e3
  obtain ⟨h4, h⟩ := h
  obtain ⟨h5, h⟩ := h
  refine wm_aload_n d_TR_translate_0 rfl rfl ?_
  refine wm_aload_n d_TR_translate_1 rfl rfl ?_
  have hOM2 : mOk M2 := by rw [e3]; exact mOk_UR hO
  refine pf_TR_36 rfl d_TR_translate_2 h1 e3 ?_
  refine wm_aload_n d_TR_translate_5 rfl rfl ?_
  refine gf_TR_36 rfl d_TR_translate_6 (by rw [e3]; exact h1) ?_
  refine wm_aload_n d_TR_translate_9 rfl rfl ?_
  refine gf_TR_40 rfl d_TR_translate_10 h4 ?_
  refine cf_TR_45 rfl d_TR_translate_13 h5 (Nat.le_of_ble_eq_true rfl) (Cv.mono h (fun M6 h => ?_))
  obtain ⟨hOM6, h⟩ := h
  obtain ⟨h9, h⟩ := h
  obtain ⟨h10, h⟩ := h
  obtain ⟨M11, e12⟩ : ∃ M11, M11 = mUR M6 (mR M6 a0 1) 0 (mR M6 a0 2) := ⟨_, rfl⟩
  replace h := h M11 e12
  obtain ⟨h13, h⟩ := h
  refine wm_aload_n d_TR_translate_16 rfl rfl ?_
  refine gf_TR_21 rfl d_TR_translate_17 h9 ?_
  refine wm_aload_n d_TR_translate_20 rfl rfl ?_
  refine gf_TR_36 rfl d_TR_translate_21 h9 ?_
  have hOM11 : mOk M11 := by rw [e12]; exact mOk_UR hOM6
  refine pf_TR_51 rfl d_TR_translate_24 h10 e12 ?_
  refine wm_aload_n d_TR_translate_27 rfl rfl ?_
  refine gf_TR_12 rfl d_TR_translate_28 (by rw [e12]; exact h9) ?_
  refine wm_aload_n d_TR_translate_31 rfl rfl ?_
  refine wm_aload_n d_TR_translate_32 rfl rfl ?_
  refine gf_TR_36 rfl d_TR_translate_33 (by rw [e12]; exact h9) ?_
  refine cf_TR_52 rfl d_TR_translate_36 h13 (Nat.le_of_ble_eq_true rfl) (Cv.mono h (fun M14 h => ?_))
  obtain ⟨hOM14, h⟩ := h
  refine wm_iconst d_TR_translate_39 ?_
  refine wm_istore_n d_TR_translate_40 rfl (by decide) (L' := [vr a0, vr a1, vr a2, vi 0, vd, vd]) rfl ?_
  refine wm_less (L' := [vr a0, vr a1, vd, vi 0, vd, vd]) ⟨Or.inr rfl, Or.inr rfl, Or.inl rfl, Or.inr rfl, Or.inl rfl, Or.inl rfl, trivial⟩ ?_
  exact h
theorem k_TR_translate_41 {G : mG} {d : Nat} {a0 : Nat} {a1 : Nat} {l3 : Int} {M : mM} {Q : Int → mM → Prop} (hO : mOk M) (hi_l3 : i32 l3)
    (h : mK M a1 = 2 ∧ (¬ (mI M a1 2 ≤ l3) → (mK M a0 = 3 ∧ mK M (mR M a0 0) = 4 ∧ mK M (mR M a1 3) = 30 ∧ ((0 : Int) ≤ mI M (mR M a0 0) 2 ∧ mI M (mR M a0 0) 2 < (mN M (mR M a1 3) : Int)))) ∧ (((mI M a1 2 ≤ l3) ∨ (mI M (mR M a1 3) (Int.toNat (mI M (mR M a0 0) 2)) = 0)) → (mK M a0 = 3 ∧ mK M (mR M a0 2) = 6 ∧ ((mI M (mR M a0 2) 11 = (-1)) → (mK M (mR M a0 0) = 4 ∧ Cv G y_RR_note d [vr (mR M a0 0), vi 10, vi (mI M a1 1)] M (fun M32 => mOk M32 ∧ (h_TR_translate_248 G d a0 M32 Q)))) ∧ (¬ (mI M (mR M a0 2) 11 = (-1)) → (h_TR_translate_248 G d a0 M Q)))) ∧ (¬ ((mI M a1 2 ≤ l3) ∨ (mI M (mR M a1 3) (Int.toNat (mI M (mR M a0 0) 2)) = 0)) → (mK M a0 = 3 ∧ mK M (mR M a0 0) = 4 ∧ mK M (mR M a1 3) = 30 ∧ ((0 : Int) ≤ mI M (mR M a0 0) 2 ∧ mI M (mR M a0 0) 2 < (mN M (mR M a1 3) : Int)) ∧ ((mI M (mR M a1 3) (Int.toNat (mI M (mR M a0 0) 2)) = 5) → (Ci G y_TR_readVar d [vr a0] M (fun x48 M47 => i32 x48 ∧ mOk M47 ∧ (h_TR_translate_155 G d a0 a1 l3 (mI M (mR M a1 3) (Int.toNat (mI M (mR M a0 0) 2))) x48 M47 Q)))) ∧ (¬ (mI M (mR M a1 3) (Int.toNat (mI M (mR M a0 0) 2)) = 5) → (((mI M (mR M a1 3) (Int.toNat (mI M (mR M a0 0) 2)) = 12) → (Ci G y_TR_readTarget d [vr a0] M (fun x57 M56 => i32 x57 ∧ mOk M56 ∧ (h_TR_translate_155 G d a0 a1 l3 (mI M (mR M a1 3) (Int.toNat (mI M (mR M a0 0) 2))) x57 M56 Q)))) ∧ (¬ (mI M (mR M a1 3) (Int.toNat (mI M (mR M a0 0) 2)) = 12) → ((((mI M (mR M a1 3) (Int.toNat (mI M (mR M a0 0) 2)) = 8) ∨ (mI M (mR M a1 3) (Int.toNat (mI M (mR M a0 0) 2)) = 9)) → (Ci G y_TR_readCommand d [vr a0, vi (mI M (mR M a1 3) (Int.toNat (mI M (mR M a0 0) 2)))] M (fun x66 M65 => i32 x66 ∧ mOk M65 ∧ (h_TR_translate_155 G d a0 a1 l3 (mI M (mR M a1 3) (Int.toNat (mI M (mR M a0 0) 2))) x66 M65 Q)))) ∧ (¬ ((mI M (mR M a1 3) (Int.toNat (mI M (mR M a0 0) 2)) = 8) ∨ (mI M (mR M a1 3) (Int.toNat (mI M (mR M a0 0) 2)) = 9)) → ((((mI M (mR M a1 3) (Int.toNat (mI M (mR M a0 0) 2)) = 4) ∨ (mI M (mR M a1 3) (Int.toNat (mI M (mR M a0 0) 2)) = 7)) → (Ci G y_TR_readNamed d [vr a0, vi (mI M (mR M a1 3) (Int.toNat (mI M (mR M a0 0) 2)))] M (fun x74 M73 => i32 x74 ∧ mOk M73 ∧ (((x74 = 0) → (h_TR_translate_155 G d a0 a1 l3 (mI M (mR M a1 3) (Int.toNat (mI M (mR M a0 0) 2))) 0 M73 Q)) ∧ (¬ (x74 = 0) → (h_TR_translate_155 G d a0 a1 l3 (mI M (mR M a1 3) (Int.toNat (mI M (mR M a0 0) 2))) 1 M73 Q)))))) ∧ (¬ ((mI M (mR M a1 3) (Int.toNat (mI M (mR M a0 0) 2)) = 4) ∨ (mI M (mR M a1 3) (Int.toNat (mI M (mR M a0 0) 2)) = 7)) → (h_TR_translate_155 G d a0 a1 l3 (mI M (mR M a1 3) (Int.toNat (mI M (mR M a0 0) 2))) 0 M Q))))))))))) :
    h_TR_translate_41 G d a0 a1 l3 M Q := by
  unfold h_TR_translate_41
  obtain ⟨h17, h⟩ := h
  refine wm_iload_n d_TR_translate_41 rfl rfl ?_
  refine wm_aload_n d_TR_translate_42 rfl rfl ?_
  refine gf_TR_40 rfl d_TR_translate_43 h17 ?_
  obtain ⟨s25, h⟩ := h
  have hE0 : ((mI M a1 2 ≤ l3) ∨ (mI M (mR M a1 3) (Int.toNat (mI M (mR M a0 0) 2)) = 0)) → mWm G y_TR_translate (d + 1) 224 [vr a0, vr a1, vd, vi l3, vd, vd] [] M (fun r9 M9 => ∃ x9, r9 = some (vi x9) ∧ Q x9 M9) := by
    intro q26
    have h := h.1 q26
    obtain ⟨h27, h⟩ := h
    obtain ⟨h28, h⟩ := h
    refine wm_aload_n d_TR_translate_224 rfl rfl ?_
    refine gf_TR_36 rfl d_TR_translate_225 h27 ?_
    refine gf_TR_89 rfl d_TR_translate_228 h28 ?_
    refine wm_iconst d_TR_translate_231 ?_
    refine wm_icmp_ne (tgt := 248) d_TR_translate_232 rfl (hO _ _).1 ⟨by decide, by decide⟩ (fun c30 => ?_) (fun c30 => ?_)
    · replace h := h.2 c30
      refine wm_less (L' := [vr a0, vd, vd, vd, vd, vd]) ⟨Or.inr rfl, Or.inl rfl, Or.inl rfl, Or.inl rfl, Or.inl rfl, Or.inl rfl, trivial⟩ ?_
      exact h
    · replace c30 := Classical.not_not.mp c30
      replace h := h.1 c30
      obtain ⟨h31, h⟩ := h
      refine wm_aload_n d_TR_translate_235 rfl rfl ?_
      refine gf_TR_12 rfl d_TR_translate_236 h27 ?_
      refine wm_bipush d_TR_translate_239 (by decide) ?_
      refine wm_aload_n d_TR_translate_241 rfl rfl ?_
      refine gf_TR_92 rfl d_TR_translate_242 h17 ?_
      refine cf_TR_95 rfl d_TR_translate_245 h31 (Nat.le_of_ble_eq_true rfl) (Cv.mono h (fun M32 h => ?_))
      obtain ⟨hOM32, h⟩ := h
      refine wm_less (L' := [vr a0, vd, vd, vd, vd, vd]) ⟨Or.inr rfl, Or.inl rfl, Or.inl rfl, Or.inl rfl, Or.inl rfl, Or.inl rfl, trivial⟩ ?_
      exact h
  have hE1 : ¬ ((mI M a1 2 ≤ l3) ∨ (mI M (mR M a1 3) (Int.toNat (mI M (mR M a0 0) 2)) = 0)) → mWm G y_TR_translate (d + 1) 64 [vr a0, vr a1, vd, vi l3, vd, vd] [] M (fun r9 M9 => ∃ x9, r9 = some (vi x9) ∧ Q x9 M9) := by
    intro q35
    have h := h.2 q35
    obtain ⟨h36, h⟩ := h
    obtain ⟨h37, h⟩ := h
    obtain ⟨h38, h⟩ := h
    obtain ⟨h39, h⟩ := h
    refine wm_aload_n d_TR_translate_64 rfl rfl ?_
    refine gf_TR_56 rfl d_TR_translate_65 h17 ?_
    refine wm_aload_n d_TR_translate_68 rfl rfl ?_
    refine gf_TR_12 rfl d_TR_translate_69 h36 ?_
    refine gf_TR_59 rfl d_TR_translate_72 h37 ?_
    refine wm_iald d_TR_translate_75 h38 h39 ?_
    refine wm_istore d_TR_translate_76 (by decide) (L' := [vr a0, vr a1, vd, vi l3, vi (mI M (mR M a1 3) (Int.toNat (mI M (mR M a0 0) 2))), vd]) rfl ?_
    refine wm_iload d_TR_translate_78 rfl ?_
    refine wm_iconst d_TR_translate_80 ?_
    refine wm_icmp_ne (tgt := 91) d_TR_translate_81 rfl (hO _ _).1 ⟨by decide, by decide⟩ (fun c46 => ?_) (fun c46 => ?_)
    · replace h := h.2 c46
      refine wm_iload d_TR_translate_91 rfl ?_
      refine wm_bipush d_TR_translate_93 (by decide) ?_
      refine wm_icmp_ne (tgt := 105) d_TR_translate_95 rfl (hO _ _).1 ⟨by decide, by decide⟩ (fun c55 => ?_) (fun c55 => ?_)
      · replace h := h.2 c55
        refine wm_iload d_TR_translate_105 rfl ?_
        refine wm_bipush d_TR_translate_107 (by decide) ?_
        have hE0 : ((mI M (mR M a1 3) (Int.toNat (mI M (mR M a0 0) 2)) = 8) ∨ (mI M (mR M a1 3) (Int.toNat (mI M (mR M a0 0) 2)) = 9)) → mWm G y_TR_translate (d + 1) 119 [vr a0, vr a1, vd, vi l3, vi (mI M (mR M a1 3) (Int.toNat (mI M (mR M a0 0) 2))), vd] [] M (fun r9 M9 => ∃ x9, r9 = some (vi x9) ∧ Q x9 M9) := by
          intro q64
          have h := h.1 q64
          refine wm_aload_n d_TR_translate_119 rfl rfl ?_
          refine wm_iload d_TR_translate_120 rfl ?_
          refine cf_TR_69 rfl d_TR_translate_122 h36 (Nat.le_of_ble_eq_true rfl) (Ci.mono h (fun x66 M65 h => ?_))
          obtain ⟨h67, hOM65, h⟩ := h
          refine wm_goto (tgt := 155) d_TR_translate_125 rfl ?_
          exact h
        have hE1 : ¬ ((mI M (mR M a1 3) (Int.toNat (mI M (mR M a0 0) 2)) = 8) ∨ (mI M (mR M a1 3) (Int.toNat (mI M (mR M a0 0) 2)) = 9)) → mWm G y_TR_translate (d + 1) 128 [vr a0, vr a1, vd, vi l3, vi (mI M (mR M a1 3) (Int.toNat (mI M (mR M a0 0) 2))), vd] [] M (fun r9 M9 => ∃ x9, r9 = some (vi x9) ∧ Q x9 M9) := by
          intro q68
          have h := h.2 q68
          refine wm_iload d_TR_translate_128 rfl ?_
          refine wm_iconst d_TR_translate_130 ?_
          have hE0 : ((mI M (mR M a1 3) (Int.toNat (mI M (mR M a0 0) 2)) = 4) ∨ (mI M (mR M a1 3) (Int.toNat (mI M (mR M a0 0) 2)) = 7)) → mWm G y_TR_translate (d + 1) 141 [vr a0, vr a1, vd, vi l3, vi (mI M (mR M a1 3) (Int.toNat (mI M (mR M a0 0) 2))), vd] [] M (fun r9 M9 => ∃ x9, r9 = some (vi x9) ∧ Q x9 M9) := by
            intro q72
            have h := h.1 q72
            refine wm_aload_n d_TR_translate_141 rfl rfl ?_
            refine wm_iload d_TR_translate_142 rfl ?_
            refine cf_TR_73 rfl d_TR_translate_144 h36 (Nat.le_of_ble_eq_true rfl) (Ci.mono h (fun x74 M73 h => ?_))
            obtain ⟨h75, hOM73, h⟩ := h
            refine wm_if_eq (tgt := 154) d_TR_translate_147 rfl h75 (fun c77 => ?_) (fun c77 => ?_)
            · replace h := h.1 c77
              refine wm_iconst d_TR_translate_154 ?_
              exact h
            · replace h := h.2 c77
              refine wm_iconst d_TR_translate_150 ?_
              refine wm_goto (tgt := 155) d_TR_translate_151 rfl ?_
              exact h
          have hE1 : ¬ ((mI M (mR M a1 3) (Int.toNat (mI M (mR M a0 0) 2)) = 4) ∨ (mI M (mR M a1 3) (Int.toNat (mI M (mR M a0 0) 2)) = 7)) → mWm G y_TR_translate (d + 1) 154 [vr a0, vr a1, vd, vi l3, vi (mI M (mR M a1 3) (Int.toNat (mI M (mR M a0 0) 2))), vd] [] M (fun r9 M9 => ∃ x9, r9 = some (vi x9) ∧ Q x9 M9) := by
            intro q78
            have h := h.2 q78
            refine wm_iconst d_TR_translate_154 ?_
            exact h
          clear h
          refine wm_icmp_eq (tgt := 141) d_TR_translate_131 rfl (hO _ _).1 ⟨by decide, by decide⟩ (fun c70 => ?_) (fun c70 => ?_)
          · exact hE0 (Or.inl c70)
          · refine wm_iload d_TR_translate_134 rfl ?_
            refine wm_bipush d_TR_translate_136 (by decide) ?_
            refine wm_icmp_ne (tgt := 154) d_TR_translate_138 rfl (hO _ _).1 ⟨by decide, by decide⟩ (fun c69 => ?_) (fun c69 => ?_)
            · exact hE1 (fun z79 => Or.elim z79 c70 c69)
            · replace c69 := Classical.not_not.mp c69
              exact hE0 (Or.inr c69)
        clear h
        refine wm_icmp_eq (tgt := 119) d_TR_translate_109 rfl (hO _ _).1 ⟨by decide, by decide⟩ (fun c62 => ?_) (fun c62 => ?_)
        · exact hE0 (Or.inl c62)
        · refine wm_iload d_TR_translate_112 rfl ?_
          refine wm_bipush d_TR_translate_114 (by decide) ?_
          refine wm_icmp_ne (tgt := 128) d_TR_translate_116 rfl (hO _ _).1 ⟨by decide, by decide⟩ (fun c61 => ?_) (fun c61 => ?_)
          · exact hE1 (fun z81 => Or.elim z81 c62 c61)
          · replace c61 := Classical.not_not.mp c61
            exact hE0 (Or.inr c61)
      · replace c55 := Classical.not_not.mp c55
        replace h := h.1 c55
        refine wm_aload_n d_TR_translate_98 rfl rfl ?_
        refine cf_TR_66 rfl d_TR_translate_99 h36 (Nat.le_of_ble_eq_true rfl) (Ci.mono h (fun x57 M56 h => ?_))
        obtain ⟨h58, hOM56, h⟩ := h
        refine wm_goto (tgt := 155) d_TR_translate_102 rfl ?_
        exact h
    · replace c46 := Classical.not_not.mp c46
      replace h := h.1 c46
      refine wm_aload_n d_TR_translate_84 rfl rfl ?_
      refine cf_TR_62 rfl d_TR_translate_85 h36 (Nat.le_of_ble_eq_true rfl) (Ci.mono h (fun x48 M47 h => ?_))
      obtain ⟨h49, hOM47, h⟩ := h
      refine wm_goto (tgt := 155) d_TR_translate_88 rfl ?_
      exact h
  clear h
  have s83 := s25
  refine wm_icmp_ge (tgt := 224) d_TR_translate_46 rfl hi_l3 (hO _ _).1 (fun c24 => ?_) (fun c24 => ?_)
  · exact hE0 (Or.inl c24)
  · have s83 := s83 c24
    obtain ⟨h18, h19, h20, h21⟩ := s83
    refine wm_aload_n d_TR_translate_49 rfl rfl ?_
    refine gf_TR_56 rfl d_TR_translate_50 h17 ?_
    refine wm_aload_n d_TR_translate_53 rfl rfl ?_
    refine gf_TR_12 rfl d_TR_translate_54 h18 ?_
    refine gf_TR_59 rfl d_TR_translate_57 h19 ?_
    refine wm_iald d_TR_translate_60 h20 h21 ?_
    refine wm_if_eq (tgt := 224) d_TR_translate_61 rfl (hO _ _).1 (fun c23 => ?_) (fun c23 => ?_)
    · exact hE0 (Or.inr c23)
    · exact hE1 (fun z84 => Or.elim z84 c24 c23)
theorem k_TR_translate_155 {G : mG} {d : Nat} {a0 : Nat} {a1 : Nat} {l3 : Int} {l4 : Int} {k0 : Int} {M : mM} {Q : Int → mM → Prop} (hO : mOk M) (hi_l3 : i32 l3) (hi_l4 : i32 l4) (hi_k0 : i32 k0)
    (h : ((k0 = 0) → (mK M a0 = 3 ∧ mK M (mR M a0 0) = 4 ∧ ∀ M93, M93 = mUI M (mR M a0 0) 3 1 → mK M93 (mR M93 a0 0) = 4 ∧ Ci G y_RR_here d [vr (mR M93 a0 0)] M93 (fun x97 M96 => i32 x97 ∧ mOk M96 ∧ (mK M96 (mR M93 a0 0) = 4 ∧ ∀ M100, M100 = mUI M96 (mR M93 a0 0) 4 x97 → Q 1 M100)))) ∧ (¬ (k0 = 0) → (((l4 = 5) → (mK M a0 = 3 ∧ Cv G y_TR_settleVar d [vr a0] M (fun M107 => mOk M107 ∧ (h_TR_translate_218 G d a0 a1 l3 M107 Q)))) ∧ (¬ (l4 = 5) → ((((l4 = 4) ∨ (l4 = 7)) → (mK M a0 = 3 ∧ Cv G y_TR_settleNamed d [vr a0, vi l4] M (fun M115 => mOk M115 ∧ (h_TR_translate_218 G d a0 a1 l3 M115 Q)))) ∧ (¬ ((l4 = 4) ∨ (l4 = 7)) → (h_TR_translate_218 G d a0 a1 l3 M Q))))))) :
    h_TR_translate_155 G d a0 a1 l3 l4 k0 M Q := by
  unfold h_TR_translate_155
  refine wm_istore d_TR_translate_155 (by decide) (L' := [vr a0, vr a1, vd, vi l3, vi l4, vi k0]) rfl ?_
  refine wm_iload d_TR_translate_157 rfl ?_
  refine wm_if_ne (tgt := 186) d_TR_translate_159 rfl hi_k0 (fun c90 => ?_) (fun c90 => ?_)
  · replace h := h.2 c90
    refine wm_iload d_TR_translate_186 rfl ?_
    refine wm_iconst d_TR_translate_188 ?_
    refine wm_icmp_ne (tgt := 199) d_TR_translate_189 rfl hi_l4 ⟨by decide, by decide⟩ (fun c105 => ?_) (fun c105 => ?_)
    · replace h := h.2 c105
      refine wm_iload d_TR_translate_199 rfl ?_
      refine wm_iconst d_TR_translate_201 ?_
      have hE0 : ((l4 = 4) ∨ (l4 = 7)) → mWm G y_TR_translate (d + 1) 212 [vr a0, vr a1, vd, vi l3, vi l4, vi k0] [] M (fun r9 M9 => ∃ x9, r9 = some (vi x9) ∧ Q x9 M9) := by
        intro q113
        have h := h.1 q113
        obtain ⟨h114, h⟩ := h
        refine wm_aload_n d_TR_translate_212 rfl rfl ?_
        refine wm_iload d_TR_translate_213 rfl ?_
        refine cf_TR_86 rfl d_TR_translate_215 h114 (Nat.le_of_ble_eq_true rfl) (Cv.mono h (fun M115 h => ?_))
        obtain ⟨hOM115, h⟩ := h
        refine wm_less (L' := [vr a0, vr a1, vd, vi l3, vd, vd]) ⟨Or.inr rfl, Or.inr rfl, Or.inl rfl, Or.inr rfl, Or.inl rfl, Or.inl rfl, trivial⟩ ?_
        exact h
      have hE1 : ¬ ((l4 = 4) ∨ (l4 = 7)) → mWm G y_TR_translate (d + 1) 218 [vr a0, vr a1, vd, vi l3, vi l4, vi k0] [] M (fun r9 M9 => ∃ x9, r9 = some (vi x9) ∧ Q x9 M9) := by
        intro q118
        have h := h.2 q118
        refine wm_less (L' := [vr a0, vr a1, vd, vi l3, vd, vd]) ⟨Or.inr rfl, Or.inr rfl, Or.inl rfl, Or.inr rfl, Or.inl rfl, Or.inl rfl, trivial⟩ ?_
        exact h
      clear h
      refine wm_icmp_eq (tgt := 212) d_TR_translate_202 rfl hi_l4 ⟨by decide, by decide⟩ (fun c111 => ?_) (fun c111 => ?_)
      · exact hE0 (Or.inl c111)
      · refine wm_iload d_TR_translate_205 rfl ?_
        refine wm_bipush d_TR_translate_207 (by decide) ?_
        refine wm_icmp_ne (tgt := 218) d_TR_translate_209 rfl hi_l4 ⟨by decide, by decide⟩ (fun c110 => ?_) (fun c110 => ?_)
        · exact hE1 (fun z119 => Or.elim z119 c111 c110)
        · replace c110 := Classical.not_not.mp c110
          exact hE0 (Or.inr c110)
    · replace c105 := Classical.not_not.mp c105
      replace h := h.1 c105
      obtain ⟨h106, h⟩ := h
      refine wm_aload_n d_TR_translate_192 rfl rfl ?_
      refine cf_TR_83 rfl d_TR_translate_193 h106 (Nat.le_of_ble_eq_true rfl) (Cv.mono h (fun M107 h => ?_))
      obtain ⟨hOM107, h⟩ := h
      refine wm_goto (tgt := 218) d_TR_translate_196 rfl ?_
      refine wm_less (L' := [vr a0, vr a1, vd, vi l3, vd, vd]) ⟨Or.inr rfl, Or.inr rfl, Or.inl rfl, Or.inr rfl, Or.inl rfl, Or.inl rfl, trivial⟩ ?_
      exact h
  · replace c90 := Classical.not_not.mp c90
    replace h := h.1 c90
    obtain ⟨h91, h⟩ := h
    obtain ⟨h92, h⟩ := h
    obtain ⟨M93, e94⟩ : ∃ M93, M93 = mUI M (mR M a0 0) 3 1 := ⟨_, rfl⟩
    replace h := h M93 e94
    obtain ⟨h95, h⟩ := h
    refine wm_aload_n d_TR_translate_162 rfl rfl ?_
    refine gf_TR_12 rfl d_TR_translate_163 h91 ?_
    refine wm_iconst d_TR_translate_166 ?_
    have hOM93 : mOk M93 := by rw [e94]; exact mOk_UI hO ⟨by decide, by decide⟩
    refine pf_TR_76 rfl d_TR_translate_167 h92 ⟨by decide, by decide⟩ e94 ?_
    refine wm_aload_n d_TR_translate_170 rfl rfl ?_
    refine gf_TR_12 rfl d_TR_translate_171 (by rw [e94]; exact h91) ?_
    refine wm_aload_n d_TR_translate_174 rfl rfl ?_
    refine gf_TR_12 rfl d_TR_translate_175 (by rw [e94]; exact h91) ?_
    refine cf_TR_79 rfl d_TR_translate_178 h95 (Nat.le_of_ble_eq_true rfl) (Ci.mono h (fun x97 M96 h => ?_))
    obtain ⟨h98, hOM96, h⟩ := h
    obtain ⟨h99, h⟩ := h
    obtain ⟨M100, e101⟩ : ∃ M100, M100 = mUI M96 (mR M93 a0 0) 4 x97 := ⟨_, rfl⟩
    replace h := h M100 e101
    have hOM100 : mOk M100 := by rw [e101]; exact mOk_UI hOM96 h98
    refine pf_TR_32 rfl d_TR_translate_181 h99 h98 e101 ?_
    refine wm_iconst d_TR_translate_184 ?_
    refine wm_ireturn d_TR_translate_185 rfl rfl ?_
    exact ⟨_, rfl, h⟩
theorem k_TR_translate_218 {G : mG} {d : Nat} {a0 : Nat} {a1 : Nat} {l3 : Int} {M : mM} {Q : Int → mM → Prop} (hO : mOk M) (hi_l3 : i32 l3)
    (h : h_TR_translate_41 G d a0 a1 (l3 + 1) M Q) :
    h_TR_translate_218 G d a0 a1 l3 M Q := by
  unfold h_TR_translate_218
  refine wm_iinc d_TR_translate_218 (by decide) rfl (L' := [vr a0, vr a1, vd, vi (l3 + 1), vd, vd]) rfl ?_
  refine wm_goto (tgt := 41) d_TR_translate_221 rfl ?_
  exact h
theorem k_TR_translate_248 {G : mG} {d : Nat} {a0 : Nat} {M : mM} {Q : Int → mM → Prop} (hO : mOk M)
    (h : mK M a0 = 3 ∧ mK M (mR M a0 0) = 4 ∧ Q (mI M (mR M a0 0) 3) M) :
    h_TR_translate_248 G d a0 M Q := by
  unfold h_TR_translate_248
  obtain ⟨h121, h⟩ := h
  obtain ⟨h122, h⟩ := h
  refine wm_aload_n d_TR_translate_248 rfl rfl ?_
  refine gf_TR_12 rfl d_TR_translate_249 h121 ?_
  refine gf_TR_76 rfl d_TR_translate_252 h122 ?_
  refine wm_ireturn d_TR_translate_255 rfl rfl ?_
  exact ⟨_, rfl, h⟩
theorem d_TR_readName_0 : decode y_TR_readName.2.1 0 = .ok (.iload_n 1, 1) := by decide +kernel
theorem d_TR_readName_1 : decode y_TR_readName.2.1 1 = .ok (.ifCond .eq 18, 3) := by decide +kernel
theorem d_TR_readName_4 : decode y_TR_readName.2.1 4 = .ok (.aload_n 0, 1) := by decide +kernel
theorem d_TR_readName_5 : decode y_TR_readName.2.1 5 = .ok (.getfield 12, 3) := by decide +kernel
theorem d_TR_readName_8 : decode y_TR_readName.2.1 8 = .ok (.iconst 5, 1) := by decide +kernel
theorem d_TR_readName_9 : decode y_TR_readName.2.1 9 = .ok (.aload_n 0, 1) := by decide +kernel
theorem d_TR_readName_10 : decode y_TR_readName.2.1 10 = .ok (.getfield 12, 3) := by decide +kernel
theorem d_TR_readName_13 : decode y_TR_readName.2.1 13 = .ok (.invokevirtual 79, 3) := by decide +kernel
theorem d_TR_readName_16 : decode y_TR_readName.2.1 16 = .ok (.invokevirtual 95, 3) := by decide +kernel
theorem d_TR_readName_19 : decode y_TR_readName.2.1 19 = .ok (.aload_n 0, 1) := by decide +kernel
theorem d_TR_readName_20 : decode y_TR_readName.2.1 20 = .ok (.getfield 12, 3) := by decide +kernel
theorem d_TR_readName_23 : decode y_TR_readName.2.1 23 = .ok (.dup, 1) := by decide +kernel
theorem d_TR_readName_24 : decode y_TR_readName.2.1 24 = .ok (.getfield 59, 3) := by decide +kernel
theorem d_TR_readName_27 : decode y_TR_readName.2.1 27 = .ok (.iconst 1, 1) := by decide +kernel
theorem d_TR_readName_28 : decode y_TR_readName.2.1 28 = .ok (.iadd, 1) := by decide +kernel
theorem d_TR_readName_29 : decode y_TR_readName.2.1 29 = .ok (.putfield 59, 3) := by decide +kernel
theorem d_TR_readName_32 : decode y_TR_readName.2.1 32 = .ok (.aload_n 0, 1) := by decide +kernel
theorem d_TR_readName_33 : decode y_TR_readName.2.1 33 = .ok (.aload_n 0, 1) := by decide +kernel
theorem d_TR_readName_34 : decode y_TR_readName.2.1 34 = .ok (.getfield 12, 3) := by decide +kernel
theorem d_TR_readName_37 : decode y_TR_readName.2.1 37 = .ok (.getfield 59, 3) := by decide +kernel
theorem d_TR_readName_40 : decode y_TR_readName.2.1 40 = .ok (.putfield 99, 3) := by decide +kernel
theorem d_TR_readName_43 : decode y_TR_readName.2.1 43 = .ok (.aload_n 0, 1) := by decide +kernel
theorem d_TR_readName_44 : decode y_TR_readName.2.1 44 = .ok (.getfield 12, 3) := by decide +kernel
theorem d_TR_readName_47 : decode y_TR_readName.2.1 47 = .ok (.iconst 2, 1) := by decide +kernel
theorem d_TR_readName_48 : decode y_TR_readName.2.1 48 = .ok (.invokevirtual 102, 3) := by decide +kernel
theorem d_TR_readName_51 : decode y_TR_readName.2.1 51 = .ok (.ifCond .ne 5, 3) := by decide +kernel
theorem d_TR_readName_54 : decode y_TR_readName.2.1 54 = .ok (.iconst 0, 1) := by decide +kernel
theorem d_TR_readName_55 : decode y_TR_readName.2.1 55 = .ok (.ireturn, 1) := by decide +kernel
theorem d_TR_readName_56 : decode y_TR_readName.2.1 56 = .ok (.aload_n 0, 1) := by decide +kernel
theorem d_TR_readName_57 : decode y_TR_readName.2.1 57 = .ok (.getfield 12, 3) := by decide +kernel
theorem d_TR_readName_60 : decode y_TR_readName.2.1 60 = .ok (.aload_n 0, 1) := by decide +kernel
theorem d_TR_readName_61 : decode y_TR_readName.2.1 61 = .ok (.getfield 99, 3) := by decide +kernel
theorem d_TR_readName_64 : decode y_TR_readName.2.1 64 = .ok (.invokevirtual 105, 3) := by decide +kernel
theorem d_TR_readName_67 : decode y_TR_readName.2.1 67 = .ok (.iconst (-1), 1) := by decide +kernel
theorem d_TR_readName_68 : decode y_TR_readName.2.1 68 = .ok (.if_icmp .eq 26, 3) := by decide +kernel
theorem d_TR_readName_71 : decode y_TR_readName.2.1 71 = .ok (.aload_n 0, 1) := by decide +kernel
theorem d_TR_readName_72 : decode y_TR_readName.2.1 72 = .ok (.getfield 12, 3) := by decide +kernel
theorem d_TR_readName_75 : decode y_TR_readName.2.1 75 = .ok (.iconst 2, 1) := by decide +kernel
theorem d_TR_readName_76 : decode y_TR_readName.2.1 76 = .ok (.aload_n 0, 1) := by decide +kernel
theorem d_TR_readName_77 : decode y_TR_readName.2.1 77 = .ok (.getfield 12, 3) := by decide +kernel
theorem d_TR_readName_80 : decode y_TR_readName.2.1 80 = .ok (.getfield 109, 3) := by decide +kernel
theorem d_TR_readName_83 : decode y_TR_readName.2.1 83 = .ok (.getfield 113, 3) := by decide +kernel
theorem d_TR_readName_86 : decode y_TR_readName.2.1 86 = .ok (.aload_n 0, 1) := by decide +kernel
theorem d_TR_readName_87 : decode y_TR_readName.2.1 87 = .ok (.getfield 99, 3) := by decide +kernel
theorem d_TR_readName_90 : decode y_TR_readName.2.1 90 = .ok (.iaload, 1) := by decide +kernel
theorem d_TR_readName_94 : decode y_TR_readName.2.1 94 = .ok (.iconst 1, 1) := by decide +kernel
theorem d_TR_readName_95 : decode y_TR_readName.2.1 95 = .ok (.ireturn, 1) := by decide +kernel
theorem d_TR_readName_91 : decode y_TR_readName.2.1 91 = .ok (.invokevirtual 95, 3) := by decide +kernel
def h_TR_readName_19 (G : mG) (d : Nat) (a0 : Nat) (M : mM) (Q : Int → mM → Prop) : Prop := mWm G y_TR_readName (d + 1) 19 [vr a0, vd] [] M (fun r9 M9 => ∃ x9, r9 = some (vi x9) ∧ Q x9 M9)
theorem k_TR_readName {G : mG} {d : Nat} {a0 : Nat} {l1 : Int} {M : mM} {Q : Int → mM → Prop} (hO : mOk M) (hi_l1 : i32 l1)
    (h : ((l1 = 0) → (h_TR_readName_19 G d a0 M Q)) ∧ (¬ (l1 = 0) → (mK M a0 = 3 ∧ mK M (mR M a0 0) = 4 ∧ Ci G y_RR_here d [vr (mR M a0 0)] M (fun x6 M5 => i32 x6 ∧ mOk M5 ∧ (mK M5 (mR M a0 0) = 4 ∧ Cv G y_RR_note d [vr (mR M a0 0), vi 5, vi x6] M5 (fun M9 => mOk M9 ∧ (h_TR_readName_19 G d a0 M9 Q))))))) :
    Ci G y_TR_readName (d + 1) [vr a0, vi l1] M Q := by
  refine wm_open (y := y_TR_readName) rfl (Nat.le_of_ble_eq_true rfl) (L := [vr a0, vi l1]) rfl ?_
  refine wm_iload_n d_TR_readName_0 rfl rfl ?_
  refine wm_if_eq (tgt := 19) d_TR_readName_1 rfl hi_l1 (fun c2 => ?_) (fun c2 => ?_)
  · replace h := h.1 c2
    refine wm_less (L' := [vr a0, vd]) ⟨Or.inr rfl, Or.inl rfl, trivial⟩ ?_
    exact h
  · replace h := h.2 c2
    obtain ⟨h3, h⟩ := h
    obtain ⟨h4, h⟩ := h
    refine wm_aload_n d_TR_readName_4 rfl rfl ?_
    refine gf_TR_12 rfl d_TR_readName_5 h3 ?_
    refine wm_iconst d_TR_readName_8 ?_
    refine wm_aload_n d_TR_readName_9 rfl rfl ?_
    refine gf_TR_12 rfl d_TR_readName_10 h3 ?_
    refine cf_TR_79 rfl d_TR_readName_13 h4 (Nat.le_of_ble_eq_true rfl) (Ci.mono h (fun x6 M5 h => ?_))
    obtain ⟨h7, hOM5, h⟩ := h
    obtain ⟨h8, h⟩ := h
    refine cf_TR_95 rfl d_TR_readName_16 h8 (Nat.le_of_ble_eq_true rfl) (Cv.mono h (fun M9 h => ?_))
    obtain ⟨hOM9, h⟩ := h
    refine wm_less (L' := [vr a0, vd]) ⟨Or.inr rfl, Or.inl rfl, trivial⟩ ?_
    exact h
theorem k_TR_readName_19 {G : mG} {d : Nat} {a0 : Nat} {M : mM} {Q : Int → mM → Prop} (hO : mOk M)
    (h : mK M a0 = 3 ∧ mK M (mR M a0 0) = 4 ∧ i32 ((mI M (mR M a0 0) 2) + 1) ∧ ∀ M15, M15 = mUI M (mR M a0 0) 2 ((mI M (mR M a0 0) 2) + 1) → mK M15 (mR M15 a0 0) = 4 ∧ ∀ M18, M18 = mUI M15 a0 3 (mI M15 (mR M15 a0 0) 2) → mK M18 (mR M18 a0 0) = 4 ∧ Ci G y_RR_accept d [vr (mR M18 a0 0), vi 2] M18 (fun x22 M21 => i32 x22 ∧ mOk M21 ∧ (((x22 = 0) → (Q 0 M21)) ∧ (¬ (x22 = 0) → (mK M21 a0 = 3 ∧ mK M21 (mR M21 a0 0) = 4 ∧ Ci G y_RR_find d [vr (mR M21 a0 0), vi (mI M21 a0 3)] M21 (fun x29 M28 => i32 x29 ∧ mOk M28 ∧ (((x29 = (-1)) → (Q 1 M28)) ∧ (¬ (x29 = (-1)) → (mK M28 a0 = 3 ∧ mK M28 (mR M28 a0 0) = 4 ∧ mK M28 (mR M28 (mR M28 a0 0) 0) = 2 ∧ mK M28 (mR M28 (mR M28 (mR M28 a0 0) 0) 4) = 30 ∧ ((0 : Int) ≤ mI M28 a0 3 ∧ mI M28 a0 3 < (mN M28 (mR M28 (mR M28 (mR M28 a0 0) 0) 4) : Int)) ∧ Cv G y_RR_note d [vr (mR M28 a0 0), vi 2, vi (mI M28 (mR M28 (mR M28 (mR M28 a0 0) 0) 4) (Int.toNat (mI M28 a0 3)))] M28 (fun M44 => mOk M44 ∧ (Q 1 M44))))))))))) :
    h_TR_readName_19 G d a0 M Q := by
  unfold h_TR_readName_19
  obtain ⟨h12, h⟩ := h
  obtain ⟨h13, h⟩ := h
  obtain ⟨h14, h⟩ := h
  obtain ⟨M15, e16⟩ : ∃ M15, M15 = mUI M (mR M a0 0) 2 ((mI M (mR M a0 0) 2) + 1) := ⟨_, rfl⟩
  replace h := h M15 e16
  obtain ⟨h17, h⟩ := h
  obtain ⟨M18, e19⟩ : ∃ M18, M18 = mUI M15 a0 3 (mI M15 (mR M15 a0 0) 2) := ⟨_, rfl⟩
  replace h := h M18 e19
  obtain ⟨h20, h⟩ := h
  refine wm_aload_n d_TR_readName_19 rfl rfl ?_
  refine gf_TR_12 rfl d_TR_readName_20 h12 ?_
  refine wm_dup d_TR_readName_23 rfl ?_
  refine gf_TR_59 rfl d_TR_readName_24 h13 ?_
  refine wm_iconst d_TR_readName_27 ?_
  refine wm_iadd d_TR_readName_28 ?_
  have hOM15 : mOk M15 := by rw [e16]; exact mOk_UI hO h14
  refine pf_TR_59 rfl d_TR_readName_29 h13 h14 e16 ?_
  refine wm_aload_n d_TR_readName_32 rfl rfl ?_
  refine wm_aload_n d_TR_readName_33 rfl rfl ?_
  refine gf_TR_12 rfl d_TR_readName_34 (by rw [e16]; exact h12) ?_
  refine gf_TR_59 rfl d_TR_readName_37 h17 ?_
  have hOM18 : mOk M18 := by rw [e19]; exact mOk_UI hOM15 (hOM15 _ _).1
  refine pf_TR_99 rfl d_TR_readName_40 (by rw [e16]; exact h12) (hOM15 _ _).1 e19 ?_
  refine wm_aload_n d_TR_readName_43 rfl rfl ?_
  refine gf_TR_12 rfl d_TR_readName_44 (by rw [e19, e16]; exact h12) ?_
  refine wm_iconst d_TR_readName_47 ?_
  refine cf_TR_102 rfl d_TR_readName_48 h20 (Nat.le_of_ble_eq_true rfl) (Ci.mono h (fun x22 M21 h => ?_))
  obtain ⟨h23, hOM21, h⟩ := h
  refine wm_if_ne (tgt := 56) d_TR_readName_51 rfl h23 (fun c25 => ?_) (fun c25 => ?_)
  · replace h := h.2 c25
    obtain ⟨h26, h⟩ := h
    obtain ⟨h27, h⟩ := h
    refine wm_aload_n d_TR_readName_56 rfl rfl ?_
    refine gf_TR_12 rfl d_TR_readName_57 h26 ?_
    refine wm_aload_n d_TR_readName_60 rfl rfl ?_
    refine gf_TR_99 rfl d_TR_readName_61 h26 ?_
    refine cf_TR_105 rfl d_TR_readName_64 h27 (Nat.le_of_ble_eq_true rfl) (Ci.mono h (fun x29 M28 h => ?_))
    obtain ⟨h30, hOM28, h⟩ := h
    refine wm_iconst d_TR_readName_67 ?_
    refine wm_icmp_eq (tgt := 94) d_TR_readName_68 rfl h30 ⟨by decide, by decide⟩ (fun c38 => ?_) (fun c38 => ?_)
    · replace h := h.1 c38
      refine wm_iconst d_TR_readName_94 ?_
      refine wm_ireturn d_TR_readName_95 rfl (m_nb (by decide)) ?_
      exact ⟨_, rfl, h⟩
    · replace h := h.2 c38
      obtain ⟨h39, h⟩ := h
      obtain ⟨h40, h⟩ := h
      obtain ⟨h41, h⟩ := h
      obtain ⟨h42, h⟩ := h
      obtain ⟨h43, h⟩ := h
      refine wm_aload_n d_TR_readName_71 rfl rfl ?_
      refine gf_TR_12 rfl d_TR_readName_72 h39 ?_
      refine wm_iconst d_TR_readName_75 ?_
      refine wm_aload_n d_TR_readName_76 rfl rfl ?_
      refine gf_TR_12 rfl d_TR_readName_77 h39 ?_
      refine gf_TR_109 rfl d_TR_readName_80 h40 ?_
      refine gf_TR_113 rfl d_TR_readName_83 h41 ?_
      refine wm_aload_n d_TR_readName_86 rfl rfl ?_
      refine gf_TR_99 rfl d_TR_readName_87 h39 ?_
      refine wm_iald d_TR_readName_90 h42 h43 ?_
      refine cf_TR_95 rfl d_TR_readName_91 h40 (Nat.le_of_ble_eq_true rfl) (Cv.mono h (fun M44 h => ?_))
      obtain ⟨hOM44, h⟩ := h
      refine wm_iconst d_TR_readName_94 ?_
      refine wm_ireturn d_TR_readName_95 rfl (m_nb (by decide)) ?_
      exact ⟨_, rfl, h⟩
  · replace c25 := Classical.not_not.mp c25
    replace h := h.1 c25
    refine wm_iconst d_TR_readName_54 ?_
    refine wm_ireturn d_TR_readName_55 rfl (m_nb (by decide)) ?_
    exact ⟨_, rfl, h⟩
theorem d_TR_readItemRule_0 : decode y_TR_readItemRule.2.1 0 = .ok (.aload_n 0, 1) := by decide +kernel
theorem d_TR_readItemRule_1 : decode y_TR_readItemRule.2.1 1 = .ok (.getfield 25, 3) := by decide +kernel
theorem d_TR_readItemRule_4 : decode y_TR_readItemRule.2.1 4 = .ok (.iload_n 1, 1) := by decide +kernel
theorem d_TR_readItemRule_5 : decode y_TR_readItemRule.2.1 5 = .ok (.aload_n 0, 1) := by decide +kernel
theorem d_TR_readItemRule_6 : decode y_TR_readItemRule.2.1 6 = .ok (.getfield 36, 3) := by decide +kernel
theorem d_TR_readItemRule_9 : decode y_TR_readItemRule.2.1 9 = .ok (.getfield 116, 3) := by decide +kernel
theorem d_TR_readItemRule_12 : decode y_TR_readItemRule.2.1 12 = .ok (.iastore, 1) := by decide +kernel
theorem d_TR_readItemRule_13 : decode y_TR_readItemRule.2.1 13 = .ok (.aload_n 0, 1) := by decide +kernel
theorem d_TR_readItemRule_14 : decode y_TR_readItemRule.2.1 14 = .ok (.getfield 29, 3) := by decide +kernel
theorem d_TR_readItemRule_17 : decode y_TR_readItemRule.2.1 17 = .ok (.iload_n 1, 1) := by decide +kernel
theorem d_TR_readItemRule_18 : decode y_TR_readItemRule.2.1 18 = .ok (.aload_n 0, 1) := by decide +kernel
theorem d_TR_readItemRule_19 : decode y_TR_readItemRule.2.1 19 = .ok (.getfield 12, 3) := by decide +kernel
theorem d_TR_readItemRule_22 : decode y_TR_readItemRule.2.1 22 = .ok (.invokevirtual 79, 3) := by decide +kernel
theorem d_TR_readItemRule_25 : decode y_TR_readItemRule.2.1 25 = .ok (.iastore, 1) := by decide +kernel
theorem d_TR_readItemRule_26 : decode y_TR_readItemRule.2.1 26 = .ok (.aload_n 0, 1) := by decide +kernel
theorem d_TR_readItemRule_27 : decode y_TR_readItemRule.2.1 27 = .ok (.getfield 12, 3) := by decide +kernel
theorem d_TR_readItemRule_30 : decode y_TR_readItemRule.2.1 30 = .ok (.iload_n 2, 1) := by decide +kernel
theorem d_TR_readItemRule_31 : decode y_TR_readItemRule.2.1 31 = .ok (.iconst 1, 1) := by decide +kernel
theorem d_TR_readItemRule_32 : decode y_TR_readItemRule.2.1 32 = .ok (.invokevirtual 117, 3) := by decide +kernel
theorem d_TR_readItemRule_35 : decode y_TR_readItemRule.2.1 35 = .ok (.ifCond .ne 5, 3) := by decide +kernel
theorem d_TR_readItemRule_38 : decode y_TR_readItemRule.2.1 38 = .ok (.iconst 0, 1) := by decide +kernel
theorem d_TR_readItemRule_39 : decode y_TR_readItemRule.2.1 39 = .ok (.ireturn, 1) := by decide +kernel
theorem d_TR_readItemRule_40 : decode y_TR_readItemRule.2.1 40 = .ok (.aload_n 0, 1) := by decide +kernel
theorem d_TR_readItemRule_41 : decode y_TR_readItemRule.2.1 41 = .ok (.getfield 36, 3) := by decide +kernel
theorem d_TR_readItemRule_44 : decode y_TR_readItemRule.2.1 44 = .ok (.iconst 0, 1) := by decide +kernel
theorem d_TR_readItemRule_45 : decode y_TR_readItemRule.2.1 45 = .ok (.iconst 0, 1) := by decide +kernel
theorem d_TR_readItemRule_46 : decode y_TR_readItemRule.2.1 46 = .ok (.invokevirtual 121, 3) := by decide +kernel
theorem d_TR_readItemRule_49 : decode y_TR_readItemRule.2.1 49 = .ok (.pop, 1) := by decide +kernel
theorem d_TR_readItemRule_50 : decode y_TR_readItemRule.2.1 50 = .ok (.iconst 1, 1) := by decide +kernel
theorem d_TR_readItemRule_51 : decode y_TR_readItemRule.2.1 51 = .ok (.ireturn, 1) := by decide +kernel
theorem k_TR_readItemRule {G : mG} {d : Nat} {a0 : Nat} {l1 : Int} {l2 : Int} {M : mM} {Q : Int → mM → Prop} (hO : mOk M) (hi_l1 : i32 l1) (hi_l2 : i32 l2)
    (h : mK M a0 = 3 ∧ mK M (mR M a0 2) = 6 ∧ mK M (mR M a0 5) = 30 ∧ ((0 : Int) ≤ l1 ∧ l1 < (mN M (mR M a0 5) : Int)) ∧ ∀ M5, M5 = mUI M (mR M a0 5) (Int.toNat l1) (mI M (mR M a0 2) 2) → mK M5 (mR M5 a0 0) = 4 ∧ Ci G y_RR_here d [vr (mR M5 a0 0)] M5 (fun x9 M8 => i32 x9 ∧ mOk M8 ∧ (mK M8 (mR M5 a0 6) = 30 ∧ ((0 : Int) ≤ l1 ∧ l1 < (mN M8 (mR M5 a0 6) : Int)) ∧ ∀ M13, M13 = mUI M8 (mR M5 a0 6) (Int.toNat l1) x9 → mK M13 a0 = 3 ∧ mK M13 (mR M13 a0 0) = 4 ∧ Ci G y_RR_readRule d [vr (mR M13 a0 0), vi l2, vi 1] M13 (fun x18 M17 => i32 x18 ∧ mOk M17 ∧ (((x18 = 0) → (Q 0 M17)) ∧ (¬ (x18 = 0) → (mK M17 a0 = 3 ∧ mK M17 (mR M17 a0 2) = 6 ∧ Ci G y_Pr_add d [vr (mR M17 a0 2), vi 0, vi 0] M17 (fun x25 M24 => i32 x25 ∧ mOk M24 ∧ (Q 1 M24))))))))) :
    Ci G y_TR_readItemRule (d + 1) [vr a0, vi l1, vi l2] M Q := by
  refine wm_open (y := y_TR_readItemRule) rfl (Nat.le_of_ble_eq_true rfl) (L := [vr a0, vi l1, vi l2]) rfl ?_
  obtain ⟨h1, h⟩ := h
  obtain ⟨h2, h⟩ := h
  obtain ⟨h3, h⟩ := h
  obtain ⟨h4, h⟩ := h
  obtain ⟨M5, e6⟩ : ∃ M5, M5 = mUI M (mR M a0 5) (Int.toNat l1) (mI M (mR M a0 2) 2) := ⟨_, rfl⟩
  replace h := h M5 e6
  obtain ⟨h7, h⟩ := h
  refine wm_aload_n d_TR_readItemRule_0 rfl rfl ?_
  refine gf_TR_25 rfl d_TR_readItemRule_1 h1 ?_
  refine wm_iload_n d_TR_readItemRule_4 rfl rfl ?_
  refine wm_aload_n d_TR_readItemRule_5 rfl rfl ?_
  refine gf_TR_36 rfl d_TR_readItemRule_6 h1 ?_
  refine gf_TR_116 rfl d_TR_readItemRule_9 h2 ?_
  have hOM5 : mOk M5 := by rw [e6]; exact mOk_UI hO (hO _ _).1
  refine wm_iastE d_TR_readItemRule_12 h3 h4 (hO _ _).1 e6 ?_
  refine wm_aload_n d_TR_readItemRule_13 rfl rfl ?_
  refine gf_TR_29 rfl d_TR_readItemRule_14 (by rw [e6]; exact h1) ?_
  refine wm_iload_n d_TR_readItemRule_17 rfl rfl ?_
  refine wm_aload_n d_TR_readItemRule_18 rfl rfl ?_
  refine gf_TR_12 rfl d_TR_readItemRule_19 (by rw [e6]; exact h1) ?_
  refine cf_TR_79 rfl d_TR_readItemRule_22 h7 (Nat.le_of_ble_eq_true rfl) (Ci.mono h (fun x9 M8 h => ?_))
  obtain ⟨h10, hOM8, h⟩ := h
  obtain ⟨h11, h⟩ := h
  obtain ⟨h12, h⟩ := h
  obtain ⟨M13, e14⟩ : ∃ M13, M13 = mUI M8 (mR M5 a0 6) (Int.toNat l1) x9 := ⟨_, rfl⟩
  replace h := h M13 e14
  obtain ⟨h15, h⟩ := h
  obtain ⟨h16, h⟩ := h
  have hOM13 : mOk M13 := by rw [e14]; exact mOk_UI hOM8 h10
  refine wm_iastE d_TR_readItemRule_25 h11 h12 h10 e14 ?_
  refine wm_aload_n d_TR_readItemRule_26 rfl rfl ?_
  refine gf_TR_12 rfl d_TR_readItemRule_27 h15 ?_
  refine wm_iload_n d_TR_readItemRule_30 rfl rfl ?_
  refine wm_iconst d_TR_readItemRule_31 ?_
  refine cf_TR_117 rfl d_TR_readItemRule_32 h16 (Nat.le_of_ble_eq_true rfl) (Ci.mono h (fun x18 M17 h => ?_))
  obtain ⟨h19, hOM17, h⟩ := h
  refine wm_if_ne (tgt := 40) d_TR_readItemRule_35 rfl h19 (fun c21 => ?_) (fun c21 => ?_)
  · replace h := h.2 c21
    obtain ⟨h22, h⟩ := h
    obtain ⟨h23, h⟩ := h
    refine wm_aload_n d_TR_readItemRule_40 rfl rfl ?_
    refine gf_TR_36 rfl d_TR_readItemRule_41 h22 ?_
    refine wm_iconst d_TR_readItemRule_44 ?_
    refine wm_iconst d_TR_readItemRule_45 ?_
    refine cf_TR_121 rfl d_TR_readItemRule_46 h23 (Nat.le_of_ble_eq_true rfl) (Ci.mono h (fun x25 M24 h => ?_))
    obtain ⟨h26, hOM24, h⟩ := h
    refine wm_pop d_TR_readItemRule_49 rfl ?_
    refine wm_iconst d_TR_readItemRule_50 ?_
    refine wm_ireturn d_TR_readItemRule_51 rfl (m_nb (by decide)) ?_
    exact ⟨_, rfl, h⟩
  · replace c21 := Classical.not_not.mp c21
    replace h := h.1 c21
    refine wm_iconst d_TR_readItemRule_38 ?_
    refine wm_ireturn d_TR_readItemRule_39 rfl (m_nb (by decide)) ?_
    exact ⟨_, rfl, h⟩
theorem d_TR_readNamed_0 : decode y_TR_readNamed.2.1 0 = .ok (.aload_n 0, 1) := by decide +kernel
theorem d_TR_readNamed_1 : decode y_TR_readNamed.2.1 1 = .ok (.getfield 12, 3) := by decide +kernel
theorem d_TR_readNamed_4 : decode y_TR_readNamed.2.1 4 = .ok (.iload_n 1, 1) := by decide +kernel
theorem d_TR_readNamed_5 : decode y_TR_readNamed.2.1 5 = .ok (.iconst 4, 1) := by decide +kernel
theorem d_TR_readNamed_6 : decode y_TR_readNamed.2.1 6 = .ok (.if_icmp .ne 7, 3) := by decide +kernel
theorem d_TR_readNamed_9 : decode y_TR_readNamed.2.1 9 = .ok (.iconst 1, 1) := by decide +kernel
theorem d_TR_readNamed_10 : decode y_TR_readNamed.2.1 10 = .ok (.goto 4, 3) := by decide +kernel
theorem d_TR_readNamed_13 : decode y_TR_readNamed.2.1 13 = .ok (.iconst 0, 1) := by decide +kernel
theorem d_TR_readNamed_14 : decode y_TR_readNamed.2.1 14 = .ok (.putfield 125, 3) := by decide +kernel
theorem d_TR_readNamed_17 : decode y_TR_readNamed.2.1 17 = .ok (.aload_n 0, 1) := by decide +kernel
theorem d_TR_readNamed_18 : decode y_TR_readNamed.2.1 18 = .ok (.aload_n 0, 1) := by decide +kernel
theorem d_TR_readNamed_19 : decode y_TR_readNamed.2.1 19 = .ok (.getfield 36, 3) := by decide +kernel
theorem d_TR_readNamed_22 : decode y_TR_readNamed.2.1 22 = .ok (.getfield 129, 3) := by decide +kernel
theorem d_TR_readNamed_25 : decode y_TR_readNamed.2.1 25 = .ok (.bipush 60, 2) := by decide +kernel
theorem d_TR_readNamed_27 : decode y_TR_readNamed.2.1 27 = .ok (.if_icmp .lt 7, 3) := by decide +kernel
theorem d_TR_readNamed_34 : decode y_TR_readNamed.2.1 34 = .ok (.iconst 0, 1) := by decide +kernel
theorem d_TR_readNamed_30 : decode y_TR_readNamed.2.1 30 = .ok (.iconst 1, 1) := by decide +kernel
theorem d_TR_readNamed_31 : decode y_TR_readNamed.2.1 31 = .ok (.goto 4, 3) := by decide +kernel
theorem d_TR_readNamed_35 : decode y_TR_readNamed.2.1 35 = .ok (.invokevirtual 132, 3) := by decide +kernel
theorem d_TR_readNamed_38 : decode y_TR_readNamed.2.1 38 = .ok (.ifCond .eq 24, 3) := by decide +kernel
theorem d_TR_readNamed_41 : decode y_TR_readNamed.2.1 41 = .ok (.aload_n 0, 1) := by decide +kernel
theorem d_TR_readNamed_42 : decode y_TR_readNamed.2.1 42 = .ok (.getfield 12, 3) := by decide +kernel
theorem d_TR_readNamed_45 : decode y_TR_readNamed.2.1 45 = .ok (.bipush 24, 2) := by decide +kernel
theorem d_TR_readNamed_62 : decode y_TR_readNamed.2.1 62 = .ok (.iconst 0, 1) := by decide +kernel
theorem d_TR_readNamed_63 : decode y_TR_readNamed.2.1 63 = .ok (.ireturn, 1) := by decide +kernel
theorem d_TR_readNamed_47 : decode y_TR_readNamed.2.1 47 = .ok (.invokevirtual 102, 3) := by decide +kernel
theorem d_TR_readNamed_50 : decode y_TR_readNamed.2.1 50 = .ok (.ifCond .eq 12, 3) := by decide +kernel
theorem d_TR_readNamed_53 : decode y_TR_readNamed.2.1 53 = .ok (.aload_n 0, 1) := by decide +kernel
theorem d_TR_readNamed_54 : decode y_TR_readNamed.2.1 54 = .ok (.iconst 0, 1) := by decide +kernel
theorem d_TR_readNamed_55 : decode y_TR_readNamed.2.1 55 = .ok (.iconst 0, 1) := by decide +kernel
theorem d_TR_readNamed_56 : decode y_TR_readNamed.2.1 56 = .ok (.invokevirtual 136, 3) := by decide +kernel
theorem d_TR_readNamed_59 : decode y_TR_readNamed.2.1 59 = .ok (.ifCond .ne 5, 3) := by decide +kernel
theorem d_TR_readNamed_64 : decode y_TR_readNamed.2.1 64 = .ok (.aload_n 0, 1) := by decide +kernel
theorem d_TR_readNamed_65 : decode y_TR_readNamed.2.1 65 = .ok (.aload_n 0, 1) := by decide +kernel
theorem d_TR_readNamed_66 : decode y_TR_readNamed.2.1 66 = .ok (.getfield 12, 3) := by decide +kernel
theorem d_TR_readNamed_69 : decode y_TR_readNamed.2.1 69 = .ok (.invokevirtual 140, 3) := by decide +kernel
theorem d_TR_readNamed_72 : decode y_TR_readNamed.2.1 72 = .ok (.putfield 143, 3) := by decide +kernel
theorem d_TR_readNamed_75 : decode y_TR_readNamed.2.1 75 = .ok (.aload_n 0, 1) := by decide +kernel
theorem d_TR_readNamed_76 : decode y_TR_readNamed.2.1 76 = .ok (.getfield 12, 3) := by decide +kernel
theorem d_TR_readNamed_79 : decode y_TR_readNamed.2.1 79 = .ok (.bipush 35, 2) := by decide +kernel
theorem d_TR_readNamed_81 : decode y_TR_readNamed.2.1 81 = .ok (.invokevirtual 102, 3) := by decide +kernel
theorem d_TR_readNamed_84 : decode y_TR_readNamed.2.1 84 = .ok (.ireturn, 1) := by decide +kernel
theorem k_TR_readNamed {G : mG} {d : Nat} {a0 : Nat} {l1 : Int} {M : mM} {Q : Int → mM → Prop} (hO : mOk M) (hi_l1 : i32 l1)
    (h : mK M a0 = 3 ∧ ∀ v3 : Int, v3 = (if (l1 = 4) then 1 else 0) → mK M (mR M a0 0) = 4 ∧ ∀ M9, M9 = mUI M (mR M a0 0) 6 v3 → mK M9 (mR M9 a0 2) = 6 ∧ ∀ v13 : Int, v13 = (if (mI M9 (mR M9 a0 2) 7 < 60) then 0 else 1) → Ci G y_TR_readName d [vr a0, vi v13] M9 (fun x19 M18 => i32 x19 ∧ mOk M18 ∧ (((x19 = 0) → (Q 0 M18)) ∧ (¬ (x19 = 0) → (mK M18 a0 = 3 ∧ mK M18 (mR M18 a0 0) = 4 ∧ Ci G y_RR_accept d [vr (mR M18 a0 0), vi 24] M18 (fun x26 M25 => i32 x26 ∧ mOk M25 ∧ (((x26 = 0) → (Q 0 M25)) ∧ (¬ (x26 = 0) → (mK M25 a0 = 3 ∧ Ci G y_TR_readItemRule d [vr a0, vi 0, vi 0] M25 (fun x32 M31 => i32 x32 ∧ mOk M31 ∧ (((x32 = 0) → (Q 0 M31)) ∧ (¬ (x32 = 0) → (mK M31 a0 = 3 ∧ mK M31 (mR M31 a0 0) = 4 ∧ Ci G y_RR_isTruth d [vr (mR M31 a0 0)] M31 (fun x39 M38 => i32 x39 ∧ mOk M38 ∧ (mK M38 a0 = 3 ∧ (x39 = 0 ∨ x39 = 1) ∧ ∀ M43, M43 = mUI M38 a0 8 x39 → mK M43 (mR M43 a0 0) = 4 ∧ Ci G y_RR_accept d [vr (mR M43 a0 0), vi 35] M43 (fun x47 M46 => i32 x47 ∧ mOk M46 ∧ ((x47 = 0 ∨ x47 = 1) ∧ Q x47 M46))))))))))))))))) :
    Ci G y_TR_readNamed (d + 1) [vr a0, vi l1] M Q := by
  refine wm_open (y := y_TR_readNamed) rfl (Nat.le_of_ble_eq_true rfl) (L := [vr a0, vi l1]) rfl ?_
  obtain ⟨h1, h⟩ := h
  refine wm_aload_n d_TR_readNamed_0 rfl rfl ?_
  refine gf_TR_12 rfl d_TR_readNamed_1 h1 ?_
  refine wm_iload_n d_TR_readNamed_4 rfl rfl ?_
  refine wm_iconst d_TR_readNamed_5 ?_
  have hJ : ∀ v3 : Int, v3 = (if (l1 = 4) then 1 else 0) → mWm G y_TR_readNamed (d + 1) 14 [vr a0, vd] [vi v3, vr (mR M a0 0)] M (fun r9 M9 => ∃ x9, r9 = some (vi x9) ∧ Q x9 M9) := by
    intro v3 e5
    have h := h v3 e5
    have h6 : i32 v3 := by rw [e5]; (repeat' split) <;> first | exact ⟨by decide, by decide⟩ | exact ⟨by decide, by decide⟩
    have h7 : (v3 = 0 ∨ v3 = 1) := by rw [e5]; (repeat' split) <;> decide
    obtain ⟨h8, h⟩ := h
    obtain ⟨M9, e10⟩ : ∃ M9, M9 = mUI M (mR M a0 0) 6 v3 := ⟨_, rfl⟩
    replace h := h M9 e10
    obtain ⟨h11, h⟩ := h
    have hOM9 : mOk M9 := by rw [e10]; exact mOk_UI hO (m_b32 h7)
    refine pf_TR_125 rfl d_TR_readNamed_14 h8 h7 e10 ?_
    refine wm_aload_n d_TR_readNamed_17 rfl rfl ?_
    refine wm_aload_n d_TR_readNamed_18 rfl rfl ?_
    refine gf_TR_36 rfl d_TR_readNamed_19 (by rw [e10]; exact h1) ?_
    refine gf_TR_129 rfl d_TR_readNamed_22 h11 ?_
    refine wm_bipush d_TR_readNamed_25 (by decide) ?_
    have hJ : ∀ v13 : Int, v13 = (if (mI M9 (mR M9 a0 2) 7 < 60) then 0 else 1) → mWm G y_TR_readNamed (d + 1) 35 [vr a0, vd] [vi v13, vr a0] M9 (fun r9 M9 => ∃ x9, r9 = some (vi x9) ∧ Q x9 M9) := by
      intro v13 e15
      have h := h v13 e15
      have h16 : i32 v13 := by rw [e15]; (repeat' split) <;> first | exact ⟨by decide, by decide⟩ | exact ⟨by decide, by decide⟩
      have h17 : (v13 = 0 ∨ v13 = 1) := by rw [e15]; (repeat' split) <;> decide
      refine cf_TR_132 rfl d_TR_readNamed_35 (by rw [e10]; exact h1) (Nat.le_of_ble_eq_true rfl) (Ci.mono h (fun x19 M18 h => ?_))
      obtain ⟨h20, hOM18, h⟩ := h
      refine wm_if_eq (tgt := 62) d_TR_readNamed_38 rfl h20 (fun c22 => ?_) (fun c22 => ?_)
      · replace h := h.1 c22
        refine wm_iconst d_TR_readNamed_62 ?_
        refine wm_ireturn d_TR_readNamed_63 rfl (m_nb (by decide)) ?_
        exact ⟨_, rfl, h⟩
      · replace h := h.2 c22
        obtain ⟨h23, h⟩ := h
        obtain ⟨h24, h⟩ := h
        refine wm_aload_n d_TR_readNamed_41 rfl rfl ?_
        refine gf_TR_12 rfl d_TR_readNamed_42 h23 ?_
        refine wm_bipush d_TR_readNamed_45 (by decide) ?_
        refine cf_TR_102 rfl d_TR_readNamed_47 h24 (Nat.le_of_ble_eq_true rfl) (Ci.mono h (fun x26 M25 h => ?_))
        obtain ⟨h27, hOM25, h⟩ := h
        refine wm_if_eq (tgt := 62) d_TR_readNamed_50 rfl h27 (fun c29 => ?_) (fun c29 => ?_)
        · replace h := h.1 c29
          refine wm_iconst d_TR_readNamed_62 ?_
          refine wm_ireturn d_TR_readNamed_63 rfl (m_nb (by decide)) ?_
          exact ⟨_, rfl, h⟩
        · replace h := h.2 c29
          obtain ⟨h30, h⟩ := h
          refine wm_aload_n d_TR_readNamed_53 rfl rfl ?_
          refine wm_iconst d_TR_readNamed_54 ?_
          refine wm_iconst d_TR_readNamed_55 ?_
          refine cf_TR_136 rfl d_TR_readNamed_56 h30 (Nat.le_of_ble_eq_true rfl) (Ci.mono h (fun x32 M31 h => ?_))
          obtain ⟨h33, hOM31, h⟩ := h
          refine wm_if_ne (tgt := 64) d_TR_readNamed_59 rfl h33 (fun c35 => ?_) (fun c35 => ?_)
          · replace h := h.2 c35
            obtain ⟨h36, h⟩ := h
            obtain ⟨h37, h⟩ := h
            refine wm_aload_n d_TR_readNamed_64 rfl rfl ?_
            refine wm_aload_n d_TR_readNamed_65 rfl rfl ?_
            refine gf_TR_12 rfl d_TR_readNamed_66 h36 ?_
            refine cf_TR_140 rfl d_TR_readNamed_69 h37 (Nat.le_of_ble_eq_true rfl) (Ci.mono h (fun x39 M38 h => ?_))
            obtain ⟨h40, hOM38, h⟩ := h
            obtain ⟨h41, h⟩ := h
            obtain ⟨h42, h⟩ := h
            obtain ⟨M43, e44⟩ : ∃ M43, M43 = mUI M38 a0 8 x39 := ⟨_, rfl⟩
            replace h := h M43 e44
            obtain ⟨h45, h⟩ := h
            have hOM43 : mOk M43 := by rw [e44]; exact mOk_UI hOM38 (m_b32 h42)
            refine pf_TR_143 rfl d_TR_readNamed_72 h41 h42 e44 ?_
            refine wm_aload_n d_TR_readNamed_75 rfl rfl ?_
            refine gf_TR_12 rfl d_TR_readNamed_76 (by rw [e44]; exact h41) ?_
            refine wm_bipush d_TR_readNamed_79 (by decide) ?_
            refine cf_TR_102 rfl d_TR_readNamed_81 h45 (Nat.le_of_ble_eq_true rfl) (Ci.mono h (fun x47 M46 h => ?_))
            obtain ⟨h48, hOM46, h⟩ := h
            obtain ⟨h49, h⟩ := h
            refine wm_ireturn d_TR_readNamed_84 rfl (m_nb h49) ?_
            exact ⟨_, rfl, h⟩
          · replace c35 := Classical.not_not.mp c35
            replace h := h.1 c35
            refine wm_iconst d_TR_readNamed_62 ?_
            refine wm_ireturn d_TR_readNamed_63 rfl (m_nb (by decide)) ?_
            exact ⟨_, rfl, h⟩
    clear h
    refine wm_icmp_lt (tgt := 34) d_TR_readNamed_27 rfl (hOM9 _ _).1 ⟨by decide, by decide⟩ (fun c12 => ?_) (fun c12 => ?_)
    · refine wm_iconst d_TR_readNamed_34 ?_
      exact hJ 0 (if_pos c12).symm
    · refine wm_iconst d_TR_readNamed_30 ?_
      refine wm_goto (tgt := 35) d_TR_readNamed_31 rfl ?_
      exact hJ 1 (if_neg c12).symm
  clear h
  refine wm_icmp_ne (tgt := 13) d_TR_readNamed_6 rfl hi_l1 ⟨by decide, by decide⟩ (fun c2 => ?_) (fun c2 => ?_)
  · refine wm_iconst d_TR_readNamed_13 ?_
    refine wm_less (L' := [vr a0, vd]) ⟨Or.inr rfl, Or.inl rfl, trivial⟩ ?_
    exact hJ 0 (if_neg c2).symm
  · replace c2 := Classical.not_not.mp c2
    refine wm_iconst d_TR_readNamed_9 ?_
    refine wm_goto (tgt := 14) d_TR_readNamed_10 rfl ?_
    refine wm_less (L' := [vr a0, vd]) ⟨Or.inr rfl, Or.inl rfl, trivial⟩ ?_
    exact hJ 1 (if_pos c2).symm
theorem d_TR_settleNamed_0 : decode y_TR_settleNamed.2.1 0 = .ok (.aload_n 0, 1) := by decide +kernel
theorem d_TR_settleNamed_1 : decode y_TR_settleNamed.2.1 1 = .ok (.getfield 12, 3) := by decide +kernel
theorem d_TR_settleNamed_4 : decode y_TR_settleNamed.2.1 4 = .ok (.getfield 76, 3) := by decide +kernel
theorem d_TR_settleNamed_7 : decode y_TR_settleNamed.2.1 7 = .ok (.ifCond .ne 17, 3) := by decide +kernel
theorem d_TR_settleNamed_10 : decode y_TR_settleNamed.2.1 10 = .ok (.iload_n 1, 1) := by decide +kernel
theorem d_TR_settleNamed_11 : decode y_TR_settleNamed.2.1 11 = .ok (.iconst 4, 1) := by decide +kernel
theorem d_TR_settleNamed_12 : decode y_TR_settleNamed.2.1 12 = .ok (.if_icmp .ne 13, 3) := by decide +kernel
theorem d_TR_settleNamed_15 : decode y_TR_settleNamed.2.1 15 = .ok (.aload_n 0, 1) := by decide +kernel
theorem d_TR_settleNamed_16 : decode y_TR_settleNamed.2.1 16 = .ok (.iconst 0, 1) := by decide +kernel
theorem d_TR_settleNamed_17 : decode y_TR_settleNamed.2.1 17 = .ok (.iconst 0, 1) := by decide +kernel
theorem d_TR_settleNamed_18 : decode y_TR_settleNamed.2.1 18 = .ok (.invokevirtual 146, 3) := by decide +kernel
theorem d_TR_settleNamed_21 : decode y_TR_settleNamed.2.1 21 = .ok (.ifCond .ne 4, 3) := by decide +kernel
theorem d_TR_settleNamed_24 : decode y_TR_settleNamed.2.1 24 = .ok (.return_, 1) := by decide +kernel
theorem d_TR_settleNamed_25 : decode y_TR_settleNamed.2.1 25 = .ok (.aload_n 0, 1) := by decide +kernel
theorem d_TR_settleNamed_26 : decode y_TR_settleNamed.2.1 26 = .ok (.getfield 36, 3) := by decide +kernel
theorem d_TR_settleNamed_29 : decode y_TR_settleNamed.2.1 29 = .ok (.getfield 129, 3) := by decide +kernel
theorem d_TR_settleNamed_32 : decode y_TR_settleNamed.2.1 32 = .ok (.istore_n 2, 1) := by decide +kernel
theorem d_TR_settleNamed_33 : decode y_TR_settleNamed.2.1 33 = .ok (.aload_n 0, 1) := by decide +kernel
theorem d_TR_settleNamed_34 : decode y_TR_settleNamed.2.1 34 = .ok (.getfield 36, 3) := by decide +kernel
theorem d_TR_settleNamed_37 : decode y_TR_settleNamed.2.1 37 = .ok (.dup, 1) := by decide +kernel
theorem d_TR_settleNamed_38 : decode y_TR_settleNamed.2.1 38 = .ok (.getfield 129, 3) := by decide +kernel
theorem d_TR_settleNamed_41 : decode y_TR_settleNamed.2.1 41 = .ok (.iconst 1, 1) := by decide +kernel
theorem d_TR_settleNamed_42 : decode y_TR_settleNamed.2.1 42 = .ok (.iadd, 1) := by decide +kernel
theorem d_TR_settleNamed_43 : decode y_TR_settleNamed.2.1 43 = .ok (.putfield 129, 3) := by decide +kernel
theorem d_TR_settleNamed_46 : decode y_TR_settleNamed.2.1 46 = .ok (.aload_n 0, 1) := by decide +kernel
theorem d_TR_settleNamed_47 : decode y_TR_settleNamed.2.1 47 = .ok (.getfield 36, 3) := by decide +kernel
theorem d_TR_settleNamed_50 : decode y_TR_settleNamed.2.1 50 = .ok (.getfield 149, 3) := by decide +kernel
theorem d_TR_settleNamed_53 : decode y_TR_settleNamed.2.1 53 = .ok (.iload_n 2, 1) := by decide +kernel
theorem d_TR_settleNamed_54 : decode y_TR_settleNamed.2.1 54 = .ok (.aload_n 0, 1) := by decide +kernel
theorem d_TR_settleNamed_55 : decode y_TR_settleNamed.2.1 55 = .ok (.getfield 25, 3) := by decide +kernel
theorem d_TR_settleNamed_58 : decode y_TR_settleNamed.2.1 58 = .ok (.iconst 0, 1) := by decide +kernel
theorem d_TR_settleNamed_59 : decode y_TR_settleNamed.2.1 59 = .ok (.iaload, 1) := by decide +kernel
theorem d_TR_settleNamed_60 : decode y_TR_settleNamed.2.1 60 = .ok (.iastore, 1) := by decide +kernel
theorem d_TR_settleNamed_61 : decode y_TR_settleNamed.2.1 61 = .ok (.iload_n 1, 1) := by decide +kernel
theorem d_TR_settleNamed_62 : decode y_TR_settleNamed.2.1 62 = .ok (.iconst 4, 1) := by decide +kernel
theorem d_TR_settleNamed_63 : decode y_TR_settleNamed.2.1 63 = .ok (.if_icmp .ne 52, 3) := by decide +kernel
theorem d_TR_settleNamed_66 : decode y_TR_settleNamed.2.1 66 = .ok (.aload_n 0, 1) := by decide +kernel
theorem d_TR_settleNamed_67 : decode y_TR_settleNamed.2.1 67 = .ok (.getfield 36, 3) := by decide +kernel
theorem d_TR_settleNamed_70 : decode y_TR_settleNamed.2.1 70 = .ok (.getfield 152, 3) := by decide +kernel
theorem d_TR_settleNamed_73 : decode y_TR_settleNamed.2.1 73 = .ok (.iload_n 2, 1) := by decide +kernel
theorem d_TR_settleNamed_74 : decode y_TR_settleNamed.2.1 74 = .ok (.aload_n 0, 1) := by decide +kernel
theorem d_TR_settleNamed_75 : decode y_TR_settleNamed.2.1 75 = .ok (.getfield 21, 3) := by decide +kernel
theorem d_TR_settleNamed_78 : decode y_TR_settleNamed.2.1 78 = .ok (.getfield 155, 3) := by decide +kernel
theorem d_TR_settleNamed_81 : decode y_TR_settleNamed.2.1 81 = .ok (.iconst 0, 1) := by decide +kernel
theorem d_TR_settleNamed_82 : decode y_TR_settleNamed.2.1 82 = .ok (.iaload, 1) := by decide +kernel
theorem d_TR_settleNamed_83 : decode y_TR_settleNamed.2.1 83 = .ok (.iastore, 1) := by decide +kernel
theorem d_TR_settleNamed_84 : decode y_TR_settleNamed.2.1 84 = .ok (.aload_n 0, 1) := by decide +kernel
theorem d_TR_settleNamed_85 : decode y_TR_settleNamed.2.1 85 = .ok (.getfield 36, 3) := by decide +kernel
theorem d_TR_settleNamed_88 : decode y_TR_settleNamed.2.1 88 = .ok (.getfield 156, 3) := by decide +kernel
theorem d_TR_settleNamed_91 : decode y_TR_settleNamed.2.1 91 = .ok (.iload_n 2, 1) := by decide +kernel
theorem d_TR_settleNamed_92 : decode y_TR_settleNamed.2.1 92 = .ok (.aload_n 0, 1) := by decide +kernel
theorem d_TR_settleNamed_93 : decode y_TR_settleNamed.2.1 93 = .ok (.getfield 21, 3) := by decide +kernel
theorem d_TR_settleNamed_96 : decode y_TR_settleNamed.2.1 96 = .ok (.getfield 159, 3) := by decide +kernel
theorem d_TR_settleNamed_99 : decode y_TR_settleNamed.2.1 99 = .ok (.iconst 0, 1) := by decide +kernel
theorem d_TR_settleNamed_100 : decode y_TR_settleNamed.2.1 100 = .ok (.iaload, 1) := by decide +kernel
theorem d_TR_settleNamed_101 : decode y_TR_settleNamed.2.1 101 = .ok (.iastore, 1) := by decide +kernel
theorem d_TR_settleNamed_102 : decode y_TR_settleNamed.2.1 102 = .ok (.aload_n 0, 1) := by decide +kernel
theorem d_TR_settleNamed_103 : decode y_TR_settleNamed.2.1 103 = .ok (.getfield 36, 3) := by decide +kernel
theorem d_TR_settleNamed_106 : decode y_TR_settleNamed.2.1 106 = .ok (.aload_n 0, 1) := by decide +kernel
theorem d_TR_settleNamed_107 : decode y_TR_settleNamed.2.1 107 = .ok (.getfield 25, 3) := by decide +kernel
theorem d_TR_settleNamed_110 : decode y_TR_settleNamed.2.1 110 = .ok (.iconst 0, 1) := by decide +kernel
theorem d_TR_settleNamed_111 : decode y_TR_settleNamed.2.1 111 = .ok (.iaload, 1) := by decide +kernel
theorem d_TR_settleNamed_112 : decode y_TR_settleNamed.2.1 112 = .ok (.putfield 116, 3) := by decide +kernel
theorem d_TR_settleNamed_115 : decode y_TR_settleNamed.2.1 115 = .ok (.aload_n 0, 1) := by decide +kernel
theorem d_TR_settleNamed_116 : decode y_TR_settleNamed.2.1 116 = .ok (.getfield 12, 3) := by decide +kernel
theorem d_TR_settleNamed_119 : decode y_TR_settleNamed.2.1 119 = .ok (.aload_n 0, 1) := by decide +kernel
theorem d_TR_settleNamed_120 : decode y_TR_settleNamed.2.1 120 = .ok (.getfield 99, 3) := by decide +kernel
theorem d_TR_settleNamed_123 : decode y_TR_settleNamed.2.1 123 = .ok (.iload_n 1, 1) := by decide +kernel
theorem d_TR_settleNamed_124 : decode y_TR_settleNamed.2.1 124 = .ok (.iload_n 2, 1) := by decide +kernel
theorem d_TR_settleNamed_125 : decode y_TR_settleNamed.2.1 125 = .ok (.aload_n 0, 1) := by decide +kernel
theorem d_TR_settleNamed_126 : decode y_TR_settleNamed.2.1 126 = .ok (.getfield 143, 3) := by decide +kernel
theorem d_TR_settleNamed_129 : decode y_TR_settleNamed.2.1 129 = .ok (.invokevirtual 160, 3) := by decide +kernel
theorem d_TR_settleNamed_132 : decode y_TR_settleNamed.2.1 132 = .ok (.return_, 1) := by decide +kernel
def h_TR_settleNamed_115 (G : mG) (d : Nat) (a0 : Nat) (l1 : Int) (l2 : Int) (M : mM) (Q : mM → Prop) : Prop := mWm G y_TR_settleNamed (d + 1) 115 [vr a0, vi l1, vi l2] [] M (fun r9 M9 => r9 = none ∧ Q M9)
theorem k_TR_settleNamed {G : mG} {d : Nat} {a0 : Nat} {l1 : Int} {M : mM} {Q : mM → Prop} (hO : mOk M) (hi_l1 : i32 l1)
    (h : mK M a0 = 3 ∧ mK M (mR M a0 0) = 4 ∧ ((mI M (mR M a0 0) 3 = 0) → (((l1 = 4) → (Ci G y_TR_worksOut d [vr a0, vi 0, vi 0] M (fun x9 M8 => i32 x9 ∧ mOk M8 ∧ (((x9 = 0) → (Q M8)) ∧ (¬ (x9 = 0) → (mK M8 a0 = 3 ∧ mK M8 (mR M8 a0 2) = 6 ∧ i32 ((mI M8 (mR M8 a0 2) 7) + 1) ∧ ∀ M16, M16 = mUI M8 (mR M8 a0 2) 7 ((mI M8 (mR M8 a0 2) 7) + 1) → mK M16 (mR M16 a0 2) = 6 ∧ mK M16 (mR M16 a0 5) = 30 ∧ ((0 : Int) ≤ 0 ∧ 0 < (mN M16 (mR M16 a0 5) : Int)) ∧ mK M16 (mR M16 (mR M16 a0 2) 10) = 30 ∧ ((0 : Int) ≤ mI M8 (mR M8 a0 2) 7 ∧ mI M8 (mR M8 a0 2) 7 < (mN M16 (mR M16 (mR M16 a0 2) 10) : Int)) ∧ ∀ M23, M23 = mUI M16 (mR M16 (mR M16 a0 2) 10) (Int.toNat (mI M8 (mR M8 a0 2) 7)) (mI M16 (mR M16 a0 5) 0) → ((l1 = 4) → (mK M23 (mR M23 a0 2) = 6 ∧ mK M23 (mR M23 a0 1) = 5 ∧ mK M23 (mR M23 (mR M23 a0 1) 6) = 30 ∧ ((0 : Int) ≤ 0 ∧ 0 < (mN M23 (mR M23 (mR M23 a0 1) 6) : Int)) ∧ mK M23 (mR M23 (mR M23 a0 2) 8) = 30 ∧ ((0 : Int) ≤ mI M8 (mR M8 a0 2) 7 ∧ mI M8 (mR M8 a0 2) 7 < (mN M23 (mR M23 (mR M23 a0 2) 8) : Int)) ∧ ∀ M33, M33 = mUI M23 (mR M23 (mR M23 a0 2) 8) (Int.toNat (mI M8 (mR M8 a0 2) 7)) (mI M23 (mR M23 (mR M23 a0 1) 6) 0) → mK M33 (mR M33 a0 2) = 6 ∧ mK M33 (mR M33 a0 1) = 5 ∧ mK M33 (mR M33 (mR M33 a0 1) 7) = 30 ∧ ((0 : Int) ≤ 0 ∧ 0 < (mN M33 (mR M33 (mR M33 a0 1) 7) : Int)) ∧ mK M33 (mR M33 (mR M33 a0 2) 9) = 30 ∧ ((0 : Int) ≤ mI M8 (mR M8 a0 2) 7 ∧ mI M8 (mR M8 a0 2) 7 < (mN M33 (mR M33 (mR M33 a0 2) 9) : Int)) ∧ ∀ M41, M41 = mUI M33 (mR M33 (mR M33 a0 2) 9) (Int.toNat (mI M8 (mR M8 a0 2) 7)) (mI M33 (mR M33 (mR M33 a0 1) 7) 0) → mK M41 (mR M41 a0 5) = 30 ∧ ((0 : Int) ≤ 0 ∧ 0 < (mN M41 (mR M41 a0 5) : Int)) ∧ mK M41 (mR M41 a0 2) = 6 ∧ ∀ M46, M46 = mUI M41 (mR M41 a0 2) 2 (mI M41 (mR M41 a0 5) 0) → h_TR_settleNamed_115 G d a0 l1 (mI M8 (mR M8 a0 2) 7) M46 Q)) ∧ (¬ (l1 = 4) → (h_TR_settleNamed_115 G d a0 l1 (mI M8 (mR M8 a0 2) 7) M23 Q)))))))) ∧ (¬ (l1 = 4) → (mK M (mR M a0 2) = 6 ∧ i32 ((mI M (mR M a0 2) 7) + 1) ∧ ∀ M50, M50 = mUI M (mR M a0 2) 7 ((mI M (mR M a0 2) 7) + 1) → mK M50 (mR M50 a0 2) = 6 ∧ mK M50 (mR M50 a0 5) = 30 ∧ ((0 : Int) ≤ 0 ∧ 0 < (mN M50 (mR M50 a0 5) : Int)) ∧ mK M50 (mR M50 (mR M50 a0 2) 10) = 30 ∧ ((0 : Int) ≤ mI M (mR M a0 2) 7 ∧ mI M (mR M a0 2) 7 < (mN M50 (mR M50 (mR M50 a0 2) 10) : Int)) ∧ ∀ M57, M57 = mUI M50 (mR M50 (mR M50 a0 2) 10) (Int.toNat (mI M (mR M a0 2) 7)) (mI M50 (mR M50 a0 5) 0) → ((l1 = 4) → (mK M57 (mR M57 a0 2) = 6 ∧ mK M57 (mR M57 a0 1) = 5 ∧ mK M57 (mR M57 (mR M57 a0 1) 6) = 30 ∧ ((0 : Int) ≤ 0 ∧ 0 < (mN M57 (mR M57 (mR M57 a0 1) 6) : Int)) ∧ mK M57 (mR M57 (mR M57 a0 2) 8) = 30 ∧ ((0 : Int) ≤ mI M (mR M a0 2) 7 ∧ mI M (mR M a0 2) 7 < (mN M57 (mR M57 (mR M57 a0 2) 8) : Int)) ∧ ∀ M67, M67 = mUI M57 (mR M57 (mR M57 a0 2) 8) (Int.toNat (mI M (mR M a0 2) 7)) (mI M57 (mR M57 (mR M57 a0 1) 6) 0) → mK M67 (mR M67 a0 2) = 6 ∧ mK M67 (mR M67 a0 1) = 5 ∧ mK M67 (mR M67 (mR M67 a0 1) 7) = 30 ∧ ((0 : Int) ≤ 0 ∧ 0 < (mN M67 (mR M67 (mR M67 a0 1) 7) : Int)) ∧ mK M67 (mR M67 (mR M67 a0 2) 9) = 30 ∧ ((0 : Int) ≤ mI M (mR M a0 2) 7 ∧ mI M (mR M a0 2) 7 < (mN M67 (mR M67 (mR M67 a0 2) 9) : Int)) ∧ ∀ M75, M75 = mUI M67 (mR M67 (mR M67 a0 2) 9) (Int.toNat (mI M (mR M a0 2) 7)) (mI M67 (mR M67 (mR M67 a0 1) 7) 0) → mK M75 (mR M75 a0 5) = 30 ∧ ((0 : Int) ≤ 0 ∧ 0 < (mN M75 (mR M75 a0 5) : Int)) ∧ mK M75 (mR M75 a0 2) = 6 ∧ ∀ M80, M80 = mUI M75 (mR M75 a0 2) 2 (mI M75 (mR M75 a0 5) 0) → h_TR_settleNamed_115 G d a0 l1 (mI M (mR M a0 2) 7) M80 Q)) ∧ (¬ (l1 = 4) → (h_TR_settleNamed_115 G d a0 l1 (mI M (mR M a0 2) 7) M57 Q)))))) ∧ (¬ (mI M (mR M a0 0) 3 = 0) → (Q M))) :
    Cv G y_TR_settleNamed (d + 1) [vr a0, vi l1] M Q := by
  refine wm_open (y := y_TR_settleNamed) rfl (Nat.le_of_ble_eq_true rfl) (L := [vr a0, vi l1, vd]) rfl ?_
  obtain ⟨h1, h⟩ := h
  obtain ⟨h2, h⟩ := h
  refine wm_aload_n d_TR_settleNamed_0 rfl rfl ?_
  refine gf_TR_12 rfl d_TR_settleNamed_1 h1 ?_
  refine gf_TR_76 rfl d_TR_settleNamed_4 h2 ?_
  refine wm_if_ne (tgt := 24) d_TR_settleNamed_7 rfl (hO _ _).1 (fun c5 => ?_) (fun c5 => ?_)
  · replace h := h.2 c5
    refine wm_return d_TR_settleNamed_24 rfl ?_
    exact ⟨rfl, h⟩
  · replace c5 := Classical.not_not.mp c5
    replace h := h.1 c5
    refine wm_iload_n d_TR_settleNamed_10 rfl rfl ?_
    refine wm_iconst d_TR_settleNamed_11 ?_
    refine wm_icmp_ne (tgt := 25) d_TR_settleNamed_12 rfl hi_l1 ⟨by decide, by decide⟩ (fun c7 => ?_) (fun c7 => ?_)
    · replace h := h.2 c7
      obtain ⟨h48, h⟩ := h
      obtain ⟨h49, h⟩ := h
      obtain ⟨M50, e51⟩ : ∃ M50, M50 = mUI M (mR M a0 2) 7 ((mI M (mR M a0 2) 7) + 1) := ⟨_, rfl⟩
      replace h := h M50 e51
      obtain ⟨h52, h⟩ := h
      obtain ⟨h53, h⟩ := h
      obtain ⟨h54, h⟩ := h
      obtain ⟨h55, h⟩ := h
      obtain ⟨h56, h⟩ := h
      obtain ⟨M57, e58⟩ : ∃ M57, M57 = mUI M50 (mR M50 (mR M50 a0 2) 10) (Int.toNat (mI M (mR M a0 2) 7)) (mI M50 (mR M50 a0 5) 0) := ⟨_, rfl⟩
      replace h := h M57 e58
      refine wm_aload_n d_TR_settleNamed_25 rfl rfl ?_
      refine gf_TR_36 rfl d_TR_settleNamed_26 h1 ?_
      refine gf_TR_129 rfl d_TR_settleNamed_29 h48 ?_
      refine wm_istore_n d_TR_settleNamed_32 rfl (by decide) (L' := [vr a0, vi l1, vi (mI M (mR M a0 2) 7)]) rfl ?_
      refine wm_aload_n d_TR_settleNamed_33 rfl rfl ?_
      refine gf_TR_36 rfl d_TR_settleNamed_34 h1 ?_
      refine wm_dup d_TR_settleNamed_37 rfl ?_
      refine gf_TR_129 rfl d_TR_settleNamed_38 h48 ?_
      refine wm_iconst d_TR_settleNamed_41 ?_
      refine wm_iadd d_TR_settleNamed_42 ?_
      have hOM50 : mOk M50 := by rw [e51]; exact mOk_UI hO h49
      refine pf_TR_129 rfl d_TR_settleNamed_43 h48 h49 e51 ?_
      refine wm_aload_n d_TR_settleNamed_46 rfl rfl ?_
      refine gf_TR_36 rfl d_TR_settleNamed_47 (by rw [e51]; exact h1) ?_
      refine gf_TR_149 rfl d_TR_settleNamed_50 h52 ?_
      refine wm_iload_n d_TR_settleNamed_53 rfl rfl ?_
      refine wm_aload_n d_TR_settleNamed_54 rfl rfl ?_
      refine gf_TR_25 rfl d_TR_settleNamed_55 (by rw [e51]; exact h1) ?_
      refine wm_iconst d_TR_settleNamed_58 ?_
      refine wm_iald d_TR_settleNamed_59 h53 h54 ?_
      have hOM57 : mOk M57 := by rw [e58]; exact mOk_UI hOM50 (hOM50 _ _).1
      refine wm_iastE d_TR_settleNamed_60 h55 h56 (hOM50 _ _).1 e58 ?_
      refine wm_iload_n d_TR_settleNamed_61 rfl rfl ?_
      refine wm_iconst d_TR_settleNamed_62 ?_
      refine wm_icmp_ne (tgt := 115) d_TR_settleNamed_63 rfl hi_l1 ⟨by decide, by decide⟩ (fun c60 => ?_) (fun c60 => ?_)
      · replace h := h.2 c60
        exact h
      · replace c60 := Classical.not_not.mp c60
        replace h := h.1 c60
        obtain ⟨h61, h⟩ := h
        obtain ⟨h62, h⟩ := h
        obtain ⟨h63, h⟩ := h
        obtain ⟨h64, h⟩ := h
        obtain ⟨h65, h⟩ := h
        obtain ⟨h66, h⟩ := h
        obtain ⟨M67, e68⟩ : ∃ M67, M67 = mUI M57 (mR M57 (mR M57 a0 2) 8) (Int.toNat (mI M (mR M a0 2) 7)) (mI M57 (mR M57 (mR M57 a0 1) 6) 0) := ⟨_, rfl⟩
        replace h := h M67 e68
        obtain ⟨h69, h⟩ := h
        obtain ⟨h70, h⟩ := h
        obtain ⟨h71, h⟩ := h
        obtain ⟨h72, h⟩ := h
        obtain ⟨h73, h⟩ := h
        obtain ⟨h74, h⟩ := h
        obtain ⟨M75, e76⟩ : ∃ M75, M75 = mUI M67 (mR M67 (mR M67 a0 2) 9) (Int.toNat (mI M (mR M a0 2) 7)) (mI M67 (mR M67 (mR M67 a0 1) 7) 0) := ⟨_, rfl⟩
        replace h := h M75 e76
        obtain ⟨h77, h⟩ := h
        obtain ⟨h78, h⟩ := h
        obtain ⟨h79, h⟩ := h
        obtain ⟨M80, e81⟩ : ∃ M80, M80 = mUI M75 (mR M75 a0 2) 2 (mI M75 (mR M75 a0 5) 0) := ⟨_, rfl⟩
        replace h := h M80 e81
        refine wm_aload_n d_TR_settleNamed_66 rfl rfl ?_
        refine gf_TR_36 rfl d_TR_settleNamed_67 (by rw [e58, e51]; exact h1) ?_
        refine gf_TR_152 rfl d_TR_settleNamed_70 h61 ?_
        refine wm_iload_n d_TR_settleNamed_73 rfl rfl ?_
        refine wm_aload_n d_TR_settleNamed_74 rfl rfl ?_
        refine gf_TR_21 rfl d_TR_settleNamed_75 (by rw [e58, e51]; exact h1) ?_
        refine gf_TR_155 rfl d_TR_settleNamed_78 h62 ?_
        refine wm_iconst d_TR_settleNamed_81 ?_
        refine wm_iald d_TR_settleNamed_82 h63 h64 ?_
        have hOM67 : mOk M67 := by rw [e68]; exact mOk_UI hOM57 (hOM57 _ _).1
        refine wm_iastE d_TR_settleNamed_83 h65 h66 (hOM57 _ _).1 e68 ?_
        refine wm_aload_n d_TR_settleNamed_84 rfl rfl ?_
        refine gf_TR_36 rfl d_TR_settleNamed_85 (by rw [e68, e58, e51]; exact h1) ?_
        refine gf_TR_156 rfl d_TR_settleNamed_88 h69 ?_
        refine wm_iload_n d_TR_settleNamed_91 rfl rfl ?_
        refine wm_aload_n d_TR_settleNamed_92 rfl rfl ?_
        refine gf_TR_21 rfl d_TR_settleNamed_93 (by rw [e68, e58, e51]; exact h1) ?_
        refine gf_TR_159 rfl d_TR_settleNamed_96 h70 ?_
        refine wm_iconst d_TR_settleNamed_99 ?_
        refine wm_iald d_TR_settleNamed_100 h71 h72 ?_
        have hOM75 : mOk M75 := by rw [e76]; exact mOk_UI hOM67 (hOM67 _ _).1
        refine wm_iastE d_TR_settleNamed_101 h73 h74 (hOM67 _ _).1 e76 ?_
        refine wm_aload_n d_TR_settleNamed_102 rfl rfl ?_
        refine gf_TR_36 rfl d_TR_settleNamed_103 (by rw [e76, e68, e58, e51]; exact h1) ?_
        refine wm_aload_n d_TR_settleNamed_106 rfl rfl ?_
        refine gf_TR_25 rfl d_TR_settleNamed_107 (by rw [e76, e68, e58, e51]; exact h1) ?_
        refine wm_iconst d_TR_settleNamed_110 ?_
        refine wm_iald d_TR_settleNamed_111 h77 h78 ?_
        have hOM80 : mOk M80 := by rw [e81]; exact mOk_UI hOM75 (hOM75 _ _).1
        refine pf_TR_116 rfl d_TR_settleNamed_112 h79 (hOM75 _ _).1 e81 ?_
        exact h
    · replace c7 := Classical.not_not.mp c7
      replace h := h.1 c7
      refine wm_aload_n d_TR_settleNamed_15 rfl rfl ?_
      refine wm_iconst d_TR_settleNamed_16 ?_
      refine wm_iconst d_TR_settleNamed_17 ?_
      refine cf_TR_146 rfl d_TR_settleNamed_18 h1 (Nat.le_of_ble_eq_true rfl) (Ci.mono h (fun x9 M8 h => ?_))
      obtain ⟨h10, hOM8, h⟩ := h
      refine wm_if_ne (tgt := 25) d_TR_settleNamed_21 rfl h10 (fun c12 => ?_) (fun c12 => ?_)
      · replace h := h.2 c12
        obtain ⟨h13, h⟩ := h
        obtain ⟨h14, h⟩ := h
        obtain ⟨h15, h⟩ := h
        obtain ⟨M16, e17⟩ : ∃ M16, M16 = mUI M8 (mR M8 a0 2) 7 ((mI M8 (mR M8 a0 2) 7) + 1) := ⟨_, rfl⟩
        replace h := h M16 e17
        obtain ⟨h18, h⟩ := h
        obtain ⟨h19, h⟩ := h
        obtain ⟨h20, h⟩ := h
        obtain ⟨h21, h⟩ := h
        obtain ⟨h22, h⟩ := h
        obtain ⟨M23, e24⟩ : ∃ M23, M23 = mUI M16 (mR M16 (mR M16 a0 2) 10) (Int.toNat (mI M8 (mR M8 a0 2) 7)) (mI M16 (mR M16 a0 5) 0) := ⟨_, rfl⟩
        replace h := h M23 e24
        refine wm_aload_n d_TR_settleNamed_25 rfl rfl ?_
        refine gf_TR_36 rfl d_TR_settleNamed_26 h13 ?_
        refine gf_TR_129 rfl d_TR_settleNamed_29 h14 ?_
        refine wm_istore_n d_TR_settleNamed_32 rfl (by decide) (L' := [vr a0, vi l1, vi (mI M8 (mR M8 a0 2) 7)]) rfl ?_
        refine wm_aload_n d_TR_settleNamed_33 rfl rfl ?_
        refine gf_TR_36 rfl d_TR_settleNamed_34 h13 ?_
        refine wm_dup d_TR_settleNamed_37 rfl ?_
        refine gf_TR_129 rfl d_TR_settleNamed_38 h14 ?_
        refine wm_iconst d_TR_settleNamed_41 ?_
        refine wm_iadd d_TR_settleNamed_42 ?_
        have hOM16 : mOk M16 := by rw [e17]; exact mOk_UI hOM8 h15
        refine pf_TR_129 rfl d_TR_settleNamed_43 h14 h15 e17 ?_
        refine wm_aload_n d_TR_settleNamed_46 rfl rfl ?_
        refine gf_TR_36 rfl d_TR_settleNamed_47 (by rw [e17]; exact h13) ?_
        refine gf_TR_149 rfl d_TR_settleNamed_50 h18 ?_
        refine wm_iload_n d_TR_settleNamed_53 rfl rfl ?_
        refine wm_aload_n d_TR_settleNamed_54 rfl rfl ?_
        refine gf_TR_25 rfl d_TR_settleNamed_55 (by rw [e17]; exact h13) ?_
        refine wm_iconst d_TR_settleNamed_58 ?_
        refine wm_iald d_TR_settleNamed_59 h19 h20 ?_
        have hOM23 : mOk M23 := by rw [e24]; exact mOk_UI hOM16 (hOM16 _ _).1
        refine wm_iastE d_TR_settleNamed_60 h21 h22 (hOM16 _ _).1 e24 ?_
        refine wm_iload_n d_TR_settleNamed_61 rfl rfl ?_
        refine wm_iconst d_TR_settleNamed_62 ?_
        refine wm_icmp_ne (tgt := 115) d_TR_settleNamed_63 rfl hi_l1 ⟨by decide, by decide⟩ (fun c26 => ?_) (fun c26 => ?_)
        · replace h := h.2 c26
          exact h
        · replace c26 := Classical.not_not.mp c26
          replace h := h.1 c26
          obtain ⟨h27, h⟩ := h
          obtain ⟨h28, h⟩ := h
          obtain ⟨h29, h⟩ := h
          obtain ⟨h30, h⟩ := h
          obtain ⟨h31, h⟩ := h
          obtain ⟨h32, h⟩ := h
          obtain ⟨M33, e34⟩ : ∃ M33, M33 = mUI M23 (mR M23 (mR M23 a0 2) 8) (Int.toNat (mI M8 (mR M8 a0 2) 7)) (mI M23 (mR M23 (mR M23 a0 1) 6) 0) := ⟨_, rfl⟩
          replace h := h M33 e34
          obtain ⟨h35, h⟩ := h
          obtain ⟨h36, h⟩ := h
          obtain ⟨h37, h⟩ := h
          obtain ⟨h38, h⟩ := h
          obtain ⟨h39, h⟩ := h
          obtain ⟨h40, h⟩ := h
          obtain ⟨M41, e42⟩ : ∃ M41, M41 = mUI M33 (mR M33 (mR M33 a0 2) 9) (Int.toNat (mI M8 (mR M8 a0 2) 7)) (mI M33 (mR M33 (mR M33 a0 1) 7) 0) := ⟨_, rfl⟩
          replace h := h M41 e42
          obtain ⟨h43, h⟩ := h
          obtain ⟨h44, h⟩ := h
          obtain ⟨h45, h⟩ := h
          obtain ⟨M46, e47⟩ : ∃ M46, M46 = mUI M41 (mR M41 a0 2) 2 (mI M41 (mR M41 a0 5) 0) := ⟨_, rfl⟩
          replace h := h M46 e47
          refine wm_aload_n d_TR_settleNamed_66 rfl rfl ?_
          refine gf_TR_36 rfl d_TR_settleNamed_67 (by rw [e24, e17]; exact h13) ?_
          refine gf_TR_152 rfl d_TR_settleNamed_70 h27 ?_
          refine wm_iload_n d_TR_settleNamed_73 rfl rfl ?_
          refine wm_aload_n d_TR_settleNamed_74 rfl rfl ?_
          refine gf_TR_21 rfl d_TR_settleNamed_75 (by rw [e24, e17]; exact h13) ?_
          refine gf_TR_155 rfl d_TR_settleNamed_78 h28 ?_
          refine wm_iconst d_TR_settleNamed_81 ?_
          refine wm_iald d_TR_settleNamed_82 h29 h30 ?_
          have hOM33 : mOk M33 := by rw [e34]; exact mOk_UI hOM23 (hOM23 _ _).1
          refine wm_iastE d_TR_settleNamed_83 h31 h32 (hOM23 _ _).1 e34 ?_
          refine wm_aload_n d_TR_settleNamed_84 rfl rfl ?_
          refine gf_TR_36 rfl d_TR_settleNamed_85 (by rw [e34, e24, e17]; exact h13) ?_
          refine gf_TR_156 rfl d_TR_settleNamed_88 h35 ?_
          refine wm_iload_n d_TR_settleNamed_91 rfl rfl ?_
          refine wm_aload_n d_TR_settleNamed_92 rfl rfl ?_
          refine gf_TR_21 rfl d_TR_settleNamed_93 (by rw [e34, e24, e17]; exact h13) ?_
          refine gf_TR_159 rfl d_TR_settleNamed_96 h36 ?_
          refine wm_iconst d_TR_settleNamed_99 ?_
          refine wm_iald d_TR_settleNamed_100 h37 h38 ?_
          have hOM41 : mOk M41 := by rw [e42]; exact mOk_UI hOM33 (hOM33 _ _).1
          refine wm_iastE d_TR_settleNamed_101 h39 h40 (hOM33 _ _).1 e42 ?_
          refine wm_aload_n d_TR_settleNamed_102 rfl rfl ?_
          refine gf_TR_36 rfl d_TR_settleNamed_103 (by rw [e42, e34, e24, e17]; exact h13) ?_
          refine wm_aload_n d_TR_settleNamed_106 rfl rfl ?_
          refine gf_TR_25 rfl d_TR_settleNamed_107 (by rw [e42, e34, e24, e17]; exact h13) ?_
          refine wm_iconst d_TR_settleNamed_110 ?_
          refine wm_iald d_TR_settleNamed_111 h43 h44 ?_
          have hOM46 : mOk M46 := by rw [e47]; exact mOk_UI hOM41 (hOM41 _ _).1
          refine pf_TR_116 rfl d_TR_settleNamed_112 h45 (hOM41 _ _).1 e47 ?_
          exact h
      · replace c12 := Classical.not_not.mp c12
        replace h := h.1 c12
        refine wm_return d_TR_settleNamed_24 rfl ?_
        exact ⟨rfl, h⟩
theorem k_TR_settleNamed_115 {G : mG} {d : Nat} {a0 : Nat} {l1 : Int} {l2 : Int} {M : mM} {Q : mM → Prop} (hO : mOk M) (hi_l1 : i32 l1) (hi_l2 : i32 l2)
    (h : mK M a0 = 3 ∧ mK M (mR M a0 0) = 4 ∧ Cv G y_RR_know d [vr (mR M a0 0), vi (mI M a0 3), vi l1, vi l2, vi (mI M a0 8)] M (fun M84 => mOk M84 ∧ (Q M84))) :
    h_TR_settleNamed_115 G d a0 l1 l2 M Q := by
  unfold h_TR_settleNamed_115
  obtain ⟨h82, h⟩ := h
  obtain ⟨h83, h⟩ := h
  refine wm_aload_n d_TR_settleNamed_115 rfl rfl ?_
  refine gf_TR_12 rfl d_TR_settleNamed_116 h82 ?_
  refine wm_aload_n d_TR_settleNamed_119 rfl rfl ?_
  refine gf_TR_99 rfl d_TR_settleNamed_120 h82 ?_
  refine wm_iload_n d_TR_settleNamed_123 rfl rfl ?_
  refine wm_iload_n d_TR_settleNamed_124 rfl rfl ?_
  refine wm_aload_n d_TR_settleNamed_125 rfl rfl ?_
  refine gf_TR_143 rfl d_TR_settleNamed_126 h82 ?_
  refine cf_TR_160 rfl d_TR_settleNamed_129 h83 (Nat.le_of_ble_eq_true rfl) (Cv.mono h (fun M84 h => ?_))
  obtain ⟨hOM84, h⟩ := h
  refine wm_return d_TR_settleNamed_132 rfl ?_
  exact ⟨rfl, h⟩
theorem d_TR_worksOut_0 : decode y_TR_worksOut.2.1 0 = .ok (.aload_n 0, 1) := by decide +kernel
theorem d_TR_worksOut_1 : decode y_TR_worksOut.2.1 1 = .ok (.getfield 21, 3) := by decide +kernel
theorem d_TR_worksOut_4 : decode y_TR_worksOut.2.1 4 = .ok (.aload_n 0, 1) := by decide +kernel
theorem d_TR_worksOut_5 : decode y_TR_worksOut.2.1 5 = .ok (.getfield 25, 3) := by decide +kernel
theorem d_TR_worksOut_8 : decode y_TR_worksOut.2.1 8 = .ok (.iload_n 1, 1) := by decide +kernel
theorem d_TR_worksOut_9 : decode y_TR_worksOut.2.1 9 = .ok (.iaload, 1) := by decide +kernel
theorem d_TR_worksOut_10 : decode y_TR_worksOut.2.1 10 = .ok (.invokevirtual 164, 3) := by decide +kernel
theorem d_TR_worksOut_13 : decode y_TR_worksOut.2.1 13 = .ok (.ifCond .ne 26, 3) := by decide +kernel
theorem d_TR_worksOut_16 : decode y_TR_worksOut.2.1 16 = .ok (.aload_n 0, 1) := by decide +kernel
theorem d_TR_worksOut_17 : decode y_TR_worksOut.2.1 17 = .ok (.getfield 12, 3) := by decide +kernel
theorem d_TR_worksOut_20 : decode y_TR_worksOut.2.1 20 = .ok (.aload_n 0, 1) := by decide +kernel
theorem d_TR_worksOut_21 : decode y_TR_worksOut.2.1 21 = .ok (.getfield 21, 3) := by decide +kernel
theorem d_TR_worksOut_24 : decode y_TR_worksOut.2.1 24 = .ok (.getfield 167, 3) := by decide +kernel
theorem d_TR_worksOut_27 : decode y_TR_worksOut.2.1 27 = .ok (.aload_n 0, 1) := by decide +kernel
theorem d_TR_worksOut_28 : decode y_TR_worksOut.2.1 28 = .ok (.getfield 21, 3) := by decide +kernel
theorem d_TR_worksOut_31 : decode y_TR_worksOut.2.1 31 = .ok (.getfield 168, 3) := by decide +kernel
theorem d_TR_worksOut_39 : decode y_TR_worksOut.2.1 39 = .ok (.iload_n 2, 1) := by decide +kernel
theorem d_TR_worksOut_40 : decode y_TR_worksOut.2.1 40 = .ok (.ifCond .eq 33, 3) := by decide +kernel
theorem d_TR_worksOut_43 : decode y_TR_worksOut.2.1 43 = .ok (.aload_n 0, 1) := by decide +kernel
theorem d_TR_worksOut_44 : decode y_TR_worksOut.2.1 44 = .ok (.getfield 21, 3) := by decide +kernel
theorem d_TR_worksOut_47 : decode y_TR_worksOut.2.1 47 = .ok (.getfield 159, 3) := by decide +kernel
theorem d_TR_worksOut_50 : decode y_TR_worksOut.2.1 50 = .ok (.iconst 0, 1) := by decide +kernel
theorem d_TR_worksOut_51 : decode y_TR_worksOut.2.1 51 = .ok (.iaload, 1) := by decide +kernel
theorem d_TR_worksOut_52 : decode y_TR_worksOut.2.1 52 = .ok (.iconst 1, 1) := by decide +kernel
theorem d_TR_worksOut_53 : decode y_TR_worksOut.2.1 53 = .ok (.if_icmp .eq 20, 3) := by decide +kernel
theorem d_TR_worksOut_56 : decode y_TR_worksOut.2.1 56 = .ok (.aload_n 0, 1) := by decide +kernel
theorem d_TR_worksOut_57 : decode y_TR_worksOut.2.1 57 = .ok (.getfield 12, 3) := by decide +kernel
theorem d_TR_worksOut_60 : decode y_TR_worksOut.2.1 60 = .ok (.bipush 8, 2) := by decide +kernel
theorem d_TR_worksOut_62 : decode y_TR_worksOut.2.1 62 = .ok (.aload_n 0, 1) := by decide +kernel
theorem d_TR_worksOut_63 : decode y_TR_worksOut.2.1 63 = .ok (.getfield 29, 3) := by decide +kernel
theorem d_TR_worksOut_66 : decode y_TR_worksOut.2.1 66 = .ok (.iload_n 1, 1) := by decide +kernel
theorem d_TR_worksOut_67 : decode y_TR_worksOut.2.1 67 = .ok (.iaload, 1) := by decide +kernel
theorem d_TR_worksOut_34 : decode y_TR_worksOut.2.1 34 = .ok (.invokevirtual 95, 3) := by decide +kernel
theorem d_TR_worksOut_37 : decode y_TR_worksOut.2.1 37 = .ok (.iconst 0, 1) := by decide +kernel
theorem d_TR_worksOut_38 : decode y_TR_worksOut.2.1 38 = .ok (.ireturn, 1) := by decide +kernel
theorem d_TR_worksOut_73 : decode y_TR_worksOut.2.1 73 = .ok (.iconst 1, 1) := by decide +kernel
theorem d_TR_worksOut_74 : decode y_TR_worksOut.2.1 74 = .ok (.ireturn, 1) := by decide +kernel
theorem d_TR_worksOut_68 : decode y_TR_worksOut.2.1 68 = .ok (.invokevirtual 95, 3) := by decide +kernel
theorem d_TR_worksOut_71 : decode y_TR_worksOut.2.1 71 = .ok (.iconst 0, 1) := by decide +kernel
theorem d_TR_worksOut_72 : decode y_TR_worksOut.2.1 72 = .ok (.ireturn, 1) := by decide +kernel
theorem k_TR_worksOut {G : mG} {d : Nat} {a0 : Nat} {l1 : Int} {l2 : Int} {M : mM} {Q : Int → mM → Prop} (hO : mOk M) (hi_l1 : i32 l1) (hi_l2 : i32 l2)
    (h : mK M a0 = 3 ∧ mK M (mR M a0 5) = 30 ∧ ((0 : Int) ≤ l1 ∧ l1 < (mN M (mR M a0 5) : Int)) ∧ mK M (mR M a0 1) = 5 ∧ Ci G y_Ma_run d [vr (mR M a0 1), vi (mI M (mR M a0 5) (Int.toNat l1))] M (fun x6 M5 => i32 x6 ∧ mOk M5 ∧ (((x6 = 0) → (mK M5 a0 = 3 ∧ mK M5 (mR M5 a0 1) = 5 ∧ mK M5 (mR M5 a0 0) = 4 ∧ Cv G y_RR_note d [vr (mR M5 a0 0), vi (mI M5 (mR M5 a0 1) 1), vi (mI M5 (mR M5 a0 1) 2)] M5 (fun M19 => mOk M19 ∧ (Q 0 M19)))) ∧ (¬ (x6 = 0) → ((¬ (l2 = 0) → (mK M5 a0 = 3 ∧ mK M5 (mR M5 a0 1) = 5 ∧ mK M5 (mR M5 (mR M5 a0 1) 7) = 30 ∧ ((0 : Int) ≤ 0 ∧ 0 < (mN M5 (mR M5 (mR M5 a0 1) 7) : Int)))) ∧ (((l2 = 0) ∨ (mI M5 (mR M5 (mR M5 a0 1) 7) 0 = 1)) → (Q 1 M5)) ∧ (¬ ((l2 = 0) ∨ (mI M5 (mR M5 (mR M5 a0 1) 7) 0 = 1)) → (mK M5 a0 = 3 ∧ mK M5 (mR M5 a0 6) = 30 ∧ ((0 : Int) ≤ l1 ∧ l1 < (mN M5 (mR M5 a0 6) : Int)) ∧ mK M5 (mR M5 a0 0) = 4 ∧ Cv G y_RR_note d [vr (mR M5 a0 0), vi 8, vi (mI M5 (mR M5 a0 6) (Int.toNat l1))] M5 (fun M35 => mOk M35 ∧ (Q 0 M35))))))))) :
    Ci G y_TR_worksOut (d + 1) [vr a0, vi l1, vi l2] M Q := by
  refine wm_open (y := y_TR_worksOut) rfl (Nat.le_of_ble_eq_true rfl) (L := [vr a0, vi l1, vi l2]) rfl ?_
  obtain ⟨h1, h⟩ := h
  obtain ⟨h2, h⟩ := h
  obtain ⟨h3, h⟩ := h
  obtain ⟨h4, h⟩ := h
  refine wm_aload_n d_TR_worksOut_0 rfl rfl ?_
  refine gf_TR_21 rfl d_TR_worksOut_1 h1 ?_
  refine wm_aload_n d_TR_worksOut_4 rfl rfl ?_
  refine gf_TR_25 rfl d_TR_worksOut_5 h1 ?_
  refine wm_iload_n d_TR_worksOut_8 rfl rfl ?_
  refine wm_iald d_TR_worksOut_9 h2 h3 ?_
  refine cf_TR_164 rfl d_TR_worksOut_10 h4 (Nat.le_of_ble_eq_true rfl) (Ci.mono h (fun x6 M5 h => ?_))
  obtain ⟨h7, hOM5, h⟩ := h
  refine wm_if_ne (tgt := 39) d_TR_worksOut_13 rfl h7 (fun c15 => ?_) (fun c15 => ?_)
  · replace h := h.2 c15
    refine wm_iload_n d_TR_worksOut_39 rfl rfl ?_
    obtain ⟨s28, h⟩ := h
    have hE0 : ((l2 = 0) ∨ (mI M5 (mR M5 (mR M5 a0 1) 7) 0 = 1)) → mWm G y_TR_worksOut (d + 1) 73 [vr a0, vi l1, vi l2] [] M5 (fun r9 M9 => ∃ x9, r9 = some (vi x9) ∧ Q x9 M9) := by
      intro q29
      have h := h.1 q29
      refine wm_iconst d_TR_worksOut_73 ?_
      refine wm_ireturn d_TR_worksOut_74 rfl (m_nb (by decide)) ?_
      exact ⟨_, rfl, h⟩
    have hE1 : ¬ ((l2 = 0) ∨ (mI M5 (mR M5 (mR M5 a0 1) 7) 0 = 1)) → mWm G y_TR_worksOut (d + 1) 56 [vr a0, vi l1, vi l2] [] M5 (fun r9 M9 => ∃ x9, r9 = some (vi x9) ∧ Q x9 M9) := by
      intro q30
      have h := h.2 q30
      obtain ⟨h31, h⟩ := h
      obtain ⟨h32, h⟩ := h
      obtain ⟨h33, h⟩ := h
      obtain ⟨h34, h⟩ := h
      refine wm_aload_n d_TR_worksOut_56 rfl rfl ?_
      refine gf_TR_12 rfl d_TR_worksOut_57 h31 ?_
      refine wm_bipush d_TR_worksOut_60 (by decide) ?_
      refine wm_aload_n d_TR_worksOut_62 rfl rfl ?_
      refine gf_TR_29 rfl d_TR_worksOut_63 h31 ?_
      refine wm_iload_n d_TR_worksOut_66 rfl rfl ?_
      refine wm_iald d_TR_worksOut_67 h32 h33 ?_
      refine cf_TR_95 rfl d_TR_worksOut_68 h34 (Nat.le_of_ble_eq_true rfl) (Cv.mono h (fun M35 h => ?_))
      obtain ⟨hOM35, h⟩ := h
      refine wm_iconst d_TR_worksOut_71 ?_
      refine wm_ireturn d_TR_worksOut_72 rfl (m_nb (by decide)) ?_
      exact ⟨_, rfl, h⟩
    clear h
    have s38 := s28
    refine wm_if_eq (tgt := 73) d_TR_worksOut_40 rfl hi_l2 (fun c27 => ?_) (fun c27 => ?_)
    · exact hE0 (Or.inl c27)
    · have s38 := s38 c27
      obtain ⟨h22, h23, h24, h25⟩ := s38
      refine wm_aload_n d_TR_worksOut_43 rfl rfl ?_
      refine gf_TR_21 rfl d_TR_worksOut_44 h22 ?_
      refine gf_TR_159 rfl d_TR_worksOut_47 h23 ?_
      refine wm_iconst d_TR_worksOut_50 ?_
      refine wm_iald d_TR_worksOut_51 h24 h25 ?_
      refine wm_iconst d_TR_worksOut_52 ?_
      refine wm_icmp_eq (tgt := 73) d_TR_worksOut_53 rfl (hOM5 _ _).1 ⟨by decide, by decide⟩ (fun c26 => ?_) (fun c26 => ?_)
      · exact hE0 (Or.inr c26)
      · exact hE1 (fun z39 => Or.elim z39 c27 c26)
  · replace c15 := Classical.not_not.mp c15
    replace h := h.1 c15
    obtain ⟨h16, h⟩ := h
    obtain ⟨h17, h⟩ := h
    obtain ⟨h18, h⟩ := h
    refine wm_aload_n d_TR_worksOut_16 rfl rfl ?_
    refine gf_TR_12 rfl d_TR_worksOut_17 h16 ?_
    refine wm_aload_n d_TR_worksOut_20 rfl rfl ?_
    refine gf_TR_21 rfl d_TR_worksOut_21 h16 ?_
    refine gf_TR_167 rfl d_TR_worksOut_24 h17 ?_
    refine wm_aload_n d_TR_worksOut_27 rfl rfl ?_
    refine gf_TR_21 rfl d_TR_worksOut_28 h16 ?_
    refine gf_TR_168 rfl d_TR_worksOut_31 h17 ?_
    refine cf_TR_95 rfl d_TR_worksOut_34 h18 (Nat.le_of_ble_eq_true rfl) (Cv.mono h (fun M19 h => ?_))
    obtain ⟨hOM19, h⟩ := h
    refine wm_iconst d_TR_worksOut_37 ?_
    refine wm_ireturn d_TR_worksOut_38 rfl (m_nb (by decide)) ?_
    exact ⟨_, rfl, h⟩
theorem d_TR_readVar_0 : decode y_TR_readVar.2.1 0 = .ok (.aload_n 0, 1) := by decide +kernel
theorem d_TR_readVar_1 : decode y_TR_readVar.2.1 1 = .ok (.getfield 12, 3) := by decide +kernel
theorem d_TR_readVar_4 : decode y_TR_readVar.2.1 4 = .ok (.iconst 1, 1) := by decide +kernel
theorem d_TR_readVar_5 : decode y_TR_readVar.2.1 5 = .ok (.putfield 125, 3) := by decide +kernel
theorem d_TR_readVar_8 : decode y_TR_readVar.2.1 8 = .ok (.aload_n 0, 1) := by decide +kernel
theorem d_TR_readVar_9 : decode y_TR_readVar.2.1 9 = .ok (.aload_n 0, 1) := by decide +kernel
theorem d_TR_readVar_10 : decode y_TR_readVar.2.1 10 = .ok (.getfield 36, 3) := by decide +kernel
theorem d_TR_readVar_13 : decode y_TR_readVar.2.1 13 = .ok (.getfield 116, 3) := by decide +kernel
theorem d_TR_readVar_16 : decode y_TR_readVar.2.1 16 = .ok (.putfield 169, 3) := by decide +kernel
theorem d_TR_readVar_19 : decode y_TR_readVar.2.1 19 = .ok (.aload_n 0, 1) := by decide +kernel
theorem d_TR_readVar_20 : decode y_TR_readVar.2.1 20 = .ok (.aload_n 0, 1) := by decide +kernel
theorem d_TR_readVar_21 : decode y_TR_readVar.2.1 21 = .ok (.getfield 36, 3) := by decide +kernel
theorem d_TR_readVar_24 : decode y_TR_readVar.2.1 24 = .ok (.getfield 172, 3) := by decide +kernel
theorem d_TR_readVar_27 : decode y_TR_readVar.2.1 27 = .ok (.bipush 12, 2) := by decide +kernel
theorem d_TR_readVar_29 : decode y_TR_readVar.2.1 29 = .ok (.if_icmp .lt 7, 3) := by decide +kernel
theorem d_TR_readVar_36 : decode y_TR_readVar.2.1 36 = .ok (.iconst 0, 1) := by decide +kernel
theorem d_TR_readVar_32 : decode y_TR_readVar.2.1 32 = .ok (.iconst 1, 1) := by decide +kernel
theorem d_TR_readVar_33 : decode y_TR_readVar.2.1 33 = .ok (.goto 4, 3) := by decide +kernel
theorem d_TR_readVar_37 : decode y_TR_readVar.2.1 37 = .ok (.invokevirtual 132, 3) := by decide +kernel
theorem d_TR_readVar_40 : decode y_TR_readVar.2.1 40 = .ok (.ifCond .eq 15, 3) := by decide +kernel
theorem d_TR_readVar_43 : decode y_TR_readVar.2.1 43 = .ok (.aload_n 0, 1) := by decide +kernel
theorem d_TR_readVar_44 : decode y_TR_readVar.2.1 44 = .ok (.getfield 12, 3) := by decide +kernel
theorem d_TR_readVar_47 : decode y_TR_readVar.2.1 47 = .ok (.bipush 34, 2) := by decide +kernel
theorem d_TR_readVar_55 : decode y_TR_readVar.2.1 55 = .ok (.iconst 0, 1) := by decide +kernel
theorem d_TR_readVar_56 : decode y_TR_readVar.2.1 56 = .ok (.ireturn, 1) := by decide +kernel
theorem d_TR_readVar_49 : decode y_TR_readVar.2.1 49 = .ok (.invokevirtual 102, 3) := by decide +kernel
theorem d_TR_readVar_52 : decode y_TR_readVar.2.1 52 = .ok (.ifCond .ne 5, 3) := by decide +kernel
theorem d_TR_readVar_57 : decode y_TR_readVar.2.1 57 = .ok (.aload_n 0, 1) := by decide +kernel
theorem d_TR_readVar_58 : decode y_TR_readVar.2.1 58 = .ok (.aload_n 0, 1) := by decide +kernel
theorem d_TR_readVar_59 : decode y_TR_readVar.2.1 59 = .ok (.getfield 12, 3) := by decide +kernel
theorem d_TR_readVar_62 : decode y_TR_readVar.2.1 62 = .ok (.bipush 6, 2) := by decide +kernel
theorem d_TR_readVar_64 : decode y_TR_readVar.2.1 64 = .ok (.invokevirtual 102, 3) := by decide +kernel
theorem d_TR_readVar_67 : decode y_TR_readVar.2.1 67 = .ok (.putfield 143, 3) := by decide +kernel
theorem d_TR_readVar_70 : decode y_TR_readVar.2.1 70 = .ok (.aload_n 0, 1) := by decide +kernel
theorem d_TR_readVar_71 : decode y_TR_readVar.2.1 71 = .ok (.getfield 143, 3) := by decide +kernel
theorem d_TR_readVar_74 : decode y_TR_readVar.2.1 74 = .ok (.ifCond .ne 35, 3) := by decide +kernel
theorem d_TR_readVar_77 : decode y_TR_readVar.2.1 77 = .ok (.aload_n 0, 1) := by decide +kernel
theorem d_TR_readVar_78 : decode y_TR_readVar.2.1 78 = .ok (.iconst 0, 1) := by decide +kernel
theorem d_TR_readVar_79 : decode y_TR_readVar.2.1 79 = .ok (.iconst 1, 1) := by decide +kernel
theorem d_TR_readVar_80 : decode y_TR_readVar.2.1 80 = .ok (.invokevirtual 136, 3) := by decide +kernel
theorem d_TR_readVar_83 : decode y_TR_readVar.2.1 83 = .ok (.ifCond .eq 24, 3) := by decide +kernel
theorem d_TR_readVar_86 : decode y_TR_readVar.2.1 86 = .ok (.aload_n 0, 1) := by decide +kernel
theorem d_TR_readVar_87 : decode y_TR_readVar.2.1 87 = .ok (.getfield 12, 3) := by decide +kernel
theorem d_TR_readVar_90 : decode y_TR_readVar.2.1 90 = .ok (.bipush 17, 2) := by decide +kernel
theorem d_TR_readVar_107 : decode y_TR_readVar.2.1 107 = .ok (.iconst 0, 1) := by decide +kernel
theorem d_TR_readVar_108 : decode y_TR_readVar.2.1 108 = .ok (.ireturn, 1) := by decide +kernel
theorem d_TR_readVar_92 : decode y_TR_readVar.2.1 92 = .ok (.invokevirtual 102, 3) := by decide +kernel
theorem d_TR_readVar_95 : decode y_TR_readVar.2.1 95 = .ok (.ifCond .eq 12, 3) := by decide +kernel
theorem d_TR_readVar_98 : decode y_TR_readVar.2.1 98 = .ok (.aload_n 0, 1) := by decide +kernel
theorem d_TR_readVar_99 : decode y_TR_readVar.2.1 99 = .ok (.iconst 1, 1) := by decide +kernel
theorem d_TR_readVar_100 : decode y_TR_readVar.2.1 100 = .ok (.iconst 1, 1) := by decide +kernel
theorem d_TR_readVar_101 : decode y_TR_readVar.2.1 101 = .ok (.invokevirtual 136, 3) := by decide +kernel
theorem d_TR_readVar_104 : decode y_TR_readVar.2.1 104 = .ok (.ifCond .ne 5, 3) := by decide +kernel
theorem d_TR_readVar_109 : decode y_TR_readVar.2.1 109 = .ok (.aload_n 0, 1) := by decide +kernel
theorem d_TR_readVar_110 : decode y_TR_readVar.2.1 110 = .ok (.aload_n 0, 1) := by decide +kernel
theorem d_TR_readVar_111 : decode y_TR_readVar.2.1 111 = .ok (.getfield 12, 3) := by decide +kernel
theorem d_TR_readVar_114 : decode y_TR_readVar.2.1 114 = .ok (.bipush 10, 2) := by decide +kernel
theorem d_TR_readVar_116 : decode y_TR_readVar.2.1 116 = .ok (.invokevirtual 102, 3) := by decide +kernel
theorem d_TR_readVar_119 : decode y_TR_readVar.2.1 119 = .ok (.putfield 175, 3) := by decide +kernel
theorem d_TR_readVar_122 : decode y_TR_readVar.2.1 122 = .ok (.aload_n 0, 1) := by decide +kernel
theorem d_TR_readVar_123 : decode y_TR_readVar.2.1 123 = .ok (.getfield 175, 3) := by decide +kernel
theorem d_TR_readVar_126 : decode y_TR_readVar.2.1 126 = .ok (.ifCond .eq 25, 3) := by decide +kernel
theorem d_TR_readVar_129 : decode y_TR_readVar.2.1 129 = .ok (.aload_n 0, 1) := by decide +kernel
theorem d_TR_readVar_130 : decode y_TR_readVar.2.1 130 = .ok (.iconst 2, 1) := by decide +kernel
theorem d_TR_readVar_131 : decode y_TR_readVar.2.1 131 = .ok (.aload_n 0, 1) := by decide +kernel
theorem d_TR_readVar_132 : decode y_TR_readVar.2.1 132 = .ok (.getfield 143, 3) := by decide +kernel
theorem d_TR_readVar_151 : decode y_TR_readVar.2.1 151 = .ok (.aload_n 0, 1) := by decide +kernel
theorem d_TR_readVar_152 : decode y_TR_readVar.2.1 152 = .ok (.getfield 12, 3) := by decide +kernel
theorem d_TR_readVar_155 : decode y_TR_readVar.2.1 155 = .ok (.bipush 35, 2) := by decide +kernel
theorem d_TR_readVar_157 : decode y_TR_readVar.2.1 157 = .ok (.invokevirtual 102, 3) := by decide +kernel
theorem d_TR_readVar_160 : decode y_TR_readVar.2.1 160 = .ok (.ireturn, 1) := by decide +kernel
theorem d_TR_readVar_135 : decode y_TR_readVar.2.1 135 = .ok (.ifCond .eq 7, 3) := by decide +kernel
theorem d_TR_readVar_142 : decode y_TR_readVar.2.1 142 = .ok (.iconst 1, 1) := by decide +kernel
theorem d_TR_readVar_138 : decode y_TR_readVar.2.1 138 = .ok (.iconst 2, 1) := by decide +kernel
theorem d_TR_readVar_139 : decode y_TR_readVar.2.1 139 = .ok (.goto 4, 3) := by decide +kernel
theorem d_TR_readVar_143 : decode y_TR_readVar.2.1 143 = .ok (.invokevirtual 136, 3) := by decide +kernel
theorem d_TR_readVar_146 : decode y_TR_readVar.2.1 146 = .ok (.ifCond .ne 5, 3) := by decide +kernel
theorem d_TR_readVar_149 : decode y_TR_readVar.2.1 149 = .ok (.iconst 0, 1) := by decide +kernel
theorem d_TR_readVar_150 : decode y_TR_readVar.2.1 150 = .ok (.ireturn, 1) := by decide +kernel
theorem k_TR_readVar {G : mG} {d : Nat} {a0 : Nat} {M : mM} {Q : Int → mM → Prop} (hO : mOk M)
    (h : mK M a0 = 3 ∧ mK M (mR M a0 0) = 4 ∧ ∀ M3, M3 = mUI M (mR M a0 0) 6 1 → mK M3 (mR M3 a0 2) = 6 ∧ ∀ M6, M6 = mUI M3 a0 4 (mI M3 (mR M3 a0 2) 2) → mK M6 (mR M6 a0 2) = 6 ∧ ∀ v10 : Int, v10 = (if (mI M6 (mR M6 a0 2) 3 < 12) then 0 else 1) → Ci G y_TR_readName d [vr a0, vi v10] M6 (fun x16 M15 => i32 x16 ∧ mOk M15 ∧ (((x16 = 0) → (Q 0 M15)) ∧ (¬ (x16 = 0) → (mK M15 a0 = 3 ∧ mK M15 (mR M15 a0 0) = 4 ∧ Ci G y_RR_accept d [vr (mR M15 a0 0), vi 34] M15 (fun x23 M22 => i32 x23 ∧ mOk M22 ∧ (((x23 = 0) → (Q 0 M22)) ∧ (¬ (x23 = 0) → (mK M22 a0 = 3 ∧ mK M22 (mR M22 a0 0) = 4 ∧ Ci G y_RR_accept d [vr (mR M22 a0 0), vi 6] M22 (fun x30 M29 => i32 x30 ∧ mOk M29 ∧ (mK M29 a0 = 3 ∧ (x30 = 0 ∨ x30 = 1) ∧ ∀ M34, M34 = mUI M29 a0 8 x30 → ((mI M34 a0 8 = 0) → (Ci G y_TR_readItemRule d [vr a0, vi 0, vi 1] M34 (fun x39 M38 => i32 x39 ∧ mOk M38 ∧ (((x39 = 0) → (Q 0 M38)) ∧ (¬ (x39 = 0) → (mK M38 a0 = 3 ∧ mK M38 (mR M38 a0 0) = 4 ∧ Ci G y_RR_accept d [vr (mR M38 a0 0), vi 17] M38 (fun x46 M45 => i32 x46 ∧ mOk M45 ∧ (((x46 = 0) → (Q 0 M45)) ∧ (¬ (x46 = 0) → (mK M45 a0 = 3 ∧ Ci G y_TR_readItemRule d [vr a0, vi 1, vi 1] M45 (fun x52 M51 => i32 x52 ∧ mOk M51 ∧ (((x52 = 0) → (Q 0 M51)) ∧ (¬ (x52 = 0) → (mK M51 a0 = 3 ∧ mK M51 (mR M51 a0 0) = 4 ∧ Ci G y_RR_accept d [vr (mR M51 a0 0), vi 10] M51 (fun x59 M58 => i32 x59 ∧ mOk M58 ∧ (mK M58 a0 = 3 ∧ (x59 = 0 ∨ x59 = 1) ∧ ∀ M63, M63 = mUI M58 a0 7 x59 → ((mI M63 a0 7 = 0) → (mK M63 (mR M63 a0 0) = 4 ∧ Ci G y_RR_accept d [vr (mR M63 a0 0), vi 35] M63 (fun x69 M68 => i32 x69 ∧ mOk M68 ∧ ((x69 = 0 ∨ x69 = 1) ∧ Q x69 M68)))) ∧ (¬ (mI M63 a0 7 = 0) → (∀ v73 : Int, v73 = (if (mI M63 a0 8 = 0) then 1 else 2) → Ci G y_TR_readItemRule d [vr a0, vi 2, vi v73] M63 (fun x78 M77 => i32 x78 ∧ mOk M77 ∧ (((x78 = 0) → (Q 0 M77)) ∧ (¬ (x78 = 0) → (mK M77 a0 = 3 ∧ mK M77 (mR M77 a0 0) = 4 ∧ Ci G y_RR_accept d [vr (mR M77 a0 0), vi 35] M77 (fun x85 M84 => i32 x85 ∧ mOk M84 ∧ ((x85 = 0 ∨ x85 = 1) ∧ Q x85 M84)))))))))))))))))))))))) ∧ (¬ (mI M34 a0 8 = 0) → (mK M34 (mR M34 a0 0) = 4 ∧ Ci G y_RR_accept d [vr (mR M34 a0 0), vi 10] M34 (fun x91 M90 => i32 x91 ∧ mOk M90 ∧ (mK M90 a0 = 3 ∧ (x91 = 0 ∨ x91 = 1) ∧ ∀ M95, M95 = mUI M90 a0 7 x91 → ((mI M95 a0 7 = 0) → (mK M95 (mR M95 a0 0) = 4 ∧ Ci G y_RR_accept d [vr (mR M95 a0 0), vi 35] M95 (fun x101 M100 => i32 x101 ∧ mOk M100 ∧ ((x101 = 0 ∨ x101 = 1) ∧ Q x101 M100)))) ∧ (¬ (mI M95 a0 7 = 0) → (∀ v105 : Int, v105 = (if (mI M95 a0 8 = 0) then 1 else 2) → Ci G y_TR_readItemRule d [vr a0, vi 2, vi v105] M95 (fun x110 M109 => i32 x110 ∧ mOk M109 ∧ (((x110 = 0) → (Q 0 M109)) ∧ (¬ (x110 = 0) → (mK M109 a0 = 3 ∧ mK M109 (mR M109 a0 0) = 4 ∧ Ci G y_RR_accept d [vr (mR M109 a0 0), vi 35] M109 (fun x117 M116 => i32 x117 ∧ mOk M116 ∧ ((x117 = 0 ∨ x117 = 1) ∧ Q x117 M116))))))))))))))))))))))) :
    Ci G y_TR_readVar (d + 1) [vr a0] M Q := by
  refine wm_open (y := y_TR_readVar) rfl (Nat.le_of_ble_eq_true rfl) (L := [vr a0]) rfl ?_
  obtain ⟨h1, h⟩ := h
  obtain ⟨h2, h⟩ := h
  obtain ⟨M3, e4⟩ : ∃ M3, M3 = mUI M (mR M a0 0) 6 1 := ⟨_, rfl⟩
  replace h := h M3 e4
  obtain ⟨h5, h⟩ := h
  obtain ⟨M6, e7⟩ : ∃ M6, M6 = mUI M3 a0 4 (mI M3 (mR M3 a0 2) 2) := ⟨_, rfl⟩
  replace h := h M6 e7
  obtain ⟨h8, h⟩ := h
  refine wm_aload_n d_TR_readVar_0 rfl rfl ?_
  refine gf_TR_12 rfl d_TR_readVar_1 h1 ?_
  refine wm_iconst d_TR_readVar_4 ?_
  have hOM3 : mOk M3 := by rw [e4]; exact mOk_UI hO (m_b32 (by decide))
  refine pf_TR_125 rfl d_TR_readVar_5 h2 (by decide) e4 ?_
  refine wm_aload_n d_TR_readVar_8 rfl rfl ?_
  refine wm_aload_n d_TR_readVar_9 rfl rfl ?_
  refine gf_TR_36 rfl d_TR_readVar_10 (by rw [e4]; exact h1) ?_
  refine gf_TR_116 rfl d_TR_readVar_13 h5 ?_
  have hOM6 : mOk M6 := by rw [e7]; exact mOk_UI hOM3 (hOM3 _ _).1
  refine pf_TR_169 rfl d_TR_readVar_16 (by rw [e4]; exact h1) (hOM3 _ _).1 e7 ?_
  refine wm_aload_n d_TR_readVar_19 rfl rfl ?_
  refine wm_aload_n d_TR_readVar_20 rfl rfl ?_
  refine gf_TR_36 rfl d_TR_readVar_21 (by rw [e7, e4]; exact h1) ?_
  refine gf_TR_172 rfl d_TR_readVar_24 h8 ?_
  refine wm_bipush d_TR_readVar_27 (by decide) ?_
  have hJ : ∀ v10 : Int, v10 = (if (mI M6 (mR M6 a0 2) 3 < 12) then 0 else 1) → mWm G y_TR_readVar (d + 1) 37 [vr a0] [vi v10, vr a0] M6 (fun r9 M9 => ∃ x9, r9 = some (vi x9) ∧ Q x9 M9) := by
    intro v10 e12
    have h := h v10 e12
    have h13 : i32 v10 := by rw [e12]; (repeat' split) <;> first | exact ⟨by decide, by decide⟩ | exact ⟨by decide, by decide⟩
    have h14 : (v10 = 0 ∨ v10 = 1) := by rw [e12]; (repeat' split) <;> decide
    refine cf_TR_132 rfl d_TR_readVar_37 (by rw [e7, e4]; exact h1) (Nat.le_of_ble_eq_true rfl) (Ci.mono h (fun x16 M15 h => ?_))
    obtain ⟨h17, hOM15, h⟩ := h
    refine wm_if_eq (tgt := 55) d_TR_readVar_40 rfl h17 (fun c19 => ?_) (fun c19 => ?_)
    · replace h := h.1 c19
      refine wm_iconst d_TR_readVar_55 ?_
      refine wm_ireturn d_TR_readVar_56 rfl (m_nb (by decide)) ?_
      exact ⟨_, rfl, h⟩
    · replace h := h.2 c19
      obtain ⟨h20, h⟩ := h
      obtain ⟨h21, h⟩ := h
      refine wm_aload_n d_TR_readVar_43 rfl rfl ?_
      refine gf_TR_12 rfl d_TR_readVar_44 h20 ?_
      refine wm_bipush d_TR_readVar_47 (by decide) ?_
      refine cf_TR_102 rfl d_TR_readVar_49 h21 (Nat.le_of_ble_eq_true rfl) (Ci.mono h (fun x23 M22 h => ?_))
      obtain ⟨h24, hOM22, h⟩ := h
      refine wm_if_ne (tgt := 57) d_TR_readVar_52 rfl h24 (fun c26 => ?_) (fun c26 => ?_)
      · replace h := h.2 c26
        obtain ⟨h27, h⟩ := h
        obtain ⟨h28, h⟩ := h
        refine wm_aload_n d_TR_readVar_57 rfl rfl ?_
        refine wm_aload_n d_TR_readVar_58 rfl rfl ?_
        refine gf_TR_12 rfl d_TR_readVar_59 h27 ?_
        refine wm_bipush d_TR_readVar_62 (by decide) ?_
        refine cf_TR_102 rfl d_TR_readVar_64 h28 (Nat.le_of_ble_eq_true rfl) (Ci.mono h (fun x30 M29 h => ?_))
        obtain ⟨h31, hOM29, h⟩ := h
        obtain ⟨h32, h⟩ := h
        obtain ⟨h33, h⟩ := h
        obtain ⟨M34, e35⟩ : ∃ M34, M34 = mUI M29 a0 8 x30 := ⟨_, rfl⟩
        replace h := h M34 e35
        have hOM34 : mOk M34 := by rw [e35]; exact mOk_UI hOM29 (m_b32 h33)
        refine pf_TR_143 rfl d_TR_readVar_67 h32 h33 e35 ?_
        refine wm_aload_n d_TR_readVar_70 rfl rfl ?_
        refine gf_TR_143 rfl d_TR_readVar_71 (by rw [e35]; exact h32) ?_
        refine wm_if_ne (tgt := 109) d_TR_readVar_74 rfl (hOM34 _ _).1 (fun c37 => ?_) (fun c37 => ?_)
        · replace h := h.2 c37
          obtain ⟨h89, h⟩ := h
          refine wm_aload_n d_TR_readVar_109 rfl rfl ?_
          refine wm_aload_n d_TR_readVar_110 rfl rfl ?_
          refine gf_TR_12 rfl d_TR_readVar_111 (by rw [e35]; exact h32) ?_
          refine wm_bipush d_TR_readVar_114 (by decide) ?_
          refine cf_TR_102 rfl d_TR_readVar_116 h89 (Nat.le_of_ble_eq_true rfl) (Ci.mono h (fun x91 M90 h => ?_))
          obtain ⟨h92, hOM90, h⟩ := h
          obtain ⟨h93, h⟩ := h
          obtain ⟨h94, h⟩ := h
          obtain ⟨M95, e96⟩ : ∃ M95, M95 = mUI M90 a0 7 x91 := ⟨_, rfl⟩
          replace h := h M95 e96
          have hOM95 : mOk M95 := by rw [e96]; exact mOk_UI hOM90 (m_b32 h94)
          refine pf_TR_175 rfl d_TR_readVar_119 h93 h94 e96 ?_
          refine wm_aload_n d_TR_readVar_122 rfl rfl ?_
          refine gf_TR_175 rfl d_TR_readVar_123 (by rw [e96]; exact h93) ?_
          refine wm_if_eq (tgt := 151) d_TR_readVar_126 rfl (hOM95 _ _).1 (fun c98 => ?_) (fun c98 => ?_)
          · replace h := h.1 c98
            obtain ⟨h99, h⟩ := h
            refine wm_aload_n d_TR_readVar_151 rfl rfl ?_
            refine gf_TR_12 rfl d_TR_readVar_152 (by rw [e96]; exact h93) ?_
            refine wm_bipush d_TR_readVar_155 (by decide) ?_
            refine cf_TR_102 rfl d_TR_readVar_157 h99 (Nat.le_of_ble_eq_true rfl) (Ci.mono h (fun x101 M100 h => ?_))
            obtain ⟨h102, hOM100, h⟩ := h
            obtain ⟨h103, h⟩ := h
            refine wm_ireturn d_TR_readVar_160 rfl (m_nb h103) ?_
            exact ⟨_, rfl, h⟩
          · replace h := h.2 c98
            refine wm_aload_n d_TR_readVar_129 rfl rfl ?_
            refine wm_iconst d_TR_readVar_130 ?_
            refine wm_aload_n d_TR_readVar_131 rfl rfl ?_
            refine gf_TR_143 rfl d_TR_readVar_132 (by rw [e96]; exact h93) ?_
            have hJ : ∀ v105 : Int, v105 = (if (mI M95 a0 8 = 0) then 1 else 2) → mWm G y_TR_readVar (d + 1) 143 [vr a0] [vi v105, vi 2, vr a0] M95 (fun r9 M9 => ∃ x9, r9 = some (vi x9) ∧ Q x9 M9) := by
              intro v105 e107
              have h := h v105 e107
              have h108 : i32 v105 := by rw [e107]; (repeat' split) <;> first | exact ⟨by decide, by decide⟩ | exact ⟨by decide, by decide⟩
              refine cf_TR_136 rfl d_TR_readVar_143 (by rw [e96]; exact h93) (Nat.le_of_ble_eq_true rfl) (Ci.mono h (fun x110 M109 h => ?_))
              obtain ⟨h111, hOM109, h⟩ := h
              refine wm_if_ne (tgt := 151) d_TR_readVar_146 rfl h111 (fun c113 => ?_) (fun c113 => ?_)
              · replace h := h.2 c113
                obtain ⟨h114, h⟩ := h
                obtain ⟨h115, h⟩ := h
                refine wm_aload_n d_TR_readVar_151 rfl rfl ?_
                refine gf_TR_12 rfl d_TR_readVar_152 h114 ?_
                refine wm_bipush d_TR_readVar_155 (by decide) ?_
                refine cf_TR_102 rfl d_TR_readVar_157 h115 (Nat.le_of_ble_eq_true rfl) (Ci.mono h (fun x117 M116 h => ?_))
                obtain ⟨h118, hOM116, h⟩ := h
                obtain ⟨h119, h⟩ := h
                refine wm_ireturn d_TR_readVar_160 rfl (m_nb h119) ?_
                exact ⟨_, rfl, h⟩
              · replace c113 := Classical.not_not.mp c113
                replace h := h.1 c113
                refine wm_iconst d_TR_readVar_149 ?_
                refine wm_ireturn d_TR_readVar_150 rfl (m_nb (by decide)) ?_
                exact ⟨_, rfl, h⟩
            clear h
            refine wm_if_eq (tgt := 142) d_TR_readVar_135 rfl (hOM95 _ _).1 (fun c104 => ?_) (fun c104 => ?_)
            · refine wm_iconst d_TR_readVar_142 ?_
              exact hJ 1 (if_pos c104).symm
            · refine wm_iconst d_TR_readVar_138 ?_
              refine wm_goto (tgt := 143) d_TR_readVar_139 rfl ?_
              exact hJ 2 (if_neg c104).symm
        · replace c37 := Classical.not_not.mp c37
          replace h := h.1 c37
          refine wm_aload_n d_TR_readVar_77 rfl rfl ?_
          refine wm_iconst d_TR_readVar_78 ?_
          refine wm_iconst d_TR_readVar_79 ?_
          refine cf_TR_136 rfl d_TR_readVar_80 (by rw [e35]; exact h32) (Nat.le_of_ble_eq_true rfl) (Ci.mono h (fun x39 M38 h => ?_))
          obtain ⟨h40, hOM38, h⟩ := h
          refine wm_if_eq (tgt := 107) d_TR_readVar_83 rfl h40 (fun c42 => ?_) (fun c42 => ?_)
          · replace h := h.1 c42
            refine wm_iconst d_TR_readVar_107 ?_
            refine wm_ireturn d_TR_readVar_108 rfl (m_nb (by decide)) ?_
            exact ⟨_, rfl, h⟩
          · replace h := h.2 c42
            obtain ⟨h43, h⟩ := h
            obtain ⟨h44, h⟩ := h
            refine wm_aload_n d_TR_readVar_86 rfl rfl ?_
            refine gf_TR_12 rfl d_TR_readVar_87 h43 ?_
            refine wm_bipush d_TR_readVar_90 (by decide) ?_
            refine cf_TR_102 rfl d_TR_readVar_92 h44 (Nat.le_of_ble_eq_true rfl) (Ci.mono h (fun x46 M45 h => ?_))
            obtain ⟨h47, hOM45, h⟩ := h
            refine wm_if_eq (tgt := 107) d_TR_readVar_95 rfl h47 (fun c49 => ?_) (fun c49 => ?_)
            · replace h := h.1 c49
              refine wm_iconst d_TR_readVar_107 ?_
              refine wm_ireturn d_TR_readVar_108 rfl (m_nb (by decide)) ?_
              exact ⟨_, rfl, h⟩
            · replace h := h.2 c49
              obtain ⟨h50, h⟩ := h
              refine wm_aload_n d_TR_readVar_98 rfl rfl ?_
              refine wm_iconst d_TR_readVar_99 ?_
              refine wm_iconst d_TR_readVar_100 ?_
              refine cf_TR_136 rfl d_TR_readVar_101 h50 (Nat.le_of_ble_eq_true rfl) (Ci.mono h (fun x52 M51 h => ?_))
              obtain ⟨h53, hOM51, h⟩ := h
              refine wm_if_ne (tgt := 109) d_TR_readVar_104 rfl h53 (fun c55 => ?_) (fun c55 => ?_)
              · replace h := h.2 c55
                obtain ⟨h56, h⟩ := h
                obtain ⟨h57, h⟩ := h
                refine wm_aload_n d_TR_readVar_109 rfl rfl ?_
                refine wm_aload_n d_TR_readVar_110 rfl rfl ?_
                refine gf_TR_12 rfl d_TR_readVar_111 h56 ?_
                refine wm_bipush d_TR_readVar_114 (by decide) ?_
                refine cf_TR_102 rfl d_TR_readVar_116 h57 (Nat.le_of_ble_eq_true rfl) (Ci.mono h (fun x59 M58 h => ?_))
                obtain ⟨h60, hOM58, h⟩ := h
                obtain ⟨h61, h⟩ := h
                obtain ⟨h62, h⟩ := h
                obtain ⟨M63, e64⟩ : ∃ M63, M63 = mUI M58 a0 7 x59 := ⟨_, rfl⟩
                replace h := h M63 e64
                have hOM63 : mOk M63 := by rw [e64]; exact mOk_UI hOM58 (m_b32 h62)
                refine pf_TR_175 rfl d_TR_readVar_119 h61 h62 e64 ?_
                refine wm_aload_n d_TR_readVar_122 rfl rfl ?_
                refine gf_TR_175 rfl d_TR_readVar_123 (by rw [e64]; exact h61) ?_
                refine wm_if_eq (tgt := 151) d_TR_readVar_126 rfl (hOM63 _ _).1 (fun c66 => ?_) (fun c66 => ?_)
                · replace h := h.1 c66
                  obtain ⟨h67, h⟩ := h
                  refine wm_aload_n d_TR_readVar_151 rfl rfl ?_
                  refine gf_TR_12 rfl d_TR_readVar_152 (by rw [e64]; exact h61) ?_
                  refine wm_bipush d_TR_readVar_155 (by decide) ?_
                  refine cf_TR_102 rfl d_TR_readVar_157 h67 (Nat.le_of_ble_eq_true rfl) (Ci.mono h (fun x69 M68 h => ?_))
                  obtain ⟨h70, hOM68, h⟩ := h
                  obtain ⟨h71, h⟩ := h
                  refine wm_ireturn d_TR_readVar_160 rfl (m_nb h71) ?_
                  exact ⟨_, rfl, h⟩
                · replace h := h.2 c66
                  refine wm_aload_n d_TR_readVar_129 rfl rfl ?_
                  refine wm_iconst d_TR_readVar_130 ?_
                  refine wm_aload_n d_TR_readVar_131 rfl rfl ?_
                  refine gf_TR_143 rfl d_TR_readVar_132 (by rw [e64]; exact h61) ?_
                  have hJ : ∀ v73 : Int, v73 = (if (mI M63 a0 8 = 0) then 1 else 2) → mWm G y_TR_readVar (d + 1) 143 [vr a0] [vi v73, vi 2, vr a0] M63 (fun r9 M9 => ∃ x9, r9 = some (vi x9) ∧ Q x9 M9) := by
                    intro v73 e75
                    have h := h v73 e75
                    have h76 : i32 v73 := by rw [e75]; (repeat' split) <;> first | exact ⟨by decide, by decide⟩ | exact ⟨by decide, by decide⟩
                    refine cf_TR_136 rfl d_TR_readVar_143 (by rw [e64]; exact h61) (Nat.le_of_ble_eq_true rfl) (Ci.mono h (fun x78 M77 h => ?_))
                    obtain ⟨h79, hOM77, h⟩ := h
                    refine wm_if_ne (tgt := 151) d_TR_readVar_146 rfl h79 (fun c81 => ?_) (fun c81 => ?_)
                    · replace h := h.2 c81
                      obtain ⟨h82, h⟩ := h
                      obtain ⟨h83, h⟩ := h
                      refine wm_aload_n d_TR_readVar_151 rfl rfl ?_
                      refine gf_TR_12 rfl d_TR_readVar_152 h82 ?_
                      refine wm_bipush d_TR_readVar_155 (by decide) ?_
                      refine cf_TR_102 rfl d_TR_readVar_157 h83 (Nat.le_of_ble_eq_true rfl) (Ci.mono h (fun x85 M84 h => ?_))
                      obtain ⟨h86, hOM84, h⟩ := h
                      obtain ⟨h87, h⟩ := h
                      refine wm_ireturn d_TR_readVar_160 rfl (m_nb h87) ?_
                      exact ⟨_, rfl, h⟩
                    · replace c81 := Classical.not_not.mp c81
                      replace h := h.1 c81
                      refine wm_iconst d_TR_readVar_149 ?_
                      refine wm_ireturn d_TR_readVar_150 rfl (m_nb (by decide)) ?_
                      exact ⟨_, rfl, h⟩
                  clear h
                  refine wm_if_eq (tgt := 142) d_TR_readVar_135 rfl (hOM63 _ _).1 (fun c72 => ?_) (fun c72 => ?_)
                  · refine wm_iconst d_TR_readVar_142 ?_
                    exact hJ 1 (if_pos c72).symm
                  · refine wm_iconst d_TR_readVar_138 ?_
                    refine wm_goto (tgt := 143) d_TR_readVar_139 rfl ?_
                    exact hJ 2 (if_neg c72).symm
              · replace c55 := Classical.not_not.mp c55
                replace h := h.1 c55
                refine wm_iconst d_TR_readVar_107 ?_
                refine wm_ireturn d_TR_readVar_108 rfl (m_nb (by decide)) ?_
                exact ⟨_, rfl, h⟩
      · replace c26 := Classical.not_not.mp c26
        replace h := h.1 c26
        refine wm_iconst d_TR_readVar_55 ?_
        refine wm_ireturn d_TR_readVar_56 rfl (m_nb (by decide)) ?_
        exact ⟨_, rfl, h⟩
  clear h
  refine wm_icmp_lt (tgt := 36) d_TR_readVar_29 rfl (hOM6 _ _).1 ⟨by decide, by decide⟩ (fun c9 => ?_) (fun c9 => ?_)
  · refine wm_iconst d_TR_readVar_36 ?_
    exact hJ 0 (if_pos c9).symm
  · refine wm_iconst d_TR_readVar_32 ?_
    refine wm_goto (tgt := 37) d_TR_readVar_33 rfl ?_
    exact hJ 1 (if_neg c9).symm
