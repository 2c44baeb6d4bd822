theorem d_MM_items0_0 : decode y_MM_items0.2.1 0 = .ok (.aload_n 0, 1) := by decide +kernel
theorem d_MM_items0_1 : decode y_MM_items0.2.1 1 = .ok (.getfield 38, 3) := by decide +kernel
theorem d_MM_items0_4 : decode y_MM_items0.2.1 4 = .ok (.invokevirtual 427, 3) := by decide +kernel
theorem d_MM_items0_7 : decode y_MM_items0.2.1 7 = .ok (.aload_n 0, 1) := by decide +kernel
theorem d_MM_items0_8 : decode y_MM_items0.2.1 8 = .ok (.getfield 45, 3) := by decide +kernel
theorem d_MM_items0_11 : decode y_MM_items0.2.1 11 = .ok (.iconst 0, 1) := by decide +kernel
theorem d_MM_items0_12 : decode y_MM_items0.2.1 12 = .ok (.putfield 145, 3) := by decide +kernel
theorem d_MM_items0_15 : decode y_MM_items0.2.1 15 = .ok (.aload_n 0, 1) := by decide +kernel
theorem d_MM_items0_16 : decode y_MM_items0.2.1 16 = .ok (.getfield 48, 3) := by decide +kernel
theorem d_MM_items0_19 : decode y_MM_items0.2.1 19 = .ok (.iconst 0, 1) := by decide +kernel
theorem d_MM_items0_20 : decode y_MM_items0.2.1 20 = .ok (.putfield 145, 3) := by decide +kernel
theorem d_MM_items0_23 : decode y_MM_items0.2.1 23 = .ok (.aload_n 0, 1) := by decide +kernel
theorem d_MM_items0_24 : decode y_MM_items0.2.1 24 = .ok (.getfield 51, 3) := by decide +kernel
theorem d_MM_items0_27 : decode y_MM_items0.2.1 27 = .ok (.iconst 0, 1) := by decide +kernel
theorem d_MM_items0_28 : decode y_MM_items0.2.1 28 = .ok (.putfield 145, 3) := by decide +kernel
theorem d_MM_items0_31 : decode y_MM_items0.2.1 31 = .ok (.aload_n 0, 1) := by decide +kernel
theorem d_MM_items0_32 : decode y_MM_items0.2.1 32 = .ok (.iconst 0, 1) := by decide +kernel
theorem d_MM_items0_33 : decode y_MM_items0.2.1 33 = .ok (.putfield 267, 3) := by decide +kernel
theorem d_MM_items0_36 : decode y_MM_items0.2.1 36 = .ok (.iconst 0, 1) := by decide +kernel
theorem d_MM_items0_37 : decode y_MM_items0.2.1 37 = .ok (.istore_n 1, 1) := by decide +kernel
theorem d_MM_items0_38 : decode y_MM_items0.2.1 38 = .ok (.aload_n 0, 1) := by decide +kernel
theorem d_MM_items0_39 : decode y_MM_items0.2.1 39 = .ok (.getfield 267, 3) := by decide +kernel
theorem d_MM_items0_42 : decode y_MM_items0.2.1 42 = .ok (.ifCond .ne 148, 3) := by decide +kernel
theorem d_MM_items0_45 : decode y_MM_items0.2.1 45 = .ok (.aload_n 0, 1) := by decide +kernel
theorem d_MM_items0_46 : decode y_MM_items0.2.1 46 = .ok (.iload_n 1, 1) := by decide +kernel
theorem d_MM_items0_47 : decode y_MM_items0.2.1 47 = .ok (.invokevirtual 302, 3) := by decide +kernel
theorem d_MM_items0_50 : decode y_MM_items0.2.1 50 = .ok (.ifCond .eq 140, 3) := by decide +kernel
theorem d_MM_items0_53 : decode y_MM_items0.2.1 53 = .ok (.aload_n 0, 1) := by decide +kernel
theorem d_MM_items0_54 : decode y_MM_items0.2.1 54 = .ok (.iload_n 1, 1) := by decide +kernel
theorem d_MM_items0_55 : decode y_MM_items0.2.1 55 = .ok (.bipush 34, 2) := by decide +kernel
theorem d_MM_items0_190 : decode y_MM_items0.2.1 190 = .ok (.aload_n 0, 1) := by decide +kernel
theorem d_MM_items0_191 : decode y_MM_items0.2.1 191 = .ok (.getfield 267, 3) := by decide +kernel
theorem d_MM_items0_194 : decode y_MM_items0.2.1 194 = .ok (.ifCond .ne 24, 3) := by decide +kernel
theorem d_MM_items0_197 : decode y_MM_items0.2.1 197 = .ok (.aload_n 0, 1) := by decide +kernel
theorem d_MM_items0_198 : decode y_MM_items0.2.1 198 = .ok (.getfield 38, 3) := by decide +kernel
theorem d_MM_items0_201 : decode y_MM_items0.2.1 201 = .ok (.getfield 439, 3) := by decide +kernel
theorem d_MM_items0_204 : decode y_MM_items0.2.1 204 = .ok (.ifCond .ge 14, 3) := by decide +kernel
theorem d_MM_items0_207 : decode y_MM_items0.2.1 207 = .ok (.aload_n 0, 1) := by decide +kernel
theorem d_MM_items0_208 : decode y_MM_items0.2.1 208 = .ok (.bipush 10, 2) := by decide +kernel
theorem d_MM_items0_210 : decode y_MM_items0.2.1 210 = .ok (.aload_n 0, 1) := by decide +kernel
theorem d_MM_items0_211 : decode y_MM_items0.2.1 211 = .ok (.iload_n 1, 1) := by decide +kernel
theorem d_MM_items0_212 : decode y_MM_items0.2.1 212 = .ok (.invokevirtual 279, 3) := by decide +kernel
theorem d_MM_items0_215 : decode y_MM_items0.2.1 215 = .ok (.invokevirtual 351, 3) := by decide +kernel
theorem d_MM_items0_57 : decode y_MM_items0.2.1 57 = .ok (.invokevirtual 430, 3) := by decide +kernel
theorem d_MM_items0_60 : decode y_MM_items0.2.1 60 = .ok (.istore_n 2, 1) := by decide +kernel
theorem d_MM_items0_61 : decode y_MM_items0.2.1 61 = .ok (.aload_n 0, 1) := by decide +kernel
theorem d_MM_items0_62 : decode y_MM_items0.2.1 62 = .ok (.iload_n 1, 1) := by decide +kernel
theorem d_MM_items0_63 : decode y_MM_items0.2.1 63 = .ok (.invokevirtual 302, 3) := by decide +kernel
theorem d_MM_items0_66 : decode y_MM_items0.2.1 66 = .ok (.tableswitch 111 3 11 #[50, 59, 111, 50, 111, 111, 111, 111, 68], 50) := by decide +kernel
theorem d_MM_items0_116 : decode y_MM_items0.2.1 116 = .ok (.aload_n 0, 1) := by decide +kernel
theorem d_MM_items0_117 : decode y_MM_items0.2.1 117 = .ok (.iload_n 1, 1) := by decide +kernel
theorem d_MM_items0_118 : decode y_MM_items0.2.1 118 = .ok (.iload_n 2, 1) := by decide +kernel
theorem d_MM_items0_119 : decode y_MM_items0.2.1 119 = .ok (.invokevirtual 433, 3) := by decide +kernel
theorem d_MM_items0_122 : decode y_MM_items0.2.1 122 = .ok (.goto 61, 3) := by decide +kernel
theorem d_MM_items0_125 : decode y_MM_items0.2.1 125 = .ok (.aload_n 0, 1) := by decide +kernel
theorem d_MM_items0_126 : decode y_MM_items0.2.1 126 = .ok (.iload_n 1, 1) := by decide +kernel
theorem d_MM_items0_127 : decode y_MM_items0.2.1 127 = .ok (.iload_n 2, 1) := by decide +kernel
theorem d_MM_items0_128 : decode y_MM_items0.2.1 128 = .ok (.invokevirtual 436, 3) := by decide +kernel
theorem d_MM_items0_131 : decode y_MM_items0.2.1 131 = .ok (.goto 52, 3) := by decide +kernel
theorem d_MM_items0_134 : decode y_MM_items0.2.1 134 = .ok (.aload_n 0, 1) := by decide +kernel
theorem d_MM_items0_135 : decode y_MM_items0.2.1 135 = .ok (.getfield 38, 3) := by decide +kernel
theorem d_MM_items0_138 : decode y_MM_items0.2.1 138 = .ok (.getfield 439, 3) := by decide +kernel
theorem d_MM_items0_141 : decode y_MM_items0.2.1 141 = .ok (.ifCond .lt 16, 3) := by decide +kernel
theorem d_MM_items0_157 : decode y_MM_items0.2.1 157 = .ok (.aload_n 0, 1) := by decide +kernel
theorem d_MM_items0_158 : decode y_MM_items0.2.1 158 = .ok (.getfield 38, 3) := by decide +kernel
theorem d_MM_items0_161 : decode y_MM_items0.2.1 161 = .ok (.aload_n 0, 1) := by decide +kernel
theorem d_MM_items0_162 : decode y_MM_items0.2.1 162 = .ok (.iload_n 1, 1) := by decide +kernel
theorem d_MM_items0_163 : decode y_MM_items0.2.1 163 = .ok (.iconst 1, 1) := by decide +kernel
theorem d_MM_items0_164 : decode y_MM_items0.2.1 164 = .ok (.iadd, 1) := by decide +kernel
theorem d_MM_items0_165 : decode y_MM_items0.2.1 165 = .ok (.iload_n 2, 1) := by decide +kernel
theorem d_MM_items0_166 : decode y_MM_items0.2.1 166 = .ok (.iconst 1, 1) := by decide +kernel
theorem d_MM_items0_167 : decode y_MM_items0.2.1 167 = .ok (.iconst 0, 1) := by decide +kernel
theorem d_MM_items0_144 : decode y_MM_items0.2.1 144 = .ok (.aload_n 0, 1) := by decide +kernel
theorem d_MM_items0_145 : decode y_MM_items0.2.1 145 = .ok (.iconst 4, 1) := by decide +kernel
theorem d_MM_items0_146 : decode y_MM_items0.2.1 146 = .ok (.aload_n 0, 1) := by decide +kernel
theorem d_MM_items0_147 : decode y_MM_items0.2.1 147 = .ok (.iload_n 1, 1) := by decide +kernel
theorem d_MM_items0_168 : decode y_MM_items0.2.1 168 = .ok (.invokevirtual 441, 3) := by decide +kernel
theorem d_MM_items0_171 : decode y_MM_items0.2.1 171 = .ok (.putfield 439, 3) := by decide +kernel
theorem d_MM_items0_174 : decode y_MM_items0.2.1 174 = .ok (.goto 9, 3) := by decide +kernel
theorem d_MM_items0_148 : decode y_MM_items0.2.1 148 = .ok (.invokevirtual 279, 3) := by decide +kernel
theorem d_MM_items0_151 : decode y_MM_items0.2.1 151 = .ok (.invokevirtual 351, 3) := by decide +kernel
theorem d_MM_items0_154 : decode y_MM_items0.2.1 154 = .ok (.goto 29, 3) := by decide +kernel
theorem d_MM_items0_177 : decode y_MM_items0.2.1 177 = .ok (.aload_n 0, 1) := by decide +kernel
theorem d_MM_items0_178 : decode y_MM_items0.2.1 178 = .ok (.iload_n 1, 1) := by decide +kernel
theorem d_MM_items0_179 : decode y_MM_items0.2.1 179 = .ok (.iload_n 2, 1) := by decide +kernel
theorem d_MM_items0_180 : decode y_MM_items0.2.1 180 = .ok (.invokevirtual 444, 3) := by decide +kernel
theorem d_MM_items0_183 : decode y_MM_items0.2.1 183 = .ok (.iload_n 2, 1) := by decide +kernel
theorem d_MM_items0_184 : decode y_MM_items0.2.1 184 = .ok (.iconst 1, 1) := by decide +kernel
theorem d_MM_items0_185 : decode y_MM_items0.2.1 185 = .ok (.iadd, 1) := by decide +kernel
theorem d_MM_items0_186 : decode y_MM_items0.2.1 186 = .ok (.istore_n 1, 1) := by decide +kernel
theorem d_MM_items0_187 : decode y_MM_items0.2.1 187 = .ok (.goto (-149), 3) := by decide +kernel
theorem d_MM_items0_218 : decode y_MM_items0.2.1 218 = .ok (.return_, 1) := by decide +kernel
def h_MM_items0_38 (G : mG) (d : Nat) (a0 : Nat) (l1 : Int) (M : mM) (Q : mM → Prop) : Prop := mWm G y_MM_items0 (d + 1) 38 [vr a0, vi l1, vd] [] M (fun r9 M9 => r9 = none ∧ Q M9)
def h_MM_items0_183 (G : mG) (d : Nat) (a0 : Nat) (l2 : Int) (M : mM) (Q : mM → Prop) : Prop := mWm G y_MM_items0 (d + 1) 183 [vr a0, vd, vi l2] [] M (fun r9 M9 => r9 = none ∧ Q M9)
def h_MM_items0_218 (G : mG) (d : Nat) (M : mM) (Q : mM → Prop) : Prop := mWm G y_MM_items0 (d + 1) 218 [vd, vd, vd] [] M (fun r9 M9 => r9 = none ∧ Q M9)
theorem k_MM_items0 {G : mG} {d : Nat} {a0 : Nat} {M : mM} {Q : mM → Prop} (hO : mOk M)
    (h : mK M a0 = 14 ∧ mK M (mR M a0 10) = 16 ∧ Cv G y_MG_clear d [vr (mR M a0 10)] M (fun M3 => mOk M3 ∧ (mK M3 a0 = 14 ∧ mK M3 (mR M3 a0 13) = 15 ∧ ∀ M8, M8 = mUI M3 (mR M3 a0 13) 1 0 → mK M8 (mR M8 a0 14) = 15 ∧ ∀ M11, M11 = mUI M8 (mR M8 a0 14) 1 0 → mK M11 (mR M11 a0 15) = 15 ∧ ∀ M14, M14 = mUI M11 (mR M11 a0 15) 1 0 → ∀ M16, M16 = mUI M14 a0 16 0 → h_MM_items0_38 G d a0 0 M16 Q))) :
    Cv G y_MM_items0 (d + 1) [vr a0] M Q := by
  refine wm_open (y := y_MM_items0) rfl (Nat.le_of_ble_eq_true rfl) (L := [vr a0, vd, vd]) rfl ?_
  obtain ⟨h1, h⟩ := h
  obtain ⟨h2, h⟩ := h
  refine wm_aload_n d_MM_items0_0 rfl rfl ?_
  refine gf_MM_38 rfl d_MM_items0_1 h1 ?_
  refine cf_MM_427 rfl d_MM_items0_4 h2 (Nat.le_of_ble_eq_true rfl) (Cv.mono h (fun M3 h => ?_))
  obtain ⟨hOM3, h⟩ := h
  obtain ⟨h6, h⟩ := h
  obtain ⟨h7, h⟩ := h
  obtain ⟨M8, e9⟩ : ∃ M8, M8 = mUI M3 (mR M3 a0 13) 1 0 := ⟨_, rfl⟩
  replace h := h M8 e9
  obtain ⟨h10, h⟩ := h
  obtain ⟨M11, e12⟩ : ∃ M11, M11 = mUI M8 (mR M8 a0 14) 1 0 := ⟨_, rfl⟩
  replace h := h M11 e12
  obtain ⟨h13, h⟩ := h
  obtain ⟨M14, e15⟩ : ∃ M14, M14 = mUI M11 (mR M11 a0 15) 1 0 := ⟨_, rfl⟩
  replace h := h M14 e15
  obtain ⟨M16, e17⟩ : ∃ M16, M16 = mUI M14 a0 16 0 := ⟨_, rfl⟩
  replace h := h M16 e17
  refine wm_aload_n d_MM_items0_7 rfl rfl ?_
  refine gf_MM_45 rfl d_MM_items0_8 h6 ?_
  refine wm_iconst d_MM_items0_11 ?_
  have hOM8 : mOk M8 := by rw [e9]; exact mOk_UI hOM3 ⟨by decide, by decide⟩
  refine pf_MM_145 rfl d_MM_items0_12 h7 ⟨by decide, by decide⟩ e9 ?_
  refine wm_aload_n d_MM_items0_15 rfl rfl ?_
  refine gf_MM_48 rfl d_MM_items0_16 (by rw [e9]; exact h6) ?_
  refine wm_iconst d_MM_items0_19 ?_
  have hOM11 : mOk M11 := by rw [e12]; exact mOk_UI hOM8 ⟨by decide, by decide⟩
  refine pf_MM_145 rfl d_MM_items0_20 h10 ⟨by decide, by decide⟩ e12 ?_
  refine wm_aload_n d_MM_items0_23 rfl rfl ?_
  refine gf_MM_51 rfl d_MM_items0_24 (by rw [e12, e9]; exact h6) ?_
  refine wm_iconst d_MM_items0_27 ?_
  have hOM14 : mOk M14 := by rw [e15]; exact mOk_UI hOM11 ⟨by decide, by decide⟩
  refine pf_MM_145 rfl d_MM_items0_28 h13 ⟨by decide, by decide⟩ e15 ?_
  refine wm_aload_n d_MM_items0_31 rfl rfl ?_
  refine wm_iconst d_MM_items0_32 ?_
  have hOM16 : mOk M16 := by rw [e17]; exact mOk_UI hOM14 ⟨by decide, by decide⟩
  refine pf_MM_267 rfl d_MM_items0_33 (by rw [e15, e12, e9]; exact h6) ⟨by decide, by decide⟩ e17 ?_
  refine wm_iconst d_MM_items0_36 ?_
  refine wm_istore_n d_MM_items0_37 rfl (by decide) (L' := [vr a0, vi 0, vd]) rfl ?_
  exact h
theorem k_MM_items0_38 {G : mG} {d : Nat} {a0 : Nat} {l1 : Int} {M : mM} {Q : mM → Prop} (hO : mOk M) (hi_l1 : i32 l1)
    (h : mK M a0 = 14 ∧ ((mI M a0 16 = 0) → (Ci G y_MM_word1 d [vr a0, vi l1] M (fun x22 M21 => i32 x22 ∧ mOk M21 ∧ (((x22 = 0) → (mK M21 a0 = 14 ∧ ((mI M21 a0 16 = 0) → mK M21 (mR M21 a0 10) = 16) ∧ (((¬ (mI M21 a0 16 = 0)) ∨ (0 ≤ mI M21 (mR M21 a0 10) 17)) → (h_MM_items0_218 G d  M21 Q)) ∧ (¬ ((¬ (mI M21 a0 16 = 0)) ∨ (0 ≤ mI M21 (mR M21 a0 10) 17)) → (Ci G y_MM_place0 d [vr a0, vi l1] M21 (fun x34 M33 => i32 x34 ∧ mOk M33 ∧ (mK M33 a0 = 14 ∧ Cv G y_MM_stop d [vr a0, vi 10, vi x34] M33 (fun M37 => mOk M37 ∧ (h_MM_items0_218 G d  M37 Q)))))))) ∧ (¬ (x22 = 0) → (mK M21 a0 = 14 ∧ Ci G y_MM_until d [vr a0, vi l1, vi 34] M21 (fun x45 M44 => i32 x45 ∧ mOk M44 ∧ (mK M44 a0 = 14 ∧ Ci G y_MM_word1 d [vr a0, vi l1] M44 (fun x49 M48 => i32 x49 ∧ mOk M48 ∧ (((x49 = 3 ∨ x49 = 6) → (mK M48 a0 = 14 ∧ Cv G y_MM_ruleItem d [vr a0, vi l1, vi x45] M48 (fun M55 => mOk M55 ∧ (h_MM_items0_183 G d a0 x45 M55 Q)))) ∧ (¬ (x49 = 3 ∨ x49 = 6) → (((x49 = 4) → (mK M48 a0 = 14 ∧ Cv G y_MM_varItem d [vr a0, vi l1, vi x45] M48 (fun M61 => mOk M61 ∧ (h_MM_items0_183 G d a0 x45 M61 Q)))) ∧ (¬ (x49 = 4) → (((x49 = 11) → (mK M48 a0 = 14 ∧ mK M48 (mR M48 a0 10) = 16 ∧ ((mI M48 (mR M48 a0 10) 17 < 0) → (Ci G y_MM_rule1 d [vr a0, vi (l1 + 1), vi x45, vi 1, vi 0] M48 (fun x71 M70 => i32 x71 ∧ mOk M70 ∧ (mK M70 (mR M48 a0 10) = 16 ∧ ∀ M74, M74 = mUI M70 (mR M48 a0 10) 17 x71 → h_MM_items0_183 G d a0 x45 M74 Q)))) ∧ (¬ (mI M48 (mR M48 a0 10) 17 < 0) → (Ci G y_MM_place0 d [vr a0, vi l1] M48 (fun x77 M76 => i32 x77 ∧ mOk M76 ∧ (mK M76 a0 = 14 ∧ Cv G y_MM_stop d [vr a0, vi 4, vi x77] M76 (fun M80 => mOk M80 ∧ (h_MM_items0_183 G d a0 x45 M80 Q)))))))) ∧ (¬ (x49 = 11) → (mK M48 a0 = 14 ∧ Cv G y_MM_commandItem d [vr a0, vi l1, vi x45] M48 (fun M84 => mOk M84 ∧ (h_MM_items0_183 G d a0 x45 M84 Q)))))))))))))))))) ∧ (¬ (mI M a0 16 = 0) → (((mI M a0 16 = 0) → mK M (mR M a0 10) = 16) ∧ (((¬ (mI M a0 16 = 0)) ∨ (0 ≤ mI M (mR M a0 10) 17)) → (h_MM_items0_218 G d  M Q)) ∧ (¬ ((¬ (mI M a0 16 = 0)) ∨ (0 ≤ mI M (mR M a0 10) 17)) → (Ci G y_MM_place0 d [vr a0, vi l1] M (fun x94 M93 => i32 x94 ∧ mOk M93 ∧ (mK M93 a0 = 14 ∧ Cv G y_MM_stop d [vr a0, vi 10, vi x94] M93 (fun M97 => mOk M97 ∧ (h_MM_items0_218 G d  M97 Q))))))))) :
    h_MM_items0_38 G d a0 l1 M Q := by
  unfold h_MM_items0_38
  obtain ⟨h18, h⟩ := h
  refine wm_aload_n d_MM_items0_38 rfl rfl ?_
  refine gf_MM_267 rfl d_MM_items0_39 h18 ?_
  refine wm_if_ne (tgt := 190) d_MM_items0_42 rfl (hO _ _).1 (fun c20 => ?_) (fun c20 => ?_)
  · replace h := h.2 c20
    refine wm_aload_n d_MM_items0_190 rfl rfl ?_
    refine gf_MM_267 rfl d_MM_items0_191 h18 ?_
    obtain ⟨s90, h⟩ := h
    have hE0 : ((¬ (mI M a0 16 = 0)) ∨ (0 ≤ mI M (mR M a0 10) 17)) → mWm G y_MM_items0 (d + 1) 218 [vr a0, vi l1, vd] [] M (fun r9 M9 => r9 = none ∧ Q M9) := by
      intro q91
      have h := h.1 q91
      refine wm_less (L' := [vd, vd, vd]) ⟨Or.inl rfl, Or.inl rfl, Or.inl rfl, trivial⟩ ?_
      exact h
    have hE1 : ¬ ((¬ (mI M a0 16 = 0)) ∨ (0 ≤ mI M (mR M a0 10) 17)) → mWm G y_MM_items0 (d + 1) 207 [vr a0, vi l1, vd] [] M (fun r9 M9 => r9 = none ∧ Q M9) := by
      intro q92
      have h := h.2 q92
      refine wm_aload_n d_MM_items0_207 rfl rfl ?_
      refine wm_bipush d_MM_items0_208 (by decide) ?_
      refine wm_aload_n d_MM_items0_210 rfl rfl ?_
      refine wm_iload_n d_MM_items0_211 rfl rfl ?_
      refine cf_MM_279 rfl d_MM_items0_212 h18 (Nat.le_of_ble_eq_true rfl) (Ci.mono h (fun x94 M93 h => ?_))
      obtain ⟨h95, hOM93, h⟩ := h
      obtain ⟨h96, h⟩ := h
      refine cf_MM_351 rfl d_MM_items0_215 h96 (Nat.le_of_ble_eq_true rfl) (Cv.mono h (fun M97 h => ?_))
      obtain ⟨hOM97, h⟩ := h
      refine wm_less (L' := [vd, vd, vd]) ⟨Or.inl rfl, Or.inl rfl, Or.inl rfl, trivial⟩ ?_
      exact h
    clear h
    have s100 := s90
    refine wm_if_ne (tgt := 218) d_MM_items0_194 rfl (hO _ _).1 (fun c89 => ?_) (fun c89 => ?_)
    · exact hE0 (Or.inl c89)
    · replace c89 := Classical.not_not.mp c89
      have s100 := s100 c89
      have h87 := s100
      refine wm_aload_n d_MM_items0_197 rfl rfl ?_
      refine gf_MM_38 rfl d_MM_items0_198 h18 ?_
      refine gf_MM_439 rfl d_MM_items0_201 h87 ?_
      refine wm_if_ge (tgt := 218) d_MM_items0_204 rfl (hO _ _).1 (fun c88 => ?_) (fun c88 => ?_)
      · exact hE0 (Or.inr c88)
      · exact hE1 (fun z101 => Or.elim z101 (fun w => w c89) c88)
  · replace c20 := Classical.not_not.mp c20
    replace h := h.1 c20
    refine wm_aload_n d_MM_items0_45 rfl rfl ?_
    refine wm_iload_n d_MM_items0_46 rfl rfl ?_
    refine cf_MM_302 rfl d_MM_items0_47 h18 (Nat.le_of_ble_eq_true rfl) (Ci.mono h (fun x22 M21 h => ?_))
    obtain ⟨h23, hOM21, h⟩ := h
    refine wm_if_eq (tgt := 190) d_MM_items0_50 rfl h23 (fun c25 => ?_) (fun c25 => ?_)
    · replace h := h.1 c25
      obtain ⟨h26, h⟩ := h
      refine wm_aload_n d_MM_items0_190 rfl rfl ?_
      refine gf_MM_267 rfl d_MM_items0_191 h26 ?_
      obtain ⟨s30, h⟩ := h
      have hE0 : ((¬ (mI M21 a0 16 = 0)) ∨ (0 ≤ mI M21 (mR M21 a0 10) 17)) → mWm G y_MM_items0 (d + 1) 218 [vr a0, vi l1, vd] [] M21 (fun r9 M9 => r9 = none ∧ Q M9) := by
        intro q31
        have h := h.1 q31
        refine wm_less (L' := [vd, vd, vd]) ⟨Or.inl rfl, Or.inl rfl, Or.inl rfl, trivial⟩ ?_
        exact h
      have hE1 : ¬ ((¬ (mI M21 a0 16 = 0)) ∨ (0 ≤ mI M21 (mR M21 a0 10) 17)) → mWm G y_MM_items0 (d + 1) 207 [vr a0, vi l1, vd] [] M21 (fun r9 M9 => r9 = none ∧ Q M9) := by
        intro q32
        have h := h.2 q32
        refine wm_aload_n d_MM_items0_207 rfl rfl ?_
        refine wm_bipush d_MM_items0_208 (by decide) ?_
        refine wm_aload_n d_MM_items0_210 rfl rfl ?_
        refine wm_iload_n d_MM_items0_211 rfl rfl ?_
        refine cf_MM_279 rfl d_MM_items0_212 h26 (Nat.le_of_ble_eq_true rfl) (Ci.mono h (fun x34 M33 h => ?_))
        obtain ⟨h35, hOM33, h⟩ := h
        obtain ⟨h36, h⟩ := h
        refine cf_MM_351 rfl d_MM_items0_215 h36 (Nat.le_of_ble_eq_true rfl) (Cv.mono h (fun M37 h => ?_))
        obtain ⟨hOM37, h⟩ := h
        refine wm_less (L' := [vd, vd, vd]) ⟨Or.inl rfl, Or.inl rfl, Or.inl rfl, trivial⟩ ?_
        exact h
      clear h
      have s40 := s30
      refine wm_if_ne (tgt := 218) d_MM_items0_194 rfl (hOM21 _ _).1 (fun c29 => ?_) (fun c29 => ?_)
      · exact hE0 (Or.inl c29)
      · replace c29 := Classical.not_not.mp c29
        have s40 := s40 c29
        have h27 := s40
        refine wm_aload_n d_MM_items0_197 rfl rfl ?_
        refine gf_MM_38 rfl d_MM_items0_198 h26 ?_
        refine gf_MM_439 rfl d_MM_items0_201 h27 ?_
        refine wm_if_ge (tgt := 218) d_MM_items0_204 rfl (hOM21 _ _).1 (fun c28 => ?_) (fun c28 => ?_)
        · exact hE0 (Or.inr c28)
        · exact hE1 (fun z41 => Or.elim z41 (fun w => w c29) c28)
    · replace h := h.2 c25
      obtain ⟨h43, h⟩ := h
      refine wm_aload_n d_MM_items0_53 rfl rfl ?_
      refine wm_iload_n d_MM_items0_54 rfl rfl ?_
      refine wm_bipush d_MM_items0_55 (by decide) ?_
      refine cf_MM_430 rfl d_MM_items0_57 h43 (Nat.le_of_ble_eq_true rfl) (Ci.mono h (fun x45 M44 h => ?_))
      obtain ⟨h46, hOM44, h⟩ := h
      obtain ⟨h47, h⟩ := h
      refine wm_istore_n d_MM_items0_60 rfl (by decide) (L' := [vr a0, vi l1, vi x45]) rfl ?_
      refine wm_aload_n d_MM_items0_61 rfl rfl ?_
      refine wm_iload_n d_MM_items0_62 rfl rfl ?_
      refine cf_MM_302 rfl d_MM_items0_63 h47 (Nat.le_of_ble_eq_true rfl) (Ci.mono h (fun x49 M48 h => ?_))
      obtain ⟨h50, hOM48, h⟩ := h
      by_cases c53 : x49 = 3 ∨ x49 = 6
      · replace h := h.1 c53
        refine wm_tableIn (tgt := 116) (off := 50) d_MM_items0_66 h50 (by omega) (by omega) (by rcases c53 with q9 | q9 <;> (rw [q9]; rfl)) rfl ?_
        obtain ⟨h54, h⟩ := h
        refine wm_aload_n d_MM_items0_116 rfl rfl ?_
        refine wm_iload_n d_MM_items0_117 rfl rfl ?_
        refine wm_iload_n d_MM_items0_118 rfl rfl ?_
        refine cf_MM_433 rfl d_MM_items0_119 h54 (Nat.le_of_ble_eq_true rfl) (Cv.mono h (fun M55 h => ?_))
        obtain ⟨hOM55, h⟩ := h
        refine wm_goto (tgt := 183) d_MM_items0_122 rfl ?_
        refine wm_less (L' := [vr a0, vd, vi x45]) ⟨Or.inr rfl, Or.inl rfl, Or.inr rfl, trivial⟩ ?_
        exact h
      · replace h := h.2 c53
        by_cases c59 : x49 = 4
        · replace h := h.1 c59
          refine wm_tableIn (tgt := 125) (off := 59) d_MM_items0_66 h50 (by omega) (by omega) (by rw [c59]; rfl) rfl ?_
          obtain ⟨h60, h⟩ := h
          refine wm_aload_n d_MM_items0_125 rfl rfl ?_
          refine wm_iload_n d_MM_items0_126 rfl rfl ?_
          refine wm_iload_n d_MM_items0_127 rfl rfl ?_
          refine cf_MM_436 rfl d_MM_items0_128 h60 (Nat.le_of_ble_eq_true rfl) (Cv.mono h (fun M61 h => ?_))
          obtain ⟨hOM61, h⟩ := h
          refine wm_goto (tgt := 183) d_MM_items0_131 rfl ?_
          refine wm_less (L' := [vr a0, vd, vi x45]) ⟨Or.inr rfl, Or.inl rfl, Or.inr rfl, trivial⟩ ?_
          exact h
        · replace h := h.2 c59
          by_cases c65 : x49 = 11
          · replace h := h.1 c65
            refine wm_tableIn (tgt := 134) (off := 68) d_MM_items0_66 h50 (by omega) (by omega) (by rw [c65]; rfl) rfl ?_
            obtain ⟨h66, h⟩ := h
            obtain ⟨h67, h⟩ := h
            refine wm_aload_n d_MM_items0_134 rfl rfl ?_
            refine gf_MM_38 rfl d_MM_items0_135 h66 ?_
            refine gf_MM_439 rfl d_MM_items0_138 h67 ?_
            refine wm_if_lt (tgt := 157) d_MM_items0_141 rfl (hOM48 _ _).1 (fun c69 => ?_) (fun c69 => ?_)
            · replace h := h.1 c69
              refine wm_aload_n d_MM_items0_157 rfl rfl ?_
              refine gf_MM_38 rfl d_MM_items0_158 h66 ?_
              refine wm_aload_n d_MM_items0_161 rfl rfl ?_
              refine wm_iload_n d_MM_items0_162 rfl rfl ?_
              refine wm_iconst d_MM_items0_163 ?_
              refine wm_iadd d_MM_items0_164 ?_
              refine wm_iload_n d_MM_items0_165 rfl rfl ?_
              refine wm_iconst d_MM_items0_166 ?_
              refine wm_iconst d_MM_items0_167 ?_
              refine cf_MM_441 rfl d_MM_items0_168 h66 (Nat.le_of_ble_eq_true rfl) (Ci.mono h (fun x71 M70 h => ?_))
              obtain ⟨h72, hOM70, h⟩ := h
              obtain ⟨h73, h⟩ := h
              obtain ⟨M74, e75⟩ : ∃ M74, M74 = mUI M70 (mR M48 a0 10) 17 x71 := ⟨_, rfl⟩
              replace h := h M74 e75
              have hOM74 : mOk M74 := by rw [e75]; exact mOk_UI hOM70 h72
              refine pf_MM_439 rfl d_MM_items0_171 h73 h72 e75 ?_
              refine wm_goto (tgt := 183) d_MM_items0_174 rfl ?_
              refine wm_less (L' := [vr a0, vd, vi x45]) ⟨Or.inr rfl, Or.inl rfl, Or.inr rfl, trivial⟩ ?_
              exact h
            · replace h := h.2 c69
              refine wm_aload_n d_MM_items0_144 rfl rfl ?_
              refine wm_iconst d_MM_items0_145 ?_
              refine wm_aload_n d_MM_items0_146 rfl rfl ?_
              refine wm_iload_n d_MM_items0_147 rfl rfl ?_
              refine cf_MM_279 rfl d_MM_items0_148 h66 (Nat.le_of_ble_eq_true rfl) (Ci.mono h (fun x77 M76 h => ?_))
              obtain ⟨h78, hOM76, h⟩ := h
              obtain ⟨h79, h⟩ := h
              refine cf_MM_351 rfl d_MM_items0_151 h79 (Nat.le_of_ble_eq_true rfl) (Cv.mono h (fun M80 h => ?_))
              obtain ⟨hOM80, h⟩ := h
              refine wm_goto (tgt := 183) d_MM_items0_154 rfl ?_
              refine wm_less (L' := [vr a0, vd, vi x45]) ⟨Or.inr rfl, Or.inl rfl, Or.inr rfl, trivial⟩ ?_
              exact h
          · replace h := h.2 c65
            refine wm_tableD (tgt := 177) (off := 111) d_MM_items0_66 h50 (if q8 : 3 ≤ x49 ∧ x49 ≤ 11 then Or.inr ⟨q8.1, q8.2, by
      have q9 : x49 = 5 ∨ x49 = 7 ∨ x49 = 8 ∨ x49 = 9 ∨ x49 = 10 := by omega
      rcases q9 with q9 | q9 | q9 | q9 | q9 <;> (rw [q9]; rfl)⟩ else Or.inl (by omega)) rfl ?_
            obtain ⟨h83, h⟩ := h
            refine wm_aload_n d_MM_items0_177 rfl rfl ?_
            refine wm_iload_n d_MM_items0_178 rfl rfl ?_
            refine wm_iload_n d_MM_items0_179 rfl rfl ?_
            refine cf_MM_444 rfl d_MM_items0_180 h83 (Nat.le_of_ble_eq_true rfl) (Cv.mono h (fun M84 h => ?_))
            obtain ⟨hOM84, h⟩ := h
            refine wm_less (L' := [vr a0, vd, vi x45]) ⟨Or.inr rfl, Or.inl rfl, Or.inr rfl, trivial⟩ ?_
            exact h
theorem k_MM_items0_183 {G : mG} {d : Nat} {a0 : Nat} {l2 : Int} {M : mM} {Q : mM → Prop} (hO : mOk M) (hi_l2 : i32 l2)
    (h : h_MM_items0_38 G d a0 (l2 + 1) M Q) :
    h_MM_items0_183 G d a0 l2 M Q := by
  unfold h_MM_items0_183
  refine wm_iload_n d_MM_items0_183 rfl rfl ?_
  refine wm_iconst d_MM_items0_184 ?_
  refine wm_iadd d_MM_items0_185 ?_
  refine wm_istore_n d_MM_items0_186 rfl (by decide) (L' := [vr a0, vi (l2 + 1), vi l2]) rfl ?_
  refine wm_goto (tgt := 38) d_MM_items0_187 rfl ?_
  refine wm_less (L' := [vr a0, vi (l2 + 1), vd]) ⟨Or.inr rfl, Or.inr rfl, Or.inl rfl, trivial⟩ ?_
  exact h
theorem k_MM_items0_218 {G : mG} {d : Nat} {M : mM} {Q : mM → Prop} (hO : mOk M)
    (h : Q M) :
    h_MM_items0_218 G d  M Q := by
  unfold h_MM_items0_218
  refine wm_return d_MM_items0_218 rfl ?_
  exact ⟨rfl, h⟩
theorem d_MM_ruleItem_0 : decode y_MM_ruleItem.2.1 0 = .ok (.aload_n 0, 1) := by decide +kernel
theorem d_MM_ruleItem_1 : decode y_MM_ruleItem.2.1 1 = .ok (.iload_n 1, 1) := by decide +kernel
theorem d_MM_ruleItem_2 : decode y_MM_ruleItem.2.1 2 = .ok (.invokevirtual 302, 3) := by decide +kernel
theorem d_MM_ruleItem_5 : decode y_MM_ruleItem.2.1 5 = .ok (.bipush 6, 2) := by decide +kernel
theorem d_MM_ruleItem_7 : decode y_MM_ruleItem.2.1 7 = .ok (.if_icmp .ne 7, 3) := by decide +kernel
theorem d_MM_ruleItem_10 : decode y_MM_ruleItem.2.1 10 = .ok (.iconst 1, 1) := by decide +kernel
theorem d_MM_ruleItem_11 : decode y_MM_ruleItem.2.1 11 = .ok (.goto 4, 3) := by decide +kernel
theorem d_MM_ruleItem_14 : decode y_MM_ruleItem.2.1 14 = .ok (.iconst 0, 1) := by decide +kernel
theorem d_MM_ruleItem_15 : decode y_MM_ruleItem.2.1 15 = .ok (.istore_n 3, 1) := by decide +kernel
theorem d_MM_ruleItem_16 : decode y_MM_ruleItem.2.1 16 = .ok (.aload_n 0, 1) := by decide +kernel
theorem d_MM_ruleItem_17 : decode y_MM_ruleItem.2.1 17 = .ok (.getfield 38, 3) := by decide +kernel
theorem d_MM_ruleItem_20 : decode y_MM_ruleItem.2.1 20 = .ok (.getfield 447, 3) := by decide +kernel
theorem d_MM_ruleItem_23 : decode y_MM_ruleItem.2.1 23 = .ok (.bipush 60, 2) := by decide +kernel
theorem d_MM_ruleItem_25 : decode y_MM_ruleItem.2.1 25 = .ok (.if_icmp .ne 14, 3) := by decide +kernel
theorem d_MM_ruleItem_28 : decode y_MM_ruleItem.2.1 28 = .ok (.aload_n 0, 1) := by decide +kernel
theorem d_MM_ruleItem_29 : decode y_MM_ruleItem.2.1 29 = .ok (.iconst 5, 1) := by decide +kernel
theorem d_MM_ruleItem_30 : decode y_MM_ruleItem.2.1 30 = .ok (.aload_n 0, 1) := by decide +kernel
theorem d_MM_ruleItem_31 : decode y_MM_ruleItem.2.1 31 = .ok (.iload_n 1, 1) := by decide +kernel
theorem d_MM_ruleItem_39 : decode y_MM_ruleItem.2.1 39 = .ok (.aload_n 0, 1) := by decide +kernel
theorem d_MM_ruleItem_40 : decode y_MM_ruleItem.2.1 40 = .ok (.iload_n 1, 1) := by decide +kernel
theorem d_MM_ruleItem_41 : decode y_MM_ruleItem.2.1 41 = .ok (.iconst 1, 1) := by decide +kernel
theorem d_MM_ruleItem_42 : decode y_MM_ruleItem.2.1 42 = .ok (.iadd, 1) := by decide +kernel
theorem d_MM_ruleItem_32 : decode y_MM_ruleItem.2.1 32 = .ok (.invokevirtual 279, 3) := by decide +kernel
theorem d_MM_ruleItem_35 : decode y_MM_ruleItem.2.1 35 = .ok (.invokevirtual 351, 3) := by decide +kernel
theorem d_MM_ruleItem_38 : decode y_MM_ruleItem.2.1 38 = .ok (.return_, 1) := by decide +kernel
theorem d_MM_ruleItem_43 : decode y_MM_ruleItem.2.1 43 = .ok (.invokevirtual 354, 3) := by decide +kernel
theorem d_MM_ruleItem_46 : decode y_MM_ruleItem.2.1 46 = .ok (.ifCond .lt 16, 3) := by decide +kernel
theorem d_MM_ruleItem_62 : decode y_MM_ruleItem.2.1 62 = .ok (.aload_n 0, 1) := by decide +kernel
theorem d_MM_ruleItem_63 : decode y_MM_ruleItem.2.1 63 = .ok (.getfield 38, 3) := by decide +kernel
theorem d_MM_ruleItem_66 : decode y_MM_ruleItem.2.1 66 = .ok (.getfield 447, 3) := by decide +kernel
theorem d_MM_ruleItem_69 : decode y_MM_ruleItem.2.1 69 = .ok (.istore 4, 2) := by decide +kernel
theorem d_MM_ruleItem_71 : decode y_MM_ruleItem.2.1 71 = .ok (.aload_n 0, 1) := by decide +kernel
theorem d_MM_ruleItem_72 : decode y_MM_ruleItem.2.1 72 = .ok (.iload_n 1, 1) := by decide +kernel
theorem d_MM_ruleItem_73 : decode y_MM_ruleItem.2.1 73 = .ok (.iconst 3, 1) := by decide +kernel
theorem d_MM_ruleItem_74 : decode y_MM_ruleItem.2.1 74 = .ok (.iadd, 1) := by decide +kernel
theorem d_MM_ruleItem_75 : decode y_MM_ruleItem.2.1 75 = .ok (.iload_n 2, 1) := by decide +kernel
theorem d_MM_ruleItem_49 : decode y_MM_ruleItem.2.1 49 = .ok (.aload_n 0, 1) := by decide +kernel
theorem d_MM_ruleItem_50 : decode y_MM_ruleItem.2.1 50 = .ok (.iconst 2, 1) := by decide +kernel
theorem d_MM_ruleItem_51 : decode y_MM_ruleItem.2.1 51 = .ok (.aload_n 0, 1) := by decide +kernel
theorem d_MM_ruleItem_52 : decode y_MM_ruleItem.2.1 52 = .ok (.iload_n 1, 1) := by decide +kernel
theorem d_MM_ruleItem_53 : decode y_MM_ruleItem.2.1 53 = .ok (.iconst 1, 1) := by decide +kernel
theorem d_MM_ruleItem_54 : decode y_MM_ruleItem.2.1 54 = .ok (.iadd, 1) := by decide +kernel
theorem d_MM_ruleItem_76 : decode y_MM_ruleItem.2.1 76 = .ok (.invokevirtual 363, 3) := by decide +kernel
theorem d_MM_ruleItem_79 : decode y_MM_ruleItem.2.1 79 = .ok (.istore 5, 2) := by decide +kernel
theorem d_MM_ruleItem_81 : decode y_MM_ruleItem.2.1 81 = .ok (.aload_n 0, 1) := by decide +kernel
theorem d_MM_ruleItem_82 : decode y_MM_ruleItem.2.1 82 = .ok (.iload 5, 2) := by decide +kernel
theorem d_MM_ruleItem_84 : decode y_MM_ruleItem.2.1 84 = .ok (.iload_n 3, 1) := by decide +kernel
theorem d_MM_ruleItem_85 : decode y_MM_ruleItem.2.1 85 = .ok (.ifCond .ne 7, 3) := by decide +kernel
theorem d_MM_ruleItem_88 : decode y_MM_ruleItem.2.1 88 = .ok (.iconst 1, 1) := by decide +kernel
theorem d_MM_ruleItem_89 : decode y_MM_ruleItem.2.1 89 = .ok (.goto 4, 3) := by decide +kernel
theorem d_MM_ruleItem_92 : decode y_MM_ruleItem.2.1 92 = .ok (.iconst 0, 1) := by decide +kernel
theorem d_MM_ruleItem_93 : decode y_MM_ruleItem.2.1 93 = .ok (.invokevirtual 366, 3) := by decide +kernel
theorem d_MM_ruleItem_96 : decode y_MM_ruleItem.2.1 96 = .ok (.istore 6, 2) := by decide +kernel
theorem d_MM_ruleItem_98 : decode y_MM_ruleItem.2.1 98 = .ok (.aload_n 0, 1) := by decide +kernel
theorem d_MM_ruleItem_99 : decode y_MM_ruleItem.2.1 99 = .ok (.getfield 267, 3) := by decide +kernel
theorem d_MM_ruleItem_102 : decode y_MM_ruleItem.2.1 102 = .ok (.ifCond .eq 4, 3) := by decide +kernel
theorem d_MM_ruleItem_106 : decode y_MM_ruleItem.2.1 106 = .ok (.aload_n 0, 1) := by decide +kernel
theorem d_MM_ruleItem_107 : decode y_MM_ruleItem.2.1 107 = .ok (.getfield 38, 3) := by decide +kernel
theorem d_MM_ruleItem_110 : decode y_MM_ruleItem.2.1 110 = .ok (.getfield 407, 3) := by decide +kernel
theorem d_MM_ruleItem_113 : decode y_MM_ruleItem.2.1 113 = .ok (.iload 4, 2) := by decide +kernel
theorem d_MM_ruleItem_115 : decode y_MM_ruleItem.2.1 115 = .ok (.iload_n 3, 1) := by decide +kernel
theorem d_MM_ruleItem_116 : decode y_MM_ruleItem.2.1 116 = .ok (.bastore, 1) := by decide +kernel
theorem d_MM_ruleItem_117 : decode y_MM_ruleItem.2.1 117 = .ok (.aload_n 0, 1) := by decide +kernel
theorem d_MM_ruleItem_118 : decode y_MM_ruleItem.2.1 118 = .ok (.getfield 38, 3) := by decide +kernel
theorem d_MM_ruleItem_121 : decode y_MM_ruleItem.2.1 121 = .ok (.getfield 360, 3) := by decide +kernel
theorem d_MM_ruleItem_124 : decode y_MM_ruleItem.2.1 124 = .ok (.iload 4, 2) := by decide +kernel
theorem d_MM_ruleItem_126 : decode y_MM_ruleItem.2.1 126 = .ok (.iload 6, 2) := by decide +kernel
theorem d_MM_ruleItem_128 : decode y_MM_ruleItem.2.1 128 = .ok (.bastore, 1) := by decide +kernel
theorem d_MM_ruleItem_105 : decode y_MM_ruleItem.2.1 105 = .ok (.return_, 1) := by decide +kernel
theorem d_MM_ruleItem_129 : decode y_MM_ruleItem.2.1 129 = .ok (.aload_n 0, 1) := by decide +kernel
theorem d_MM_ruleItem_130 : decode y_MM_ruleItem.2.1 130 = .ok (.getfield 38, 3) := by decide +kernel
theorem d_MM_ruleItem_133 : decode y_MM_ruleItem.2.1 133 = .ok (.getfield 412, 3) := by decide +kernel
theorem d_MM_ruleItem_136 : decode y_MM_ruleItem.2.1 136 = .ok (.iload 4, 2) := by decide +kernel
theorem d_MM_ruleItem_138 : decode y_MM_ruleItem.2.1 138 = .ok (.iload 5, 2) := by decide +kernel
theorem d_MM_ruleItem_140 : decode y_MM_ruleItem.2.1 140 = .ok (.iastore, 1) := by decide +kernel
theorem d_MM_ruleItem_141 : decode y_MM_ruleItem.2.1 141 = .ok (.iload_n 3, 1) := by decide +kernel
theorem d_MM_ruleItem_142 : decode y_MM_ruleItem.2.1 142 = .ok (.ifCond .ne 45, 3) := by decide +kernel
theorem d_MM_ruleItem_145 : decode y_MM_ruleItem.2.1 145 = .ok (.aload_n 0, 1) := by decide +kernel
theorem d_MM_ruleItem_146 : decode y_MM_ruleItem.2.1 146 = .ok (.aload_n 0, 1) := by decide +kernel
theorem d_MM_ruleItem_147 : decode y_MM_ruleItem.2.1 147 = .ok (.getfield 38, 3) := by decide +kernel
theorem d_MM_ruleItem_150 : decode y_MM_ruleItem.2.1 150 = .ok (.iload 5, 2) := by decide +kernel
theorem d_MM_ruleItem_152 : decode y_MM_ruleItem.2.1 152 = .ok (.invokevirtual 450, 3) := by decide +kernel
theorem d_MM_ruleItem_155 : decode y_MM_ruleItem.2.1 155 = .ok (.aload_n 0, 1) := by decide +kernel
theorem d_MM_ruleItem_156 : decode y_MM_ruleItem.2.1 156 = .ok (.getfield 38, 3) := by decide +kernel
theorem d_MM_ruleItem_159 : decode y_MM_ruleItem.2.1 159 = .ok (.getfield 410, 3) := by decide +kernel
theorem d_MM_ruleItem_162 : decode y_MM_ruleItem.2.1 162 = .ok (.iload 4, 2) := by decide +kernel
theorem d_MM_ruleItem_164 : decode y_MM_ruleItem.2.1 164 = .ok (.aload_n 0, 1) := by decide +kernel
theorem d_MM_ruleItem_165 : decode y_MM_ruleItem.2.1 165 = .ok (.getfield 63, 3) := by decide +kernel
theorem d_MM_ruleItem_168 : decode y_MM_ruleItem.2.1 168 = .ok (.iconst 0, 1) := by decide +kernel
theorem d_MM_ruleItem_169 : decode y_MM_ruleItem.2.1 169 = .ok (.laload, 1) := by decide +kernel
theorem d_MM_ruleItem_170 : decode y_MM_ruleItem.2.1 170 = .ok (.lastore, 1) := by decide +kernel
theorem d_MM_ruleItem_171 : decode y_MM_ruleItem.2.1 171 = .ok (.aload_n 0, 1) := by decide +kernel
theorem d_MM_ruleItem_172 : decode y_MM_ruleItem.2.1 172 = .ok (.getfield 38, 3) := by decide +kernel
theorem d_MM_ruleItem_175 : decode y_MM_ruleItem.2.1 175 = .ok (.getfield 411, 3) := by decide +kernel
theorem d_MM_ruleItem_178 : decode y_MM_ruleItem.2.1 178 = .ok (.iload 4, 2) := by decide +kernel
theorem d_MM_ruleItem_180 : decode y_MM_ruleItem.2.1 180 = .ok (.aload_n 0, 1) := by decide +kernel
theorem d_MM_ruleItem_181 : decode y_MM_ruleItem.2.1 181 = .ok (.getfield 67, 3) := by decide +kernel
theorem d_MM_ruleItem_184 : decode y_MM_ruleItem.2.1 184 = .ok (.iconst 0, 1) := by decide +kernel
theorem d_MM_ruleItem_185 : decode y_MM_ruleItem.2.1 185 = .ok (.laload, 1) := by decide +kernel
theorem d_MM_ruleItem_186 : decode y_MM_ruleItem.2.1 186 = .ok (.lastore, 1) := by decide +kernel
theorem d_MM_ruleItem_55 : decode y_MM_ruleItem.2.1 55 = .ok (.invokevirtual 279, 3) := by decide +kernel
theorem d_MM_ruleItem_58 : decode y_MM_ruleItem.2.1 58 = .ok (.invokevirtual 351, 3) := by decide +kernel
theorem d_MM_ruleItem_61 : decode y_MM_ruleItem.2.1 61 = .ok (.return_, 1) := by decide +kernel
theorem d_MM_ruleItem_187 : decode y_MM_ruleItem.2.1 187 = .ok (.aload_n 0, 1) := by decide +kernel
theorem d_MM_ruleItem_188 : decode y_MM_ruleItem.2.1 188 = .ok (.getfield 38, 3) := by decide +kernel
theorem d_MM_ruleItem_191 : decode y_MM_ruleItem.2.1 191 = .ok (.iload 4, 2) := by decide +kernel
theorem d_MM_ruleItem_193 : decode y_MM_ruleItem.2.1 193 = .ok (.iconst 1, 1) := by decide +kernel
theorem d_MM_ruleItem_194 : decode y_MM_ruleItem.2.1 194 = .ok (.iadd, 1) := by decide +kernel
theorem d_MM_ruleItem_195 : decode y_MM_ruleItem.2.1 195 = .ok (.putfield 447, 3) := by decide +kernel
theorem d_MM_ruleItem_198 : decode y_MM_ruleItem.2.1 198 = .ok (.aload_n 0, 1) := by decide +kernel
theorem d_MM_ruleItem_199 : decode y_MM_ruleItem.2.1 199 = .ok (.iload_n 1, 1) := by decide +kernel
theorem d_MM_ruleItem_200 : decode y_MM_ruleItem.2.1 200 = .ok (.iconst 1, 1) := by decide +kernel
theorem d_MM_ruleItem_201 : decode y_MM_ruleItem.2.1 201 = .ok (.iadd, 1) := by decide +kernel
theorem d_MM_ruleItem_202 : decode y_MM_ruleItem.2.1 202 = .ok (.iload_n 3, 1) := by decide +kernel
theorem d_MM_ruleItem_203 : decode y_MM_ruleItem.2.1 203 = .ok (.ifCond .eq 7, 3) := by decide +kernel
theorem d_MM_ruleItem_210 : decode y_MM_ruleItem.2.1 210 = .ok (.iconst 1, 1) := by decide +kernel
theorem d_MM_ruleItem_206 : decode y_MM_ruleItem.2.1 206 = .ok (.iconst 2, 1) := by decide +kernel
theorem d_MM_ruleItem_207 : decode y_MM_ruleItem.2.1 207 = .ok (.goto 4, 3) := by decide +kernel
theorem d_MM_ruleItem_211 : decode y_MM_ruleItem.2.1 211 = .ok (.iload 4, 2) := by decide +kernel
theorem d_MM_ruleItem_213 : decode y_MM_ruleItem.2.1 213 = .ok (.invokevirtual 453, 3) := by decide +kernel
theorem d_MM_ruleItem_216 : decode y_MM_ruleItem.2.1 216 = .ok (.return_, 1) := by decide +kernel
def h_MM_ruleItem_187 (G : mG) (d : Nat) (a0 : Nat) (l1 : Int) (l3 : Int) (l4 : Int) (M : mM) (Q : mM → Prop) : Prop := mWm G y_MM_ruleItem (d + 1) 187 [vr a0, vi l1, vd, vi l3, vi l4, vd, vd] [] M (fun r9 M9 => r9 = none ∧ Q M9)
theorem k_MM_ruleItem {G : mG} {d : Nat} {a0 : Nat} {l1 : Int} {l2 : Int} {M : mM} {Q : mM → Prop} (hO : mOk M) (hi_l1 : i32 l1) (hi_l2 : i32 l2)
    (h : mK M a0 = 14 ∧ Ci G y_MM_word1 d [vr a0, vi l1] M (fun x3 M2 => i32 x3 ∧ mOk M2 ∧ (∀ v6 : Int, v6 = (if (x3 = 6) then 1 else 0) → mK M2 a0 = 14 ∧ mK M2 (mR M2 a0 10) = 16 ∧ ((mI M2 (mR M2 a0 10) 6 = 60) → (Ci G y_MM_place0 d [vr a0, vi l1] M2 (fun x16 M15 => i32 x16 ∧ mOk M15 ∧ (mK M15 a0 = 14 ∧ Cv G y_MM_stop d [vr a0, vi 5, vi x16] M15 (fun M19 => mOk M19 ∧ (Q M19)))))) ∧ (¬ (mI M2 (mR M2 a0 10) 6 = 60) → (Ci G y_MM_find d [vr a0, vi (l1 + 1)] M2 (fun x23 M22 => i32 x23 ∧ mOk M22 ∧ (((x23 < 0) → (mK M22 a0 = 14 ∧ mK M22 (mR M22 a0 10) = 16 ∧ Ci G y_MM_tree d [vr a0, vi (l1 + 3), vi l2] M22 (fun x30 M29 => i32 x30 ∧ mOk M29 ∧ (∀ v33 : Int, v33 = (if (v6 = 0) then 1 else 0) → mK M29 a0 = 14 ∧ Ci G y_MM_look d [vr a0, vi x30, vi v33] M29 (fun x40 M39 => i32 x40 ∧ mOk M39 ∧ (mK M39 a0 = 14 ∧ ((mI M39 a0 16 = 0) → (mK M39 (mR M39 a0 10) = 16 ∧ mK M39 (mR M39 (mR M39 a0 10) 7) = 31 ∧ ((0 : Int) ≤ mI M22 (mR M22 a0 10) 6 ∧ mI M22 (mR M22 a0 10) 6 < (mN M39 (mR M39 (mR M39 a0 10) 7) : Int)) ∧ ∀ M48, M48 = mUI M39 (mR M39 (mR M39 a0 10) 7) (Int.toNat (mI M22 (mR M22 a0 10) 6)) v6 → mK M48 (mR M48 a0 10) = 16 ∧ mK M48 (mR M48 (mR M48 a0 10) 8) = 31 ∧ ((0 : Int) ≤ mI M22 (mR M22 a0 10) 6 ∧ mI M22 (mR M22 a0 10) 6 < (mN M48 (mR M48 (mR M48 a0 10) 8) : Int)) ∧ (x40 = 0 ∨ x40 = 1) ∧ ∀ M54, M54 = mUI M48 (mR M48 (mR M48 a0 10) 8) (Int.toNat (mI M22 (mR M22 a0 10) 6)) x40 → mK M54 (mR M54 a0 10) = 16 ∧ mK M54 (mR M54 (mR M54 a0 10) 9) = 30 ∧ ((0 : Int) ≤ mI M22 (mR M22 a0 10) 6 ∧ mI M22 (mR M22 a0 10) 6 < (mN M54 (mR M54 (mR M54 a0 10) 9) : Int)) ∧ ∀ M59, M59 = mUI M54 (mR M54 (mR M54 a0 10) 9) (Int.toNat (mI M22 (mR M22 a0 10) 6)) x30 → ((v6 = 0) → (Cv G y_MM_workOut d [vr a0, vr (mR M59 a0 10), vi x30] M59 (fun M63 => mOk M63 ∧ (mK M63 a0 = 14 ∧ mK M63 (mR M63 a0 10) = 16 ∧ mK M63 (mR M63 a0 21) = 33 ∧ ((0 : Int) ≤ 0 ∧ 0 < (mN M63 (mR M63 a0 21) : Int)) ∧ mK M63 (mR M63 (mR M63 a0 10) 10) = 33 ∧ ((0 : Int) ≤ mI M22 (mR M22 a0 10) 6 ∧ mI M22 (mR M22 a0 10) 6 < (mN M63 (mR M63 (mR M63 a0 10) 10) : Int)) ∧ ∀ M72, M72 = mUL M63 (mR M63 (mR M63 a0 10) 10) (Int.toNat (mI M22 (mR M22 a0 10) 6)) (mL M63 (mR M63 a0 21) 0) → mK M72 (mR M72 a0 10) = 16 ∧ mK M72 (mR M72 a0 22) = 33 ∧ ((0 : Int) ≤ 0 ∧ 0 < (mN M72 (mR M72 a0 22) : Int)) ∧ mK M72 (mR M72 (mR M72 a0 10) 11) = 33 ∧ ((0 : Int) ≤ mI M22 (mR M22 a0 10) 6 ∧ mI M22 (mR M22 a0 10) 6 < (mN M72 (mR M72 (mR M72 a0 10) 11) : Int)) ∧ ∀ M79, M79 = mUL M72 (mR M72 (mR M72 a0 10) 11) (Int.toNat (mI M22 (mR M22 a0 10) 6)) (mL M72 (mR M72 a0 22) 0) → h_MM_ruleItem_187 G d a0 l1 v6 (mI M22 (mR M22 a0 10) 6) M79 Q)))) ∧ (¬ (v6 = 0) → (h_MM_ruleItem_187 G d a0 l1 v6 (mI M22 (mR M22 a0 10) 6) M59 Q)))) ∧ (¬ (mI M39 a0 16 = 0) → (Q M39)))))))) ∧ (¬ (x23 < 0) → (mK M22 a0 = 14 ∧ Ci G y_MM_place0 d [vr a0, vi (l1 + 1)] M22 (fun x84 M83 => i32 x84 ∧ mOk M83 ∧ (mK M83 a0 = 14 ∧ Cv G y_MM_stop d [vr a0, vi 2, vi x84] M83 (fun M87 => mOk M87 ∧ (Q M87))))))))))))) :
    Cv G y_MM_ruleItem (d + 1) [vr a0, vi l1, vi l2] M Q := by
  refine wm_open (y := y_MM_ruleItem) rfl (Nat.le_of_ble_eq_true rfl) (L := [vr a0, vi l1, vi l2, vd, vd, vd, vd]) rfl ?_
  obtain ⟨h1, h⟩ := h
  refine wm_aload_n d_MM_ruleItem_0 rfl rfl ?_
  refine wm_iload_n d_MM_ruleItem_1 rfl rfl ?_
  refine cf_MM_302 rfl d_MM_ruleItem_2 h1 (Nat.le_of_ble_eq_true rfl) (Ci.mono h (fun x3 M2 h => ?_))
  obtain ⟨h4, hOM2, h⟩ := h
  refine wm_bipush d_MM_ruleItem_5 (by decide) ?_
  have hJ : ∀ v6 : Int, v6 = (if (x3 = 6) then 1 else 0) → mWm G y_MM_ruleItem (d + 1) 15 [vr a0, vi l1, vi l2, vd, vd, vd, vd] [vi v6] M2 (fun r9 M9 => r9 = none ∧ Q M9) := by
    intro v6 e8
    have h := h v6 e8
    have h9 : i32 v6 := by rw [e8]; (repeat' split) <;> first | exact ⟨by decide, by decide⟩ | exact ⟨by decide, by decide⟩
    have h10 : (v6 = 0 ∨ v6 = 1) := by rw [e8]; (repeat' split) <;> decide
    obtain ⟨h11, h⟩ := h
    obtain ⟨h12, h⟩ := h
    refine wm_istore_n d_MM_ruleItem_15 rfl (by decide) (L' := [vr a0, vi l1, vi l2, vi v6, vd, vd, vd]) rfl ?_
    refine wm_aload_n d_MM_ruleItem_16 rfl rfl ?_
    refine gf_MM_38 rfl d_MM_ruleItem_17 h11 ?_
    refine gf_MM_447 rfl d_MM_ruleItem_20 h12 ?_
    refine wm_bipush d_MM_ruleItem_23 (by decide) ?_
    refine wm_icmp_ne (tgt := 39) d_MM_ruleItem_25 rfl (hOM2 _ _).1 ⟨by decide, by decide⟩ (fun c14 => ?_) (fun c14 => ?_)
    · replace h := h.2 c14
      refine wm_aload_n d_MM_ruleItem_39 rfl rfl ?_
      refine wm_iload_n d_MM_ruleItem_40 rfl rfl ?_
      refine wm_iconst d_MM_ruleItem_41 ?_
      refine wm_iadd d_MM_ruleItem_42 ?_
      refine cf_MM_354 rfl d_MM_ruleItem_43 h11 (Nat.le_of_ble_eq_true rfl) (Ci.mono h (fun x23 M22 h => ?_))
      obtain ⟨h24, hOM22, h⟩ := h
      refine wm_if_lt (tgt := 62) d_MM_ruleItem_46 rfl h24 (fun c26 => ?_) (fun c26 => ?_)
      · replace h := h.1 c26
        obtain ⟨h27, h⟩ := h
        obtain ⟨h28, h⟩ := h
        refine wm_aload_n d_MM_ruleItem_62 rfl rfl ?_
        refine gf_MM_38 rfl d_MM_ruleItem_63 h27 ?_
        refine gf_MM_447 rfl d_MM_ruleItem_66 h28 ?_
        refine wm_istore d_MM_ruleItem_69 (by decide) (L' := [vr a0, vi l1, vi l2, vi v6, vi (mI M22 (mR M22 a0 10) 6), vd, vd]) rfl ?_
        refine wm_aload_n d_MM_ruleItem_71 rfl rfl ?_
        refine wm_iload_n d_MM_ruleItem_72 rfl rfl ?_
        refine wm_iconst d_MM_ruleItem_73 ?_
        refine wm_iadd d_MM_ruleItem_74 ?_
        refine wm_iload_n d_MM_ruleItem_75 rfl rfl ?_
        refine cf_MM_363 rfl d_MM_ruleItem_76 h27 (Nat.le_of_ble_eq_true rfl) (Ci.mono h (fun x30 M29 h => ?_))
        obtain ⟨h31, hOM29, h⟩ := h
        refine wm_istore d_MM_ruleItem_79 (by decide) (L' := [vr a0, vi l1, vi l2, vi v6, vi (mI M22 (mR M22 a0 10) 6), vi x30, vd]) rfl ?_
        refine wm_aload_n d_MM_ruleItem_81 rfl rfl ?_
        refine wm_iload d_MM_ruleItem_82 rfl ?_
        refine wm_iload_n d_MM_ruleItem_84 rfl rfl ?_
        have hJ : ∀ v33 : Int, v33 = (if (v6 = 0) then 1 else 0) → mWm G y_MM_ruleItem (d + 1) 93 [vr a0, vi l1, vd, vi v6, vi (mI M22 (mR M22 a0 10) 6), vi x30, vd] [vi v33, vi x30, vr a0] M29 (fun r9 M9 => r9 = none ∧ Q M9) := by
          intro v33 e35
          have h := h v33 e35
          have h36 : i32 v33 := by rw [e35]; (repeat' split) <;> first | exact ⟨by decide, by decide⟩ | exact ⟨by decide, by decide⟩
          have h37 : (v33 = 0 ∨ v33 = 1) := by rw [e35]; (repeat' split) <;> decide
          obtain ⟨h38, h⟩ := h
          refine cf_MM_366 rfl d_MM_ruleItem_93 h38 (Nat.le_of_ble_eq_true rfl) (Ci.mono h (fun x40 M39 h => ?_))
          obtain ⟨h41, hOM39, h⟩ := h
          obtain ⟨h42, h⟩ := h
          refine wm_istore d_MM_ruleItem_96 (by decide) (L' := [vr a0, vi l1, vd, vi v6, vi (mI M22 (mR M22 a0 10) 6), vi x30, vi x40]) rfl ?_
          refine wm_aload_n d_MM_ruleItem_98 rfl rfl ?_
          refine gf_MM_267 rfl d_MM_ruleItem_99 h42 ?_
          refine wm_if_eq (tgt := 106) d_MM_ruleItem_102 rfl (hOM39 _ _).1 (fun c44 => ?_) (fun c44 => ?_)
          · replace h := h.1 c44
            obtain ⟨h45, h⟩ := h
            obtain ⟨h46, h⟩ := h
            obtain ⟨h47, h⟩ := h
            obtain ⟨M48, e49⟩ : ∃ M48, M48 = mUI M39 (mR M39 (mR M39 a0 10) 7) (Int.toNat (mI M22 (mR M22 a0 10) 6)) v6 := ⟨_, rfl⟩
            replace h := h M48 e49
            obtain ⟨h50, h⟩ := h
            obtain ⟨h51, h⟩ := h
            obtain ⟨h52, h⟩ := h
            obtain ⟨h53, h⟩ := h
            obtain ⟨M54, e55⟩ : ∃ M54, M54 = mUI M48 (mR M48 (mR M48 a0 10) 8) (Int.toNat (mI M22 (mR M22 a0 10) 6)) x40 := ⟨_, rfl⟩
            replace h := h M54 e55
            obtain ⟨h56, h⟩ := h
            obtain ⟨h57, h⟩ := h
            obtain ⟨h58, h⟩ := h
            obtain ⟨M59, e60⟩ : ∃ M59, M59 = mUI M54 (mR M54 (mR M54 a0 10) 9) (Int.toNat (mI M22 (mR M22 a0 10) 6)) x30 := ⟨_, rfl⟩
            replace h := h M59 e60
            refine wm_aload_n d_MM_ruleItem_106 rfl rfl ?_
            refine gf_MM_38 rfl d_MM_ruleItem_107 h42 ?_
            refine gf_MM_407 rfl d_MM_ruleItem_110 h45 ?_
            refine wm_iload d_MM_ruleItem_113 rfl ?_
            refine wm_iload_n d_MM_ruleItem_115 rfl rfl ?_
            have hOM48 : mOk M48 := by rw [e49]; exact mOk_UI hOM39 (m_b32 h10)
            refine wm_zastE d_MM_ruleItem_116 h46 h47 h10 e49 ?_
            refine wm_aload_n d_MM_ruleItem_117 rfl rfl ?_
            refine gf_MM_38 rfl d_MM_ruleItem_118 (by rw [e49]; exact h42) ?_
            refine gf_MM_360 rfl d_MM_ruleItem_121 h50 ?_
            refine wm_iload d_MM_ruleItem_124 rfl ?_
            refine wm_iload d_MM_ruleItem_126 rfl ?_
            have hOM54 : mOk M54 := by rw [e55]; exact mOk_UI hOM48 (m_b32 h53)
            refine wm_zastE d_MM_ruleItem_128 h51 h52 h53 e55 ?_
            refine wm_aload_n d_MM_ruleItem_129 rfl rfl ?_
            refine gf_MM_38 rfl d_MM_ruleItem_130 (by rw [e55, e49]; exact h42) ?_
            refine gf_MM_412 rfl d_MM_ruleItem_133 h56 ?_
            refine wm_iload d_MM_ruleItem_136 rfl ?_
            refine wm_iload d_MM_ruleItem_138 rfl ?_
            have hOM59 : mOk M59 := by rw [e60]; exact mOk_UI hOM54 h31
            refine wm_iastE d_MM_ruleItem_140 h57 h58 h31 e60 ?_
            refine wm_iload_n d_MM_ruleItem_141 rfl rfl ?_
            refine wm_if_ne (tgt := 187) d_MM_ruleItem_142 rfl h9 (fun c62 => ?_) (fun c62 => ?_)
            · replace h := h.2 c62
              refine wm_less (L' := [vr a0, vi l1, vd, vi v6, vi (mI M22 (mR M22 a0 10) 6), vd, vd]) ⟨Or.inr rfl, Or.inr rfl, Or.inl rfl, Or.inr rfl, Or.inr rfl, Or.inl rfl, Or.inl rfl, trivial⟩ ?_
              exact h
            · replace c62 := Classical.not_not.mp c62
              replace h := h.1 c62
              refine wm_aload_n d_MM_ruleItem_145 rfl rfl ?_
              refine wm_aload_n d_MM_ruleItem_146 rfl rfl ?_
              refine gf_MM_38 rfl d_MM_ruleItem_147 (by rw [e60, e55, e49]; exact h42) ?_
              refine wm_iload d_MM_ruleItem_150 rfl ?_
              refine cf_MM_450 rfl d_MM_ruleItem_152 (by rw [e60, e55, e49]; exact h42) (Nat.le_of_ble_eq_true rfl) (Cv.mono h (fun M63 h => ?_))
              obtain ⟨hOM63, h⟩ := h
              obtain ⟨h66, h⟩ := h
              obtain ⟨h67, h⟩ := h
              obtain ⟨h68, h⟩ := h
              obtain ⟨h69, h⟩ := h
              obtain ⟨h70, h⟩ := h
              obtain ⟨h71, h⟩ := h
              obtain ⟨M72, e73⟩ : ∃ M72, M72 = mUL M63 (mR M63 (mR M63 a0 10) 10) (Int.toNat (mI M22 (mR M22 a0 10) 6)) (mL M63 (mR M63 a0 21) 0) := ⟨_, rfl⟩
              replace h := h M72 e73
              obtain ⟨h74, h⟩ := h
              obtain ⟨h75, h⟩ := h
              obtain ⟨h76, h⟩ := h
              obtain ⟨h77, h⟩ := h
              obtain ⟨h78, h⟩ := h
              obtain ⟨M79, e80⟩ : ∃ M79, M79 = mUL M72 (mR M72 (mR M72 a0 10) 11) (Int.toNat (mI M22 (mR M22 a0 10) 6)) (mL M72 (mR M72 a0 22) 0) := ⟨_, rfl⟩
              replace h := h M79 e80
              refine wm_aload_n d_MM_ruleItem_155 rfl rfl ?_
              refine gf_MM_38 rfl d_MM_ruleItem_156 h66 ?_
              refine gf_MM_410 rfl d_MM_ruleItem_159 h67 ?_
              refine wm_iload d_MM_ruleItem_162 rfl ?_
              refine wm_aload_n d_MM_ruleItem_164 rfl rfl ?_
              refine gf_MM_63 rfl d_MM_ruleItem_165 h66 ?_
              refine wm_iconst d_MM_ruleItem_168 ?_
              refine wm_lald d_MM_ruleItem_169 h68 h69 ?_
              have hOM72 : mOk M72 := by rw [e73]; exact mOk_UL hOM63 (hOM63 _ _).2
              refine wm_lastE d_MM_ruleItem_170 h70 h71 (hOM63 _ _).2 e73 ?_
              refine wm_aload_n d_MM_ruleItem_171 rfl rfl ?_
              refine gf_MM_38 rfl d_MM_ruleItem_172 (by rw [e73]; exact h66) ?_
              refine gf_MM_411 rfl d_MM_ruleItem_175 h74 ?_
              refine wm_iload d_MM_ruleItem_178 rfl ?_
              refine wm_aload_n d_MM_ruleItem_180 rfl rfl ?_
              refine gf_MM_67 rfl d_MM_ruleItem_181 (by rw [e73]; exact h66) ?_
              refine wm_iconst d_MM_ruleItem_184 ?_
              refine wm_lald d_MM_ruleItem_185 h75 h76 ?_
              have hOM79 : mOk M79 := by rw [e80]; exact mOk_UL hOM72 (hOM72 _ _).2
              refine wm_lastE d_MM_ruleItem_186 h77 h78 (hOM72 _ _).2 e80 ?_
              refine wm_less (L' := [vr a0, vi l1, vd, vi v6, vi (mI M22 (mR M22 a0 10) 6), vd, vd]) ⟨Or.inr rfl, Or.inr rfl, Or.inl rfl, Or.inr rfl, Or.inr rfl, Or.inl rfl, Or.inl rfl, trivial⟩ ?_
              exact h
          · replace h := h.2 c44
            refine wm_return d_MM_ruleItem_105 rfl ?_
            exact ⟨rfl, h⟩
        clear h
        refine wm_if_ne (tgt := 92) d_MM_ruleItem_85 rfl h9 (fun c32 => ?_) (fun c32 => ?_)
        · refine wm_iconst d_MM_ruleItem_92 ?_
          refine wm_less (L' := [vr a0, vi l1, vd, vi v6, vi (mI M22 (mR M22 a0 10) 6), vi x30, vd]) ⟨Or.inr rfl, Or.inr rfl, Or.inl rfl, Or.inr rfl, Or.inr rfl, Or.inr rfl, Or.inl rfl, trivial⟩ ?_
          exact hJ 0 (if_neg c32).symm
        · replace c32 := Classical.not_not.mp c32
          refine wm_iconst d_MM_ruleItem_88 ?_
          refine wm_goto (tgt := 93) d_MM_ruleItem_89 rfl ?_
          refine wm_less (L' := [vr a0, vi l1, vd, vi v6, vi (mI M22 (mR M22 a0 10) 6), vi x30, vd]) ⟨Or.inr rfl, Or.inr rfl, Or.inl rfl, Or.inr rfl, Or.inr rfl, Or.inr rfl, Or.inl rfl, trivial⟩ ?_
          exact hJ 1 (if_pos c32).symm
      · replace h := h.2 c26
        obtain ⟨h82, h⟩ := h
        refine wm_aload_n d_MM_ruleItem_49 rfl rfl ?_
        refine wm_iconst d_MM_ruleItem_50 ?_
        refine wm_aload_n d_MM_ruleItem_51 rfl rfl ?_
        refine wm_iload_n d_MM_ruleItem_52 rfl rfl ?_
        refine wm_iconst d_MM_ruleItem_53 ?_
        refine wm_iadd d_MM_ruleItem_54 ?_
        refine cf_MM_279 rfl d_MM_ruleItem_55 h82 (Nat.le_of_ble_eq_true rfl) (Ci.mono h (fun x84 M83 h => ?_))
        obtain ⟨h85, hOM83, h⟩ := h
        obtain ⟨h86, h⟩ := h
        refine cf_MM_351 rfl d_MM_ruleItem_58 h86 (Nat.le_of_ble_eq_true rfl) (Cv.mono h (fun M87 h => ?_))
        obtain ⟨hOM87, h⟩ := h
        refine wm_return d_MM_ruleItem_61 rfl ?_
        exact ⟨rfl, h⟩
    · replace c14 := Classical.not_not.mp c14
      replace h := h.1 c14
      refine wm_aload_n d_MM_ruleItem_28 rfl rfl ?_
      refine wm_iconst d_MM_ruleItem_29 ?_
      refine wm_aload_n d_MM_ruleItem_30 rfl rfl ?_
      refine wm_iload_n d_MM_ruleItem_31 rfl rfl ?_
      refine cf_MM_279 rfl d_MM_ruleItem_32 h11 (Nat.le_of_ble_eq_true rfl) (Ci.mono h (fun x16 M15 h => ?_))
      obtain ⟨h17, hOM15, h⟩ := h
      obtain ⟨h18, h⟩ := h
      refine cf_MM_351 rfl d_MM_ruleItem_35 h18 (Nat.le_of_ble_eq_true rfl) (Cv.mono h (fun M19 h => ?_))
      obtain ⟨hOM19, h⟩ := h
      refine wm_return d_MM_ruleItem_38 rfl ?_
      exact ⟨rfl, h⟩
  clear h
  refine wm_icmp_ne (tgt := 14) d_MM_ruleItem_7 rfl h4 ⟨by decide, by decide⟩ (fun c5 => ?_) (fun c5 => ?_)
  · refine wm_iconst d_MM_ruleItem_14 ?_
    exact hJ 0 (if_neg c5).symm
  · replace c5 := Classical.not_not.mp c5
    refine wm_iconst d_MM_ruleItem_10 ?_
    refine wm_goto (tgt := 15) d_MM_ruleItem_11 rfl ?_
    exact hJ 1 (if_pos c5).symm
theorem k_MM_ruleItem_187 {G : mG} {d : Nat} {a0 : Nat} {l1 : Int} {l3 : Int} {l4 : Int} {M : mM} {Q : mM → Prop} (hO : mOk M) (hi_l1 : i32 l1) (hi_l3 : i32 l3) (hi_l4 : i32 l4)
    (h : mK M a0 = 14 ∧ mK M (mR M a0 10) = 16 ∧ i32 (l4 + 1) ∧ ∀ M94, M94 = mUI M (mR M a0 10) 6 (l4 + 1) → ∀ v97 : Int, v97 = (if (l3 = 0) then 1 else 2) → Cv G y_MM_know d [vr a0, vi (l1 + 1), vi v97, vi l4] M94 (fun M101 => mOk M101 ∧ (Q M101))) :
    h_MM_ruleItem_187 G d a0 l1 l3 l4 M Q := by
  unfold h_MM_ruleItem_187
  obtain ⟨h91, h⟩ := h
  obtain ⟨h92, h⟩ := h
  obtain ⟨h93, h⟩ := h
  obtain ⟨M94, e95⟩ : ∃ M94, M94 = mUI M (mR M a0 10) 6 (l4 + 1) := ⟨_, rfl⟩
  replace h := h M94 e95
  refine wm_aload_n d_MM_ruleItem_187 rfl rfl ?_
  refine gf_MM_38 rfl d_MM_ruleItem_188 h91 ?_
  refine wm_iload d_MM_ruleItem_191 rfl ?_
  refine wm_iconst d_MM_ruleItem_193 ?_
  refine wm_iadd d_MM_ruleItem_194 ?_
  have hOM94 : mOk M94 := by rw [e95]; exact mOk_UI hO h93
  refine pf_MM_447 rfl d_MM_ruleItem_195 h92 h93 e95 ?_
  refine wm_aload_n d_MM_ruleItem_198 rfl rfl ?_
  refine wm_iload_n d_MM_ruleItem_199 rfl rfl ?_
  refine wm_iconst d_MM_ruleItem_200 ?_
  refine wm_iadd d_MM_ruleItem_201 ?_
  refine wm_iload_n d_MM_ruleItem_202 rfl rfl ?_
  have hJ : ∀ v97 : Int, v97 = (if (l3 = 0) then 1 else 2) → mWm G y_MM_ruleItem (d + 1) 211 [vd, vd, vd, vd, vi l4, vd, vd] [vi v97, vi (l1 + 1), vr a0] M94 (fun r9 M9 => r9 = none ∧ Q M9) := by
    intro v97 e99
    have h := h v97 e99
    have h100 : i32 v97 := by rw [e99]; (repeat' split) <;> first | exact ⟨by decide, by decide⟩ | exact ⟨by decide, by decide⟩
    refine wm_iload d_MM_ruleItem_211 rfl ?_
    refine cf_MM_453 rfl d_MM_ruleItem_213 (by rw [e95]; exact h91) (Nat.le_of_ble_eq_true rfl) (Cv.mono h (fun M101 h => ?_))
    obtain ⟨hOM101, h⟩ := h
    refine wm_return d_MM_ruleItem_216 rfl ?_
    exact ⟨rfl, h⟩
  clear h
  refine wm_if_eq (tgt := 210) d_MM_ruleItem_203 rfl hi_l3 (fun c96 => ?_) (fun c96 => ?_)
  · refine wm_iconst d_MM_ruleItem_210 ?_
    refine wm_less (L' := [vd, vd, vd, vd, vi l4, vd, vd]) ⟨Or.inl rfl, Or.inl rfl, Or.inl rfl, Or.inl rfl, Or.inr rfl, Or.inl rfl, Or.inl rfl, trivial⟩ ?_
    exact hJ 1 (if_pos c96).symm
  · refine wm_iconst d_MM_ruleItem_206 ?_
    refine wm_goto (tgt := 211) d_MM_ruleItem_207 rfl ?_
    refine wm_less (L' := [vd, vd, vd, vd, vi l4, vd, vd]) ⟨Or.inl rfl, Or.inl rfl, Or.inl rfl, Or.inl rfl, Or.inr rfl, Or.inl rfl, Or.inl rfl, trivial⟩ ?_
    exact hJ 2 (if_neg c96).symm
theorem d_MM_varItem_0 : decode y_MM_varItem.2.1 0 = .ok (.aload_n 0, 1) := by decide +kernel
theorem d_MM_varItem_1 : decode y_MM_varItem.2.1 1 = .ok (.getfield 38, 3) := by decide +kernel
theorem d_MM_varItem_4 : decode y_MM_varItem.2.1 4 = .ok (.getfield 456, 3) := by decide +kernel
theorem d_MM_varItem_7 : decode y_MM_varItem.2.1 7 = .ok (.bipush 12, 2) := by decide +kernel
theorem d_MM_varItem_9 : decode y_MM_varItem.2.1 9 = .ok (.if_icmp .ne 14, 3) := by decide +kernel
theorem d_MM_varItem_12 : decode y_MM_varItem.2.1 12 = .ok (.aload_n 0, 1) := by decide +kernel
theorem d_MM_varItem_13 : decode y_MM_varItem.2.1 13 = .ok (.iconst 5, 1) := by decide +kernel
theorem d_MM_varItem_14 : decode y_MM_varItem.2.1 14 = .ok (.aload_n 0, 1) := by decide +kernel
theorem d_MM_varItem_15 : decode y_MM_varItem.2.1 15 = .ok (.iload_n 1, 1) := by decide +kernel
theorem d_MM_varItem_23 : decode y_MM_varItem.2.1 23 = .ok (.aload_n 0, 1) := by decide +kernel
theorem d_MM_varItem_24 : decode y_MM_varItem.2.1 24 = .ok (.iload_n 1, 1) := by decide +kernel
theorem d_MM_varItem_25 : decode y_MM_varItem.2.1 25 = .ok (.iconst 1, 1) := by decide +kernel
theorem d_MM_varItem_26 : decode y_MM_varItem.2.1 26 = .ok (.iadd, 1) := by decide +kernel
theorem d_MM_varItem_16 : decode y_MM_varItem.2.1 16 = .ok (.invokevirtual 279, 3) := by decide +kernel
theorem d_MM_varItem_19 : decode y_MM_varItem.2.1 19 = .ok (.invokevirtual 351, 3) := by decide +kernel
theorem d_MM_varItem_22 : decode y_MM_varItem.2.1 22 = .ok (.return_, 1) := by decide +kernel
theorem d_MM_varItem_27 : decode y_MM_varItem.2.1 27 = .ok (.invokevirtual 354, 3) := by decide +kernel
theorem d_MM_varItem_30 : decode y_MM_varItem.2.1 30 = .ok (.ifCond .lt 16, 3) := by decide +kernel
theorem d_MM_varItem_46 : decode y_MM_varItem.2.1 46 = .ok (.aload_n 0, 1) := by decide +kernel
theorem d_MM_varItem_47 : decode y_MM_varItem.2.1 47 = .ok (.getfield 38, 3) := by decide +kernel
theorem d_MM_varItem_50 : decode y_MM_varItem.2.1 50 = .ok (.getfield 456, 3) := by decide +kernel
theorem d_MM_varItem_53 : decode y_MM_varItem.2.1 53 = .ok (.istore_n 3, 1) := by decide +kernel
theorem d_MM_varItem_54 : decode y_MM_varItem.2.1 54 = .ok (.aload_n 0, 1) := by decide +kernel
theorem d_MM_varItem_55 : decode y_MM_varItem.2.1 55 = .ok (.iload_n 1, 1) := by decide +kernel
theorem d_MM_varItem_56 : decode y_MM_varItem.2.1 56 = .ok (.iconst 3, 1) := by decide +kernel
theorem d_MM_varItem_57 : decode y_MM_varItem.2.1 57 = .ok (.iadd, 1) := by decide +kernel
theorem d_MM_varItem_33 : decode y_MM_varItem.2.1 33 = .ok (.aload_n 0, 1) := by decide +kernel
theorem d_MM_varItem_34 : decode y_MM_varItem.2.1 34 = .ok (.iconst 2, 1) := by decide +kernel
theorem d_MM_varItem_35 : decode y_MM_varItem.2.1 35 = .ok (.aload_n 0, 1) := by decide +kernel
theorem d_MM_varItem_36 : decode y_MM_varItem.2.1 36 = .ok (.iload_n 1, 1) := by decide +kernel
theorem d_MM_varItem_37 : decode y_MM_varItem.2.1 37 = .ok (.iconst 1, 1) := by decide +kernel
theorem d_MM_varItem_38 : decode y_MM_varItem.2.1 38 = .ok (.iadd, 1) := by decide +kernel
theorem d_MM_varItem_58 : decode y_MM_varItem.2.1 58 = .ok (.invokevirtual 302, 3) := by decide +kernel
theorem d_MM_varItem_61 : decode y_MM_varItem.2.1 61 = .ok (.iconst 5, 1) := by decide +kernel
theorem d_MM_varItem_62 : decode y_MM_varItem.2.1 62 = .ok (.if_icmp .ne 7, 3) := by decide +kernel
theorem d_MM_varItem_65 : decode y_MM_varItem.2.1 65 = .ok (.iconst 1, 1) := by decide +kernel
theorem d_MM_varItem_66 : decode y_MM_varItem.2.1 66 = .ok (.goto 4, 3) := by decide +kernel
theorem d_MM_varItem_69 : decode y_MM_varItem.2.1 69 = .ok (.iconst 0, 1) := by decide +kernel
theorem d_MM_varItem_70 : decode y_MM_varItem.2.1 70 = .ok (.istore 4, 2) := by decide +kernel
theorem d_MM_varItem_72 : decode y_MM_varItem.2.1 72 = .ok (.iload 4, 2) := by decide +kernel
theorem d_MM_varItem_74 : decode y_MM_varItem.2.1 74 = .ok (.ifCond .eq 9, 3) := by decide +kernel
theorem d_MM_varItem_83 : decode y_MM_varItem.2.1 83 = .ok (.aload_n 0, 1) := by decide +kernel
theorem d_MM_varItem_84 : decode y_MM_varItem.2.1 84 = .ok (.iload_n 1, 1) := by decide +kernel
theorem d_MM_varItem_85 : decode y_MM_varItem.2.1 85 = .ok (.iconst 3, 1) := by decide +kernel
theorem d_MM_varItem_86 : decode y_MM_varItem.2.1 86 = .ok (.iadd, 1) := by decide +kernel
theorem d_MM_varItem_87 : decode y_MM_varItem.2.1 87 = .ok (.iload_n 2, 1) := by decide +kernel
theorem d_MM_varItem_77 : decode y_MM_varItem.2.1 77 = .ok (.iload_n 1, 1) := by decide +kernel
theorem d_MM_varItem_78 : decode y_MM_varItem.2.1 78 = .ok (.iconst 4, 1) := by decide +kernel
theorem d_MM_varItem_79 : decode y_MM_varItem.2.1 79 = .ok (.iadd, 1) := by decide +kernel
theorem d_MM_varItem_80 : decode y_MM_varItem.2.1 80 = .ok (.goto 11, 3) := by decide +kernel
theorem d_MM_varItem_88 : decode y_MM_varItem.2.1 88 = .ok (.invokevirtual 458, 3) := by decide +kernel
theorem d_MM_varItem_39 : decode y_MM_varItem.2.1 39 = .ok (.invokevirtual 279, 3) := by decide +kernel
theorem d_MM_varItem_42 : decode y_MM_varItem.2.1 42 = .ok (.invokevirtual 351, 3) := by decide +kernel
theorem d_MM_varItem_45 : decode y_MM_varItem.2.1 45 = .ok (.return_, 1) := by decide +kernel
theorem d_MM_varItem_91 : decode y_MM_varItem.2.1 91 = .ok (.istore 5, 2) := by decide +kernel
theorem d_MM_varItem_93 : decode y_MM_varItem.2.1 93 = .ok (.aload_n 0, 1) := by decide +kernel
theorem d_MM_varItem_94 : decode y_MM_varItem.2.1 94 = .ok (.iload 5, 2) := by decide +kernel
theorem d_MM_varItem_96 : decode y_MM_varItem.2.1 96 = .ok (.invokevirtual 302, 3) := by decide +kernel
theorem d_MM_varItem_99 : decode y_MM_varItem.2.1 99 = .ok (.bipush 9, 2) := by decide +kernel
theorem d_MM_varItem_101 : decode y_MM_varItem.2.1 101 = .ok (.if_icmp .ne 7, 3) := by decide +kernel
theorem d_MM_varItem_104 : decode y_MM_varItem.2.1 104 = .ok (.iconst 1, 1) := by decide +kernel
theorem d_MM_varItem_105 : decode y_MM_varItem.2.1 105 = .ok (.goto 4, 3) := by decide +kernel
theorem d_MM_varItem_108 : decode y_MM_varItem.2.1 108 = .ok (.iconst 0, 1) := by decide +kernel
theorem d_MM_varItem_109 : decode y_MM_varItem.2.1 109 = .ok (.istore 6, 2) := by decide +kernel
theorem d_MM_varItem_111 : decode y_MM_varItem.2.1 111 = .ok (.aload_n 0, 1) := by decide +kernel
theorem d_MM_varItem_112 : decode y_MM_varItem.2.1 112 = .ok (.getfield 38, 3) := by decide +kernel
theorem d_MM_varItem_115 : decode y_MM_varItem.2.1 115 = .ok (.getfield 357, 3) := by decide +kernel
theorem d_MM_varItem_118 : decode y_MM_varItem.2.1 118 = .ok (.iload_n 3, 1) := by decide +kernel
theorem d_MM_varItem_119 : decode y_MM_varItem.2.1 119 = .ok (.iload 4, 2) := by decide +kernel
theorem d_MM_varItem_121 : decode y_MM_varItem.2.1 121 = .ok (.bastore, 1) := by decide +kernel
theorem d_MM_varItem_122 : decode y_MM_varItem.2.1 122 = .ok (.iconst (-1), 1) := by decide +kernel
theorem d_MM_varItem_123 : decode y_MM_varItem.2.1 123 = .ok (.istore 7, 2) := by decide +kernel
theorem d_MM_varItem_125 : decode y_MM_varItem.2.1 125 = .ok (.iconst (-1), 1) := by decide +kernel
theorem d_MM_varItem_126 : decode y_MM_varItem.2.1 126 = .ok (.istore 8, 2) := by decide +kernel
theorem d_MM_varItem_128 : decode y_MM_varItem.2.1 128 = .ok (.iload_n 1, 1) := by decide +kernel
theorem d_MM_varItem_129 : decode y_MM_varItem.2.1 129 = .ok (.iconst 3, 1) := by decide +kernel
theorem d_MM_varItem_130 : decode y_MM_varItem.2.1 130 = .ok (.iadd, 1) := by decide +kernel
theorem d_MM_varItem_131 : decode y_MM_varItem.2.1 131 = .ok (.istore 9, 2) := by decide +kernel
theorem d_MM_varItem_133 : decode y_MM_varItem.2.1 133 = .ok (.iload 4, 2) := by decide +kernel
theorem d_MM_varItem_135 : decode y_MM_varItem.2.1 135 = .ok (.ifCond .ne 52, 3) := by decide +kernel
theorem d_MM_varItem_138 : decode y_MM_varItem.2.1 138 = .ok (.aload_n 0, 1) := by decide +kernel
theorem d_MM_varItem_139 : decode y_MM_varItem.2.1 139 = .ok (.iload_n 1, 1) := by decide +kernel
theorem d_MM_varItem_140 : decode y_MM_varItem.2.1 140 = .ok (.iconst 3, 1) := by decide +kernel
theorem d_MM_varItem_141 : decode y_MM_varItem.2.1 141 = .ok (.iadd, 1) := by decide +kernel
theorem d_MM_varItem_142 : decode y_MM_varItem.2.1 142 = .ok (.bipush 16, 2) := by decide +kernel
theorem d_MM_varItem_144 : decode y_MM_varItem.2.1 144 = .ok (.invokevirtual 430, 3) := by decide +kernel
theorem d_MM_varItem_147 : decode y_MM_varItem.2.1 147 = .ok (.istore 9, 2) := by decide +kernel
theorem d_MM_varItem_149 : decode y_MM_varItem.2.1 149 = .ok (.aload_n 0, 1) := by decide +kernel
theorem d_MM_varItem_150 : decode y_MM_varItem.2.1 150 = .ok (.iload_n 1, 1) := by decide +kernel
theorem d_MM_varItem_151 : decode y_MM_varItem.2.1 151 = .ok (.iconst 3, 1) := by decide +kernel
theorem d_MM_varItem_152 : decode y_MM_varItem.2.1 152 = .ok (.iadd, 1) := by decide +kernel
theorem d_MM_varItem_153 : decode y_MM_varItem.2.1 153 = .ok (.iload 9, 2) := by decide +kernel
theorem d_MM_varItem_155 : decode y_MM_varItem.2.1 155 = .ok (.iconst 0, 1) := by decide +kernel
theorem d_MM_varItem_156 : decode y_MM_varItem.2.1 156 = .ok (.iconst 1, 1) := by decide +kernel
theorem d_MM_varItem_157 : decode y_MM_varItem.2.1 157 = .ok (.invokevirtual 441, 3) := by decide +kernel
theorem d_MM_varItem_160 : decode y_MM_varItem.2.1 160 = .ok (.istore 7, 2) := by decide +kernel
theorem d_MM_varItem_162 : decode y_MM_varItem.2.1 162 = .ok (.aload_n 0, 1) := by decide +kernel
theorem d_MM_varItem_163 : decode y_MM_varItem.2.1 163 = .ok (.getfield 267, 3) := by decide +kernel
theorem d_MM_varItem_166 : decode y_MM_varItem.2.1 166 = .ok (.ifCond .ne 18, 3) := by decide +kernel
theorem d_MM_varItem_169 : decode y_MM_varItem.2.1 169 = .ok (.aload_n 0, 1) := by decide +kernel
theorem d_MM_varItem_170 : decode y_MM_varItem.2.1 170 = .ok (.iload 9, 2) := by decide +kernel
theorem d_MM_varItem_172 : decode y_MM_varItem.2.1 172 = .ok (.iconst 1, 1) := by decide +kernel
theorem d_MM_varItem_173 : decode y_MM_varItem.2.1 173 = .ok (.iadd, 1) := by decide +kernel
theorem d_MM_varItem_174 : decode y_MM_varItem.2.1 174 = .ok (.iload 5, 2) := by decide +kernel
theorem d_MM_varItem_176 : decode y_MM_varItem.2.1 176 = .ok (.iconst 0, 1) := by decide +kernel
theorem d_MM_varItem_177 : decode y_MM_varItem.2.1 177 = .ok (.iconst 1, 1) := by decide +kernel
theorem d_MM_varItem_184 : decode y_MM_varItem.2.1 184 = .ok (.iconst (-1), 1) := by decide +kernel
theorem d_MM_varItem_178 : decode y_MM_varItem.2.1 178 = .ok (.invokevirtual 441, 3) := by decide +kernel
theorem d_MM_varItem_181 : decode y_MM_varItem.2.1 181 = .ok (.goto 4, 3) := by decide +kernel
theorem d_MM_varItem_187 : decode y_MM_varItem.2.1 187 = .ok (.iload 6, 2) := by decide +kernel
theorem d_MM_varItem_189 : decode y_MM_varItem.2.1 189 = .ok (.ifCond .eq 25, 3) := by decide +kernel
theorem d_MM_varItem_192 : decode y_MM_varItem.2.1 192 = .ok (.aload_n 0, 1) := by decide +kernel
theorem d_MM_varItem_193 : decode y_MM_varItem.2.1 193 = .ok (.getfield 267, 3) := by decide +kernel
theorem d_MM_varItem_196 : decode y_MM_varItem.2.1 196 = .ok (.ifCond .ne 18, 3) := by decide +kernel
theorem d_MM_varItem_199 : decode y_MM_varItem.2.1 199 = .ok (.aload_n 0, 1) := by decide +kernel
theorem d_MM_varItem_200 : decode y_MM_varItem.2.1 200 = .ok (.iload 5, 2) := by decide +kernel
theorem d_MM_varItem_202 : decode y_MM_varItem.2.1 202 = .ok (.iconst 1, 1) := by decide +kernel
theorem d_MM_varItem_203 : decode y_MM_varItem.2.1 203 = .ok (.iadd, 1) := by decide +kernel
theorem d_MM_varItem_204 : decode y_MM_varItem.2.1 204 = .ok (.iload_n 2, 1) := by decide +kernel
theorem d_MM_varItem_205 : decode y_MM_varItem.2.1 205 = .ok (.iload 4, 2) := by decide +kernel
theorem d_MM_varItem_207 : decode y_MM_varItem.2.1 207 = .ok (.iconst 1, 1) := by decide +kernel
theorem d_MM_varItem_214 : decode y_MM_varItem.2.1 214 = .ok (.iconst (-1), 1) := by decide +kernel
theorem d_MM_varItem_208 : decode y_MM_varItem.2.1 208 = .ok (.invokevirtual 441, 3) := by decide +kernel
theorem d_MM_varItem_211 : decode y_MM_varItem.2.1 211 = .ok (.goto 4, 3) := by decide +kernel
theorem d_MM_varItem_185 : decode y_MM_varItem.2.1 185 = .ok (.istore 8, 2) := by decide +kernel
theorem d_MM_varItem_215 : decode y_MM_varItem.2.1 215 = .ok (.istore 10, 2) := by decide +kernel
theorem d_MM_varItem_217 : decode y_MM_varItem.2.1 217 = .ok (.aload_n 0, 1) := by decide +kernel
theorem d_MM_varItem_218 : decode y_MM_varItem.2.1 218 = .ok (.getfield 267, 3) := by decide +kernel
theorem d_MM_varItem_221 : decode y_MM_varItem.2.1 221 = .ok (.ifCond .eq 4, 3) := by decide +kernel
theorem d_MM_varItem_225 : decode y_MM_varItem.2.1 225 = .ok (.iload 4, 2) := by decide +kernel
theorem d_MM_varItem_224 : decode y_MM_varItem.2.1 224 = .ok (.return_, 1) := by decide +kernel
theorem d_MM_varItem_227 : decode y_MM_varItem.2.1 227 = .ok (.ifCond .eq 26, 3) := by decide +kernel
theorem d_MM_varItem_253 : decode y_MM_varItem.2.1 253 = .ok (.aload_n 0, 1) := by decide +kernel
theorem d_MM_varItem_254 : decode y_MM_varItem.2.1 254 = .ok (.getfield 38, 3) := by decide +kernel
theorem d_MM_varItem_257 : decode y_MM_varItem.2.1 257 = .ok (.getfield 461, 3) := by decide +kernel
theorem d_MM_varItem_260 : decode y_MM_varItem.2.1 260 = .ok (.iload_n 3, 1) := by decide +kernel
theorem d_MM_varItem_261 : decode y_MM_varItem.2.1 261 = .ok (.aload_n 0, 1) := by decide +kernel
theorem d_MM_varItem_262 : decode y_MM_varItem.2.1 262 = .ok (.iload 7, 2) := by decide +kernel
theorem d_MM_varItem_264 : decode y_MM_varItem.2.1 264 = .ok (.iload_n 1, 1) := by decide +kernel
theorem d_MM_varItem_265 : decode y_MM_varItem.2.1 265 = .ok (.iconst 3, 1) := by decide +kernel
theorem d_MM_varItem_266 : decode y_MM_varItem.2.1 266 = .ok (.iadd, 1) := by decide +kernel
theorem d_MM_varItem_230 : decode y_MM_varItem.2.1 230 = .ok (.aload_n 0, 1) := by decide +kernel
theorem d_MM_varItem_231 : decode y_MM_varItem.2.1 231 = .ok (.getfield 38, 3) := by decide +kernel
theorem d_MM_varItem_234 : decode y_MM_varItem.2.1 234 = .ok (.getfield 461, 3) := by decide +kernel
theorem d_MM_varItem_237 : decode y_MM_varItem.2.1 237 = .ok (.iload_n 3, 1) := by decide +kernel
theorem d_MM_varItem_238 : decode y_MM_varItem.2.1 238 = .ok (.iconst 0, 1) := by decide +kernel
theorem d_MM_varItem_239 : decode y_MM_varItem.2.1 239 = .ok (.iastore, 1) := by decide +kernel
theorem d_MM_varItem_240 : decode y_MM_varItem.2.1 240 = .ok (.aload_n 0, 1) := by decide +kernel
theorem d_MM_varItem_241 : decode y_MM_varItem.2.1 241 = .ok (.getfield 38, 3) := by decide +kernel
theorem d_MM_varItem_244 : decode y_MM_varItem.2.1 244 = .ok (.getfield 463, 3) := by decide +kernel
theorem d_MM_varItem_247 : decode y_MM_varItem.2.1 247 = .ok (.iload_n 3, 1) := by decide +kernel
theorem d_MM_varItem_248 : decode y_MM_varItem.2.1 248 = .ok (.iconst 1, 1) := by decide +kernel
theorem d_MM_varItem_249 : decode y_MM_varItem.2.1 249 = .ok (.iastore, 1) := by decide +kernel
theorem d_MM_varItem_267 : decode y_MM_varItem.2.1 267 = .ok (.invokevirtual 466, 3) := by decide +kernel
theorem d_MM_varItem_270 : decode y_MM_varItem.2.1 270 = .ok (.iastore, 1) := by decide +kernel
theorem d_MM_varItem_271 : decode y_MM_varItem.2.1 271 = .ok (.aload_n 0, 1) := by decide +kernel
theorem d_MM_varItem_272 : decode y_MM_varItem.2.1 272 = .ok (.getfield 38, 3) := by decide +kernel
theorem d_MM_varItem_275 : decode y_MM_varItem.2.1 275 = .ok (.getfield 463, 3) := by decide +kernel
theorem d_MM_varItem_278 : decode y_MM_varItem.2.1 278 = .ok (.iload_n 3, 1) := by decide +kernel
theorem d_MM_varItem_279 : decode y_MM_varItem.2.1 279 = .ok (.aload_n 0, 1) := by decide +kernel
theorem d_MM_varItem_280 : decode y_MM_varItem.2.1 280 = .ok (.iload 8, 2) := by decide +kernel
theorem d_MM_varItem_282 : decode y_MM_varItem.2.1 282 = .ok (.iload 9, 2) := by decide +kernel
theorem d_MM_varItem_284 : decode y_MM_varItem.2.1 284 = .ok (.iconst 1, 1) := by decide +kernel
theorem d_MM_varItem_285 : decode y_MM_varItem.2.1 285 = .ok (.iadd, 1) := by decide +kernel
theorem d_MM_varItem_286 : decode y_MM_varItem.2.1 286 = .ok (.invokevirtual 466, 3) := by decide +kernel
theorem d_MM_varItem_289 : decode y_MM_varItem.2.1 289 = .ok (.iastore, 1) := by decide +kernel
theorem d_MM_varItem_290 : decode y_MM_varItem.2.1 290 = .ok (.aload_n 0, 1) := by decide +kernel
theorem d_MM_varItem_291 : decode y_MM_varItem.2.1 291 = .ok (.getfield 38, 3) := by decide +kernel
theorem d_MM_varItem_294 : decode y_MM_varItem.2.1 294 = .ok (.getfield 461, 3) := by decide +kernel
theorem d_MM_varItem_297 : decode y_MM_varItem.2.1 297 = .ok (.iload_n 3, 1) := by decide +kernel
theorem d_MM_varItem_298 : decode y_MM_varItem.2.1 298 = .ok (.iaload, 1) := by decide +kernel
theorem d_MM_varItem_299 : decode y_MM_varItem.2.1 299 = .ok (.aload_n 0, 1) := by decide +kernel
theorem d_MM_varItem_300 : decode y_MM_varItem.2.1 300 = .ok (.getfield 38, 3) := by decide +kernel
theorem d_MM_varItem_303 : decode y_MM_varItem.2.1 303 = .ok (.getfield 463, 3) := by decide +kernel
theorem d_MM_varItem_306 : decode y_MM_varItem.2.1 306 = .ok (.iload_n 3, 1) := by decide +kernel
theorem d_MM_varItem_307 : decode y_MM_varItem.2.1 307 = .ok (.iaload, 1) := by decide +kernel
theorem d_MM_varItem_308 : decode y_MM_varItem.2.1 308 = .ok (.if_icmp .gt 32, 3) := by decide +kernel
theorem d_MM_varItem_340 : decode y_MM_varItem.2.1 340 = .ok (.iconst 0, 1) := by decide +kernel
theorem d_MM_varItem_311 : decode y_MM_varItem.2.1 311 = .ok (.aload_n 0, 1) := by decide +kernel
theorem d_MM_varItem_312 : decode y_MM_varItem.2.1 312 = .ok (.getfield 38, 3) := by decide +kernel
theorem d_MM_varItem_315 : decode y_MM_varItem.2.1 315 = .ok (.getfield 463, 3) := by decide +kernel
theorem d_MM_varItem_318 : decode y_MM_varItem.2.1 318 = .ok (.iload_n 3, 1) := by decide +kernel
theorem d_MM_varItem_319 : decode y_MM_varItem.2.1 319 = .ok (.iaload, 1) := by decide +kernel
theorem d_MM_varItem_320 : decode y_MM_varItem.2.1 320 = .ok (.aload_n 0, 1) := by decide +kernel
theorem d_MM_varItem_321 : decode y_MM_varItem.2.1 321 = .ok (.getfield 38, 3) := by decide +kernel
theorem d_MM_varItem_324 : decode y_MM_varItem.2.1 324 = .ok (.getfield 461, 3) := by decide +kernel
theorem d_MM_varItem_327 : decode y_MM_varItem.2.1 327 = .ok (.iload_n 3, 1) := by decide +kernel
theorem d_MM_varItem_328 : decode y_MM_varItem.2.1 328 = .ok (.iaload, 1) := by decide +kernel
theorem d_MM_varItem_329 : decode y_MM_varItem.2.1 329 = .ok (.isub, 1) := by decide +kernel
theorem d_MM_varItem_330 : decode y_MM_varItem.2.1 330 = .ok (.sipush 10000, 3) := by decide +kernel
theorem d_MM_varItem_333 : decode y_MM_varItem.2.1 333 = .ok (.if_icmp .ge 7, 3) := by decide +kernel
theorem d_MM_varItem_336 : decode y_MM_varItem.2.1 336 = .ok (.iconst 1, 1) := by decide +kernel
theorem d_MM_varItem_337 : decode y_MM_varItem.2.1 337 = .ok (.goto 4, 3) := by decide +kernel
theorem d_MM_varItem_341 : decode y_MM_varItem.2.1 341 = .ok (.istore 11, 2) := by decide +kernel
theorem d_MM_varItem_343 : decode y_MM_varItem.2.1 343 = .ok (.aload_n 0, 1) := by decide +kernel
theorem d_MM_varItem_344 : decode y_MM_varItem.2.1 344 = .ok (.getfield 267, 3) := by decide +kernel
theorem d_MM_varItem_347 : decode y_MM_varItem.2.1 347 = .ok (.ifCond .ne 22, 3) := by decide +kernel
theorem d_MM_varItem_350 : decode y_MM_varItem.2.1 350 = .ok (.iload 11, 2) := by decide +kernel
theorem d_MM_varItem_352 : decode y_MM_varItem.2.1 352 = .ok (.ifCond .ne 17, 3) := by decide +kernel
theorem d_MM_varItem_355 : decode y_MM_varItem.2.1 355 = .ok (.aload_n 0, 1) := by decide +kernel
theorem d_MM_varItem_356 : decode y_MM_varItem.2.1 356 = .ok (.bipush 9, 2) := by decide +kernel
theorem d_MM_varItem_358 : decode y_MM_varItem.2.1 358 = .ok (.aload_n 0, 1) := by decide +kernel
theorem d_MM_varItem_359 : decode y_MM_varItem.2.1 359 = .ok (.iload 9, 2) := by decide +kernel
theorem d_MM_varItem_361 : decode y_MM_varItem.2.1 361 = .ok (.iconst 1, 1) := by decide +kernel
theorem d_MM_varItem_362 : decode y_MM_varItem.2.1 362 = .ok (.iadd, 1) := by decide +kernel
theorem d_MM_varItem_363 : decode y_MM_varItem.2.1 363 = .ok (.invokevirtual 279, 3) := by decide +kernel
theorem d_MM_varItem_366 : decode y_MM_varItem.2.1 366 = .ok (.invokevirtual 351, 3) := by decide +kernel
theorem d_MM_varItem_250 : decode y_MM_varItem.2.1 250 = .ok (.goto 119, 3) := by decide +kernel
theorem d_MM_varItem_369 : decode y_MM_varItem.2.1 369 = .ok (.aload_n 0, 1) := by decide +kernel
theorem d_MM_varItem_370 : decode y_MM_varItem.2.1 370 = .ok (.getfield 38, 3) := by decide +kernel
theorem d_MM_varItem_373 : decode y_MM_varItem.2.1 373 = .ok (.getfield 469, 3) := by decide +kernel
theorem d_MM_varItem_376 : decode y_MM_varItem.2.1 376 = .ok (.iload_n 3, 1) := by decide +kernel
theorem d_MM_varItem_377 : decode y_MM_varItem.2.1 377 = .ok (.aload_n 0, 1) := by decide +kernel
theorem d_MM_varItem_378 : decode y_MM_varItem.2.1 378 = .ok (.getfield 38, 3) := by decide +kernel
theorem d_MM_varItem_381 : decode y_MM_varItem.2.1 381 = .ok (.getfield 461, 3) := by decide +kernel
theorem d_MM_varItem_384 : decode y_MM_varItem.2.1 384 = .ok (.iload_n 3, 1) := by decide +kernel
theorem d_MM_varItem_385 : decode y_MM_varItem.2.1 385 = .ok (.iaload, 1) := by decide +kernel
theorem d_MM_varItem_386 : decode y_MM_varItem.2.1 386 = .ok (.iastore, 1) := by decide +kernel
theorem d_MM_varItem_387 : decode y_MM_varItem.2.1 387 = .ok (.iload 6, 2) := by decide +kernel
theorem d_MM_varItem_389 : decode y_MM_varItem.2.1 389 = .ok (.ifCond .eq 21, 3) := by decide +kernel
theorem d_MM_varItem_392 : decode y_MM_varItem.2.1 392 = .ok (.aload_n 0, 1) := by decide +kernel
theorem d_MM_varItem_393 : decode y_MM_varItem.2.1 393 = .ok (.getfield 267, 3) := by decide +kernel
theorem d_MM_varItem_396 : decode y_MM_varItem.2.1 396 = .ok (.ifCond .ne 14, 3) := by decide +kernel
theorem d_MM_varItem_399 : decode y_MM_varItem.2.1 399 = .ok (.aload_n 0, 1) := by decide +kernel
theorem d_MM_varItem_400 : decode y_MM_varItem.2.1 400 = .ok (.iload_n 3, 1) := by decide +kernel
theorem d_MM_varItem_401 : decode y_MM_varItem.2.1 401 = .ok (.iload 10, 2) := by decide +kernel
theorem d_MM_varItem_403 : decode y_MM_varItem.2.1 403 = .ok (.iload 5, 2) := by decide +kernel
theorem d_MM_varItem_405 : decode y_MM_varItem.2.1 405 = .ok (.iconst 1, 1) := by decide +kernel
theorem d_MM_varItem_406 : decode y_MM_varItem.2.1 406 = .ok (.iadd, 1) := by decide +kernel
theorem d_MM_varItem_407 : decode y_MM_varItem.2.1 407 = .ok (.invokevirtual 471, 3) := by decide +kernel
theorem d_MM_varItem_410 : decode y_MM_varItem.2.1 410 = .ok (.aload_n 0, 1) := by decide +kernel
theorem d_MM_varItem_411 : decode y_MM_varItem.2.1 411 = .ok (.getfield 38, 3) := by decide +kernel
theorem d_MM_varItem_414 : decode y_MM_varItem.2.1 414 = .ok (.iload_n 3, 1) := by decide +kernel
theorem d_MM_varItem_415 : decode y_MM_varItem.2.1 415 = .ok (.iconst 1, 1) := by decide +kernel
theorem d_MM_varItem_416 : decode y_MM_varItem.2.1 416 = .ok (.iadd, 1) := by decide +kernel
theorem d_MM_varItem_417 : decode y_MM_varItem.2.1 417 = .ok (.putfield 456, 3) := by decide +kernel
theorem d_MM_varItem_420 : decode y_MM_varItem.2.1 420 = .ok (.aload_n 0, 1) := by decide +kernel
theorem d_MM_varItem_421 : decode y_MM_varItem.2.1 421 = .ok (.iload_n 1, 1) := by decide +kernel
theorem d_MM_varItem_422 : decode y_MM_varItem.2.1 422 = .ok (.iconst 1, 1) := by decide +kernel
theorem d_MM_varItem_423 : decode y_MM_varItem.2.1 423 = .ok (.iadd, 1) := by decide +kernel
theorem d_MM_varItem_424 : decode y_MM_varItem.2.1 424 = .ok (.iconst 3, 1) := by decide +kernel
theorem d_MM_varItem_425 : decode y_MM_varItem.2.1 425 = .ok (.iload_n 3, 1) := by decide +kernel
theorem d_MM_varItem_426 : decode y_MM_varItem.2.1 426 = .ok (.invokevirtual 453, 3) := by decide +kernel
theorem d_MM_varItem_429 : decode y_MM_varItem.2.1 429 = .ok (.return_, 1) := by decide +kernel
def h_MM_varItem_91 (G : mG) (d : Nat) (a0 : Nat) (l1 : Int) (l2 : Int) (l3 : Int) (l4 : Int) (k0 : Int) (M : mM) (Q : mM → Prop) : Prop := mWm G y_MM_varItem (d + 1) 91 [vr a0, vi l1, vi l2, vi l3, vi l4, vd, vd, vd, vd, vd, vd, vd] [vi k0] M (fun r9 M9 => r9 = none ∧ Q M9)
def h_MM_varItem_185 (G : mG) (d : Nat) (a0 : Nat) (l1 : Int) (l2 : Int) (l3 : Int) (l4 : Int) (l5 : Int) (l6 : Int) (l7 : Int) (l9 : Int) (k0 : Int) (M : mM) (Q : mM → Prop) : Prop := mWm G y_MM_varItem (d + 1) 185 [vr a0, vi l1, vi l2, vi l3, vi l4, vi l5, vi l6, vi l7, vd, vi l9, vd, vd] [vi k0] M (fun r9 M9 => r9 = none ∧ Q M9)
def h_MM_varItem_215 (G : mG) (d : Nat) (a0 : Nat) (l1 : Int) (l3 : Int) (l4 : Int) (l5 : Int) (l6 : Int) (l7 : Int) (l8 : Int) (l9 : Int) (k0 : Int) (M : mM) (Q : mM → Prop) : Prop := mWm G y_MM_varItem (d + 1) 215 [vr a0, vi l1, vd, vi l3, vi l4, vi l5, vi l6, vi l7, vi l8, vi l9, vd, vd] [vi k0] M (fun r9 M9 => r9 = none ∧ Q M9)
def h_MM_varItem_369 (G : mG) (d : Nat) (a0 : Nat) (l1 : Int) (l3 : Int) (l5 : Int) (l6 : Int) (l10 : Int) (M : mM) (Q : mM → Prop) : Prop := mWm G y_MM_varItem (d + 1) 369 [vr a0, vi l1, vd, vi l3, vd, vi l5, vi l6, vd, vd, vd, vi l10, vd] [] M (fun r9 M9 => r9 = none ∧ Q M9)
def h_MM_varItem_410 (G : mG) (d : Nat) (a0 : Nat) (l1 : Int) (l3 : Int) (M : mM) (Q : mM → Prop) : Prop := mWm G y_MM_varItem (d + 1) 410 [vr a0, vi l1, vd, vi l3, vd, vd, vd, vd, vd, vd, vd, vd] [] M (fun r9 M9 => r9 = none ∧ Q M9)
theorem k_MM_varItem {G : mG} {d : Nat} {a0 : Nat} {l1 : Int} {l2 : Int} {M : mM} {Q : mM → Prop} (hO : mOk M) (hi_l1 : i32 l1) (hi_l2 : i32 l2)
    (h : mK M a0 = 14 ∧ mK M (mR M a0 10) = 16 ∧ ((mI M (mR M a0 10) 12 = 12) → (Ci G y_MM_place0 d [vr a0, vi l1] M (fun x6 M5 => i32 x6 ∧ mOk M5 ∧ (mK M5 a0 = 14 ∧ Cv G y_MM_stop d [vr a0, vi 5, vi x6] M5 (fun M9 => mOk M9 ∧ (Q M9)))))) ∧ (¬ (mI M (mR M a0 10) 12 = 12) → (Ci G y_MM_find d [vr a0, vi (l1 + 1)] M (fun x13 M12 => i32 x13 ∧ mOk M12 ∧ (((x13 < 0) → (mK M12 a0 = 14 ∧ mK M12 (mR M12 a0 10) = 16 ∧ Ci G y_MM_word1 d [vr a0, vi (l1 + 3)] M12 (fun x20 M19 => i32 x20 ∧ mOk M19 ∧ (∀ v23 : Int, v23 = (if (x20 = 5) then 1 else 0) → ((v23 = 0) → (mK M19 a0 = 14 ∧ Ci G y_MM_initOf d [vr a0, vi (l1 + 3), vi l2] M19 (fun x32 M31 => i32 x32 ∧ mOk M31 ∧ (h_MM_varItem_91 G d a0 l1 l2 (mI M12 (mR M12 a0 10) 12) v23 x32 M31 Q)))) ∧ (¬ (v23 = 0) → (h_MM_varItem_91 G d a0 l1 l2 (mI M12 (mR M12 a0 10) 12) v23 (l1 + 4) M19 Q)))))) ∧ (¬ (x13 < 0) → (mK M12 a0 = 14 ∧ Ci G y_MM_place0 d [vr a0, vi (l1 + 1)] M12 (fun x37 M36 => i32 x37 ∧ mOk M36 ∧ (mK M36 a0 = 14 ∧ Cv G y_MM_stop d [vr a0, vi 2, vi x37] M36 (fun M40 => mOk M40 ∧ (Q M40))))))))))) :
    Cv G y_MM_varItem (d + 1) [vr a0, vi l1, vi l2] M Q := by
  refine wm_open (y := y_MM_varItem) rfl (Nat.le_of_ble_eq_true rfl) (L := [vr a0, vi l1, vi l2, vd, vd, vd, vd, vd, vd, vd, vd, vd]) rfl ?_
  obtain ⟨h1, h⟩ := h
  obtain ⟨h2, h⟩ := h
  refine wm_aload_n d_MM_varItem_0 rfl rfl ?_
  refine gf_MM_38 rfl d_MM_varItem_1 h1 ?_
  refine gf_MM_456 rfl d_MM_varItem_4 h2 ?_
  refine wm_bipush d_MM_varItem_7 (by decide) ?_
  refine wm_icmp_ne (tgt := 23) d_MM_varItem_9 rfl (hO _ _).1 ⟨by decide, by decide⟩ (fun c4 => ?_) (fun c4 => ?_)
  · replace h := h.2 c4
    refine wm_aload_n d_MM_varItem_23 rfl rfl ?_
    refine wm_iload_n d_MM_varItem_24 rfl rfl ?_
    refine wm_iconst d_MM_varItem_25 ?_
    refine wm_iadd d_MM_varItem_26 ?_
    refine cf_MM_354 rfl d_MM_varItem_27 h1 (Nat.le_of_ble_eq_true rfl) (Ci.mono h (fun x13 M12 h => ?_))
    obtain ⟨h14, hOM12, h⟩ := h
    refine wm_if_lt (tgt := 46) d_MM_varItem_30 rfl h14 (fun c16 => ?_) (fun c16 => ?_)
    · replace h := h.1 c16
      obtain ⟨h17, h⟩ := h
      obtain ⟨h18, h⟩ := h
      refine wm_aload_n d_MM_varItem_46 rfl rfl ?_
      refine gf_MM_38 rfl d_MM_varItem_47 h17 ?_
      refine gf_MM_456 rfl d_MM_varItem_50 h18 ?_
      refine wm_istore_n d_MM_varItem_53 rfl (by decide) (L' := [vr a0, vi l1, vi l2, vi (mI M12 (mR M12 a0 10) 12), vd, vd, vd, vd, vd, vd, vd, vd]) rfl ?_
      refine wm_aload_n d_MM_varItem_54 rfl rfl ?_
      refine wm_iload_n d_MM_varItem_55 rfl rfl ?_
      refine wm_iconst d_MM_varItem_56 ?_
      refine wm_iadd d_MM_varItem_57 ?_
      refine cf_MM_302 rfl d_MM_varItem_58 h17 (Nat.le_of_ble_eq_true rfl) (Ci.mono h (fun x20 M19 h => ?_))
      obtain ⟨h21, hOM19, h⟩ := h
      refine wm_iconst d_MM_varItem_61 ?_
      have hJ : ∀ v23 : Int, v23 = (if (x20 = 5) then 1 else 0) → mWm G y_MM_varItem (d + 1) 70 [vr a0, vi l1, vi l2, vi (mI M12 (mR M12 a0 10) 12), vd, vd, vd, vd, vd, vd, vd, vd] [vi v23] M19 (fun r9 M9 => r9 = none ∧ Q M9) := by
        intro v23 e25
        have h := h v23 e25
        have h26 : i32 v23 := by rw [e25]; (repeat' split) <;> first | exact ⟨by decide, by decide⟩ | exact ⟨by decide, by decide⟩
        have h27 : (v23 = 0 ∨ v23 = 1) := by rw [e25]; (repeat' split) <;> decide
        refine wm_istore d_MM_varItem_70 (by decide) (L' := [vr a0, vi l1, vi l2, vi (mI M12 (mR M12 a0 10) 12), vi v23, vd, vd, vd, vd, vd, vd, vd]) rfl ?_
        refine wm_iload d_MM_varItem_72 rfl ?_
        refine wm_if_eq (tgt := 83) d_MM_varItem_74 rfl h26 (fun c29 => ?_) (fun c29 => ?_)
        · replace h := h.1 c29
          obtain ⟨h30, h⟩ := h
          refine wm_aload_n d_MM_varItem_83 rfl rfl ?_
          refine wm_iload_n d_MM_varItem_84 rfl rfl ?_
          refine wm_iconst d_MM_varItem_85 ?_
          refine wm_iadd d_MM_varItem_86 ?_
          refine wm_iload_n d_MM_varItem_87 rfl rfl ?_
          refine cf_MM_458 rfl d_MM_varItem_88 h30 (Nat.le_of_ble_eq_true rfl) (Ci.mono h (fun x32 M31 h => ?_))
          obtain ⟨h33, hOM31, h⟩ := h
          exact h
        · replace h := h.2 c29
          refine wm_iload_n d_MM_varItem_77 rfl rfl ?_
          refine wm_iconst d_MM_varItem_78 ?_
          refine wm_iadd d_MM_varItem_79 ?_
          refine wm_goto (tgt := 91) d_MM_varItem_80 rfl ?_
          exact h
      clear h
      refine wm_icmp_ne (tgt := 69) d_MM_varItem_62 rfl h21 ⟨by decide, by decide⟩ (fun c22 => ?_) (fun c22 => ?_)
      · refine wm_iconst d_MM_varItem_69 ?_
        exact hJ 0 (if_neg c22).symm
      · replace c22 := Classical.not_not.mp c22
        refine wm_iconst d_MM_varItem_65 ?_
        refine wm_goto (tgt := 70) d_MM_varItem_66 rfl ?_
        exact hJ 1 (if_pos c22).symm
    · replace h := h.2 c16
      obtain ⟨h35, h⟩ := h
      refine wm_aload_n d_MM_varItem_33 rfl rfl ?_
      refine wm_iconst d_MM_varItem_34 ?_
      refine wm_aload_n d_MM_varItem_35 rfl rfl ?_
      refine wm_iload_n d_MM_varItem_36 rfl rfl ?_
      refine wm_iconst d_MM_varItem_37 ?_
      refine wm_iadd d_MM_varItem_38 ?_
      refine cf_MM_279 rfl d_MM_varItem_39 h35 (Nat.le_of_ble_eq_true rfl) (Ci.mono h (fun x37 M36 h => ?_))
      obtain ⟨h38, hOM36, h⟩ := h
      obtain ⟨h39, h⟩ := h
      refine cf_MM_351 rfl d_MM_varItem_42 h39 (Nat.le_of_ble_eq_true rfl) (Cv.mono h (fun M40 h => ?_))
      obtain ⟨hOM40, h⟩ := h
      refine wm_return d_MM_varItem_45 rfl ?_
      exact ⟨rfl, h⟩
  · replace c4 := Classical.not_not.mp c4
    replace h := h.1 c4
    refine wm_aload_n d_MM_varItem_12 rfl rfl ?_
    refine wm_iconst d_MM_varItem_13 ?_
    refine wm_aload_n d_MM_varItem_14 rfl rfl ?_
    refine wm_iload_n d_MM_varItem_15 rfl rfl ?_
    refine cf_MM_279 rfl d_MM_varItem_16 h1 (Nat.le_of_ble_eq_true rfl) (Ci.mono h (fun x6 M5 h => ?_))
    obtain ⟨h7, hOM5, h⟩ := h
    obtain ⟨h8, h⟩ := h
    refine cf_MM_351 rfl d_MM_varItem_19 h8 (Nat.le_of_ble_eq_true rfl) (Cv.mono h (fun M9 h => ?_))
    obtain ⟨hOM9, h⟩ := h
    refine wm_return d_MM_varItem_22 rfl ?_
    exact ⟨rfl, h⟩
theorem k_MM_varItem_91 {G : mG} {d : Nat} {a0 : Nat} {l1 : Int} {l2 : Int} {l3 : Int} {l4 : Int} {k0 : Int} {M : mM} {Q : mM → Prop} (hO : mOk M) (hi_l1 : i32 l1) (hi_l2 : i32 l2) (hi_l3 : i32 l3) (hi_l4 : i32 l4) (hi_k0 : i32 k0)
    (h : mK M a0 = 14 ∧ Ci G y_MM_word1 d [vr a0, vi k0] M (fun x45 M44 => i32 x45 ∧ mOk M44 ∧ (∀ v48 : Int, v48 = (if (x45 = 9) then 1 else 0) → mK M44 a0 = 14 ∧ mK M44 (mR M44 a0 10) = 16 ∧ mK M44 (mR M44 (mR M44 a0 10) 13) = 31 ∧ ((0 : Int) ≤ l3 ∧ l3 < (mN M44 (mR M44 (mR M44 a0 10) 13) : Int)) ∧ (l4 = 0 ∨ l4 = 1) ∧ ∀ M58, M58 = mUI M44 (mR M44 (mR M44 a0 10) 13) (Int.toNat l3) l4 → ((l4 = 0) → (Ci G y_MM_until d [vr a0, vi (l1 + 3), vi 16] M58 (fun x63 M62 => i32 x63 ∧ mOk M62 ∧ (mK M62 a0 = 14 ∧ Ci G y_MM_rule1 d [vr a0, vi (l1 + 3), vi x63, vi 0, vi 1] M62 (fun x67 M66 => i32 x67 ∧ mOk M66 ∧ (mK M66 a0 = 14 ∧ ((mI M66 a0 16 = 0) → (Ci G y_MM_rule1 d [vr a0, vi (x63 + 1), vi k0, vi 0, vi 1] M66 (fun x73 M72 => i32 x73 ∧ mOk M72 ∧ (h_MM_varItem_185 G d a0 l1 l2 l3 l4 k0 v48 x67 x63 x73 M72 Q)))) ∧ (¬ (mI M66 a0 16 = 0) → (h_MM_varItem_185 G d a0 l1 l2 l3 l4 k0 v48 x67 x63 (-1) M66 Q)))))))) ∧ (¬ (l4 = 0) → ((((v48 = 0) ∨ (¬ (mI M58 a0 16 = 0))) → (h_MM_varItem_215 G d a0 l1 l3 l4 k0 v48 (-1) (-1) (l1 + 3) (-1) M58 Q)) ∧ (¬ ((v48 = 0) ∨ (¬ (mI M58 a0 16 = 0))) → (Ci G y_MM_rule1 d [vr a0, vi (k0 + 1), vi l2, vi l4, vi 1] M58 (fun x81 M80 => i32 x81 ∧ mOk M80 ∧ (h_MM_varItem_215 G d a0 l1 l3 l4 k0 v48 (-1) (-1) (l1 + 3) x81 M80 Q))))))))) :
    h_MM_varItem_91 G d a0 l1 l2 l3 l4 k0 M Q := by
  unfold h_MM_varItem_91
  obtain ⟨h43, h⟩ := h
  refine wm_istore d_MM_varItem_91 (by decide) (L' := [vr a0, vi l1, vi l2, vi l3, vi l4, vi k0, vd, vd, vd, vd, vd, vd]) rfl ?_
  refine wm_aload_n d_MM_varItem_93 rfl rfl ?_
  refine wm_iload d_MM_varItem_94 rfl ?_
  refine cf_MM_302 rfl d_MM_varItem_96 h43 (Nat.le_of_ble_eq_true rfl) (Ci.mono h (fun x45 M44 h => ?_))
  obtain ⟨h46, hOM44, h⟩ := h
  refine wm_bipush d_MM_varItem_99 (by decide) ?_
  have hJ : ∀ v48 : Int, v48 = (if (x45 = 9) then 1 else 0) → mWm G y_MM_varItem (d + 1) 109 [vr a0, vi l1, vi l2, vi l3, vi l4, vi k0, vd, vd, vd, vd, vd, vd] [vi v48] M44 (fun r9 M9 => r9 = none ∧ Q M9) := by
    intro v48 e50
    have h := h v48 e50
    have h51 : i32 v48 := by rw [e50]; (repeat' split) <;> first | exact ⟨by decide, by decide⟩ | exact ⟨by decide, by decide⟩
    have h52 : (v48 = 0 ∨ v48 = 1) := by rw [e50]; (repeat' split) <;> decide
    obtain ⟨h53, h⟩ := h
    obtain ⟨h54, h⟩ := h
    obtain ⟨h55, h⟩ := h
    obtain ⟨h56, h⟩ := h
    obtain ⟨h57, h⟩ := h
    obtain ⟨M58, e59⟩ : ∃ M58, M58 = mUI M44 (mR M44 (mR M44 a0 10) 13) (Int.toNat l3) l4 := ⟨_, rfl⟩
    replace h := h M58 e59
    refine wm_istore d_MM_varItem_109 (by decide) (L' := [vr a0, vi l1, vi l2, vi l3, vi l4, vi k0, vi v48, vd, vd, vd, vd, vd]) rfl ?_
    refine wm_aload_n d_MM_varItem_111 rfl rfl ?_
    refine gf_MM_38 rfl d_MM_varItem_112 h53 ?_
    refine gf_MM_357 rfl d_MM_varItem_115 h54 ?_
    refine wm_iload_n d_MM_varItem_118 rfl rfl ?_
    refine wm_iload d_MM_varItem_119 rfl ?_
    have hOM58 : mOk M58 := by rw [e59]; exact mOk_UI hOM44 (m_b32 h57)
    refine wm_zastE d_MM_varItem_121 h55 h56 h57 e59 ?_
    refine wm_iconst d_MM_varItem_122 ?_
    refine wm_istore d_MM_varItem_123 (by decide) (L' := [vr a0, vi l1, vi l2, vi l3, vi l4, vi k0, vi v48, vi (-1), vd, vd, vd, vd]) rfl ?_
    refine wm_iconst d_MM_varItem_125 ?_
    refine wm_istore d_MM_varItem_126 (by decide) (L' := [vr a0, vi l1, vi l2, vi l3, vi l4, vi k0, vi v48, vi (-1), vi (-1), vd, vd, vd]) rfl ?_
    refine wm_iload_n d_MM_varItem_128 rfl rfl ?_
    refine wm_iconst d_MM_varItem_129 ?_
    refine wm_iadd d_MM_varItem_130 ?_
    refine wm_istore d_MM_varItem_131 (by decide) (L' := [vr a0, vi l1, vi l2, vi l3, vi l4, vi k0, vi v48, vi (-1), vi (-1), vi (l1 + 3), vd, vd]) rfl ?_
    refine wm_iload d_MM_varItem_133 rfl ?_
    refine wm_if_ne (tgt := 187) d_MM_varItem_135 rfl hi_l4 (fun c61 => ?_) (fun c61 => ?_)
    · replace h := h.2 c61
      refine wm_iload d_MM_varItem_187 rfl ?_
      have hE0 : ((v48 = 0) ∨ (¬ (mI M58 a0 16 = 0))) → mWm G y_MM_varItem (d + 1) 214 [vr a0, vi l1, vi l2, vi l3, vi l4, vi k0, vi v48, vi (-1), vi (-1), vi (l1 + 3), vd, vd] [] M58 (fun r9 M9 => r9 = none ∧ Q M9) := by
        intro q78
        have h := h.1 q78
        refine wm_iconst d_MM_varItem_214 ?_
        refine wm_less (L' := [vr a0, vi l1, vd, vi l3, vi l4, vi k0, vi v48, vi (-1), vi (-1), vi (l1 + 3), vd, vd]) ⟨Or.inr rfl, Or.inr rfl, Or.inl rfl, Or.inr rfl, Or.inr rfl, Or.inr rfl, Or.inr rfl, Or.inr rfl, Or.inr rfl, Or.inr rfl, Or.inl rfl, Or.inl rfl, trivial⟩ ?_
        exact h
      have hE1 : ¬ ((v48 = 0) ∨ (¬ (mI M58 a0 16 = 0))) → mWm G y_MM_varItem (d + 1) 199 [vr a0, vi l1, vi l2, vi l3, vi l4, vi k0, vi v48, vi (-1), vi (-1), vi (l1 + 3), vd, vd] [] M58 (fun r9 M9 => r9 = none ∧ Q M9) := by
        intro q79
        have h := h.2 q79
        refine wm_aload_n d_MM_varItem_199 rfl rfl ?_
        refine wm_iload d_MM_varItem_200 rfl ?_
        refine wm_iconst d_MM_varItem_202 ?_
        refine wm_iadd d_MM_varItem_203 ?_
        refine wm_iload_n d_MM_varItem_204 rfl rfl ?_
        refine wm_iload d_MM_varItem_205 rfl ?_
        refine wm_iconst d_MM_varItem_207 ?_
        refine cf_MM_441 rfl d_MM_varItem_208 (by rw [e59]; exact h53) (Nat.le_of_ble_eq_true rfl) (Ci.mono h (fun x81 M80 h => ?_))
        obtain ⟨h82, hOM80, h⟩ := h
        refine wm_goto (tgt := 215) d_MM_varItem_211 rfl ?_
        refine wm_less (L' := [vr a0, vi l1, vd, vi l3, vi l4, vi k0, vi v48, vi (-1), vi (-1), vi (l1 + 3), vd, vd]) ⟨Or.inr rfl, Or.inr rfl, Or.inl rfl, Or.inr rfl, Or.inr rfl, Or.inr rfl, Or.inr rfl, Or.inr rfl, Or.inr rfl, Or.inr rfl, Or.inl rfl, Or.inl rfl, trivial⟩ ?_
        exact h
      clear h
      refine wm_if_eq (tgt := 214) d_MM_varItem_189 rfl h51 (fun c76 => ?_) (fun c76 => ?_)
      · exact hE0 (Or.inl c76)
      · refine wm_aload_n d_MM_varItem_192 rfl rfl ?_
        refine gf_MM_267 rfl d_MM_varItem_193 (by rw [e59]; exact h53) ?_
        refine wm_if_ne (tgt := 214) d_MM_varItem_196 rfl (hOM58 _ _).1 (fun c75 => ?_) (fun c75 => ?_)
        · exact hE0 (Or.inr c75)
        · replace c75 := Classical.not_not.mp c75
          exact hE1 (fun z83 => Or.elim z83 c76 (fun z84 => z84 c75))
    · replace c61 := Classical.not_not.mp c61
      replace h := h.1 c61
      refine wm_aload_n d_MM_varItem_138 rfl rfl ?_
      refine wm_iload_n d_MM_varItem_139 rfl rfl ?_
      refine wm_iconst d_MM_varItem_140 ?_
      refine wm_iadd d_MM_varItem_141 ?_
      refine wm_bipush d_MM_varItem_142 (by decide) ?_
      refine cf_MM_430 rfl d_MM_varItem_144 (by rw [e59]; exact h53) (Nat.le_of_ble_eq_true rfl) (Ci.mono h (fun x63 M62 h => ?_))
      obtain ⟨h64, hOM62, h⟩ := h
      obtain ⟨h65, h⟩ := h
      refine wm_istore d_MM_varItem_147 (by decide) (L' := [vr a0, vi l1, vi l2, vi l3, vi l4, vi k0, vi v48, vi (-1), vi (-1), vi x63, vd, vd]) rfl ?_
      refine wm_aload_n d_MM_varItem_149 rfl rfl ?_
      refine wm_iload_n d_MM_varItem_150 rfl rfl ?_
      refine wm_iconst d_MM_varItem_151 ?_
      refine wm_iadd d_MM_varItem_152 ?_
      refine wm_iload d_MM_varItem_153 rfl ?_
      refine wm_iconst d_MM_varItem_155 ?_
      refine wm_iconst d_MM_varItem_156 ?_
      refine cf_MM_441 rfl d_MM_varItem_157 h65 (Nat.le_of_ble_eq_true rfl) (Ci.mono h (fun x67 M66 h => ?_))
      obtain ⟨h68, hOM66, h⟩ := h
      obtain ⟨h69, h⟩ := h
      refine wm_istore d_MM_varItem_160 (by decide) (L' := [vr a0, vi l1, vi l2, vi l3, vi l4, vi k0, vi v48, vi x67, vi (-1), vi x63, vd, vd]) rfl ?_
      refine wm_aload_n d_MM_varItem_162 rfl rfl ?_
      refine gf_MM_267 rfl d_MM_varItem_163 h69 ?_
      refine wm_if_ne (tgt := 184) d_MM_varItem_166 rfl (hOM66 _ _).1 (fun c71 => ?_) (fun c71 => ?_)
      · replace h := h.2 c71
        refine wm_iconst d_MM_varItem_184 ?_
        refine wm_less (L' := [vr a0, vi l1, vi l2, vi l3, vi l4, vi k0, vi v48, vi x67, vd, vi x63, vd, vd]) ⟨Or.inr rfl, Or.inr rfl, Or.inr rfl, Or.inr rfl, Or.inr rfl, Or.inr rfl, Or.inr rfl, Or.inr rfl, Or.inl rfl, Or.inr rfl, Or.inl rfl, Or.inl rfl, trivial⟩ ?_
        exact h
      · replace c71 := Classical.not_not.mp c71
        replace h := h.1 c71
        refine wm_aload_n d_MM_varItem_169 rfl rfl ?_
        refine wm_iload d_MM_varItem_170 rfl ?_
        refine wm_iconst d_MM_varItem_172 ?_
        refine wm_iadd d_MM_varItem_173 ?_
        refine wm_iload d_MM_varItem_174 rfl ?_
        refine wm_iconst d_MM_varItem_176 ?_
        refine wm_iconst d_MM_varItem_177 ?_
        refine cf_MM_441 rfl d_MM_varItem_178 h69 (Nat.le_of_ble_eq_true rfl) (Ci.mono h (fun x73 M72 h => ?_))
        obtain ⟨h74, hOM72, h⟩ := h
        refine wm_goto (tgt := 185) d_MM_varItem_181 rfl ?_
        refine wm_less (L' := [vr a0, vi l1, vi l2, vi l3, vi l4, vi k0, vi v48, vi x67, vd, vi x63, vd, vd]) ⟨Or.inr rfl, Or.inr rfl, Or.inr rfl, Or.inr rfl, Or.inr rfl, Or.inr rfl, Or.inr rfl, Or.inr rfl, Or.inl rfl, Or.inr rfl, Or.inl rfl, Or.inl rfl, trivial⟩ ?_
        exact h
  clear h
  refine wm_icmp_ne (tgt := 108) d_MM_varItem_101 rfl h46 ⟨by decide, by decide⟩ (fun c47 => ?_) (fun c47 => ?_)
  · refine wm_iconst d_MM_varItem_108 ?_
    exact hJ 0 (if_neg c47).symm
  · replace c47 := Classical.not_not.mp c47
    refine wm_iconst d_MM_varItem_104 ?_
    refine wm_goto (tgt := 109) d_MM_varItem_105 rfl ?_
    exact hJ 1 (if_pos c47).symm
theorem k_MM_varItem_185 {G : mG} {d : Nat} {a0 : Nat} {l1 : Int} {l2 : Int} {l3 : Int} {l4 : Int} {l5 : Int} {l6 : Int} {l7 : Int} {l9 : Int} {k0 : Int} {M : mM} {Q : mM → Prop} (hO : mOk M) (hi_l1 : i32 l1) (hi_l2 : i32 l2) (hi_l3 : i32 l3) (hi_l4 : i32 l4) (hi_l5 : i32 l5) (hi_l6 : i32 l6) (hi_l7 : i32 l7) (hi_l9 : i32 l9) (hi_k0 : i32 k0)
    (h : (¬ (l6 = 0) → mK M a0 = 14) ∧ (((l6 = 0) ∨ (¬ (mI M a0 16 = 0))) → (h_MM_varItem_215 G d a0 l1 l3 l4 l5 l6 l7 k0 l9 (-1) M Q)) ∧ (¬ ((l6 = 0) ∨ (¬ (mI M a0 16 = 0))) → (mK M a0 = 14 ∧ Ci G y_MM_rule1 d [vr a0, vi (l5 + 1), vi l2, vi l4, vi 1] M (fun x94 M93 => i32 x94 ∧ mOk M93 ∧ (h_MM_varItem_215 G d a0 l1 l3 l4 l5 l6 l7 k0 l9 x94 M93 Q))))) :
    h_MM_varItem_185 G d a0 l1 l2 l3 l4 l5 l6 l7 l9 k0 M Q := by
  unfold h_MM_varItem_185
  refine wm_istore d_MM_varItem_185 (by decide) (L' := [vr a0, vi l1, vi l2, vi l3, vi l4, vi l5, vi l6, vi l7, vi k0, vi l9, vd, vd]) rfl ?_
  refine wm_iload d_MM_varItem_187 rfl ?_
  obtain ⟨s89, h⟩ := h
  have hE0 : ((l6 = 0) ∨ (¬ (mI M a0 16 = 0))) → mWm G y_MM_varItem (d + 1) 214 [vr a0, vi l1, vi l2, vi l3, vi l4, vi l5, vi l6, vi l7, vi k0, vi l9, vd, vd] [] M (fun r9 M9 => r9 = none ∧ Q M9) := by
    intro q90
    have h := h.1 q90
    refine wm_iconst d_MM_varItem_214 ?_
    refine wm_less (L' := [vr a0, vi l1, vd, vi l3, vi l4, vi l5, vi l6, vi l7, vi k0, vi l9, vd, vd]) ⟨Or.inr rfl, Or.inr rfl, Or.inl rfl, Or.inr rfl, Or.inr rfl, Or.inr rfl, Or.inr rfl, Or.inr rfl, Or.inr rfl, Or.inr rfl, Or.inl rfl, Or.inl rfl, trivial⟩ ?_
    exact h
  have hE1 : ¬ ((l6 = 0) ∨ (¬ (mI M a0 16 = 0))) → mWm G y_MM_varItem (d + 1) 199 [vr a0, vi l1, vi l2, vi l3, vi l4, vi l5, vi l6, vi l7, vi k0, vi l9, vd, vd] [] M (fun r9 M9 => r9 = none ∧ Q M9) := by
    intro q91
    have h := h.2 q91
    obtain ⟨h92, h⟩ := h
    refine wm_aload_n d_MM_varItem_199 rfl rfl ?_
    refine wm_iload d_MM_varItem_200 rfl ?_
    refine wm_iconst d_MM_varItem_202 ?_
    refine wm_iadd d_MM_varItem_203 ?_
    refine wm_iload_n d_MM_varItem_204 rfl rfl ?_
    refine wm_iload d_MM_varItem_205 rfl ?_
    refine wm_iconst d_MM_varItem_207 ?_
    refine cf_MM_441 rfl d_MM_varItem_208 h92 (Nat.le_of_ble_eq_true rfl) (Ci.mono h (fun x94 M93 h => ?_))
    obtain ⟨h95, hOM93, h⟩ := h
    refine wm_goto (tgt := 215) d_MM_varItem_211 rfl ?_
    refine wm_less (L' := [vr a0, vi l1, vd, vi l3, vi l4, vi l5, vi l6, vi l7, vi k0, vi l9, vd, vd]) ⟨Or.inr rfl, Or.inr rfl, Or.inl rfl, Or.inr rfl, Or.inr rfl, Or.inr rfl, Or.inr rfl, Or.inr rfl, Or.inr rfl, Or.inr rfl, Or.inl rfl, Or.inl rfl, trivial⟩ ?_
    exact h
  clear h
  have s96 := s89
  refine wm_if_eq (tgt := 214) d_MM_varItem_189 rfl hi_l6 (fun c88 => ?_) (fun c88 => ?_)
  · exact hE0 (Or.inl c88)
  · have s96 := s96 c88
    have h86 := s96
    refine wm_aload_n d_MM_varItem_192 rfl rfl ?_
    refine gf_MM_267 rfl d_MM_varItem_193 h86 ?_
    refine wm_if_ne (tgt := 214) d_MM_varItem_196 rfl (hO _ _).1 (fun c87 => ?_) (fun c87 => ?_)
    · exact hE0 (Or.inr c87)
    · replace c87 := Classical.not_not.mp c87
      exact hE1 (fun z97 => Or.elim z97 c88 (fun z98 => z98 c87))
theorem k_MM_varItem_215 {G : mG} {d : Nat} {a0 : Nat} {l1 : Int} {l3 : Int} {l4 : Int} {l5 : Int} {l6 : Int} {l7 : Int} {l8 : Int} {l9 : Int} {k0 : Int} {M : mM} {Q : mM → Prop} (hO : mOk M) (hi_l1 : i32 l1) (hi_l3 : i32 l3) (hi_l4 : i32 l4) (hi_l5 : i32 l5) (hi_l6 : i32 l6) (hi_l7 : i32 l7) (hi_l8 : i32 l8) (hi_l9 : i32 l9) (hi_k0 : i32 k0)
    (h : mK M a0 = 14 ∧ ((mI M a0 16 = 0) → (((l4 = 0) → (mK M (mR M a0 10) = 16 ∧ Ci G y_MM_wholeOf d [vr a0, vi l7, vi (l1 + 3)] M (fun x107 M106 => i32 x107 ∧ mOk M106 ∧ (mK M106 (mR M (mR M a0 10) 14) = 30 ∧ ((0 : Int) ≤ l3 ∧ l3 < (mN M106 (mR M (mR M a0 10) 14) : Int)) ∧ ∀ M111, M111 = mUI M106 (mR M (mR M a0 10) 14) (Int.toNat l3) x107 → mK M111 a0 = 14 ∧ mK M111 (mR M111 a0 10) = 16 ∧ Ci G y_MM_wholeOf d [vr a0, vi l8, vi (l9 + 1)] M111 (fun x116 M115 => i32 x116 ∧ mOk M115 ∧ (mK M115 (mR M111 (mR M111 a0 10) 15) = 30 ∧ ((0 : Int) ≤ l3 ∧ l3 < (mN M115 (mR M111 (mR M111 a0 10) 15) : Int)) ∧ ∀ M120, M120 = mUI M115 (mR M111 (mR M111 a0 10) 15) (Int.toNat l3) x116 → mK M120 a0 = 14 ∧ mK M120 (mR M120 a0 10) = 16 ∧ mK M120 (mR M120 (mR M120 a0 10) 14) = 30 ∧ ((0 : Int) ≤ l3 ∧ l3 < (mN M120 (mR M120 (mR M120 a0 10) 14) : Int)) ∧ mK M120 (mR M120 (mR M120 a0 10) 15) = 30 ∧ ((0 : Int) ≤ l3 ∧ l3 < (mN M120 (mR M120 (mR M120 a0 10) 15) : Int)) ∧ (¬ (mI M120 (mR M120 (mR M120 a0 10) 15) (Int.toNat l3) < mI M120 (mR M120 (mR M120 a0 10) 14) (Int.toNat l3)) → (((0 : Int) ≤ l3 ∧ l3 < (mN M120 (mR M120 (mR M120 a0 10) 15) : Int)) ∧ ((0 : Int) ≤ l3 ∧ l3 < (mN M120 (mR M120 (mR M120 a0 10) 14) : Int)) ∧ i32 ((mI M120 (mR M120 (mR M120 a0 10) 15) (Int.toNat l3)) - (mI M120 (mR M120 (mR M120 a0 10) 14) (Int.toNat l3))))) ∧ ∀ v133 : Int, v133 = (if ((mI M120 (mR M120 (mR M120 a0 10) 15) (Int.toNat l3) < mI M120 (mR M120 (mR M120 a0 10) 14) (Int.toNat l3)) ∨ (10000 ≤ (mI M120 (mR M120 (mR M120 a0 10) 15) (Int.toNat l3)) - (mI M120 (mR M120 (mR M120 a0 10) 14) (Int.toNat l3)))) then 0 else 1) → (((mI M120 a0 16 = 0) ∧ (v133 = 0)) → (Ci G y_MM_place0 d [vr a0, vi (l9 + 1)] M120 (fun x143 M142 => i32 x143 ∧ mOk M142 ∧ (mK M142 a0 = 14 ∧ Cv G y_MM_stop d [vr a0, vi 9, vi x143] M142 (fun M146 => mOk M146 ∧ (h_MM_varItem_369 G d a0 l1 l3 l5 l6 k0 M146 Q)))))) ∧ (¬ ((mI M120 a0 16 = 0) ∧ (v133 = 0)) → (h_MM_varItem_369 G d a0 l1 l3 l5 l6 k0 M120 Q)))))))) ∧ (¬ (l4 = 0) → (mK M (mR M a0 10) = 16 ∧ mK M (mR M (mR M a0 10) 14) = 30 ∧ ((0 : Int) ≤ l3 ∧ l3 < (mN M (mR M (mR M a0 10) 14) : Int)) ∧ ∀ M159, M159 = mUI M (mR M (mR M a0 10) 14) (Int.toNat l3) 0 → mK M159 (mR M159 a0 10) = 16 ∧ mK M159 (mR M159 (mR M159 a0 10) 15) = 30 ∧ ((0 : Int) ≤ l3 ∧ l3 < (mN M159 (mR M159 (mR M159 a0 10) 15) : Int)) ∧ ∀ M164, M164 = mUI M159 (mR M159 (mR M159 a0 10) 15) (Int.toNat l3) 1 → h_MM_varItem_369 G d a0 l1 l3 l5 l6 k0 M164 Q)))) ∧ (¬ (mI M a0 16 = 0) → (Q M))) :
    h_MM_varItem_215 G d a0 l1 l3 l4 l5 l6 l7 l8 l9 k0 M Q := by
  unfold h_MM_varItem_215
  obtain ⟨h99, h⟩ := h
  refine wm_istore d_MM_varItem_215 (by decide) (L' := [vr a0, vi l1, vd, vi l3, vi l4, vi l5, vi l6, vi l7, vi l8, vi l9, vi k0, vd]) rfl ?_
  refine wm_aload_n d_MM_varItem_217 rfl rfl ?_
  refine gf_MM_267 rfl d_MM_varItem_218 h99 ?_
  refine wm_if_eq (tgt := 225) d_MM_varItem_221 rfl (hO _ _).1 (fun c102 => ?_) (fun c102 => ?_)
  · replace h := h.1 c102
    refine wm_iload d_MM_varItem_225 rfl ?_
    refine wm_if_eq (tgt := 253) d_MM_varItem_227 rfl hi_l4 (fun c104 => ?_) (fun c104 => ?_)
    · replace h := h.1 c104
      obtain ⟨h105, h⟩ := h
      refine wm_aload_n d_MM_varItem_253 rfl rfl ?_
      refine gf_MM_38 rfl d_MM_varItem_254 h99 ?_
      refine gf_MM_461 rfl d_MM_varItem_257 h105 ?_
      refine wm_iload_n d_MM_varItem_260 rfl rfl ?_
      refine wm_aload_n d_MM_varItem_261 rfl rfl ?_
      refine wm_iload d_MM_varItem_262 rfl ?_
      refine wm_iload_n d_MM_varItem_264 rfl rfl ?_
      refine wm_iconst d_MM_varItem_265 ?_
      refine wm_iadd d_MM_varItem_266 ?_
      refine cf_MM_466 rfl d_MM_varItem_267 h99 (Nat.le_of_ble_eq_true rfl) (Ci.mono h (fun x107 M106 h => ?_))
      obtain ⟨h108, hOM106, h⟩ := h
      obtain ⟨h109, h⟩ := h
      obtain ⟨h110, h⟩ := h
      obtain ⟨M111, e112⟩ : ∃ M111, M111 = mUI M106 (mR M (mR M a0 10) 14) (Int.toNat l3) x107 := ⟨_, rfl⟩
      replace h := h M111 e112
      obtain ⟨h113, h⟩ := h
      obtain ⟨h114, h⟩ := h
      have hOM111 : mOk M111 := by rw [e112]; exact mOk_UI hOM106 h108
      refine wm_iastE d_MM_varItem_270 h109 h110 h108 e112 ?_
      refine wm_aload_n d_MM_varItem_271 rfl rfl ?_
      refine gf_MM_38 rfl d_MM_varItem_272 h113 ?_
      refine gf_MM_463 rfl d_MM_varItem_275 h114 ?_
      refine wm_iload_n d_MM_varItem_278 rfl rfl ?_
      refine wm_aload_n d_MM_varItem_279 rfl rfl ?_
      refine wm_iload d_MM_varItem_280 rfl ?_
      refine wm_iload d_MM_varItem_282 rfl ?_
      refine wm_iconst d_MM_varItem_284 ?_
      refine wm_iadd d_MM_varItem_285 ?_
      refine cf_MM_466 rfl d_MM_varItem_286 h113 (Nat.le_of_ble_eq_true rfl) (Ci.mono h (fun x116 M115 h => ?_))
      obtain ⟨h117, hOM115, h⟩ := h
      obtain ⟨h118, h⟩ := h
      obtain ⟨h119, h⟩ := h
      obtain ⟨M120, e121⟩ : ∃ M120, M120 = mUI M115 (mR M111 (mR M111 a0 10) 15) (Int.toNat l3) x116 := ⟨_, rfl⟩
      replace h := h M120 e121
      obtain ⟨h122, h⟩ := h
      obtain ⟨h123, h⟩ := h
      obtain ⟨h124, h⟩ := h
      obtain ⟨h125, h⟩ := h
      obtain ⟨h126, h⟩ := h
      obtain ⟨h127, h⟩ := h
      have hOM120 : mOk M120 := by rw [e121]; exact mOk_UI hOM115 h117
      refine wm_iastE d_MM_varItem_289 h118 h119 h117 e121 ?_
      refine wm_aload_n d_MM_varItem_290 rfl rfl ?_
      refine gf_MM_38 rfl d_MM_varItem_291 h122 ?_
      refine gf_MM_461 rfl d_MM_varItem_294 h123 ?_
      refine wm_iload_n d_MM_varItem_297 rfl rfl ?_
      refine wm_iald d_MM_varItem_298 h124 h125 ?_
      refine wm_aload_n d_MM_varItem_299 rfl rfl ?_
      refine gf_MM_38 rfl d_MM_varItem_300 h122 ?_
      refine gf_MM_463 rfl d_MM_varItem_303 h123 ?_
      refine wm_iload_n d_MM_varItem_306 rfl rfl ?_
      refine wm_iald d_MM_varItem_307 h126 h127 ?_
      obtain ⟨s134, h⟩ := h
      have hJ : ∀ v133 : Int, v133 = (if ((mI M120 (mR M120 (mR M120 a0 10) 15) (Int.toNat l3) < mI M120 (mR M120 (mR M120 a0 10) 14) (Int.toNat l3)) ∨ (10000 ≤ (mI M120 (mR M120 (mR M120 a0 10) 15) (Int.toNat l3)) - (mI M120 (mR M120 (mR M120 a0 10) 14) (Int.toNat l3)))) then 0 else 1) → mWm G y_MM_varItem (d + 1) 341 [vr a0, vi l1, vd, vi l3, vd, vi l5, vi l6, vd, vd, vi l9, vi k0, vd] [vi v133] M120 (fun r9 M9 => r9 = none ∧ Q M9) := by
        intro v133 e135
        have h := h v133 e135
        have h136 : i32 v133 := by rw [e135]; (repeat' split) <;> first | exact ⟨by decide, by decide⟩ | exact ⟨by decide, by decide⟩
        have h137 : (v133 = 0 ∨ v133 = 1) := by rw [e135]; (repeat' split) <;> decide
        refine wm_istore d_MM_varItem_341 (by decide) (L' := [vr a0, vi l1, vd, vi l3, vd, vi l5, vi l6, vd, vd, vi l9, vi k0, vi v133]) rfl ?_
        refine wm_aload_n d_MM_varItem_343 rfl rfl ?_
        refine gf_MM_267 rfl d_MM_varItem_344 h122 ?_
        have hE0 : ((mI M120 a0 16 = 0) ∧ (v133 = 0)) → mWm G y_MM_varItem (d + 1) 355 [vr a0, vi l1, vd, vi l3, vd, vi l5, vi l6, vd, vd, vi l9, vi k0, vi v133] [] M120 (fun r9 M9 => r9 = none ∧ Q M9) := by
          intro q141
          have h := h.1 q141
          refine wm_aload_n d_MM_varItem_355 rfl rfl ?_
          refine wm_bipush d_MM_varItem_356 (by decide) ?_
          refine wm_aload_n d_MM_varItem_358 rfl rfl ?_
          refine wm_iload d_MM_varItem_359 rfl ?_
          refine wm_iconst d_MM_varItem_361 ?_
          refine wm_iadd d_MM_varItem_362 ?_
          refine cf_MM_279 rfl d_MM_varItem_363 h122 (Nat.le_of_ble_eq_true rfl) (Ci.mono h (fun x143 M142 h => ?_))
          obtain ⟨h144, hOM142, h⟩ := h
          obtain ⟨h145, h⟩ := h
          refine cf_MM_351 rfl d_MM_varItem_366 h145 (Nat.le_of_ble_eq_true rfl) (Cv.mono h (fun M146 h => ?_))
          obtain ⟨hOM146, h⟩ := h
          refine wm_less (L' := [vr a0, vi l1, vd, vi l3, vd, vi l5, vi l6, vd, vd, vd, vi k0, vd]) ⟨Or.inr rfl, Or.inr rfl, Or.inl rfl, Or.inr rfl, Or.inl rfl, Or.inr rfl, Or.inr rfl, Or.inl rfl, Or.inl rfl, Or.inl rfl, Or.inr rfl, Or.inl rfl, trivial⟩ ?_
          exact h
        have hE1 : ¬ ((mI M120 a0 16 = 0) ∧ (v133 = 0)) → mWm G y_MM_varItem (d + 1) 369 [vr a0, vi l1, vd, vi l3, vd, vi l5, vi l6, vd, vd, vi l9, vi k0, vi v133] [] M120 (fun r9 M9 => r9 = none ∧ Q M9) := by
          intro q149
          have h := h.2 q149
          refine wm_less (L' := [vr a0, vi l1, vd, vi l3, vd, vi l5, vi l6, vd, vd, vd, vi k0, vd]) ⟨Or.inr rfl, Or.inr rfl, Or.inl rfl, Or.inr rfl, Or.inl rfl, Or.inr rfl, Or.inr rfl, Or.inl rfl, Or.inl rfl, Or.inl rfl, Or.inr rfl, Or.inl rfl, trivial⟩ ?_
          exact h
        clear h
        refine wm_if_ne (tgt := 369) d_MM_varItem_347 rfl (hOM120 _ _).1 (fun c139 => ?_) (fun c139 => ?_)
        · exact hE1 (fun z152 => c139 z152.1)
        · replace c139 := Classical.not_not.mp c139
          refine wm_iload d_MM_varItem_350 rfl ?_
          refine wm_if_ne (tgt := 369) d_MM_varItem_352 rfl h136 (fun c138 => ?_) (fun c138 => ?_)
          · exact hE1 (fun z150 => c138 z150.2)
          · replace c138 := Classical.not_not.mp c138
            exact hE0 ⟨c139, c138⟩
      clear h
      have s153 := s134
      refine wm_icmp_gt (tgt := 340) d_MM_varItem_308 rfl (hOM120 _ _).1 (hOM120 _ _).1 (fun c128 => ?_) (fun c128 => ?_)
      · refine wm_iconst d_MM_varItem_340 ?_
        refine wm_less (L' := [vr a0, vi l1, vd, vi l3, vd, vi l5, vi l6, vd, vd, vi l9, vi k0, vd]) ⟨Or.inr rfl, Or.inr rfl, Or.inl rfl, Or.inr rfl, Or.inl rfl, Or.inr rfl, Or.inr rfl, Or.inl rfl, Or.inl rfl, Or.inr rfl, Or.inr rfl, Or.inl rfl, trivial⟩ ?_
        exact hJ 0 (if_pos (Or.inl c128)).symm
      · have s153 := s153 c128
        obtain ⟨h129, h130, h131⟩ := s153
        refine wm_aload_n d_MM_varItem_311 rfl rfl ?_
        refine gf_MM_38 rfl d_MM_varItem_312 h122 ?_
        refine gf_MM_463 rfl d_MM_varItem_315 h123 ?_
        refine wm_iload_n d_MM_varItem_318 rfl rfl ?_
        refine wm_iald d_MM_varItem_319 h126 h129 ?_
        refine wm_aload_n d_MM_varItem_320 rfl rfl ?_
        refine gf_MM_38 rfl d_MM_varItem_321 h122 ?_
        refine gf_MM_461 rfl d_MM_varItem_324 h123 ?_
        refine wm_iload_n d_MM_varItem_327 rfl rfl ?_
        refine wm_iald d_MM_varItem_328 h124 h130 ?_
        refine wm_isub d_MM_varItem_329 ?_
        refine wm_sipush d_MM_varItem_330 (by decide) ?_
        refine wm_icmp_ge (tgt := 340) d_MM_varItem_333 rfl h131 ⟨by decide, by decide⟩ (fun c132 => ?_) (fun c132 => ?_)
        · refine wm_iconst d_MM_varItem_340 ?_
          refine wm_less (L' := [vr a0, vi l1, vd, vi l3, vd, vi l5, vi l6, vd, vd, vi l9, vi k0, vd]) ⟨Or.inr rfl, Or.inr rfl, Or.inl rfl, Or.inr rfl, Or.inl rfl, Or.inr rfl, Or.inr rfl, Or.inl rfl, Or.inl rfl, Or.inr rfl, Or.inr rfl, Or.inl rfl, trivial⟩ ?_
          exact hJ 0 (if_pos (Or.inr c132)).symm
        · refine wm_iconst d_MM_varItem_336 ?_
          refine wm_goto (tgt := 341) d_MM_varItem_337 rfl ?_
          refine wm_less (L' := [vr a0, vi l1, vd, vi l3, vd, vi l5, vi l6, vd, vd, vi l9, vi k0, vd]) ⟨Or.inr rfl, Or.inr rfl, Or.inl rfl, Or.inr rfl, Or.inl rfl, Or.inr rfl, Or.inr rfl, Or.inl rfl, Or.inl rfl, Or.inr rfl, Or.inr rfl, Or.inl rfl, trivial⟩ ?_
          exact hJ 1 (if_neg (fun z154 => Or.elim z154 c128 c132)).symm
    · replace h := h.2 c104
      obtain ⟨h156, h⟩ := h
      obtain ⟨h157, h⟩ := h
      obtain ⟨h158, h⟩ := h
      obtain ⟨M159, e160⟩ : ∃ M159, M159 = mUI M (mR M (mR M a0 10) 14) (Int.toNat l3) 0 := ⟨_, rfl⟩
      replace h := h M159 e160
      obtain ⟨h161, h⟩ := h
      obtain ⟨h162, h⟩ := h
      obtain ⟨h163, h⟩ := h
      obtain ⟨M164, e165⟩ : ∃ M164, M164 = mUI M159 (mR M159 (mR M159 a0 10) 15) (Int.toNat l3) 1 := ⟨_, rfl⟩
      replace h := h M164 e165
      refine wm_aload_n d_MM_varItem_230 rfl rfl ?_
      refine gf_MM_38 rfl d_MM_varItem_231 h99 ?_
      refine gf_MM_461 rfl d_MM_varItem_234 h156 ?_
      refine wm_iload_n d_MM_varItem_237 rfl rfl ?_
      refine wm_iconst d_MM_varItem_238 ?_
      have hOM159 : mOk M159 := by rw [e160]; exact mOk_UI hO ⟨by decide, by decide⟩
      refine wm_iastE d_MM_varItem_239 h157 h158 ⟨by decide, by decide⟩ e160 ?_
      refine wm_aload_n d_MM_varItem_240 rfl rfl ?_
      refine gf_MM_38 rfl d_MM_varItem_241 (by rw [e160]; exact h99) ?_
      refine gf_MM_463 rfl d_MM_varItem_244 h161 ?_
      refine wm_iload_n d_MM_varItem_247 rfl rfl ?_
      refine wm_iconst d_MM_varItem_248 ?_
      have hOM164 : mOk M164 := by rw [e165]; exact mOk_UI hOM159 ⟨by decide, by decide⟩
      refine wm_iastE d_MM_varItem_249 h162 h163 ⟨by decide, by decide⟩ e165 ?_
      refine wm_goto (tgt := 369) d_MM_varItem_250 rfl ?_
      refine wm_less (L' := [vr a0, vi l1, vd, vi l3, vd, vi l5, vi l6, vd, vd, vd, vi k0, vd]) ⟨Or.inr rfl, Or.inr rfl, Or.inl rfl, Or.inr rfl, Or.inl rfl, Or.inr rfl, Or.inr rfl, Or.inl rfl, Or.inl rfl, Or.inl rfl, Or.inr rfl, Or.inl rfl, trivial⟩ ?_
      exact h
  · replace h := h.2 c102
    refine wm_return d_MM_varItem_224 rfl ?_
    exact ⟨rfl, h⟩
theorem k_MM_varItem_369 {G : mG} {d : Nat} {a0 : Nat} {l1 : Int} {l3 : Int} {l5 : Int} {l6 : Int} {l10 : Int} {M : mM} {Q : mM → Prop} (hO : mOk M) (hi_l1 : i32 l1) (hi_l3 : i32 l3) (hi_l5 : i32 l5) (hi_l6 : i32 l6) (hi_l10 : i32 l10)
    (h : mK M a0 = 14 ∧ mK M (mR M a0 10) = 16 ∧ mK M (mR M (mR M a0 10) 14) = 30 ∧ ((0 : Int) ≤ l3 ∧ l3 < (mN M (mR M (mR M a0 10) 14) : Int)) ∧ mK M (mR M (mR M a0 10) 16) = 30 ∧ ((0 : Int) ≤ l3 ∧ l3 < (mN M (mR M (mR M a0 10) 16) : Int)) ∧ ∀ M172, M172 = mUI M (mR M (mR M a0 10) 16) (Int.toNat l3) (mI M (mR M (mR M a0 10) 14) (Int.toNat l3)) → (((l6 = 0) ∨ (¬ (mI M172 a0 16 = 0))) → (h_MM_varItem_410 G d a0 l1 l3 M172 Q)) ∧ (¬ ((l6 = 0) ∨ (¬ (mI M172 a0 16 = 0))) → (Cv G y_MM_begins d [vr a0, vi l3, vi l10, vi (l5 + 1)] M172 (fun M179 => mOk M179 ∧ (h_MM_varItem_410 G d a0 l1 l3 M179 Q))))) :
    h_MM_varItem_369 G d a0 l1 l3 l5 l6 l10 M Q := by
  unfold h_MM_varItem_369
  obtain ⟨h166, h⟩ := h
  obtain ⟨h167, h⟩ := h
  obtain ⟨h168, h⟩ := h
  obtain ⟨h169, h⟩ := h
  obtain ⟨h170, h⟩ := h
  obtain ⟨h171, h⟩ := h
  obtain ⟨M172, e173⟩ : ∃ M172, M172 = mUI M (mR M (mR M a0 10) 16) (Int.toNat l3) (mI M (mR M (mR M a0 10) 14) (Int.toNat l3)) := ⟨_, rfl⟩
  replace h := h M172 e173
  refine wm_aload_n d_MM_varItem_369 rfl rfl ?_
  refine gf_MM_38 rfl d_MM_varItem_370 h166 ?_
  refine gf_MM_469 rfl d_MM_varItem_373 h167 ?_
  refine wm_iload_n d_MM_varItem_376 rfl rfl ?_
  refine wm_aload_n d_MM_varItem_377 rfl rfl ?_
  refine gf_MM_38 rfl d_MM_varItem_378 h166 ?_
  refine gf_MM_461 rfl d_MM_varItem_381 h167 ?_
  refine wm_iload_n d_MM_varItem_384 rfl rfl ?_
  refine wm_iald d_MM_varItem_385 h168 h169 ?_
  have hOM172 : mOk M172 := by rw [e173]; exact mOk_UI hO (hO _ _).1
  refine wm_iastE d_MM_varItem_386 h170 h171 (hO _ _).1 e173 ?_
  refine wm_iload d_MM_varItem_387 rfl ?_
  have hE0 : ((l6 = 0) ∨ (¬ (mI M172 a0 16 = 0))) → mWm G y_MM_varItem (d + 1) 410 [vr a0, vi l1, vd, vi l3, vd, vi l5, vi l6, vd, vd, vd, vi l10, vd] [] M172 (fun r9 M9 => r9 = none ∧ Q M9) := by
    intro q177
    have h := h.1 q177
    refine wm_less (L' := [vr a0, vi l1, vd, vi l3, vd, vd, vd, vd, vd, vd, vd, vd]) ⟨Or.inr rfl, Or.inr rfl, Or.inl rfl, Or.inr rfl, Or.inl rfl, Or.inl rfl, Or.inl rfl, Or.inl rfl, Or.inl rfl, Or.inl rfl, Or.inl rfl, Or.inl rfl, trivial⟩ ?_
    exact h
  have hE1 : ¬ ((l6 = 0) ∨ (¬ (mI M172 a0 16 = 0))) → mWm G y_MM_varItem (d + 1) 399 [vr a0, vi l1, vd, vi l3, vd, vi l5, vi l6, vd, vd, vd, vi l10, vd] [] M172 (fun r9 M9 => r9 = none ∧ Q M9) := by
    intro q178
    have h := h.2 q178
    refine wm_aload_n d_MM_varItem_399 rfl rfl ?_
    refine wm_iload_n d_MM_varItem_400 rfl rfl ?_
    refine wm_iload d_MM_varItem_401 rfl ?_
    refine wm_iload d_MM_varItem_403 rfl ?_
    refine wm_iconst d_MM_varItem_405 ?_
    refine wm_iadd d_MM_varItem_406 ?_
    refine cf_MM_471 rfl d_MM_varItem_407 (by rw [e173]; exact h166) (Nat.le_of_ble_eq_true rfl) (Cv.mono h (fun M179 h => ?_))
    obtain ⟨hOM179, h⟩ := h
    refine wm_less (L' := [vr a0, vi l1, vd, vi l3, vd, vd, vd, vd, vd, vd, vd, vd]) ⟨Or.inr rfl, Or.inr rfl, Or.inl rfl, Or.inr rfl, Or.inl rfl, Or.inl rfl, Or.inl rfl, Or.inl rfl, Or.inl rfl, Or.inl rfl, Or.inl rfl, Or.inl rfl, trivial⟩ ?_
    exact h
  clear h
  refine wm_if_eq (tgt := 410) d_MM_varItem_389 rfl hi_l6 (fun c175 => ?_) (fun c175 => ?_)
  · exact hE0 (Or.inl c175)
  · refine wm_aload_n d_MM_varItem_392 rfl rfl ?_
    refine gf_MM_267 rfl d_MM_varItem_393 (by rw [e173]; exact h166) ?_
    refine wm_if_ne (tgt := 410) d_MM_varItem_396 rfl (hOM172 _ _).1 (fun c174 => ?_) (fun c174 => ?_)
    · exact hE0 (Or.inr c174)
    · replace c174 := Classical.not_not.mp c174
      exact hE1 (fun z182 => Or.elim z182 c175 (fun z183 => z183 c174))
theorem k_MM_varItem_410 {G : mG} {d : Nat} {a0 : Nat} {l1 : Int} {l3 : Int} {M : mM} {Q : mM → Prop} (hO : mOk M) (hi_l1 : i32 l1) (hi_l3 : i32 l3)
    (h : mK M a0 = 14 ∧ mK M (mR M a0 10) = 16 ∧ i32 (l3 + 1) ∧ ∀ M187, M187 = mUI M (mR M a0 10) 12 (l3 + 1) → Cv G y_MM_know d [vr a0, vi (l1 + 1), vi 3, vi l3] M187 (fun M189 => mOk M189 ∧ (Q M189))) :
    h_MM_varItem_410 G d a0 l1 l3 M Q := by
  unfold h_MM_varItem_410
  obtain ⟨h184, h⟩ := h
  obtain ⟨h185, h⟩ := h
  obtain ⟨h186, h⟩ := h
  obtain ⟨M187, e188⟩ : ∃ M187, M187 = mUI M (mR M a0 10) 12 (l3 + 1) := ⟨_, rfl⟩
  replace h := h M187 e188
  refine wm_aload_n d_MM_varItem_410 rfl rfl ?_
  refine gf_MM_38 rfl d_MM_varItem_411 h184 ?_
  refine wm_iload_n d_MM_varItem_414 rfl rfl ?_
  refine wm_iconst d_MM_varItem_415 ?_
  refine wm_iadd d_MM_varItem_416 ?_
  have hOM187 : mOk M187 := by rw [e188]; exact mOk_UI hO h186
  refine pf_MM_456 rfl d_MM_varItem_417 h185 h186 e188 ?_
  refine wm_aload_n d_MM_varItem_420 rfl rfl ?_
  refine wm_iload_n d_MM_varItem_421 rfl rfl ?_
  refine wm_iconst d_MM_varItem_422 ?_
  refine wm_iadd d_MM_varItem_423 ?_
  refine wm_iconst d_MM_varItem_424 ?_
  refine wm_iload_n d_MM_varItem_425 rfl rfl ?_
  refine cf_MM_453 rfl d_MM_varItem_426 (by rw [e188]; exact h184) (Nat.le_of_ble_eq_true rfl) (Cv.mono h (fun M189 h => ?_))
  obtain ⟨hOM189, h⟩ := h
  refine wm_return d_MM_varItem_429 rfl ?_
  exact ⟨rfl, h⟩
theorem d_MM_initOf_0 : decode y_MM_initOf.2.1 0 = .ok (.iload_n 1, 1) := by decide +kernel
theorem d_MM_initOf_1 : decode y_MM_initOf.2.1 1 = .ok (.istore_n 3, 1) := by decide +kernel
theorem d_MM_initOf_2 : decode y_MM_initOf.2.1 2 = .ok (.iload_n 3, 1) := by decide +kernel
theorem d_MM_initOf_3 : decode y_MM_initOf.2.1 3 = .ok (.iload_n 2, 1) := by decide +kernel
theorem d_MM_initOf_4 : decode y_MM_initOf.2.1 4 = .ok (.if_icmp .ge 19, 3) := by decide +kernel
theorem d_MM_initOf_7 : decode y_MM_initOf.2.1 7 = .ok (.aload_n 0, 1) := by decide +kernel
theorem d_MM_initOf_8 : decode y_MM_initOf.2.1 8 = .ok (.iload_n 3, 1) := by decide +kernel
theorem d_MM_initOf_23 : decode y_MM_initOf.2.1 23 = .ok (.iload_n 3, 1) := by decide +kernel
theorem d_MM_initOf_24 : decode y_MM_initOf.2.1 24 = .ok (.ireturn, 1) := by decide +kernel
theorem d_MM_initOf_9 : decode y_MM_initOf.2.1 9 = .ok (.invokevirtual 302, 3) := by decide +kernel
theorem d_MM_initOf_12 : decode y_MM_initOf.2.1 12 = .ok (.bipush 9, 2) := by decide +kernel
theorem d_MM_initOf_14 : decode y_MM_initOf.2.1 14 = .ok (.if_icmp .eq 9, 3) := by decide +kernel
theorem d_MM_initOf_17 : decode y_MM_initOf.2.1 17 = .ok (.iinc 3 1, 3) := by decide +kernel
theorem d_MM_initOf_20 : decode y_MM_initOf.2.1 20 = .ok (.goto (-18), 3) := by decide +kernel
def h_MM_initOf_2 (G : mG) (d : Nat) (a0 : Nat) (l2 : Int) (l3 : Int) (M : mM) (Q : Int → mM → Prop) : Prop := mWm G y_MM_initOf (d + 1) 2 [vr a0, vd, vi l2, vi l3] [] M (fun r9 M9 => ∃ x9, r9 = some (vi x9) ∧ Q x9 M9)
theorem k_MM_initOf {G : mG} {d : Nat} {a0 : Nat} {l1 : Int} {l2 : Int} {M : mM} {Q : Int → mM → Prop} (hO : mOk M) (hi_l1 : i32 l1) (hi_l2 : i32 l2)
    (h : h_MM_initOf_2 G d a0 l2 l1 M Q) :
    Ci G y_MM_initOf (d + 1) [vr a0, vi l1, vi l2] M Q := by
  refine wm_open (y := y_MM_initOf) rfl (Nat.le_of_ble_eq_true rfl) (L := [vr a0, vi l1, vi l2, vd]) rfl ?_
  refine wm_iload_n d_MM_initOf_0 rfl rfl ?_
  refine wm_istore_n d_MM_initOf_1 rfl (by decide) (L' := [vr a0, vi l1, vi l2, vi l1]) rfl ?_
  refine wm_less (L' := [vr a0, vd, vi l2, vi l1]) ⟨Or.inr rfl, Or.inl rfl, Or.inr rfl, Or.inr rfl, trivial⟩ ?_
  exact h
theorem k_MM_initOf_2 {G : mG} {d : Nat} {a0 : Nat} {l2 : Int} {l3 : Int} {M : mM} {Q : Int → mM → Prop} (hO : mOk M) (hi_l2 : i32 l2) (hi_l3 : i32 l3)
    (h : ((l2 ≤ l3) → (Q l3 M)) ∧ (¬ (l2 ≤ l3) → (mK M a0 = 14 ∧ Ci G y_MM_word1 d [vr a0, vi l3] M (fun x5 M4 => i32 x5 ∧ mOk M4 ∧ (((x5 = 9) → (Q l3 M4)) ∧ (¬ (x5 = 9) → (h_MM_initOf_2 G d a0 l2 (l3 + 1) M4 Q))))))) :
    h_MM_initOf_2 G d a0 l2 l3 M Q := by
  unfold h_MM_initOf_2
  refine wm_iload_n d_MM_initOf_2 rfl rfl ?_
  refine wm_iload_n d_MM_initOf_3 rfl rfl ?_
  refine wm_icmp_ge (tgt := 23) d_MM_initOf_4 rfl hi_l3 hi_l2 (fun c2 => ?_) (fun c2 => ?_)
  · replace h := h.1 c2
    refine wm_iload_n d_MM_initOf_23 rfl rfl ?_
    refine wm_ireturn d_MM_initOf_24 rfl rfl ?_
    exact ⟨_, rfl, h⟩
  · replace h := h.2 c2
    obtain ⟨h3, h⟩ := h
    refine wm_aload_n d_MM_initOf_7 rfl rfl ?_
    refine wm_iload_n d_MM_initOf_8 rfl rfl ?_
    refine cf_MM_302 rfl d_MM_initOf_9 h3 (Nat.le_of_ble_eq_true rfl) (Ci.mono h (fun x5 M4 h => ?_))
    obtain ⟨h6, hOM4, h⟩ := h
    refine wm_bipush d_MM_initOf_12 (by decide) ?_
    refine wm_icmp_eq (tgt := 23) d_MM_initOf_14 rfl h6 ⟨by decide, by decide⟩ (fun c8 => ?_) (fun c8 => ?_)
    · replace h := h.1 c8
      refine wm_iload_n d_MM_initOf_23 rfl rfl ?_
      refine wm_ireturn d_MM_initOf_24 rfl rfl ?_
      exact ⟨_, rfl, h⟩
    · replace h := h.2 c8
      refine wm_iinc d_MM_initOf_17 (by decide) rfl (L' := [vr a0, vd, vi l2, vi (l3 + 1)]) rfl ?_
      refine wm_goto (tgt := 2) d_MM_initOf_20 rfl ?_
      exact h
theorem d_MM_wholeOf_0 : decode y_MM_wholeOf.2.1 0 = .ok (.aload_n 0, 1) := by decide +kernel
theorem d_MM_wholeOf_1 : decode y_MM_wholeOf.2.1 1 = .ok (.getfield 267, 3) := by decide +kernel
theorem d_MM_wholeOf_4 : decode y_MM_wholeOf.2.1 4 = .ok (.ifCond .eq 5, 3) := by decide +kernel
theorem d_MM_wholeOf_9 : decode y_MM_wholeOf.2.1 9 = .ok (.aload_n 0, 1) := by decide +kernel
theorem d_MM_wholeOf_10 : decode y_MM_wholeOf.2.1 10 = .ok (.aload_n 0, 1) := by decide +kernel
theorem d_MM_wholeOf_11 : decode y_MM_wholeOf.2.1 11 = .ok (.getfield 38, 3) := by decide +kernel
theorem d_MM_wholeOf_14 : decode y_MM_wholeOf.2.1 14 = .ok (.iload_n 1, 1) := by decide +kernel
theorem d_MM_wholeOf_7 : decode y_MM_wholeOf.2.1 7 = .ok (.iconst 0, 1) := by decide +kernel
theorem d_MM_wholeOf_8 : decode y_MM_wholeOf.2.1 8 = .ok (.ireturn, 1) := by decide +kernel
theorem d_MM_wholeOf_15 : decode y_MM_wholeOf.2.1 15 = .ok (.invokevirtual 450, 3) := by decide +kernel
theorem d_MM_wholeOf_18 : decode y_MM_wholeOf.2.1 18 = .ok (.aload_n 0, 1) := by decide +kernel
theorem d_MM_wholeOf_19 : decode y_MM_wholeOf.2.1 19 = .ok (.getfield 267, 3) := by decide +kernel
theorem d_MM_wholeOf_22 : decode y_MM_wholeOf.2.1 22 = .ok (.ifCond .ne 25, 3) := by decide +kernel
theorem d_MM_wholeOf_25 : decode y_MM_wholeOf.2.1 25 = .ok (.aload_n 0, 1) := by decide +kernel
theorem d_MM_wholeOf_26 : decode y_MM_wholeOf.2.1 26 = .ok (.getfield 67, 3) := by decide +kernel
theorem d_MM_wholeOf_29 : decode y_MM_wholeOf.2.1 29 = .ok (.iconst 0, 1) := by decide +kernel
theorem d_MM_wholeOf_30 : decode y_MM_wholeOf.2.1 30 = .ok (.laload, 1) := by decide +kernel
theorem d_MM_wholeOf_31 : decode y_MM_wholeOf.2.1 31 = .ok (.lconst 1, 1) := by decide +kernel
theorem d_MM_wholeOf_32 : decode y_MM_wholeOf.2.1 32 = .ok (.lcmp, 1) := by decide +kernel
theorem d_MM_wholeOf_33 : decode y_MM_wholeOf.2.1 33 = .ok (.ifCond .eq 14, 3) := by decide +kernel
theorem d_MM_wholeOf_36 : decode y_MM_wholeOf.2.1 36 = .ok (.aload_n 0, 1) := by decide +kernel
theorem d_MM_wholeOf_37 : decode y_MM_wholeOf.2.1 37 = .ok (.bipush 8, 2) := by decide +kernel
theorem d_MM_wholeOf_39 : decode y_MM_wholeOf.2.1 39 = .ok (.aload_n 0, 1) := by decide +kernel
theorem d_MM_wholeOf_40 : decode y_MM_wholeOf.2.1 40 = .ok (.iload_n 2, 1) := by decide +kernel
theorem d_MM_wholeOf_47 : decode y_MM_wholeOf.2.1 47 = .ok (.aload_n 0, 1) := by decide +kernel
theorem d_MM_wholeOf_48 : decode y_MM_wholeOf.2.1 48 = .ok (.getfield 63, 3) := by decide +kernel
theorem d_MM_wholeOf_51 : decode y_MM_wholeOf.2.1 51 = .ok (.iconst 0, 1) := by decide +kernel
theorem d_MM_wholeOf_52 : decode y_MM_wholeOf.2.1 52 = .ok (.laload, 1) := by decide +kernel
theorem d_MM_wholeOf_53 : decode y_MM_wholeOf.2.1 53 = .ok (.l2i, 1) := by decide +kernel
theorem d_MM_wholeOf_54 : decode y_MM_wholeOf.2.1 54 = .ok (.ireturn, 1) := by decide +kernel
theorem d_MM_wholeOf_41 : decode y_MM_wholeOf.2.1 41 = .ok (.invokevirtual 279, 3) := by decide +kernel
theorem d_MM_wholeOf_44 : decode y_MM_wholeOf.2.1 44 = .ok (.invokevirtual 351, 3) := by decide +kernel
theorem k_MM_wholeOf {G : mG} {d : Nat} {a0 : Nat} {l1 : Int} {l2 : Int} {M : mM} {Q : Int → mM → Prop} (hO : mOk M) (hi_l1 : i32 l1) (hi_l2 : i32 l2)
    (h : mK M a0 = 14 ∧ ((mI M a0 16 = 0) → (Cv G y_MM_workOut d [vr a0, vr (mR M a0 10), vi l1] M (fun M4 => mOk M4 ∧ (mK M4 a0 = 14 ∧ ((mI M4 a0 16 = 0) → (mK M4 (mR M4 a0 22) = 33 ∧ ((0 : Int) ≤ 0 ∧ 0 < (mN M4 (mR M4 a0 22) : Int)))) ∧ (((¬ (mI M4 a0 16 = 0)) ∨ (cmpL (mL M4 (mR M4 a0 22) 0) 1 = 0)) → (mK M4 (mR M4 a0 21) = 33 ∧ ((0 : Int) ≤ 0 ∧ 0 < (mN M4 (mR M4 a0 21) : Int)) ∧ Q (mL M4 (mR M4 a0 21) 0) M4)) ∧ (¬ ((¬ (mI M4 a0 16 = 0)) ∨ (cmpL (mL M4 (mR M4 a0 22) 0) 1 = 0)) → (Ci G y_MM_place0 d [vr a0, vi l2] M4 (fun x22 M21 => i32 x22 ∧ mOk M21 ∧ (mK M21 a0 = 14 ∧ Cv G y_MM_stop d [vr a0, vi 8, vi x22] M21 (fun M25 => mOk M25 ∧ (mK M25 a0 = 14 ∧ mK M25 (mR M25 a0 21) = 33 ∧ ((0 : Int) ≤ 0 ∧ 0 < (mN M25 (mR M25 a0 21) : Int)) ∧ Q (mL M25 (mR M25 a0 21) 0) M25)))))))))) ∧ (¬ (mI M a0 16 = 0) → (Q 0 M))) :
    Ci G y_MM_wholeOf (d + 1) [vr a0, vi l1, vi l2] M Q := by
  refine wm_open (y := y_MM_wholeOf) rfl (Nat.le_of_ble_eq_true rfl) (L := [vr a0, vi l1, vi l2]) rfl ?_
  obtain ⟨h1, h⟩ := h
  refine wm_aload_n d_MM_wholeOf_0 rfl rfl ?_
  refine gf_MM_267 rfl d_MM_wholeOf_1 h1 ?_
  refine wm_if_eq (tgt := 9) d_MM_wholeOf_4 rfl (hO _ _).1 (fun c3 => ?_) (fun c3 => ?_)
  · replace h := h.1 c3
    refine wm_aload_n d_MM_wholeOf_9 rfl rfl ?_
    refine wm_aload_n d_MM_wholeOf_10 rfl rfl ?_
    refine gf_MM_38 rfl d_MM_wholeOf_11 h1 ?_
    refine wm_iload_n d_MM_wholeOf_14 rfl rfl ?_
    refine cf_MM_450 rfl d_MM_wholeOf_15 h1 (Nat.le_of_ble_eq_true rfl) (Cv.mono h (fun M4 h => ?_))
    obtain ⟨hOM4, h⟩ := h
    obtain ⟨h7, h⟩ := h
    refine wm_aload_n d_MM_wholeOf_18 rfl rfl ?_
    refine gf_MM_267 rfl d_MM_wholeOf_19 h7 ?_
    obtain ⟨s16, h⟩ := h
    have hE0 : ((¬ (mI M4 a0 16 = 0)) ∨ (cmpL (mL M4 (mR M4 a0 22) 0) 1 = 0)) → mWm G y_MM_wholeOf (d + 1) 47 [vr a0, vi l1, vi l2] [] M4 (fun r9 M9 => ∃ x9, r9 = some (vi x9) ∧ Q x9 M9) := by
      intro q17
      have h := h.1 q17
      obtain ⟨h18, h⟩ := h
      obtain ⟨h19, h⟩ := h
      refine wm_aload_n d_MM_wholeOf_47 rfl rfl ?_
      refine gf_MM_63 rfl d_MM_wholeOf_48 h7 ?_
      refine wm_iconst d_MM_wholeOf_51 ?_
      refine wm_lald d_MM_wholeOf_52 h18 h19 ?_
      refine wm_l2i d_MM_wholeOf_53 ?_
      refine wm_ireturn d_MM_wholeOf_54 rfl rfl ?_
      exact ⟨_, rfl, h⟩
    have hE1 : ¬ ((¬ (mI M4 a0 16 = 0)) ∨ (cmpL (mL M4 (mR M4 a0 22) 0) 1 = 0)) → mWm G y_MM_wholeOf (d + 1) 36 [vr a0, vi l1, vi l2] [] M4 (fun r9 M9 => ∃ x9, r9 = some (vi x9) ∧ Q x9 M9) := by
      intro q20
      have h := h.2 q20
      refine wm_aload_n d_MM_wholeOf_36 rfl rfl ?_
      refine wm_bipush d_MM_wholeOf_37 (by decide) ?_
      refine wm_aload_n d_MM_wholeOf_39 rfl rfl ?_
      refine wm_iload_n d_MM_wholeOf_40 rfl rfl ?_
      refine cf_MM_279 rfl d_MM_wholeOf_41 h7 (Nat.le_of_ble_eq_true rfl) (Ci.mono h (fun x22 M21 h => ?_))
      obtain ⟨h23, hOM21, h⟩ := h
      obtain ⟨h24, h⟩ := h
      refine cf_MM_351 rfl d_MM_wholeOf_44 h24 (Nat.le_of_ble_eq_true rfl) (Cv.mono h (fun M25 h => ?_))
      obtain ⟨hOM25, h⟩ := h
      obtain ⟨h28, h⟩ := h
      obtain ⟨h29, h⟩ := h
      obtain ⟨h30, h⟩ := h
      refine wm_aload_n d_MM_wholeOf_47 rfl rfl ?_
      refine gf_MM_63 rfl d_MM_wholeOf_48 h28 ?_
      refine wm_iconst d_MM_wholeOf_51 ?_
      refine wm_lald d_MM_wholeOf_52 h29 h30 ?_
      refine wm_l2i d_MM_wholeOf_53 ?_
      refine wm_ireturn d_MM_wholeOf_54 rfl rfl ?_
      exact ⟨_, rfl, h⟩
    clear h
    have s31 := s16
    refine wm_if_ne (tgt := 47) d_MM_wholeOf_22 rfl (hOM4 _ _).1 (fun c15 => ?_) (fun c15 => ?_)
    · exact hE0 (Or.inl c15)
    · replace c15 := Classical.not_not.mp c15
      have s31 := s31 c15
      obtain ⟨h12, h13⟩ := s31
      refine wm_aload_n d_MM_wholeOf_25 rfl rfl ?_
      refine gf_MM_67 rfl d_MM_wholeOf_26 h7 ?_
      refine wm_iconst d_MM_wholeOf_29 ?_
      refine wm_lald d_MM_wholeOf_30 h12 h13 ?_
      refine wm_lconst (x := 1) d_MM_wholeOf_31 rfl ?_
      refine wm_lcmp d_MM_wholeOf_32 (hOM4 _ _).2 ⟨by decide, by decide⟩ ?_
      refine wm_if_eq (tgt := 47) d_MM_wholeOf_33 rfl (m_cmp32 _ _) (fun c14 => ?_) (fun c14 => ?_)
      · exact hE0 (Or.inr c14)
      · exact hE1 (fun z32 => Or.elim z32 (fun w => w c15) c14)
  · replace h := h.2 c3
    refine wm_iconst d_MM_wholeOf_7 ?_
    refine wm_ireturn d_MM_wholeOf_8 rfl rfl ?_
    exact ⟨_, rfl, h⟩
theorem d_MM_begins_0 : decode y_MM_begins.2.1 0 = .ok (.aload_n 0, 1) := by decide +kernel
theorem d_MM_begins_1 : decode y_MM_begins.2.1 1 = .ok (.getfield 38, 3) := by decide +kernel
theorem d_MM_begins_4 : decode y_MM_begins.2.1 4 = .ok (.getfield 357, 3) := by decide +kernel
theorem d_MM_begins_7 : decode y_MM_begins.2.1 7 = .ok (.iload_n 1, 1) := by decide +kernel
theorem d_MM_begins_8 : decode y_MM_begins.2.1 8 = .ok (.baload, 1) := by decide +kernel
theorem d_MM_begins_9 : decode y_MM_begins.2.1 9 = .ok (.ifCond .eq 29, 3) := by decide +kernel
theorem d_MM_begins_38 : decode y_MM_begins.2.1 38 = .ok (.aload_n 0, 1) := by decide +kernel
theorem d_MM_begins_39 : decode y_MM_begins.2.1 39 = .ok (.iload_n 2, 1) := by decide +kernel
theorem d_MM_begins_40 : decode y_MM_begins.2.1 40 = .ok (.iload_n 3, 1) := by decide +kernel
theorem d_MM_begins_12 : decode y_MM_begins.2.1 12 = .ok (.aload_n 0, 1) := by decide +kernel
theorem d_MM_begins_13 : decode y_MM_begins.2.1 13 = .ok (.aload_n 0, 1) := by decide +kernel
theorem d_MM_begins_14 : decode y_MM_begins.2.1 14 = .ok (.getfield 38, 3) := by decide +kernel
theorem d_MM_begins_17 : decode y_MM_begins.2.1 17 = .ok (.iload_n 2, 1) := by decide +kernel
theorem d_MM_begins_41 : decode y_MM_begins.2.1 41 = .ok (.invokevirtual 466, 3) := by decide +kernel
theorem d_MM_begins_44 : decode y_MM_begins.2.1 44 = .ok (.istore 4, 2) := by decide +kernel
theorem d_MM_begins_46 : decode y_MM_begins.2.1 46 = .ok (.aload_n 0, 1) := by decide +kernel
theorem d_MM_begins_47 : decode y_MM_begins.2.1 47 = .ok (.getfield 267, 3) := by decide +kernel
theorem d_MM_begins_50 : decode y_MM_begins.2.1 50 = .ok (.ifCond .ne 42, 3) := by decide +kernel
theorem d_MM_begins_53 : decode y_MM_begins.2.1 53 = .ok (.iload 4, 2) := by decide +kernel
theorem d_MM_begins_55 : decode y_MM_begins.2.1 55 = .ok (.aload_n 0, 1) := by decide +kernel
theorem d_MM_begins_56 : decode y_MM_begins.2.1 56 = .ok (.getfield 38, 3) := by decide +kernel
theorem d_MM_begins_59 : decode y_MM_begins.2.1 59 = .ok (.getfield 461, 3) := by decide +kernel
theorem d_MM_begins_62 : decode y_MM_begins.2.1 62 = .ok (.iload_n 1, 1) := by decide +kernel
theorem d_MM_begins_63 : decode y_MM_begins.2.1 63 = .ok (.iaload, 1) := by decide +kernel
theorem d_MM_begins_64 : decode y_MM_begins.2.1 64 = .ok (.if_icmp .lt 17, 3) := by decide +kernel
theorem d_MM_begins_81 : decode y_MM_begins.2.1 81 = .ok (.aload_n 0, 1) := by decide +kernel
theorem d_MM_begins_82 : decode y_MM_begins.2.1 82 = .ok (.bipush 9, 2) := by decide +kernel
theorem d_MM_begins_84 : decode y_MM_begins.2.1 84 = .ok (.aload_n 0, 1) := by decide +kernel
theorem d_MM_begins_85 : decode y_MM_begins.2.1 85 = .ok (.iload_n 3, 1) := by decide +kernel
theorem d_MM_begins_67 : decode y_MM_begins.2.1 67 = .ok (.iload 4, 2) := by decide +kernel
theorem d_MM_begins_69 : decode y_MM_begins.2.1 69 = .ok (.aload_n 0, 1) := by decide +kernel
theorem d_MM_begins_70 : decode y_MM_begins.2.1 70 = .ok (.getfield 38, 3) := by decide +kernel
theorem d_MM_begins_73 : decode y_MM_begins.2.1 73 = .ok (.getfield 463, 3) := by decide +kernel
theorem d_MM_begins_76 : decode y_MM_begins.2.1 76 = .ok (.iload_n 1, 1) := by decide +kernel
theorem d_MM_begins_77 : decode y_MM_begins.2.1 77 = .ok (.iaload, 1) := by decide +kernel
theorem d_MM_begins_78 : decode y_MM_begins.2.1 78 = .ok (.if_icmp .le 14, 3) := by decide +kernel
theorem d_MM_begins_86 : decode y_MM_begins.2.1 86 = .ok (.invokevirtual 279, 3) := by decide +kernel
theorem d_MM_begins_89 : decode y_MM_begins.2.1 89 = .ok (.invokevirtual 351, 3) := by decide +kernel
theorem d_MM_begins_92 : decode y_MM_begins.2.1 92 = .ok (.aload_n 0, 1) := by decide +kernel
theorem d_MM_begins_93 : decode y_MM_begins.2.1 93 = .ok (.getfield 38, 3) := by decide +kernel
theorem d_MM_begins_96 : decode y_MM_begins.2.1 96 = .ok (.getfield 469, 3) := by decide +kernel
theorem d_MM_begins_99 : decode y_MM_begins.2.1 99 = .ok (.iload_n 1, 1) := by decide +kernel
theorem d_MM_begins_100 : decode y_MM_begins.2.1 100 = .ok (.iload 4, 2) := by decide +kernel
theorem d_MM_begins_102 : decode y_MM_begins.2.1 102 = .ok (.iastore, 1) := by decide +kernel
theorem d_MM_begins_103 : decode y_MM_begins.2.1 103 = .ok (.return_, 1) := by decide +kernel
theorem d_MM_begins_18 : decode y_MM_begins.2.1 18 = .ok (.invokevirtual 450, 3) := by decide +kernel
theorem d_MM_begins_21 : decode y_MM_begins.2.1 21 = .ok (.aload_n 0, 1) := by decide +kernel
theorem d_MM_begins_22 : decode y_MM_begins.2.1 22 = .ok (.getfield 38, 3) := by decide +kernel
theorem d_MM_begins_25 : decode y_MM_begins.2.1 25 = .ok (.getfield 469, 3) := by decide +kernel
theorem d_MM_begins_28 : decode y_MM_begins.2.1 28 = .ok (.iload_n 1, 1) := by decide +kernel
theorem d_MM_begins_29 : decode y_MM_begins.2.1 29 = .ok (.aload_n 0, 1) := by decide +kernel
theorem d_MM_begins_30 : decode y_MM_begins.2.1 30 = .ok (.getfield 63, 3) := by decide +kernel
theorem d_MM_begins_33 : decode y_MM_begins.2.1 33 = .ok (.iconst 0, 1) := by decide +kernel
theorem d_MM_begins_34 : decode y_MM_begins.2.1 34 = .ok (.laload, 1) := by decide +kernel
theorem d_MM_begins_35 : decode y_MM_begins.2.1 35 = .ok (.l2i, 1) := by decide +kernel
theorem d_MM_begins_36 : decode y_MM_begins.2.1 36 = .ok (.iastore, 1) := by decide +kernel
theorem d_MM_begins_37 : decode y_MM_begins.2.1 37 = .ok (.return_, 1) := by decide +kernel
theorem k_MM_begins {G : mG} {d : Nat} {a0 : Nat} {l1 : Int} {l2 : Int} {l3 : Int} {M : mM} {Q : mM → Prop} (hO : mOk M) (hi_l1 : i32 l1) (hi_l2 : i32 l2) (hi_l3 : i32 l3)
    (h : mK M a0 = 14 ∧ mK M (mR M a0 10) = 16 ∧ mK M (mR M (mR M a0 10) 13) = 31 ∧ ((0 : Int) ≤ l1 ∧ l1 < (mN M (mR M (mR M a0 10) 13) : Int)) ∧ ((mI M (mR M (mR M a0 10) 13) (Int.toNat l1) = 0) → (Ci G y_MM_wholeOf d [vr a0, vi l2, vi l3] M (fun x8 M7 => i32 x8 ∧ mOk M7 ∧ (mK M7 a0 = 14 ∧ ((mI M7 a0 16 = 0) → (mK M7 (mR M7 a0 10) = 16 ∧ mK M7 (mR M7 (mR M7 a0 10) 14) = 30 ∧ ((0 : Int) ≤ l1 ∧ l1 < (mN M7 (mR M7 (mR M7 a0 10) 14) : Int)) ∧ (¬ (x8 < mI M7 (mR M7 (mR M7 a0 10) 14) (Int.toNat l1)) → (mK M7 (mR M7 (mR M7 a0 10) 15) = 30 ∧ ((0 : Int) ≤ l1 ∧ l1 < (mN M7 (mR M7 (mR M7 a0 10) 15) : Int)))))) ∧ (((mI M7 a0 16 = 0) ∧ ((x8 < mI M7 (mR M7 (mR M7 a0 10) 14) (Int.toNat l1)) ∨ (¬ (x8 ≤ mI M7 (mR M7 (mR M7 a0 10) 15) (Int.toNat l1))))) → (Ci G y_MM_place0 d [vr a0, vi l3] M7 (fun x27 M26 => i32 x27 ∧ mOk M26 ∧ (mK M26 a0 = 14 ∧ Cv G y_MM_stop d [vr a0, vi 9, vi x27] M26 (fun M30 => mOk M30 ∧ (mK M30 a0 = 14 ∧ mK M30 (mR M30 a0 10) = 16 ∧ mK M30 (mR M30 (mR M30 a0 10) 16) = 30 ∧ ((0 : Int) ≤ l1 ∧ l1 < (mN M30 (mR M30 (mR M30 a0 10) 16) : Int)) ∧ ∀ M37, M37 = mUI M30 (mR M30 (mR M30 a0 10) 16) (Int.toNat l1) x8 → Q M37)))))) ∧ (¬ ((mI M7 a0 16 = 0) ∧ ((x8 < mI M7 (mR M7 (mR M7 a0 10) 14) (Int.toNat l1)) ∨ (¬ (x8 ≤ mI M7 (mR M7 (mR M7 a0 10) 15) (Int.toNat l1))))) → (mK M7 (mR M7 a0 10) = 16 ∧ mK M7 (mR M7 (mR M7 a0 10) 16) = 30 ∧ ((0 : Int) ≤ l1 ∧ l1 < (mN M7 (mR M7 (mR M7 a0 10) 16) : Int)) ∧ ∀ M43, M43 = mUI M7 (mR M7 (mR M7 a0 10) 16) (Int.toNat l1) x8 → Q M43)))))) ∧ (¬ (mI M (mR M (mR M a0 10) 13) (Int.toNat l1) = 0) → (Cv G y_MM_workOut d [vr a0, vr (mR M a0 10), vi l2] M (fun M51 => mOk M51 ∧ (mK M51 a0 = 14 ∧ mK M51 (mR M51 a0 10) = 16 ∧ mK M51 (mR M51 a0 21) = 33 ∧ ((0 : Int) ≤ 0 ∧ 0 < (mN M51 (mR M51 a0 21) : Int)) ∧ mK M51 (mR M51 (mR M51 a0 10) 16) = 30 ∧ ((0 : Int) ≤ l1 ∧ l1 < (mN M51 (mR M51 (mR M51 a0 10) 16) : Int)) ∧ i32 (mL M51 (mR M51 a0 21) 0) ∧ ∀ M61, M61 = mUI M51 (mR M51 (mR M51 a0 10) 16) (Int.toNat l1) (mL M51 (mR M51 a0 21) 0) → Q M61))))) :
    Cv G y_MM_begins (d + 1) [vr a0, vi l1, vi l2, vi l3] M Q := by
  refine wm_open (y := y_MM_begins) rfl (Nat.le_of_ble_eq_true rfl) (L := [vr a0, vi l1, vi l2, vi l3, vd]) rfl ?_
  obtain ⟨h1, h⟩ := h
  obtain ⟨h2, h⟩ := h
  obtain ⟨h3, h⟩ := h
  obtain ⟨h4, h⟩ := h
  refine wm_aload_n d_MM_begins_0 rfl rfl ?_
  refine gf_MM_38 rfl d_MM_begins_1 h1 ?_
  refine gf_MM_357 rfl d_MM_begins_4 h2 ?_
  refine wm_iload_n d_MM_begins_7 rfl rfl ?_
  refine wm_zald d_MM_begins_8 h3 h4 ?_
  refine wm_if_eq (tgt := 38) d_MM_begins_9 rfl (hO _ _).1 (fun c6 => ?_) (fun c6 => ?_)
  · replace h := h.1 c6
    refine wm_aload_n d_MM_begins_38 rfl rfl ?_
    refine wm_iload_n d_MM_begins_39 rfl rfl ?_
    refine wm_iload_n d_MM_begins_40 rfl rfl ?_
    refine cf_MM_466 rfl d_MM_begins_41 h1 (Nat.le_of_ble_eq_true rfl) (Ci.mono h (fun x8 M7 h => ?_))
    obtain ⟨h9, hOM7, h⟩ := h
    obtain ⟨h10, h⟩ := h
    refine wm_istore d_MM_begins_44 (by decide) (L' := [vr a0, vi l1, vi l2, vi l3, vi x8]) rfl ?_
    refine wm_aload_n d_MM_begins_46 rfl rfl ?_
    refine gf_MM_267 rfl d_MM_begins_47 h10 ?_
    obtain ⟨s24, h⟩ := h
    have hE0 : ((mI M7 a0 16 = 0) ∧ ((x8 < mI M7 (mR M7 (mR M7 a0 10) 14) (Int.toNat l1)) ∨ (¬ (x8 ≤ mI M7 (mR M7 (mR M7 a0 10) 15) (Int.toNat l1))))) → mWm G y_MM_begins (d + 1) 81 [vr a0, vi l1, vi l2, vi l3, vi x8] [] M7 (fun r9 M9 => r9 = none ∧ Q M9) := by
      intro q25
      have h := h.1 q25
      refine wm_aload_n d_MM_begins_81 rfl rfl ?_
      refine wm_bipush d_MM_begins_82 (by decide) ?_
      refine wm_aload_n d_MM_begins_84 rfl rfl ?_
      refine wm_iload_n d_MM_begins_85 rfl rfl ?_
      refine cf_MM_279 rfl d_MM_begins_86 h10 (Nat.le_of_ble_eq_true rfl) (Ci.mono h (fun x27 M26 h => ?_))
      obtain ⟨h28, hOM26, h⟩ := h
      obtain ⟨h29, h⟩ := h
      refine cf_MM_351 rfl d_MM_begins_89 h29 (Nat.le_of_ble_eq_true rfl) (Cv.mono h (fun M30 h => ?_))
      obtain ⟨hOM30, h⟩ := h
      obtain ⟨h33, h⟩ := h
      obtain ⟨h34, h⟩ := h
      obtain ⟨h35, h⟩ := h
      obtain ⟨h36, h⟩ := h
      obtain ⟨M37, e38⟩ : ∃ M37, M37 = mUI M30 (mR M30 (mR M30 a0 10) 16) (Int.toNat l1) x8 := ⟨_, rfl⟩
      replace h := h M37 e38
      refine wm_aload_n d_MM_begins_92 rfl rfl ?_
      refine gf_MM_38 rfl d_MM_begins_93 h33 ?_
      refine gf_MM_469 rfl d_MM_begins_96 h34 ?_
      refine wm_iload_n d_MM_begins_99 rfl rfl ?_
      refine wm_iload d_MM_begins_100 rfl ?_
      have hOM37 : mOk M37 := by rw [e38]; exact mOk_UI hOM30 h9
      refine wm_iastE d_MM_begins_102 h35 h36 h9 e38 ?_
      refine wm_return d_MM_begins_103 rfl ?_
      exact ⟨rfl, h⟩
    have hE1 : ¬ ((mI M7 a0 16 = 0) ∧ ((x8 < mI M7 (mR M7 (mR M7 a0 10) 14) (Int.toNat l1)) ∨ (¬ (x8 ≤ mI M7 (mR M7 (mR M7 a0 10) 15) (Int.toNat l1))))) → mWm G y_MM_begins (d + 1) 92 [vr a0, vi l1, vi l2, vi l3, vi x8] [] M7 (fun r9 M9 => r9 = none ∧ Q M9) := by
      intro q39
      have h := h.2 q39
      obtain ⟨h40, h⟩ := h
      obtain ⟨h41, h⟩ := h
      obtain ⟨h42, h⟩ := h
      obtain ⟨M43, e44⟩ : ∃ M43, M43 = mUI M7 (mR M7 (mR M7 a0 10) 16) (Int.toNat l1) x8 := ⟨_, rfl⟩
      replace h := h M43 e44
      refine wm_aload_n d_MM_begins_92 rfl rfl ?_
      refine gf_MM_38 rfl d_MM_begins_93 h10 ?_
      refine gf_MM_469 rfl d_MM_begins_96 h40 ?_
      refine wm_iload_n d_MM_begins_99 rfl rfl ?_
      refine wm_iload d_MM_begins_100 rfl ?_
      have hOM43 : mOk M43 := by rw [e44]; exact mOk_UI hOM7 h9
      refine wm_iastE d_MM_begins_102 h41 h42 h9 e44 ?_
      refine wm_return d_MM_begins_103 rfl ?_
      exact ⟨rfl, h⟩
    clear h
    have s45 := s24
    refine wm_if_ne (tgt := 92) d_MM_begins_50 rfl (hOM7 _ _).1 (fun c23 => ?_) (fun c23 => ?_)
    · exact hE1 (fun z50 => c23 z50.1)
    · replace c23 := Classical.not_not.mp c23
      have s45 := s45 c23
      obtain ⟨h16, h17, h18, s46⟩ := s45
      refine wm_iload d_MM_begins_53 rfl ?_
      refine wm_aload_n d_MM_begins_55 rfl rfl ?_
      refine gf_MM_38 rfl d_MM_begins_56 h10 ?_
      refine gf_MM_461 rfl d_MM_begins_59 h16 ?_
      refine wm_iload_n d_MM_begins_62 rfl rfl ?_
      refine wm_iald d_MM_begins_63 h17 h18 ?_
      refine wm_icmp_lt (tgt := 81) d_MM_begins_64 rfl h9 (hOM7 _ _).1 (fun c22 => ?_) (fun c22 => ?_)
      · exact hE0 ⟨c23, (Or.inl c22)⟩
      · have s46 := s46 c22
        obtain ⟨h19, h20⟩ := s46
        refine wm_iload d_MM_begins_67 rfl ?_
        refine wm_aload_n d_MM_begins_69 rfl rfl ?_
        refine gf_MM_38 rfl d_MM_begins_70 h10 ?_
        refine gf_MM_463 rfl d_MM_begins_73 h16 ?_
        refine wm_iload_n d_MM_begins_76 rfl rfl ?_
        refine wm_iald d_MM_begins_77 h19 h20 ?_
        refine wm_icmp_le (tgt := 92) d_MM_begins_78 rfl h9 (hOM7 _ _).1 (fun c21 => ?_) (fun c21 => ?_)
        · exact hE1 (fun z47 => (fun z48 => Or.elim z48 c22 (fun z49 => z49 c21)) z47.2)
        · exact hE0 ⟨c23, (Or.inr c21)⟩
  · replace h := h.2 c6
    refine wm_aload_n d_MM_begins_12 rfl rfl ?_
    refine wm_aload_n d_MM_begins_13 rfl rfl ?_
    refine gf_MM_38 rfl d_MM_begins_14 h1 ?_
    refine wm_iload_n d_MM_begins_17 rfl rfl ?_
    refine cf_MM_450 rfl d_MM_begins_18 h1 (Nat.le_of_ble_eq_true rfl) (Cv.mono h (fun M51 h => ?_))
    obtain ⟨hOM51, h⟩ := h
    obtain ⟨h54, h⟩ := h
    obtain ⟨h55, h⟩ := h
    obtain ⟨h56, h⟩ := h
    obtain ⟨h57, h⟩ := h
    obtain ⟨h58, h⟩ := h
    obtain ⟨h59, h⟩ := h
    obtain ⟨h60, h⟩ := h
    obtain ⟨M61, e62⟩ : ∃ M61, M61 = mUI M51 (mR M51 (mR M51 a0 10) 16) (Int.toNat l1) (mL M51 (mR M51 a0 21) 0) := ⟨_, rfl⟩
    replace h := h M61 e62
    refine wm_aload_n d_MM_begins_21 rfl rfl ?_
    refine gf_MM_38 rfl d_MM_begins_22 h54 ?_
    refine gf_MM_469 rfl d_MM_begins_25 h55 ?_
    refine wm_iload_n d_MM_begins_28 rfl rfl ?_
    refine wm_aload_n d_MM_begins_29 rfl rfl ?_
    refine gf_MM_63 rfl d_MM_begins_30 h54 ?_
    refine wm_iconst d_MM_begins_33 ?_
    refine wm_lald d_MM_begins_34 h56 h57 ?_
    refine wm_l2i d_MM_begins_35 ?_
    have hOM61 : mOk M61 := by rw [e62]; exact mOk_UI hOM51 h60
    refine wm_iastE d_MM_begins_36 h58 h59 h60 e62 ?_
    refine wm_return d_MM_begins_37 rfl ?_
    exact ⟨rfl, h⟩
