theorem d_Ma_relate_0 : decode y_Ma_relate.2.1 0 = .ok (.iload_n 1, 1) := by decide +kernel
theorem d_Ma_relate_1 : decode y_Ma_relate.2.1 1 = .ok (.bipush 15, 2) := by decide +kernel
theorem d_Ma_relate_3 : decode y_Ma_relate.2.1 3 = .ok (.if_icmp .eq 9, 3) := by decide +kernel
theorem d_Ma_relate_6 : decode y_Ma_relate.2.1 6 = .ok (.iload_n 1, 1) := by decide +kernel
theorem d_Ma_relate_7 : decode y_Ma_relate.2.1 7 = .ok (.bipush 16, 2) := by decide +kernel
theorem d_Ma_relate_9 : decode y_Ma_relate.2.1 9 = .ok (.if_icmp .ne 68, 3) := by decide +kernel
theorem d_Ma_relate_77 : decode y_Ma_relate.2.1 77 = .ok (.iload_n 1, 1) := by decide +kernel
theorem d_Ma_relate_78 : decode y_Ma_relate.2.1 78 = .ok (.tableswitch 103 19 24 #[51, 77, 103, 64, 90, 38], 38) := by decide +kernel
theorem d_Ma_relate_12 : decode y_Ma_relate.2.1 12 = .ok (.iload_n 2, 1) := by decide +kernel
theorem d_Ma_relate_13 : decode y_Ma_relate.2.1 13 = .ok (.ifCond .le 7, 3) := by decide +kernel
theorem d_Ma_relate_20 : decode y_Ma_relate.2.1 20 = .ok (.iconst 0, 1) := by decide +kernel
theorem d_Ma_relate_16 : decode y_Ma_relate.2.1 16 = .ok (.iconst 1, 1) := by decide +kernel
theorem d_Ma_relate_17 : decode y_Ma_relate.2.1 17 = .ok (.goto 4, 3) := by decide +kernel
theorem d_Ma_relate_21 : decode y_Ma_relate.2.1 21 = .ok (.iload_n 1, 1) := by decide +kernel
theorem d_Ma_relate_22 : decode y_Ma_relate.2.1 22 = .ok (.bipush 15, 2) := by decide +kernel
theorem d_Ma_relate_24 : decode y_Ma_relate.2.1 24 = .ok (.if_icmp .ne 7, 3) := by decide +kernel
theorem d_Ma_relate_27 : decode y_Ma_relate.2.1 27 = .ok (.iconst 1, 1) := by decide +kernel
theorem d_Ma_relate_28 : decode y_Ma_relate.2.1 28 = .ok (.goto 4, 3) := by decide +kernel
theorem d_Ma_relate_31 : decode y_Ma_relate.2.1 31 = .ok (.iconst 0, 1) := by decide +kernel
theorem d_Ma_relate_32 : decode y_Ma_relate.2.1 32 = .ok (.if_icmp .ne 43, 3) := by decide +kernel
theorem d_Ma_relate_35 : decode y_Ma_relate.2.1 35 = .ok (.aload_n 0, 1) := by decide +kernel
theorem d_Ma_relate_36 : decode y_Ma_relate.2.1 36 = .ok (.getfield 18, 3) := by decide +kernel
theorem d_Ma_relate_39 : decode y_Ma_relate.2.1 39 = .ok (.aload_n 0, 1) := by decide +kernel
theorem d_Ma_relate_40 : decode y_Ma_relate.2.1 40 = .ok (.getfield 52, 3) := by decide +kernel
theorem d_Ma_relate_43 : decode y_Ma_relate.2.1 43 = .ok (.iconst 1, 1) := by decide +kernel
theorem d_Ma_relate_44 : decode y_Ma_relate.2.1 44 = .ok (.isub, 1) := by decide +kernel
theorem d_Ma_relate_45 : decode y_Ma_relate.2.1 45 = .ok (.aload_n 0, 1) := by decide +kernel
theorem d_Ma_relate_46 : decode y_Ma_relate.2.1 46 = .ok (.getfield 18, 3) := by decide +kernel
theorem d_Ma_relate_49 : decode y_Ma_relate.2.1 49 = .ok (.aload_n 0, 1) := by decide +kernel
theorem d_Ma_relate_50 : decode y_Ma_relate.2.1 50 = .ok (.getfield 52, 3) := by decide +kernel
theorem d_Ma_relate_53 : decode y_Ma_relate.2.1 53 = .ok (.iaload, 1) := by decide +kernel
theorem d_Ma_relate_54 : decode y_Ma_relate.2.1 54 = .ok (.iastore, 1) := by decide +kernel
theorem d_Ma_relate_55 : decode y_Ma_relate.2.1 55 = .ok (.aload_n 0, 1) := by decide +kernel
theorem d_Ma_relate_56 : decode y_Ma_relate.2.1 56 = .ok (.getfield 21, 3) := by decide +kernel
theorem d_Ma_relate_59 : decode y_Ma_relate.2.1 59 = .ok (.aload_n 0, 1) := by decide +kernel
theorem d_Ma_relate_60 : decode y_Ma_relate.2.1 60 = .ok (.getfield 52, 3) := by decide +kernel
theorem d_Ma_relate_63 : decode y_Ma_relate.2.1 63 = .ok (.iconst 1, 1) := by decide +kernel
theorem d_Ma_relate_64 : decode y_Ma_relate.2.1 64 = .ok (.isub, 1) := by decide +kernel
theorem d_Ma_relate_65 : decode y_Ma_relate.2.1 65 = .ok (.aload_n 0, 1) := by decide +kernel
theorem d_Ma_relate_66 : decode y_Ma_relate.2.1 66 = .ok (.getfield 21, 3) := by decide +kernel
theorem d_Ma_relate_69 : decode y_Ma_relate.2.1 69 = .ok (.aload_n 0, 1) := by decide +kernel
theorem d_Ma_relate_70 : decode y_Ma_relate.2.1 70 = .ok (.getfield 52, 3) := by decide +kernel
theorem d_Ma_relate_73 : decode y_Ma_relate.2.1 73 = .ok (.iaload, 1) := by decide +kernel
theorem d_Ma_relate_74 : decode y_Ma_relate.2.1 74 = .ok (.iastore, 1) := by decide +kernel
theorem d_Ma_relate_129 : decode y_Ma_relate.2.1 129 = .ok (.iload_n 2, 1) := by decide +kernel
theorem d_Ma_relate_130 : decode y_Ma_relate.2.1 130 = .ok (.ifCond .eq 7, 3) := by decide +kernel
theorem d_Ma_relate_137 : decode y_Ma_relate.2.1 137 = .ok (.iconst 0, 1) := by decide +kernel
theorem d_Ma_relate_138 : decode y_Ma_relate.2.1 138 = .ok (.istore_n 3, 1) := by decide +kernel
theorem d_Ma_relate_139 : decode y_Ma_relate.2.1 139 = .ok (.goto 52, 3) := by decide +kernel
theorem d_Ma_relate_133 : decode y_Ma_relate.2.1 133 = .ok (.iconst 1, 1) := by decide +kernel
theorem d_Ma_relate_134 : decode y_Ma_relate.2.1 134 = .ok (.goto 4, 3) := by decide +kernel
theorem d_Ma_relate_155 : decode y_Ma_relate.2.1 155 = .ok (.iload_n 2, 1) := by decide +kernel
theorem d_Ma_relate_156 : decode y_Ma_relate.2.1 156 = .ok (.ifCond .gt 7, 3) := by decide +kernel
theorem d_Ma_relate_163 : decode y_Ma_relate.2.1 163 = .ok (.iconst 0, 1) := by decide +kernel
theorem d_Ma_relate_164 : decode y_Ma_relate.2.1 164 = .ok (.istore_n 3, 1) := by decide +kernel
theorem d_Ma_relate_165 : decode y_Ma_relate.2.1 165 = .ok (.goto 26, 3) := by decide +kernel
theorem d_Ma_relate_159 : decode y_Ma_relate.2.1 159 = .ok (.iconst 1, 1) := by decide +kernel
theorem d_Ma_relate_160 : decode y_Ma_relate.2.1 160 = .ok (.goto 4, 3) := by decide +kernel
theorem d_Ma_relate_142 : decode y_Ma_relate.2.1 142 = .ok (.iload_n 2, 1) := by decide +kernel
theorem d_Ma_relate_143 : decode y_Ma_relate.2.1 143 = .ok (.ifCond .ge 7, 3) := by decide +kernel
theorem d_Ma_relate_150 : decode y_Ma_relate.2.1 150 = .ok (.iconst 0, 1) := by decide +kernel
theorem d_Ma_relate_151 : decode y_Ma_relate.2.1 151 = .ok (.istore_n 3, 1) := by decide +kernel
theorem d_Ma_relate_152 : decode y_Ma_relate.2.1 152 = .ok (.goto 39, 3) := by decide +kernel
theorem d_Ma_relate_146 : decode y_Ma_relate.2.1 146 = .ok (.iconst 1, 1) := by decide +kernel
theorem d_Ma_relate_147 : decode y_Ma_relate.2.1 147 = .ok (.goto 4, 3) := by decide +kernel
theorem d_Ma_relate_168 : decode y_Ma_relate.2.1 168 = .ok (.iload_n 2, 1) := by decide +kernel
theorem d_Ma_relate_169 : decode y_Ma_relate.2.1 169 = .ok (.ifCond .le 7, 3) := by decide +kernel
theorem d_Ma_relate_176 : decode y_Ma_relate.2.1 176 = .ok (.iconst 0, 1) := by decide +kernel
theorem d_Ma_relate_177 : decode y_Ma_relate.2.1 177 = .ok (.istore_n 3, 1) := by decide +kernel
theorem d_Ma_relate_178 : decode y_Ma_relate.2.1 178 = .ok (.goto 13, 3) := by decide +kernel
theorem d_Ma_relate_172 : decode y_Ma_relate.2.1 172 = .ok (.iconst 1, 1) := by decide +kernel
theorem d_Ma_relate_173 : decode y_Ma_relate.2.1 173 = .ok (.goto 4, 3) := by decide +kernel
theorem d_Ma_relate_116 : decode y_Ma_relate.2.1 116 = .ok (.iload_n 2, 1) := by decide +kernel
theorem d_Ma_relate_117 : decode y_Ma_relate.2.1 117 = .ok (.ifCond .ne 7, 3) := by decide +kernel
theorem d_Ma_relate_120 : decode y_Ma_relate.2.1 120 = .ok (.iconst 1, 1) := by decide +kernel
theorem d_Ma_relate_121 : decode y_Ma_relate.2.1 121 = .ok (.goto 4, 3) := by decide +kernel
theorem d_Ma_relate_125 : decode y_Ma_relate.2.1 125 = .ok (.istore_n 3, 1) := by decide +kernel
theorem d_Ma_relate_126 : decode y_Ma_relate.2.1 126 = .ok (.goto 65, 3) := by decide +kernel
theorem d_Ma_relate_124 : decode y_Ma_relate.2.1 124 = .ok (.iconst 0, 1) := by decide +kernel
theorem d_Ma_relate_181 : decode y_Ma_relate.2.1 181 = .ok (.iload_n 2, 1) := by decide +kernel
theorem d_Ma_relate_182 : decode y_Ma_relate.2.1 182 = .ok (.ifCond .lt 7, 3) := by decide +kernel
theorem d_Ma_relate_189 : decode y_Ma_relate.2.1 189 = .ok (.iconst 0, 1) := by decide +kernel
theorem d_Ma_relate_190 : decode y_Ma_relate.2.1 190 = .ok (.istore_n 3, 1) := by decide +kernel
theorem d_Ma_relate_185 : decode y_Ma_relate.2.1 185 = .ok (.iconst 1, 1) := by decide +kernel
theorem d_Ma_relate_186 : decode y_Ma_relate.2.1 186 = .ok (.goto 4, 3) := by decide +kernel
theorem d_Ma_relate_191 : decode y_Ma_relate.2.1 191 = .ok (.aload_n 0, 1) := by decide +kernel
theorem d_Ma_relate_192 : decode y_Ma_relate.2.1 192 = .ok (.getfield 18, 3) := by decide +kernel
theorem d_Ma_relate_195 : decode y_Ma_relate.2.1 195 = .ok (.aload_n 0, 1) := by decide +kernel
theorem d_Ma_relate_196 : decode y_Ma_relate.2.1 196 = .ok (.getfield 52, 3) := by decide +kernel
theorem d_Ma_relate_199 : decode y_Ma_relate.2.1 199 = .ok (.iconst 1, 1) := by decide +kernel
theorem d_Ma_relate_200 : decode y_Ma_relate.2.1 200 = .ok (.isub, 1) := by decide +kernel
theorem d_Ma_relate_201 : decode y_Ma_relate.2.1 201 = .ok (.iload_n 3, 1) := by decide +kernel
theorem d_Ma_relate_202 : decode y_Ma_relate.2.1 202 = .ok (.ifCond .eq 7, 3) := by decide +kernel
theorem d_Ma_relate_209 : decode y_Ma_relate.2.1 209 = .ok (.iconst 0, 1) := by decide +kernel
theorem d_Ma_relate_205 : decode y_Ma_relate.2.1 205 = .ok (.iconst 1, 1) := by decide +kernel
theorem d_Ma_relate_206 : decode y_Ma_relate.2.1 206 = .ok (.goto 4, 3) := by decide +kernel
theorem d_Ma_relate_210 : decode y_Ma_relate.2.1 210 = .ok (.iastore, 1) := by decide +kernel
theorem d_Ma_relate_211 : decode y_Ma_relate.2.1 211 = .ok (.aload_n 0, 1) := by decide +kernel
theorem d_Ma_relate_212 : decode y_Ma_relate.2.1 212 = .ok (.getfield 21, 3) := by decide +kernel
theorem d_Ma_relate_215 : decode y_Ma_relate.2.1 215 = .ok (.aload_n 0, 1) := by decide +kernel
theorem d_Ma_relate_216 : decode y_Ma_relate.2.1 216 = .ok (.getfield 52, 3) := by decide +kernel
theorem d_Ma_relate_219 : decode y_Ma_relate.2.1 219 = .ok (.iconst 1, 1) := by decide +kernel
theorem d_Ma_relate_220 : decode y_Ma_relate.2.1 220 = .ok (.isub, 1) := by decide +kernel
theorem d_Ma_relate_221 : decode y_Ma_relate.2.1 221 = .ok (.iconst 1, 1) := by decide +kernel
theorem d_Ma_relate_222 : decode y_Ma_relate.2.1 222 = .ok (.iastore, 1) := by decide +kernel
theorem d_Ma_relate_223 : decode y_Ma_relate.2.1 223 = .ok (.iconst 1, 1) := by decide +kernel
theorem d_Ma_relate_224 : decode y_Ma_relate.2.1 224 = .ok (.ireturn, 1) := by decide +kernel
theorem d_Ma_relate_75 : decode y_Ma_relate.2.1 75 = .ok (.iconst 1, 1) := by decide +kernel
theorem d_Ma_relate_76 : decode y_Ma_relate.2.1 76 = .ok (.ireturn, 1) := by decide +kernel
def h_Ma_relate_75 (G : mG) (d : Nat) (M : mM) (Q : Int → mM → Prop) : Prop := mWm G y_Ma_relate d 75 [vd, vd, vd, vd] [] M (fun r9 M9 => ∃ x9, r9 = some (vi x9) ∧ Q x9 M9)
theorem k_Ma_relate {G : mG} {d : Nat} {a0 : Nat} {l1 : Int} {l2 : Int} {M : mM} {Q : Int → mM → Prop} (hO : mOk M) (hi_l1 : i32 l1) (hi_l2 : i32 l2)
    (h : (((l1 = 15) ∨ (l1 = 16)) → (∀ v7 : Int, v7 = (if (l2 ≤ 0) then 0 else 1) → ∀ v13 : Int, v13 = (if (l1 = 15) then 1 else 0) → ((v7 = v13) → (mK M a0 = 5 ∧ mK M (mR M a0 6) = 30 ∧ ((0 : Int) ≤ mI M a0 8 ∧ mI M a0 8 < (mN M (mR M a0 6) : Int)) ∧ ((0 : Int) ≤ (mI M a0 8) - 1 ∧ (mI M a0 8) - 1 < (mN M (mR M a0 6) : Int)) ∧ ∀ M24, M24 = mUI M (mR M a0 6) (Int.toNat ((mI M a0 8) - 1)) (mI M (mR M a0 6) (Int.toNat (mI M a0 8))) → mK M24 (mR M24 a0 7) = 30 ∧ ((0 : Int) ≤ mI M24 a0 8 ∧ mI M24 a0 8 < (mN M24 (mR M24 a0 7) : Int)) ∧ ((0 : Int) ≤ (mI M24 a0 8) - 1 ∧ (mI M24 a0 8) - 1 < (mN M24 (mR M24 a0 7) : Int)) ∧ ∀ M29, M29 = mUI M24 (mR M24 a0 7) (Int.toNat ((mI M24 a0 8) - 1)) (mI M24 (mR M24 a0 7) (Int.toNat (mI M24 a0 8))) → h_Ma_relate_75 G d  M29 Q)) ∧ (¬ (v7 = v13) → (h_Ma_relate_75 G d  M Q)))) ∧ (¬ ((l1 = 15) ∨ (l1 = 16)) → (∀ v50 : Int, v50 = (if (((l1 = 19) ∧ (l2 = 0)) ∨ ((¬ (l1 = 19)) ∧ (((l1 = 20) ∧ (0 < l2)) ∨ ((¬ (l1 = 20)) ∧ (((l1 = 22) ∧ (0 ≤ l2)) ∨ ((¬ (l1 = 22)) ∧ (((l1 = 23) ∧ (l2 ≤ 0)) ∨ ((¬ (l1 = 23)) ∧ (((l1 = 24) ∧ (¬ (l2 = 0))) ∨ ((¬ (l1 = 24)) ∧ (l2 < 0))))))))))) then 0 else 1) → mK M a0 = 5 ∧ ∀ v57 : Int, v57 = (if (v50 = 0) then 0 else 1) → mK M (mR M a0 6) = 30 ∧ ((0 : Int) ≤ (mI M a0 8) - 1 ∧ (mI M a0 8) - 1 < (mN M (mR M a0 6) : Int)) ∧ ∀ M64, M64 = mUI M (mR M a0 6) (Int.toNat ((mI M a0 8) - 1)) v57 → mK M64 (mR M64 a0 7) = 30 ∧ ((0 : Int) ≤ (mI M64 a0 8) - 1 ∧ (mI M64 a0 8) - 1 < (mN M64 (mR M64 a0 7) : Int)) ∧ ∀ M68, M68 = mUI M64 (mR M64 a0 7) (Int.toNat ((mI M64 a0 8) - 1)) 1 → Q 1 M68))) :
    Ci G y_Ma_relate d [vr a0, vi l1, vi l2] M Q := by
  refine wm_open (y := y_Ma_relate) rfl (Nat.le_of_ble_eq_true rfl) (L := [vr a0, vi l1, vi l2, vd]) rfl ?_
  refine wm_iload_n d_Ma_relate_0 rfl rfl ?_
  refine wm_bipush d_Ma_relate_1 (by decide) ?_
  have hE0 : ((l1 = 15) ∨ (l1 = 16)) → mWm G y_Ma_relate d 12 [vr a0, vi l1, vi l2, vd] [] M (fun r9 M9 => ∃ x9, r9 = some (vi x9) ∧ Q x9 M9) := by
    intro q5
    have h := h.1 q5
    refine wm_iload_n d_Ma_relate_12 rfl rfl ?_
    have hJ : ∀ v7 : Int, v7 = (if (l2 ≤ 0) then 0 else 1) → mWm G y_Ma_relate d 21 [vr a0, vi l1, vd, vd] [vi v7] M (fun r9 M9 => ∃ x9, r9 = some (vi x9) ∧ Q x9 M9) := by
      intro v7 e9
      have h := h v7 e9
      have h10 : i32 v7 := by rw [e9]; (repeat' split) <;> first | exact ⟨by decide, by decide⟩ | exact ⟨by decide, by decide⟩
      have h11 : (v7 = 0 ∨ v7 = 1) := by rw [e9]; (repeat' split) <;> decide
      refine wm_iload_n d_Ma_relate_21 rfl rfl ?_
      refine wm_bipush d_Ma_relate_22 (by decide) ?_
      have hJ : ∀ v13 : Int, v13 = (if (l1 = 15) then 1 else 0) → mWm G y_Ma_relate d 32 [vr a0, vd, vd, vd] [vi v13, vi v7] M (fun r9 M9 => ∃ x9, r9 = some (vi x9) ∧ Q x9 M9) := by
        intro v13 e15
        have h := h v13 e15
        have h16 : i32 v13 := by rw [e15]; (repeat' split) <;> first | exact ⟨by decide, by decide⟩ | exact ⟨by decide, by decide⟩
        have h17 : (v13 = 0 ∨ v13 = 1) := by rw [e15]; (repeat' split) <;> decide
        refine wm_icmp_ne (tgt := 75) d_Ma_relate_32 rfl h10 h16 (fun c19 => ?_) (fun c19 => ?_)
        · replace h := h.2 c19
          refine wm_less (L' := [vd, vd, vd, vd]) ⟨Or.inl rfl, Or.inl rfl, Or.inl rfl, Or.inl rfl, trivial⟩ ?_
          exact h
        · replace c19 := Classical.not_not.mp c19
          replace h := h.1 c19
          obtain ⟨h20, h⟩ := h
          obtain ⟨h21, h⟩ := h
          obtain ⟨h22, h⟩ := h
          obtain ⟨h23, h⟩ := h
          obtain ⟨M24, e25⟩ : ∃ M24, M24 = mUI M (mR M a0 6) (Int.toNat ((mI M a0 8) - 1)) (mI M (mR M a0 6) (Int.toNat (mI M a0 8))) := ⟨_, rfl⟩
          replace h := h M24 e25
          obtain ⟨h26, h⟩ := h
          obtain ⟨h27, h⟩ := h
          obtain ⟨h28, h⟩ := h
          obtain ⟨M29, e30⟩ : ∃ M29, M29 = mUI M24 (mR M24 a0 7) (Int.toNat ((mI M24 a0 8) - 1)) (mI M24 (mR M24 a0 7) (Int.toNat (mI M24 a0 8))) := ⟨_, rfl⟩
          replace h := h M29 e30
          refine wm_aload_n d_Ma_relate_35 rfl rfl ?_
          refine gf_Ma_18 rfl d_Ma_relate_36 h20 ?_
          refine wm_aload_n d_Ma_relate_39 rfl rfl ?_
          refine gf_Ma_52 rfl d_Ma_relate_40 h20 ?_
          refine wm_iconst d_Ma_relate_43 ?_
          refine wm_isub d_Ma_relate_44 ?_
          refine wm_aload_n d_Ma_relate_45 rfl rfl ?_
          refine gf_Ma_18 rfl d_Ma_relate_46 h20 ?_
          refine wm_aload_n d_Ma_relate_49 rfl rfl ?_
          refine gf_Ma_52 rfl d_Ma_relate_50 h20 ?_
          refine wm_iald d_Ma_relate_53 h21 h22 ?_
          have hOM24 : mOk M24 := by rw [e25]; exact mOk_UI hO (hO _ _).1
          refine wm_iastE d_Ma_relate_54 h21 h23 (hO _ _).1 e25 ?_
          refine wm_aload_n d_Ma_relate_55 rfl rfl ?_
          refine gf_Ma_21 rfl d_Ma_relate_56 (by rw [e25]; exact h20) ?_
          refine wm_aload_n d_Ma_relate_59 rfl rfl ?_
          refine gf_Ma_52 rfl d_Ma_relate_60 (by rw [e25]; exact h20) ?_
          refine wm_iconst d_Ma_relate_63 ?_
          refine wm_isub d_Ma_relate_64 ?_
          refine wm_aload_n d_Ma_relate_65 rfl rfl ?_
          refine gf_Ma_21 rfl d_Ma_relate_66 (by rw [e25]; exact h20) ?_
          refine wm_aload_n d_Ma_relate_69 rfl rfl ?_
          refine gf_Ma_52 rfl d_Ma_relate_70 (by rw [e25]; exact h20) ?_
          refine wm_iald d_Ma_relate_73 h26 h27 ?_
          have hOM29 : mOk M29 := by rw [e30]; exact mOk_UI hOM24 (hOM24 _ _).1
          refine wm_iastE d_Ma_relate_74 h26 h28 (hOM24 _ _).1 e30 ?_
          refine wm_less (L' := [vd, vd, vd, vd]) ⟨Or.inl rfl, Or.inl rfl, Or.inl rfl, Or.inl rfl, trivial⟩ ?_
          exact h
      clear h
      refine wm_icmp_ne (tgt := 31) d_Ma_relate_24 rfl hi_l1 ⟨by decide, by decide⟩ (fun c12 => ?_) (fun c12 => ?_)
      · refine wm_iconst d_Ma_relate_31 ?_
        refine wm_less (L' := [vr a0, vd, vd, vd]) ⟨Or.inr rfl, Or.inl rfl, Or.inl rfl, Or.inl rfl, trivial⟩ ?_
        exact hJ 0 (if_neg c12).symm
      · replace c12 := Classical.not_not.mp c12
        refine wm_iconst d_Ma_relate_27 ?_
        refine wm_goto (tgt := 32) d_Ma_relate_28 rfl ?_
        refine wm_less (L' := [vr a0, vd, vd, vd]) ⟨Or.inr rfl, Or.inl rfl, Or.inl rfl, Or.inl rfl, trivial⟩ ?_
        exact hJ 1 (if_pos c12).symm
    clear h
    refine wm_if_le (tgt := 20) d_Ma_relate_13 rfl hi_l2 (fun c6 => ?_) (fun c6 => ?_)
    · refine wm_iconst d_Ma_relate_20 ?_
      refine wm_less (L' := [vr a0, vi l1, vd, vd]) ⟨Or.inr rfl, Or.inr rfl, Or.inl rfl, Or.inl rfl, trivial⟩ ?_
      exact hJ 0 (if_pos c6).symm
    · refine wm_iconst d_Ma_relate_16 ?_
      refine wm_goto (tgt := 21) d_Ma_relate_17 rfl ?_
      refine wm_less (L' := [vr a0, vi l1, vd, vd]) ⟨Or.inr rfl, Or.inr rfl, Or.inl rfl, Or.inl rfl, trivial⟩ ?_
      exact hJ 1 (if_neg c6).symm
  have hE1 : ¬ ((l1 = 15) ∨ (l1 = 16)) → mWm G y_Ma_relate d 77 [vr a0, vi l1, vi l2, vd] [] M (fun r9 M9 => ∃ x9, r9 = some (vi x9) ∧ Q x9 M9) := by
    intro q33
    have h := h.2 q33
    refine wm_iload_n d_Ma_relate_77 rfl rfl ?_
    have hJ : ∀ v50 : Int, v50 = (if (((l1 = 19) ∧ (l2 = 0)) ∨ ((¬ (l1 = 19)) ∧ (((l1 = 20) ∧ (0 < l2)) ∨ ((¬ (l1 = 20)) ∧ (((l1 = 22) ∧ (0 ≤ l2)) ∨ ((¬ (l1 = 22)) ∧ (((l1 = 23) ∧ (l2 ≤ 0)) ∨ ((¬ (l1 = 23)) ∧ (((l1 = 24) ∧ (¬ (l2 = 0))) ∨ ((¬ (l1 = 24)) ∧ (l2 < 0))))))))))) then 0 else 1) → mWm G y_Ma_relate d 191 [vr a0, vd, vd, vi v50] [] M (fun r9 M9 => ∃ x9, r9 = some (vi x9) ∧ Q x9 M9) := by
      intro v50 e52
      have h := h v50 e52
      have h53 : i32 v50 := by rw [e52]; (repeat' split) <;> first | exact ⟨by decide, by decide⟩ | exact ⟨by decide, by decide⟩
      have h54 : (v50 = 0 ∨ v50 = 1) := by rw [e52]; (repeat' split) <;> decide
      obtain ⟨h55, h⟩ := h
      refine wm_aload_n d_Ma_relate_191 rfl rfl ?_
      refine gf_Ma_18 rfl d_Ma_relate_192 h55 ?_
      refine wm_aload_n d_Ma_relate_195 rfl rfl ?_
      refine gf_Ma_52 rfl d_Ma_relate_196 h55 ?_
      refine wm_iconst d_Ma_relate_199 ?_
      refine wm_isub d_Ma_relate_200 ?_
      refine wm_iload_n d_Ma_relate_201 rfl rfl ?_
      have hJ : ∀ v57 : Int, v57 = (if (v50 = 0) then 0 else 1) → mWm G y_Ma_relate d 210 [vr a0, vd, vd, vd] [vi v57, vi ((mI M a0 8) - 1), vr (mR M a0 6)] M (fun r9 M9 => ∃ x9, r9 = some (vi x9) ∧ Q x9 M9) := by
        intro v57 e59
        have h := h v57 e59
        have h60 : i32 v57 := by rw [e59]; (repeat' split) <;> first | exact ⟨by decide, by decide⟩ | exact ⟨by decide, by decide⟩
        have h61 : (v57 = 0 ∨ v57 = 1) := by rw [e59]; (repeat' split) <;> decide
        obtain ⟨h62, h⟩ := h
        obtain ⟨h63, h⟩ := h
        obtain ⟨M64, e65⟩ : ∃ M64, M64 = mUI M (mR M a0 6) (Int.toNat ((mI M a0 8) - 1)) v57 := ⟨_, rfl⟩
        replace h := h M64 e65
        obtain ⟨h66, h⟩ := h
        obtain ⟨h67, h⟩ := h
        obtain ⟨M68, e69⟩ : ∃ M68, M68 = mUI M64 (mR M64 a0 7) (Int.toNat ((mI M64 a0 8) - 1)) 1 := ⟨_, rfl⟩
        replace h := h M68 e69
        have hOM64 : mOk M64 := by rw [e65]; exact mOk_UI hO h60
        refine wm_iastE d_Ma_relate_210 h62 h63 h60 e65 ?_
        refine wm_aload_n d_Ma_relate_211 rfl rfl ?_
        refine gf_Ma_21 rfl d_Ma_relate_212 (by rw [e65]; exact h55) ?_
        refine wm_aload_n d_Ma_relate_215 rfl rfl ?_
        refine gf_Ma_52 rfl d_Ma_relate_216 (by rw [e65]; exact h55) ?_
        refine wm_iconst d_Ma_relate_219 ?_
        refine wm_isub d_Ma_relate_220 ?_
        refine wm_iconst d_Ma_relate_221 ?_
        have hOM68 : mOk M68 := by rw [e69]; exact mOk_UI hOM64 ⟨by decide, by decide⟩
        refine wm_iastE d_Ma_relate_222 h66 h67 ⟨by decide, by decide⟩ e69 ?_
        refine wm_iconst d_Ma_relate_223 ?_
        refine wm_ireturn d_Ma_relate_224 rfl (m_nb (by decide)) ?_
        exact ⟨_, rfl, h⟩
      clear h
      refine wm_if_eq (tgt := 209) d_Ma_relate_202 rfl h53 (fun c56 => ?_) (fun c56 => ?_)
      · refine wm_iconst d_Ma_relate_209 ?_
        refine wm_less (L' := [vr a0, vd, vd, vd]) ⟨Or.inr rfl, Or.inl rfl, Or.inl rfl, Or.inl rfl, trivial⟩ ?_
        exact hJ 0 (if_pos c56).symm
      · refine wm_iconst d_Ma_relate_205 ?_
        refine wm_goto (tgt := 210) d_Ma_relate_206 rfl ?_
        refine wm_less (L' := [vr a0, vd, vd, vd]) ⟨Or.inr rfl, Or.inl rfl, Or.inl rfl, Or.inl rfl, trivial⟩ ?_
        exact hJ 1 (if_neg c56).symm
    clear h
    by_cases c35 : l1 = 19
    · refine wm_tableIn (tgt := 129) (off := 51) d_Ma_relate_78 hi_l1 (by omega) (by omega) (by rw [c35]; rfl) rfl ?_
      refine wm_iload_n d_Ma_relate_129 rfl rfl ?_
      refine wm_if_eq (tgt := 137) d_Ma_relate_130 rfl hi_l2 (fun c36 => ?_) (fun c36 => ?_)
      · refine wm_iconst d_Ma_relate_137 ?_
        refine wm_istore_n d_Ma_relate_138 rfl (by decide) (L' := [vr a0, vi l1, vi l2, vi 0]) rfl ?_
        refine wm_goto (tgt := 191) d_Ma_relate_139 rfl ?_
        refine wm_less (L' := [vr a0, vd, vd, vi 0]) ⟨Or.inr rfl, Or.inl rfl, Or.inl rfl, Or.inr rfl, trivial⟩ ?_
        exact hJ 0 (if_pos (Or.inl ⟨c35, c36⟩)).symm
      · refine wm_iconst d_Ma_relate_133 ?_
        refine wm_goto (tgt := 138) d_Ma_relate_134 rfl ?_
        refine wm_istore_n d_Ma_relate_138 rfl (by decide) (L' := [vr a0, vi l1, vi l2, vi 1]) rfl ?_
        refine wm_goto (tgt := 191) d_Ma_relate_139 rfl ?_
        refine wm_less (L' := [vr a0, vd, vd, vi 1]) ⟨Or.inr rfl, Or.inl rfl, Or.inl rfl, Or.inr rfl, trivial⟩ ?_
        exact hJ 1 (if_neg (fun z71 => Or.elim z71 (fun w => c36 w.2) (fun w => w.1 c35))).symm
    · by_cases c38 : l1 = 20
      · refine wm_tableIn (tgt := 155) (off := 77) d_Ma_relate_78 hi_l1 (by omega) (by omega) (by rw [c38]; rfl) rfl ?_
        refine wm_iload_n d_Ma_relate_155 rfl rfl ?_
        refine wm_if_gt (tgt := 163) d_Ma_relate_156 rfl hi_l2 (fun c39 => ?_) (fun c39 => ?_)
        · refine wm_iconst d_Ma_relate_163 ?_
          refine wm_istore_n d_Ma_relate_164 rfl (by decide) (L' := [vr a0, vi l1, vi l2, vi 0]) rfl ?_
          refine wm_goto (tgt := 191) d_Ma_relate_165 rfl ?_
          refine wm_less (L' := [vr a0, vd, vd, vi 0]) ⟨Or.inr rfl, Or.inl rfl, Or.inl rfl, Or.inr rfl, trivial⟩ ?_
          exact hJ 0 (if_pos (Or.inr ⟨c35, (Or.inl ⟨c38, c39⟩)⟩)).symm
        · refine wm_iconst d_Ma_relate_159 ?_
          refine wm_goto (tgt := 164) d_Ma_relate_160 rfl ?_
          refine wm_istore_n d_Ma_relate_164 rfl (by decide) (L' := [vr a0, vi l1, vi l2, vi 1]) rfl ?_
          refine wm_goto (tgt := 191) d_Ma_relate_165 rfl ?_
          refine wm_less (L' := [vr a0, vd, vd, vi 1]) ⟨Or.inr rfl, Or.inl rfl, Or.inl rfl, Or.inr rfl, trivial⟩ ?_
          exact hJ 1 (if_neg (fun z73 => Or.elim z73 (fun w => c35 w.1) (fun w => (fun z74 => Or.elim z74 (fun w => c39 w.2) (fun w => w.1 c38)) w.2))).symm
      · by_cases c41 : l1 = 22
        · refine wm_tableIn (tgt := 142) (off := 64) d_Ma_relate_78 hi_l1 (by omega) (by omega) (by rw [c41]; rfl) rfl ?_
          refine wm_iload_n d_Ma_relate_142 rfl rfl ?_
          refine wm_if_ge (tgt := 150) d_Ma_relate_143 rfl hi_l2 (fun c42 => ?_) (fun c42 => ?_)
          · refine wm_iconst d_Ma_relate_150 ?_
            refine wm_istore_n d_Ma_relate_151 rfl (by decide) (L' := [vr a0, vi l1, vi l2, vi 0]) rfl ?_
            refine wm_goto (tgt := 191) d_Ma_relate_152 rfl ?_
            refine wm_less (L' := [vr a0, vd, vd, vi 0]) ⟨Or.inr rfl, Or.inl rfl, Or.inl rfl, Or.inr rfl, trivial⟩ ?_
            exact hJ 0 (if_pos (Or.inr ⟨c35, (Or.inr ⟨c38, (Or.inl ⟨c41, c42⟩)⟩)⟩)).symm
          · refine wm_iconst d_Ma_relate_146 ?_
            refine wm_goto (tgt := 151) d_Ma_relate_147 rfl ?_
            refine wm_istore_n d_Ma_relate_151 rfl (by decide) (L' := [vr a0, vi l1, vi l2, vi 1]) rfl ?_
            refine wm_goto (tgt := 191) d_Ma_relate_152 rfl ?_
            refine wm_less (L' := [vr a0, vd, vd, vi 1]) ⟨Or.inr rfl, Or.inl rfl, Or.inl rfl, Or.inr rfl, trivial⟩ ?_
            exact hJ 1 (if_neg (fun z76 => Or.elim z76 (fun w => c35 w.1) (fun w => (fun z77 => Or.elim z77 (fun w => c38 w.1) (fun w => (fun z78 => Or.elim z78 (fun w => c42 w.2) (fun w => w.1 c41)) w.2)) w.2))).symm
        · by_cases c44 : l1 = 23
          · refine wm_tableIn (tgt := 168) (off := 90) d_Ma_relate_78 hi_l1 (by omega) (by omega) (by rw [c44]; rfl) rfl ?_
            refine wm_iload_n d_Ma_relate_168 rfl rfl ?_
            refine wm_if_le (tgt := 176) d_Ma_relate_169 rfl hi_l2 (fun c45 => ?_) (fun c45 => ?_)
            · refine wm_iconst d_Ma_relate_176 ?_
              refine wm_istore_n d_Ma_relate_177 rfl (by decide) (L' := [vr a0, vi l1, vi l2, vi 0]) rfl ?_
              refine wm_goto (tgt := 191) d_Ma_relate_178 rfl ?_
              refine wm_less (L' := [vr a0, vd, vd, vi 0]) ⟨Or.inr rfl, Or.inl rfl, Or.inl rfl, Or.inr rfl, trivial⟩ ?_
              exact hJ 0 (if_pos (Or.inr ⟨c35, (Or.inr ⟨c38, (Or.inr ⟨c41, (Or.inl ⟨c44, c45⟩)⟩)⟩)⟩)).symm
            · refine wm_iconst d_Ma_relate_172 ?_
              refine wm_goto (tgt := 177) d_Ma_relate_173 rfl ?_
              refine wm_istore_n d_Ma_relate_177 rfl (by decide) (L' := [vr a0, vi l1, vi l2, vi 1]) rfl ?_
              refine wm_goto (tgt := 191) d_Ma_relate_178 rfl ?_
              refine wm_less (L' := [vr a0, vd, vd, vi 1]) ⟨Or.inr rfl, Or.inl rfl, Or.inl rfl, Or.inr rfl, trivial⟩ ?_
              exact hJ 1 (if_neg (fun z80 => Or.elim z80 (fun w => c35 w.1) (fun w => (fun z81 => Or.elim z81 (fun w => c38 w.1) (fun w => (fun z82 => Or.elim z82 (fun w => c41 w.1) (fun w => (fun z83 => Or.elim z83 (fun w => c45 w.2) (fun w => w.1 c44)) w.2)) w.2)) w.2))).symm
          · by_cases c47 : l1 = 24
            · refine wm_tableIn (tgt := 116) (off := 38) d_Ma_relate_78 hi_l1 (by omega) (by omega) (by rw [c47]; rfl) rfl ?_
              refine wm_iload_n d_Ma_relate_116 rfl rfl ?_
              refine wm_if_ne (tgt := 124) d_Ma_relate_117 rfl hi_l2 (fun c48 => ?_) (fun c48 => ?_)
              · refine wm_iconst d_Ma_relate_124 ?_
                refine wm_istore_n d_Ma_relate_125 rfl (by decide) (L' := [vr a0, vi l1, vi l2, vi 0]) rfl ?_
                refine wm_goto (tgt := 191) d_Ma_relate_126 rfl ?_
                refine wm_less (L' := [vr a0, vd, vd, vi 0]) ⟨Or.inr rfl, Or.inl rfl, Or.inl rfl, Or.inr rfl, trivial⟩ ?_
                exact hJ 0 (if_pos (Or.inr ⟨c35, (Or.inr ⟨c38, (Or.inr ⟨c41, (Or.inr ⟨c44, (Or.inl ⟨c47, c48⟩)⟩)⟩)⟩)⟩)).symm
              · replace c48 := Classical.not_not.mp c48
                refine wm_iconst d_Ma_relate_120 ?_
                refine wm_goto (tgt := 125) d_Ma_relate_121 rfl ?_
                refine wm_istore_n d_Ma_relate_125 rfl (by decide) (L' := [vr a0, vi l1, vi l2, vi 1]) rfl ?_
                refine wm_goto (tgt := 191) d_Ma_relate_126 rfl ?_
                refine wm_less (L' := [vr a0, vd, vd, vi 1]) ⟨Or.inr rfl, Or.inl rfl, Or.inl rfl, Or.inr rfl, trivial⟩ ?_
                exact hJ 1 (if_neg (fun z85 => Or.elim z85 (fun w => c35 w.1) (fun w => (fun z86 => Or.elim z86 (fun w => c38 w.1) (fun w => (fun z87 => Or.elim z87 (fun w => c41 w.1) (fun w => (fun z88 => Or.elim z88 (fun w => c44 w.1) (fun w => (fun z89 => Or.elim z89 (fun w => (fun z90 => z90 c48) w.2) (fun w => w.1 c47)) w.2)) w.2)) w.2)) w.2))).symm
            · refine wm_tableD (tgt := 181) (off := 103) d_Ma_relate_78 hi_l1 (if q8 : 19 ≤ l1 ∧ l1 ≤ 24 then Or.inr ⟨q8.1, q8.2, by
      have q9 : l1 = 21 := by omega
      rcases q9 with q9 <;> (rw [q9]; rfl)⟩ else Or.inl (by omega)) rfl ?_
              refine wm_iload_n d_Ma_relate_181 rfl rfl ?_
              refine wm_if_lt (tgt := 189) d_Ma_relate_182 rfl hi_l2 (fun c49 => ?_) (fun c49 => ?_)
              · refine wm_iconst d_Ma_relate_189 ?_
                refine wm_istore_n d_Ma_relate_190 rfl (by decide) (L' := [vr a0, vi l1, vi l2, vi 0]) rfl ?_
                refine wm_less (L' := [vr a0, vd, vd, vi 0]) ⟨Or.inr rfl, Or.inl rfl, Or.inl rfl, Or.inr rfl, trivial⟩ ?_
                exact hJ 0 (if_pos (Or.inr ⟨c35, (Or.inr ⟨c38, (Or.inr ⟨c41, (Or.inr ⟨c44, (Or.inr ⟨c47, c49⟩)⟩)⟩)⟩)⟩)).symm
              · refine wm_iconst d_Ma_relate_185 ?_
                refine wm_goto (tgt := 190) d_Ma_relate_186 rfl ?_
                refine wm_istore_n d_Ma_relate_190 rfl (by decide) (L' := [vr a0, vi l1, vi l2, vi 1]) rfl ?_
                refine wm_less (L' := [vr a0, vd, vd, vi 1]) ⟨Or.inr rfl, Or.inl rfl, Or.inl rfl, Or.inr rfl, trivial⟩ ?_
                exact hJ 1 (if_neg (fun z91 => Or.elim z91 (fun w => c35 w.1) (fun w => (fun z92 => Or.elim z92 (fun w => c38 w.1) (fun w => (fun z93 => Or.elim z93 (fun w => c41 w.1) (fun w => (fun z94 => Or.elim z94 (fun w => c44 w.1) (fun w => (fun z95 => Or.elim z95 (fun w => c47 w.1) (fun w => c49 w.2)) w.2)) w.2)) w.2)) w.2))).symm
  clear h
  refine wm_icmp_eq (tgt := 12) d_Ma_relate_3 rfl hi_l1 ⟨by decide, by decide⟩ (fun c3 => ?_) (fun c3 => ?_)
  · exact hE0 (Or.inl c3)
  · refine wm_iload_n d_Ma_relate_6 rfl rfl ?_
    refine wm_bipush d_Ma_relate_7 (by decide) ?_
    refine wm_icmp_ne (tgt := 77) d_Ma_relate_9 rfl hi_l1 ⟨by decide, by decide⟩ (fun c2 => ?_) (fun c2 => ?_)
    · exact hE1 (fun z97 => Or.elim z97 c3 c2)
    · replace c2 := Classical.not_not.mp c2
      exact hE0 (Or.inr c2)
theorem k_Ma_relate_75 {G : mG} {d : Nat} {M : mM} {Q : Int → mM → Prop} (hO : mOk M)
    (h : Q 1 M) :
    h_Ma_relate_75 G d  M Q := by
  unfold h_Ma_relate_75
  refine wm_iconst d_Ma_relate_75 ?_
  refine wm_ireturn d_Ma_relate_76 rfl (m_nb (by decide)) ?_
  exact ⟨_, rfl, h⟩
theorem d_Na_init_0 : decode y_Na_init.2.1 0 = .ok (.aload_n 0, 1) := by decide +kernel
theorem d_Na_init_1 : decode y_Na_init.2.1 1 = .ok (.invokespecial 3, 3) := by decide +kernel
theorem d_Na_init_4 : decode y_Na_init.2.1 4 = .ok (.aload_n 0, 1) := by decide +kernel
theorem d_Na_init_5 : decode y_Na_init.2.1 5 = .ok (.iconst 4, 1) := by decide +kernel
theorem d_Na_init_6 : decode y_Na_init.2.1 6 = .ok (.newarray .int, 2) := by decide +kernel
theorem d_Na_init_8 : decode y_Na_init.2.1 8 = .ok (.putfield 9, 3) := by decide +kernel
theorem d_Na_init_11 : decode y_Na_init.2.1 11 = .ok (.aload_n 0, 1) := by decide +kernel
theorem d_Na_init_12 : decode y_Na_init.2.1 12 = .ok (.iconst 0, 1) := by decide +kernel
theorem d_Na_init_13 : decode y_Na_init.2.1 13 = .ok (.putfield 13, 3) := by decide +kernel
theorem d_Na_init_16 : decode y_Na_init.2.1 16 = .ok (.return_, 1) := by decide +kernel
theorem k_Na_init {G : mG} {d : Nat} {a0 : Nat} {M : mM} {Q : mM → Prop} (hO : mOk M)
    (h : 0 < a0 ∧ ∀ M2, M2 = mNew M 30 4 4 → mK M2 a0 = 10 ∧ ∀ M5, M5 = mUR M2 a0 0 (mZ M) → ∀ M7, M7 = mUI M5 a0 1 0 → Q M7) :
    Cv G y_Na_init (d + 1) [vr a0] M Q := by
  refine wm_open (y := y_Na_init) rfl (Nat.le_of_ble_eq_true rfl) (L := [vr a0]) rfl ?_
  obtain ⟨h1, h⟩ := h
  obtain ⟨M2, e3⟩ : ∃ M2, M2 = mNew M 30 4 4 := ⟨_, rfl⟩
  replace h := h M2 e3
  obtain ⟨h4, h⟩ := h
  obtain ⟨M5, e6⟩ : ∃ M5, M5 = mUR M2 a0 0 (mZ M) := ⟨_, rfl⟩
  replace h := h M5 e6
  obtain ⟨M7, e8⟩ : ∃ M7, M7 = mUI M5 a0 1 0 := ⟨_, rfl⟩
  replace h := h M7 e8
  refine wm_aload_n d_Na_init_0 rfl rfl ?_
  refine wm_objInit trivial k2_238 kO_inst kO_code (Nat.le_of_ble_eq_true rfl) d_Na_init_1 h1 ?_
  refine wm_aload_n d_Na_init_4 rfl rfl ?_
  refine wm_iconst d_Na_init_5 ?_
  have hOM2 : mOk M2 := by rw [e3]; exact mOk_New hO
  refine wm_newarrE 0 (atype := .int) (ty := .int) rfl rfl (fun _ => rfl) rfl rfl (by decide) k1_82 ⟨by decide, by decide⟩ d_Na_init_6 e3 ?_
  have hOM5 : mOk M5 := by rw [e6]; exact mOk_UR hOM2
  refine pf_Na_9 rfl d_Na_init_8 h4 e6 ?_
  refine wm_aload_n d_Na_init_11 rfl rfl ?_
  refine wm_iconst d_Na_init_12 ?_
  have hOM7 : mOk M7 := by rw [e8]; exact mOk_UI hOM5 ⟨by decide, by decide⟩
  refine pf_Na_13 rfl d_Na_init_13 (by rw [e6]; exact h4) ⟨by decide, by decide⟩ e8 ?_
  refine wm_return d_Na_init_16 rfl ?_
  exact ⟨rfl, h⟩
theorem d_Na_reserve_0 : decode y_Na_reserve.2.1 0 = .ok (.iload_n 1, 1) := by decide +kernel
theorem d_Na_reserve_1 : decode y_Na_reserve.2.1 1 = .ok (.aload_n 0, 1) := by decide +kernel
theorem d_Na_reserve_2 : decode y_Na_reserve.2.1 2 = .ok (.getfield 9, 3) := by decide +kernel
theorem d_Na_reserve_5 : decode y_Na_reserve.2.1 5 = .ok (.arraylength, 1) := by decide +kernel
theorem d_Na_reserve_6 : decode y_Na_reserve.2.1 6 = .ok (.if_icmp .le 25, 3) := by decide +kernel
theorem d_Na_reserve_9 : decode y_Na_reserve.2.1 9 = .ok (.aload_n 0, 1) := by decide +kernel
theorem d_Na_reserve_10 : decode y_Na_reserve.2.1 10 = .ok (.aload_n 0, 1) := by decide +kernel
theorem d_Na_reserve_11 : decode y_Na_reserve.2.1 11 = .ok (.getfield 9, 3) := by decide +kernel
theorem d_Na_reserve_14 : decode y_Na_reserve.2.1 14 = .ok (.iload_n 1, 1) := by decide +kernel
theorem d_Na_reserve_15 : decode y_Na_reserve.2.1 15 = .ok (.iconst 2, 1) := by decide +kernel
theorem d_Na_reserve_16 : decode y_Na_reserve.2.1 16 = .ok (.aload_n 0, 1) := by decide +kernel
theorem d_Na_reserve_17 : decode y_Na_reserve.2.1 17 = .ok (.getfield 9, 3) := by decide +kernel
theorem d_Na_reserve_20 : decode y_Na_reserve.2.1 20 = .ok (.arraylength, 1) := by decide +kernel
theorem d_Na_reserve_21 : decode y_Na_reserve.2.1 21 = .ok (.imul, 1) := by decide +kernel
theorem d_Na_reserve_22 : decode y_Na_reserve.2.1 22 = .ok (.invokestatic 17, 3) := by decide +kernel
theorem d_Na_reserve_31 : decode y_Na_reserve.2.1 31 = .ok (.return_, 1) := by decide +kernel
theorem d_Na_reserve_25 : decode y_Na_reserve.2.1 25 = .ok (.invokestatic 23, 3) := by decide +kernel
theorem d_Na_reserve_28 : decode y_Na_reserve.2.1 28 = .ok (.putfield 9, 3) := by decide +kernel
theorem k_Na_reserve {G : mG} {d : Nat} {a0 : Nat} {l1 : Int} {M : mM} {Q : mM → Prop} (hO : mOk M) (hi_l1 : i32 l1)
    (h : mK M a0 = 10 ∧ mK M (mR M a0 0) = 30 ∧ i32 (mN M (mR M a0 0) : Int) ∧ ((l1 ≤ (mN M (mR M a0 0) : Int)) → (Q M)) ∧ (¬ (l1 ≤ (mN M (mR M a0 0) : Int)) → (i32 (2 * (mN M (mR M a0 0) : Int)) ∧ Cr G y_JA_copyOf d [vr (mR M a0 0), vi (if l1 < 2 * (mN M (mR M a0 0) : Int) then 2 * (mN M (mR M a0 0) : Int) else l1)] M (fun x12 M11 => mOk M11 ∧ (mK M11 a0 = 10 ∧ ∀ M15, M15 = mUR M11 a0 0 x12 → Q M15))))) :
    Cv G y_Na_reserve (d + 1) [vr a0, vi l1] M Q := by
  refine wm_open (y := y_Na_reserve) rfl (Nat.le_of_ble_eq_true rfl) (L := [vr a0, vi l1]) rfl ?_
  obtain ⟨h1, h⟩ := h
  obtain ⟨h2, h⟩ := h
  obtain ⟨h8, h⟩ := h
  refine wm_iload_n d_Na_reserve_0 rfl rfl ?_
  refine wm_aload_n d_Na_reserve_1 rfl rfl ?_
  refine gf_Na_9 rfl d_Na_reserve_2 h1 ?_
  refine wm_alen 0 rfl (fun _ => rfl) d_Na_reserve_5 h2 ?_
  refine wm_icmp_le (tgt := 31) d_Na_reserve_6 rfl hi_l1 h8 (fun c9 => ?_) (fun c9 => ?_)
  · replace h := h.1 c9
    refine wm_return d_Na_reserve_31 rfl ?_
    exact ⟨rfl, h⟩
  · replace h := h.2 c9
    obtain ⟨h10, h⟩ := h
    refine wm_aload_n d_Na_reserve_9 rfl rfl ?_
    refine wm_aload_n d_Na_reserve_10 rfl rfl ?_
    refine gf_Na_9 rfl d_Na_reserve_11 h1 ?_
    refine wm_iload_n d_Na_reserve_14 rfl rfl ?_
    refine wm_iconst d_Na_reserve_15 ?_
    refine wm_aload_n d_Na_reserve_16 rfl rfl ?_
    refine gf_Na_9 rfl d_Na_reserve_17 h1 ?_
    refine wm_alen 0 rfl (fun _ => rfl) d_Na_reserve_20 h2 ?_
    refine wm_imul d_Na_reserve_21 ?_
    refine wm_mmax k5_191 (Nat.le_of_ble_eq_true rfl) hi_l1 h10 d_Na_reserve_22 ?_
    refine cf_Na_23 rfl d_Na_reserve_25 (Nat.le_of_ble_eq_true rfl) (Cr.mono h (fun x12 M11 h => ?_))
    obtain ⟨hOM11, h⟩ := h
    obtain ⟨h14, h⟩ := h
    obtain ⟨M15, e16⟩ : ∃ M15, M15 = mUR M11 a0 0 x12 := ⟨_, rfl⟩
    replace h := h M15 e16
    have hOM15 : mOk M15 := by rw [e16]; exact mOk_UR hOM11
    refine pf_Na_9 rfl d_Na_reserve_28 h14 e16 ?_
    refine wm_return d_Na_reserve_31 rfl ?_
    exact ⟨rfl, h⟩
theorem d_Na_trim_0 : decode y_Na_trim.2.1 0 = .ok (.aload_n 0, 1) := by decide +kernel
theorem d_Na_trim_1 : decode y_Na_trim.2.1 1 = .ok (.iload_n 1, 1) := by decide +kernel
theorem d_Na_trim_2 : decode y_Na_trim.2.1 2 = .ok (.putfield 13, 3) := by decide +kernel
theorem d_Na_trim_5 : decode y_Na_trim.2.1 5 = .ok (.aload_n 0, 1) := by decide +kernel
theorem d_Na_trim_6 : decode y_Na_trim.2.1 6 = .ok (.getfield 13, 3) := by decide +kernel
theorem d_Na_trim_9 : decode y_Na_trim.2.1 9 = .ok (.ifCond .le 30, 3) := by decide +kernel
theorem d_Na_trim_12 : decode y_Na_trim.2.1 12 = .ok (.aload_n 0, 1) := by decide +kernel
theorem d_Na_trim_13 : decode y_Na_trim.2.1 13 = .ok (.getfield 9, 3) := by decide +kernel
theorem d_Na_trim_16 : decode y_Na_trim.2.1 16 = .ok (.aload_n 0, 1) := by decide +kernel
theorem d_Na_trim_17 : decode y_Na_trim.2.1 17 = .ok (.getfield 13, 3) := by decide +kernel
theorem d_Na_trim_20 : decode y_Na_trim.2.1 20 = .ok (.iconst 1, 1) := by decide +kernel
theorem d_Na_trim_21 : decode y_Na_trim.2.1 21 = .ok (.isub, 1) := by decide +kernel
theorem d_Na_trim_22 : decode y_Na_trim.2.1 22 = .ok (.iaload, 1) := by decide +kernel
theorem d_Na_trim_23 : decode y_Na_trim.2.1 23 = .ok (.ifCond .ne 16, 3) := by decide +kernel
theorem d_Na_trim_26 : decode y_Na_trim.2.1 26 = .ok (.aload_n 0, 1) := by decide +kernel
theorem d_Na_trim_27 : decode y_Na_trim.2.1 27 = .ok (.dup, 1) := by decide +kernel
theorem d_Na_trim_28 : decode y_Na_trim.2.1 28 = .ok (.getfield 13, 3) := by decide +kernel
theorem d_Na_trim_31 : decode y_Na_trim.2.1 31 = .ok (.iconst 1, 1) := by decide +kernel
theorem d_Na_trim_32 : decode y_Na_trim.2.1 32 = .ok (.isub, 1) := by decide +kernel
theorem d_Na_trim_33 : decode y_Na_trim.2.1 33 = .ok (.putfield 13, 3) := by decide +kernel
theorem d_Na_trim_36 : decode y_Na_trim.2.1 36 = .ok (.goto (-31), 3) := by decide +kernel
theorem d_Na_trim_39 : decode y_Na_trim.2.1 39 = .ok (.return_, 1) := by decide +kernel
def h_Na_trim_5 (G : mG) (d : Nat) (a0 : Nat) (M : mM) (Q : mM → Prop) : Prop := mWm G y_Na_trim d 5 [vr a0, vd] [] M (fun r9 M9 => r9 = none ∧ Q M9)
theorem k_Na_trim {G : mG} {d : Nat} {a0 : Nat} {l1 : Int} {M : mM} {Q : mM → Prop} (hO : mOk M) (hi_l1 : i32 l1)
    (h : mK M a0 = 10 ∧ ∀ M2, M2 = mUI M a0 1 l1 → h_Na_trim_5 G d a0 M2 Q) :
    Cv G y_Na_trim d [vr a0, vi l1] M Q := by
  refine wm_open (y := y_Na_trim) rfl (Nat.le_of_ble_eq_true rfl) (L := [vr a0, vi l1]) rfl ?_
  obtain ⟨h1, h⟩ := h
  obtain ⟨M2, e3⟩ : ∃ M2, M2 = mUI M a0 1 l1 := ⟨_, rfl⟩
  replace h := h M2 e3
  refine wm_aload_n d_Na_trim_0 rfl rfl ?_
  refine wm_iload_n d_Na_trim_1 rfl rfl ?_
  have hOM2 : mOk M2 := by rw [e3]; exact mOk_UI hO hi_l1
  refine pf_Na_13 rfl d_Na_trim_2 h1 hi_l1 e3 ?_
  refine wm_less (L' := [vr a0, vd]) ⟨Or.inr rfl, Or.inl rfl, trivial⟩ ?_
  exact h
theorem k_Na_trim_5 {G : mG} {d : Nat} {a0 : Nat} {M : mM} {Q : mM → Prop} (hO : mOk M)
    (h : mK M a0 = 10 ∧ (¬ (mI M a0 1 ≤ 0) → (mK M (mR M a0 0) = 30 ∧ ((0 : Int) ≤ (mI M a0 1) - 1 ∧ (mI M a0 1) - 1 < (mN M (mR M a0 0) : Int)))) ∧ (((mI M a0 1 ≤ 0) ∨ (¬ (mI M (mR M a0 0) (Int.toNat ((mI M a0 1) - 1)) = 0))) → (Q M)) ∧ (¬ ((mI M a0 1 ≤ 0) ∨ (¬ (mI M (mR M a0 0) (Int.toNat ((mI M a0 1) - 1)) = 0))) → (i32 ((mI M a0 1) - 1) ∧ ∀ M14, M14 = mUI M a0 1 ((mI M a0 1) - 1) → h_Na_trim_5 G d a0 M14 Q))) :
    h_Na_trim_5 G d a0 M Q := by
  unfold h_Na_trim_5
  obtain ⟨h4, h⟩ := h
  refine wm_aload_n d_Na_trim_5 rfl rfl ?_
  refine gf_Na_13 rfl d_Na_trim_6 h4 ?_
  obtain ⟨s10, h⟩ := h
  have hE0 : ((mI M a0 1 ≤ 0) ∨ (¬ (mI M (mR M a0 0) (Int.toNat ((mI M a0 1) - 1)) = 0))) → mWm G y_Na_trim d 39 [vr a0, vd] [] M (fun r9 M9 => r9 = none ∧ Q M9) := by
    intro q11
    have h := h.1 q11
    refine wm_return d_Na_trim_39 rfl ?_
    exact ⟨rfl, h⟩
  have hE1 : ¬ ((mI M a0 1 ≤ 0) ∨ (¬ (mI M (mR M a0 0) (Int.toNat ((mI M a0 1) - 1)) = 0))) → mWm G y_Na_trim d 26 [vr a0, vd] [] M (fun r9 M9 => r9 = none ∧ Q M9) := by
    intro q12
    have h := h.2 q12
    obtain ⟨h13, h⟩ := h
    obtain ⟨M14, e15⟩ : ∃ M14, M14 = mUI M a0 1 ((mI M a0 1) - 1) := ⟨_, rfl⟩
    replace h := h M14 e15
    refine wm_aload_n d_Na_trim_26 rfl rfl ?_
    refine wm_dup d_Na_trim_27 rfl ?_
    refine gf_Na_13 rfl d_Na_trim_28 h4 ?_
    refine wm_iconst d_Na_trim_31 ?_
    refine wm_isub d_Na_trim_32 ?_
    have hOM14 : mOk M14 := by rw [e15]; exact mOk_UI hO h13
    refine pf_Na_13 rfl d_Na_trim_33 h4 h13 e15 ?_
    refine wm_goto (tgt := 5) d_Na_trim_36 rfl ?_
    exact h
  clear h
  have s16 := s10
  refine wm_if_le (tgt := 39) d_Na_trim_9 rfl (hO _ _).1 (fun c9 => ?_) (fun c9 => ?_)
  · exact hE0 (Or.inl c9)
  · have s16 := s16 c9
    obtain ⟨h5, h6⟩ := s16
    refine wm_aload_n d_Na_trim_12 rfl rfl ?_
    refine gf_Na_9 rfl d_Na_trim_13 h4 ?_
    refine wm_aload_n d_Na_trim_16 rfl rfl ?_
    refine gf_Na_13 rfl d_Na_trim_17 h4 ?_
    refine wm_iconst d_Na_trim_20 ?_
    refine wm_isub d_Na_trim_21 ?_
    refine wm_iald d_Na_trim_22 h5 h6 ?_
    refine wm_if_ne (tgt := 39) d_Na_trim_23 rfl (hO _ _).1 (fun c8 => ?_) (fun c8 => ?_)
    · exact hE0 (Or.inr c8)
    · replace c8 := Classical.not_not.mp c8
      exact hE1 (fun z17 => Or.elim z17 c9 (fun z18 => z18 c8))
theorem d_Na_put0_0 : decode y_Na_put0.2.1 0 = .ok (.aload_n 0, 1) := by decide +kernel
theorem d_Na_put0_1 : decode y_Na_put0.2.1 1 = .ok (.getfield 9, 3) := by decide +kernel
theorem d_Na_put0_4 : decode y_Na_put0.2.1 4 = .ok (.iconst 0, 1) := by decide +kernel
theorem d_Na_put0_5 : decode y_Na_put0.2.1 5 = .ok (.iload_n 1, 1) := by decide +kernel
theorem d_Na_put0_6 : decode y_Na_put0.2.1 6 = .ok (.iastore, 1) := by decide +kernel
theorem d_Na_put0_7 : decode y_Na_put0.2.1 7 = .ok (.aload_n 0, 1) := by decide +kernel
theorem d_Na_put0_8 : decode y_Na_put0.2.1 8 = .ok (.iload_n 1, 1) := by decide +kernel
theorem d_Na_put0_9 : decode y_Na_put0.2.1 9 = .ok (.ifCond .ne 7, 3) := by decide +kernel
theorem d_Na_put0_12 : decode y_Na_put0.2.1 12 = .ok (.iconst 0, 1) := by decide +kernel
theorem d_Na_put0_13 : decode y_Na_put0.2.1 13 = .ok (.goto 4, 3) := by decide +kernel
theorem d_Na_put0_16 : decode y_Na_put0.2.1 16 = .ok (.iconst 1, 1) := by decide +kernel
theorem d_Na_put0_17 : decode y_Na_put0.2.1 17 = .ok (.putfield 13, 3) := by decide +kernel
theorem d_Na_put0_20 : decode y_Na_put0.2.1 20 = .ok (.return_, 1) := by decide +kernel
theorem k_Na_put0 {G : mG} {d : Nat} {a0 : Nat} {l1 : Int} {M : mM} {Q : mM → Prop} (hO : mOk M) (hi_l1 : i32 l1)
    (h : mK M a0 = 10 ∧ mK M (mR M a0 0) = 30 ∧ ((0 : Int) ≤ 0 ∧ 0 < (mN M (mR M a0 0) : Int)) ∧ ∀ M4, M4 = mUI M (mR M a0 0) 0 l1 → ∀ v7 : Int, v7 = (if (l1 = 0) then 0 else 1) → ∀ M12, M12 = mUI M4 a0 1 v7 → Q M12) :
    Cv G y_Na_put0 d [vr a0, vi l1] M Q := by
  refine wm_open (y := y_Na_put0) rfl (Nat.le_of_ble_eq_true rfl) (L := [vr a0, vi l1]) rfl ?_
  obtain ⟨h1, h⟩ := h
  obtain ⟨h2, h⟩ := h
  obtain ⟨h3, h⟩ := h
  obtain ⟨M4, e5⟩ : ∃ M4, M4 = mUI M (mR M a0 0) 0 l1 := ⟨_, rfl⟩
  replace h := h M4 e5
  refine wm_aload_n d_Na_put0_0 rfl rfl ?_
  refine gf_Na_9 rfl d_Na_put0_1 h1 ?_
  refine wm_iconst d_Na_put0_4 ?_
  refine wm_iload_n d_Na_put0_5 rfl rfl ?_
  have hOM4 : mOk M4 := by rw [e5]; exact mOk_UI hO hi_l1
  refine wm_iastE d_Na_put0_6 h2 h3 hi_l1 e5 ?_
  refine wm_aload_n d_Na_put0_7 rfl rfl ?_
  refine wm_iload_n d_Na_put0_8 rfl rfl ?_
  have hJ : ∀ v7 : Int, v7 = (if (l1 = 0) then 0 else 1) → mWm G y_Na_put0 d 17 [vd, vd] [vi v7, vr a0] M4 (fun r9 M9 => r9 = none ∧ Q M9) := by
    intro v7 e9
    have h := h v7 e9
    have h10 : i32 v7 := by rw [e9]; (repeat' split) <;> first | exact ⟨by decide, by decide⟩ | exact ⟨by decide, by decide⟩
    have h11 : (v7 = 0 ∨ v7 = 1) := by rw [e9]; (repeat' split) <;> decide
    obtain ⟨M12, e13⟩ : ∃ M12, M12 = mUI M4 a0 1 v7 := ⟨_, rfl⟩
    replace h := h M12 e13
    have hOM12 : mOk M12 := by rw [e13]; exact mOk_UI hOM4 h10
    refine pf_Na_13 rfl d_Na_put0_17 (by rw [e5]; exact h1) h10 e13 ?_
    refine wm_return d_Na_put0_20 rfl ?_
    exact ⟨rfl, h⟩
  clear h
  refine wm_if_ne (tgt := 16) d_Na_put0_9 rfl hi_l1 (fun c6 => ?_) (fun c6 => ?_)
  · refine wm_iconst d_Na_put0_16 ?_
    refine wm_less (L' := [vd, vd]) ⟨Or.inl rfl, Or.inl rfl, trivial⟩ ?_
    exact hJ 1 (if_neg c6).symm
  · replace c6 := Classical.not_not.mp c6
    refine wm_iconst d_Na_put0_12 ?_
    refine wm_goto (tgt := 17) d_Na_put0_13 rfl ?_
    refine wm_less (L' := [vd, vd]) ⟨Or.inl rfl, Or.inl rfl, trivial⟩ ?_
    exact hJ 0 (if_pos c6).symm
theorem d_Na_putLong_0 : decode y_Na_putLong.2.1 0 = .ok (.aload_n 0, 1) := by decide +kernel
theorem d_Na_putLong_1 : decode y_Na_putLong.2.1 1 = .ok (.getfield 9, 3) := by decide +kernel
theorem d_Na_putLong_4 : decode y_Na_putLong.2.1 4 = .ok (.iconst 0, 1) := by decide +kernel
theorem d_Na_putLong_5 : decode y_Na_putLong.2.1 5 = .ok (.lload_n 1, 1) := by decide +kernel
theorem d_Na_putLong_6 : decode y_Na_putLong.2.1 6 = .ok (.ldc2_w 29, 3) := by decide +kernel
theorem d_Na_putLong_9 : decode y_Na_putLong.2.1 9 = .ok (.land, 1) := by decide +kernel
theorem d_Na_putLong_10 : decode y_Na_putLong.2.1 10 = .ok (.l2i, 1) := by decide +kernel
theorem d_Na_putLong_11 : decode y_Na_putLong.2.1 11 = .ok (.iastore, 1) := by decide +kernel
theorem d_Na_putLong_12 : decode y_Na_putLong.2.1 12 = .ok (.aload_n 0, 1) := by decide +kernel
theorem d_Na_putLong_13 : decode y_Na_putLong.2.1 13 = .ok (.getfield 9, 3) := by decide +kernel
theorem d_Na_putLong_16 : decode y_Na_putLong.2.1 16 = .ok (.iconst 1, 1) := by decide +kernel
theorem d_Na_putLong_17 : decode y_Na_putLong.2.1 17 = .ok (.lload_n 1, 1) := by decide +kernel
theorem d_Na_putLong_18 : decode y_Na_putLong.2.1 18 = .ok (.bipush 30, 2) := by decide +kernel
theorem d_Na_putLong_20 : decode y_Na_putLong.2.1 20 = .ok (.lushr, 1) := by decide +kernel
theorem d_Na_putLong_21 : decode y_Na_putLong.2.1 21 = .ok (.l2i, 1) := by decide +kernel
theorem d_Na_putLong_22 : decode y_Na_putLong.2.1 22 = .ok (.iastore, 1) := by decide +kernel
theorem d_Na_putLong_23 : decode y_Na_putLong.2.1 23 = .ok (.aload_n 0, 1) := by decide +kernel
theorem d_Na_putLong_24 : decode y_Na_putLong.2.1 24 = .ok (.iconst 2, 1) := by decide +kernel
theorem d_Na_putLong_25 : decode y_Na_putLong.2.1 25 = .ok (.invokevirtual 31, 3) := by decide +kernel
theorem d_Na_putLong_28 : decode y_Na_putLong.2.1 28 = .ok (.return_, 1) := by decide +kernel
theorem k_Na_putLong {G : mG} {d : Nat} {a0 : Nat} {j1 : Int} {M : mM} {Q : mM → Prop} (hO : mOk M) (hi_j1 : i64 j1)
    (h : mK M a0 = 10 ∧ mK M (mR M a0 0) = 30 ∧ ((0 : Int) ≤ 0 ∧ 0 < (mN M (mR M a0 0) : Int)) ∧ i32 (andL j1 1073741823) ∧ ∀ M5, M5 = mUI M (mR M a0 0) 0 (andL j1 1073741823) → mK M5 (mR M5 a0 0) = 30 ∧ ((0 : Int) ≤ 1 ∧ 1 < (mN M5 (mR M5 a0 0) : Int)) ∧ i32 (ushrL j1 30) ∧ ∀ M10, M10 = mUI M5 (mR M5 a0 0) 1 (ushrL j1 30) → Cv G y_Na_trim d [vr a0, vi 2] M10 (fun M12 => mOk M12 ∧ (Q M12))) :
    Cv G y_Na_putLong (d + 1) [vr a0, vl j1] M Q := by
  refine wm_open (y := y_Na_putLong) rfl (Nat.le_of_ble_eq_true rfl) (L := [vr a0, vl j1, vd]) rfl ?_
  obtain ⟨h1, h⟩ := h
  obtain ⟨h2, h⟩ := h
  obtain ⟨h3, h⟩ := h
  obtain ⟨h4, h⟩ := h
  obtain ⟨M5, e6⟩ : ∃ M5, M5 = mUI M (mR M a0 0) 0 (andL j1 1073741823) := ⟨_, rfl⟩
  replace h := h M5 e6
  obtain ⟨h7, h⟩ := h
  obtain ⟨h8, h⟩ := h
  obtain ⟨h9, h⟩ := h
  obtain ⟨M10, e11⟩ : ∃ M10, M10 = mUI M5 (mR M5 a0 0) 1 (ushrL j1 30) := ⟨_, rfl⟩
  replace h := h M10 e11
  refine wm_aload_n d_Na_putLong_0 rfl rfl ?_
  refine gf_Na_9 rfl d_Na_putLong_1 h1 ?_
  refine wm_iconst d_Na_putLong_4 ?_
  refine wm_lload_n d_Na_putLong_5 rfl rfl ?_
  refine wm_ldc2 (x := 1073741823) d_Na_putLong_6 k5_202 (by decide) ?_
  refine wm_land d_Na_putLong_9 ?_
  refine wm_l2i d_Na_putLong_10 ?_
  have hOM5 : mOk M5 := by rw [e6]; exact mOk_UI hO h4
  refine wm_iastE d_Na_putLong_11 h2 h3 h4 e6 ?_
  refine wm_aload_n d_Na_putLong_12 rfl rfl ?_
  refine gf_Na_9 rfl d_Na_putLong_13 (by rw [e6]; exact h1) ?_
  refine wm_iconst d_Na_putLong_16 ?_
  refine wm_lload_n d_Na_putLong_17 rfl rfl ?_
  refine wm_bipush d_Na_putLong_18 (by decide) ?_
  refine wm_lushr d_Na_putLong_20 ?_
  refine wm_l2i d_Na_putLong_21 ?_
  have hOM10 : mOk M10 := by rw [e11]; exact mOk_UI hOM5 h9
  refine wm_iastE d_Na_putLong_22 h7 h8 h9 e11 ?_
  refine wm_aload_n d_Na_putLong_23 rfl rfl ?_
  refine wm_iconst d_Na_putLong_24 ?_
  refine cf_Na_31 rfl d_Na_putLong_25 (by rw [e11, e6]; exact h1) (Nat.le_of_ble_eq_true rfl) (Cv.mono h (fun M12 h => ?_))
  obtain ⟨hOM12, h⟩ := h
  refine wm_return d_Na_putLong_28 rfl ?_
  exact ⟨rfl, h⟩
theorem d_Na_put1_0 : decode y_Na_put1.2.1 0 = .ok (.aload_n 1, 1) := by decide +kernel
theorem d_Na_put1_1 : decode y_Na_put1.2.1 1 = .ok (.getfield 13, 3) := by decide +kernel
theorem d_Na_put1_4 : decode y_Na_put1.2.1 4 = .ok (.aload_n 0, 1) := by decide +kernel
theorem d_Na_put1_5 : decode y_Na_put1.2.1 5 = .ok (.getfield 9, 3) := by decide +kernel
theorem d_Na_put1_8 : decode y_Na_put1.2.1 8 = .ok (.arraylength, 1) := by decide +kernel
theorem d_Na_put1_9 : decode y_Na_put1.2.1 9 = .ok (.if_icmp .le 23, 3) := by decide +kernel
theorem d_Na_put1_12 : decode y_Na_put1.2.1 12 = .ok (.aload_n 0, 1) := by decide +kernel
theorem d_Na_put1_13 : decode y_Na_put1.2.1 13 = .ok (.aload_n 1, 1) := by decide +kernel
theorem d_Na_put1_14 : decode y_Na_put1.2.1 14 = .ok (.getfield 13, 3) := by decide +kernel
theorem d_Na_put1_17 : decode y_Na_put1.2.1 17 = .ok (.iconst 2, 1) := by decide +kernel
theorem d_Na_put1_18 : decode y_Na_put1.2.1 18 = .ok (.aload_n 0, 1) := by decide +kernel
theorem d_Na_put1_19 : decode y_Na_put1.2.1 19 = .ok (.getfield 9, 3) := by decide +kernel
theorem d_Na_put1_22 : decode y_Na_put1.2.1 22 = .ok (.arraylength, 1) := by decide +kernel
theorem d_Na_put1_23 : decode y_Na_put1.2.1 23 = .ok (.imul, 1) := by decide +kernel
theorem d_Na_put1_24 : decode y_Na_put1.2.1 24 = .ok (.invokestatic 17, 3) := by decide +kernel
theorem d_Na_put1_32 : decode y_Na_put1.2.1 32 = .ok (.aload_n 1, 1) := by decide +kernel
theorem d_Na_put1_33 : decode y_Na_put1.2.1 33 = .ok (.getfield 9, 3) := by decide +kernel
theorem d_Na_put1_36 : decode y_Na_put1.2.1 36 = .ok (.iconst 0, 1) := by decide +kernel
theorem d_Na_put1_37 : decode y_Na_put1.2.1 37 = .ok (.aload_n 0, 1) := by decide +kernel
theorem d_Na_put1_38 : decode y_Na_put1.2.1 38 = .ok (.getfield 9, 3) := by decide +kernel
theorem d_Na_put1_41 : decode y_Na_put1.2.1 41 = .ok (.iconst 0, 1) := by decide +kernel
theorem d_Na_put1_42 : decode y_Na_put1.2.1 42 = .ok (.aload_n 1, 1) := by decide +kernel
theorem d_Na_put1_43 : decode y_Na_put1.2.1 43 = .ok (.getfield 13, 3) := by decide +kernel
theorem d_Na_put1_46 : decode y_Na_put1.2.1 46 = .ok (.invokestatic 35, 3) := by decide +kernel
theorem d_Na_put1_49 : decode y_Na_put1.2.1 49 = .ok (.aload_n 0, 1) := by decide +kernel
theorem d_Na_put1_50 : decode y_Na_put1.2.1 50 = .ok (.aload_n 1, 1) := by decide +kernel
theorem d_Na_put1_51 : decode y_Na_put1.2.1 51 = .ok (.getfield 13, 3) := by decide +kernel
theorem d_Na_put1_54 : decode y_Na_put1.2.1 54 = .ok (.putfield 13, 3) := by decide +kernel
theorem d_Na_put1_57 : decode y_Na_put1.2.1 57 = .ok (.return_, 1) := by decide +kernel
theorem d_Na_put1_27 : decode y_Na_put1.2.1 27 = .ok (.newarray .int, 2) := by decide +kernel
theorem d_Na_put1_29 : decode y_Na_put1.2.1 29 = .ok (.putfield 9, 3) := by decide +kernel
theorem k_Na_put1 {G : mG} {d : Nat} {a0 : Nat} {a1 : Nat} {M : mM} {Q : mM → Prop} (hO : mOk M)
    (h : mK M a1 = 10 ∧ mK M a0 = 10 ∧ mK M (mR M a0 0) = 30 ∧ i32 (mN M (mR M a0 0) : Int) ∧ ((mI M a1 1 ≤ (mN M (mR M a0 0) : Int)) → (mK M (mR M a1 0) = 30 ∧ ((0 : Int) ≤ 0 ∧ (0 : Int) ≤ 0 ∧ (0 : Int) ≤ mI M a1 1 ∧ 0 + (mI M a1 1) ≤ (mN M (mR M a1 0) : Int) ∧ 0 + (mI M a1 1) ≤ (mN M (mR M a0 0) : Int)) ∧ ∀ M13, M13 = mCpy M (mR M a1 0) (mR M a0 0) 0 0 (Int.toNat (mI M a1 1)) → ∀ M15, M15 = mUI M13 a0 1 (mI M13 a1 1) → Q M15)) ∧ (¬ (mI M a1 1 ≤ (mN M (mR M a0 0) : Int)) → (i32 (2 * (mN M (mR M a0 0) : Int)) ∧ ((0 : Int) ≤ (if mI M a1 1 < 2 * (mN M (mR M a0 0) : Int) then 2 * (mN M (mR M a0 0) : Int) else mI M a1 1) ∧ (if mI M a1 1 < 2 * (mN M (mR M a0 0) : Int) then 2 * (mN M (mR M a0 0) : Int) else mI M a1 1) ≤ 16777216) ∧ ∀ M19, M19 = mNew M 30 (Int.toNat (if mI M a1 1 < 2 * (mN M (mR M a0 0) : Int) then 2 * (mN M (mR M a0 0) : Int) else mI M a1 1)) (Int.toNat (if mI M a1 1 < 2 * (mN M (mR M a0 0) : Int) then 2 * (mN M (mR M a0 0) : Int) else mI M a1 1)) → mK M19 a0 = 10 ∧ ∀ M22, M22 = mUR M19 a0 0 (mZ M) → mK M22 a1 = 10 ∧ mK M22 (mR M22 a1 0) = 30 ∧ mK M22 (mR M22 a0 0) = 30 ∧ ((0 : Int) ≤ 0 ∧ (0 : Int) ≤ 0 ∧ (0 : Int) ≤ mI M22 a1 1 ∧ 0 + (mI M22 a1 1) ≤ (mN M22 (mR M22 a1 0) : Int) ∧ 0 + (mI M22 a1 1) ≤ (mN M22 (mR M22 a0 0) : Int)) ∧ ∀ M28, M28 = mCpy M22 (mR M22 a1 0) (mR M22 a0 0) 0 0 (Int.toNat (mI M22 a1 1)) → ∀ M30, M30 = mUI M28 a0 1 (mI M28 a1 1) → Q M30))) :
    Cv G y_Na_put1 (d + 1) [vr a0, vr a1] M Q := by
  refine wm_open (y := y_Na_put1) rfl (Nat.le_of_ble_eq_true rfl) (L := [vr a0, vr a1]) rfl ?_
  obtain ⟨h1, h⟩ := h
  obtain ⟨h2, h⟩ := h
  obtain ⟨h3, h⟩ := h
  obtain ⟨h9, h⟩ := h
  refine wm_aload_n d_Na_put1_0 rfl rfl ?_
  refine gf_Na_13 rfl d_Na_put1_1 h1 ?_
  refine wm_aload_n d_Na_put1_4 rfl rfl ?_
  refine gf_Na_9 rfl d_Na_put1_5 h2 ?_
  refine wm_alen 0 rfl (fun _ => rfl) d_Na_put1_8 h3 ?_
  refine wm_icmp_le (tgt := 32) d_Na_put1_9 rfl (hO _ _).1 h9 (fun c10 => ?_) (fun c10 => ?_)
  · replace h := h.1 c10
    obtain ⟨h11, h⟩ := h
    obtain ⟨h12, h⟩ := h
    obtain ⟨M13, e14⟩ : ∃ M13, M13 = mCpy M (mR M a1 0) (mR M a0 0) 0 0 (Int.toNat (mI M a1 1)) := ⟨_, rfl⟩
    replace h := h M13 e14
    obtain ⟨M15, e16⟩ : ∃ M15, M15 = mUI M13 a0 1 (mI M13 a1 1) := ⟨_, rfl⟩
    replace h := h M15 e16
    refine wm_aload_n d_Na_put1_32 rfl rfl ?_
    refine gf_Na_9 rfl d_Na_put1_33 h1 ?_
    refine wm_iconst d_Na_put1_36 ?_
    refine wm_aload_n d_Na_put1_37 rfl rfl ?_
    refine gf_Na_9 rfl d_Na_put1_38 h2 ?_
    refine wm_iconst d_Na_put1_41 ?_
    refine wm_aload_n d_Na_put1_42 rfl rfl ?_
    refine gf_Na_13 rfl d_Na_put1_43 h1 ?_
    have hOM13 : mOk M13 := by rw [e14]; exact mOk_Cpy hO
    refine wm_copyi k5_192 (Nat.le_of_ble_eq_true rfl) h11 h3 h12 d_Na_put1_46 e14 ?_
    refine wm_aload_n d_Na_put1_49 rfl rfl ?_
    refine wm_aload_n d_Na_put1_50 rfl rfl ?_
    refine gf_Na_13 rfl d_Na_put1_51 (by rw [e14]; exact h1) ?_
    have hOM15 : mOk M15 := by rw [e16]; exact mOk_UI hOM13 (hOM13 _ _).1
    refine pf_Na_13 rfl d_Na_put1_54 (by rw [e14]; exact h2) (hOM13 _ _).1 e16 ?_
    refine wm_return d_Na_put1_57 rfl ?_
    exact ⟨rfl, h⟩
  · replace h := h.2 c10
    obtain ⟨h17, h⟩ := h
    obtain ⟨h18, h⟩ := h
    obtain ⟨M19, e20⟩ : ∃ M19, M19 = mNew M 30 (Int.toNat (if mI M a1 1 < 2 * (mN M (mR M a0 0) : Int) then 2 * (mN M (mR M a0 0) : Int) else mI M a1 1)) (Int.toNat (if mI M a1 1 < 2 * (mN M (mR M a0 0) : Int) then 2 * (mN M (mR M a0 0) : Int) else mI M a1 1)) := ⟨_, rfl⟩
    replace h := h M19 e20
    obtain ⟨h21, h⟩ := h
    obtain ⟨M22, e23⟩ : ∃ M22, M22 = mUR M19 a0 0 (mZ M) := ⟨_, rfl⟩
    replace h := h M22 e23
    obtain ⟨h24, h⟩ := h
    obtain ⟨h25, h⟩ := h
    obtain ⟨h26, h⟩ := h
    obtain ⟨h27, h⟩ := h
    obtain ⟨M28, e29⟩ : ∃ M28, M28 = mCpy M22 (mR M22 a1 0) (mR M22 a0 0) 0 0 (Int.toNat (mI M22 a1 1)) := ⟨_, rfl⟩
    replace h := h M28 e29
    obtain ⟨M30, e31⟩ : ∃ M30, M30 = mUI M28 a0 1 (mI M28 a1 1) := ⟨_, rfl⟩
    replace h := h M30 e31
    refine wm_aload_n d_Na_put1_12 rfl rfl ?_
    refine wm_aload_n d_Na_put1_13 rfl rfl ?_
    refine gf_Na_13 rfl d_Na_put1_14 h1 ?_
    refine wm_iconst d_Na_put1_17 ?_
    refine wm_aload_n d_Na_put1_18 rfl rfl ?_
    refine gf_Na_9 rfl d_Na_put1_19 h2 ?_
    refine wm_alen 0 rfl (fun _ => rfl) d_Na_put1_22 h3 ?_
    refine wm_imul d_Na_put1_23 ?_
    refine wm_mmax k5_191 (Nat.le_of_ble_eq_true rfl) (hO _ _).1 h17 d_Na_put1_24 ?_
    have hOM19 : mOk M19 := by rw [e20]; exact mOk_New hO
    refine wm_newarrE 0 (atype := .int) (ty := .int) rfl rfl (fun _ => rfl) rfl rfl (by decide) k1_82 h18 d_Na_put1_27 e20 ?_
    have hOM22 : mOk M22 := by rw [e23]; exact mOk_UR hOM19
    refine pf_Na_9 rfl d_Na_put1_29 h21 e23 ?_
    refine wm_aload_n d_Na_put1_32 rfl rfl ?_
    refine gf_Na_9 rfl d_Na_put1_33 h24 ?_
    refine wm_iconst d_Na_put1_36 ?_
    refine wm_aload_n d_Na_put1_37 rfl rfl ?_
    refine gf_Na_9 rfl d_Na_put1_38 (by rw [e23]; exact h21) ?_
    refine wm_iconst d_Na_put1_41 ?_
    refine wm_aload_n d_Na_put1_42 rfl rfl ?_
    refine gf_Na_13 rfl d_Na_put1_43 h24 ?_
    have hOM28 : mOk M28 := by rw [e29]; exact mOk_Cpy hOM22
    refine wm_copyi k5_192 (Nat.le_of_ble_eq_true rfl) h25 h26 h27 d_Na_put1_46 e29 ?_
    refine wm_aload_n d_Na_put1_49 rfl rfl ?_
    refine wm_aload_n d_Na_put1_50 rfl rfl ?_
    refine gf_Na_13 rfl d_Na_put1_51 (by rw [e29]; exact h24) ?_
    have hOM30 : mOk M30 := by rw [e31]; exact mOk_UI hOM28 (hOM28 _ _).1
    refine pf_Na_13 rfl d_Na_put1_54 (by rw [e29, e23]; exact h21) (hOM28 _ _).1 e31 ?_
    refine wm_return d_Na_put1_57 rfl ?_
    exact ⟨rfl, h⟩
theorem d_Na_isOne_0 : decode y_Na_isOne.2.1 0 = .ok (.aload_n 0, 1) := by decide +kernel
theorem d_Na_isOne_1 : decode y_Na_isOne.2.1 1 = .ok (.getfield 13, 3) := by decide +kernel
theorem d_Na_isOne_4 : decode y_Na_isOne.2.1 4 = .ok (.iconst 1, 1) := by decide +kernel
theorem d_Na_isOne_5 : decode y_Na_isOne.2.1 5 = .ok (.if_icmp .ne 17, 3) := by decide +kernel
theorem d_Na_isOne_8 : decode y_Na_isOne.2.1 8 = .ok (.aload_n 0, 1) := by decide +kernel
theorem d_Na_isOne_9 : decode y_Na_isOne.2.1 9 = .ok (.getfield 9, 3) := by decide +kernel
theorem d_Na_isOne_12 : decode y_Na_isOne.2.1 12 = .ok (.iconst 0, 1) := by decide +kernel
theorem d_Na_isOne_13 : decode y_Na_isOne.2.1 13 = .ok (.iaload, 1) := by decide +kernel
theorem d_Na_isOne_14 : decode y_Na_isOne.2.1 14 = .ok (.iconst 1, 1) := by decide +kernel
theorem d_Na_isOne_15 : decode y_Na_isOne.2.1 15 = .ok (.if_icmp .ne 7, 3) := by decide +kernel
theorem d_Na_isOne_18 : decode y_Na_isOne.2.1 18 = .ok (.iconst 1, 1) := by decide +kernel
theorem d_Na_isOne_19 : decode y_Na_isOne.2.1 19 = .ok (.goto 4, 3) := by decide +kernel
theorem d_Na_isOne_22 : decode y_Na_isOne.2.1 22 = .ok (.iconst 0, 1) := by decide +kernel
theorem d_Na_isOne_23 : decode y_Na_isOne.2.1 23 = .ok (.ireturn, 1) := by decide +kernel
theorem k_Na_isOne {G : mG} {d : Nat} {a0 : Nat} {M : mM} {Q : Int → mM → Prop} (hO : mOk M)
    (h : mK M a0 = 10 ∧ ((mI M a0 1 = 1) → (mK M (mR M a0 0) = 30 ∧ ((0 : Int) ≤ 0 ∧ 0 < (mN M (mR M a0 0) : Int)))) ∧ ∀ v6 : Int, v6 = (if ((mI M a0 1 = 1) ∧ (mI M (mR M a0 0) 0 = 1)) then 1 else 0) → Q v6 M) :
    Ci G y_Na_isOne d [vr a0] M Q := by
  refine wm_open (y := y_Na_isOne) rfl (Nat.le_of_ble_eq_true rfl) (L := [vr a0]) rfl ?_
  obtain ⟨h1, h⟩ := h
  refine wm_aload_n d_Na_isOne_0 rfl rfl ?_
  refine gf_Na_13 rfl d_Na_isOne_1 h1 ?_
  refine wm_iconst d_Na_isOne_4 ?_
  obtain ⟨s7, h⟩ := h
  have hJ : ∀ v6 : Int, v6 = (if ((mI M a0 1 = 1) ∧ (mI M (mR M a0 0) 0 = 1)) then 1 else 0) → mWm G y_Na_isOne d 23 [vd] [vi v6] M (fun r9 M9 => ∃ x9, r9 = some (vi x9) ∧ Q x9 M9) := by
    intro v6 e8
    have h := h v6 e8
    have h9 : i32 v6 := by rw [e8]; (repeat' split) <;> first | exact ⟨by decide, by decide⟩ | exact ⟨by decide, by decide⟩
    have h10 : (v6 = 0 ∨ v6 = 1) := by rw [e8]; (repeat' split) <;> decide
    refine wm_ireturn d_Na_isOne_23 rfl (m_nb h10) ?_
    exact ⟨_, rfl, h⟩
  clear h
  have s11 := s7
  refine wm_icmp_ne (tgt := 22) d_Na_isOne_5 rfl (hO _ _).1 ⟨by decide, by decide⟩ (fun c2 => ?_) (fun c2 => ?_)
  · refine wm_iconst d_Na_isOne_22 ?_
    refine wm_less (L' := [vd]) ⟨Or.inl rfl, trivial⟩ ?_
    exact hJ 0 (if_neg (fun z14 => c2 z14.1)).symm
  · replace c2 := Classical.not_not.mp c2
    have s11 := s11 c2
    obtain ⟨h3, h4⟩ := s11
    refine wm_aload_n d_Na_isOne_8 rfl rfl ?_
    refine gf_Na_9 rfl d_Na_isOne_9 h1 ?_
    refine wm_iconst d_Na_isOne_12 ?_
    refine wm_iald d_Na_isOne_13 h3 h4 ?_
    refine wm_iconst d_Na_isOne_14 ?_
    refine wm_icmp_ne (tgt := 22) d_Na_isOne_15 rfl (hO _ _).1 ⟨by decide, by decide⟩ (fun c5 => ?_) (fun c5 => ?_)
    · refine wm_iconst d_Na_isOne_22 ?_
      refine wm_less (L' := [vd]) ⟨Or.inl rfl, trivial⟩ ?_
      exact hJ 0 (if_neg (fun z12 => c5 z12.2)).symm
    · replace c5 := Classical.not_not.mp c5
      refine wm_iconst d_Na_isOne_18 ?_
      refine wm_goto (tgt := 23) d_Na_isOne_19 rfl ?_
      refine wm_less (L' := [vd]) ⟨Or.inl rfl, trivial⟩ ?_
      exact hJ 1 (if_pos ⟨c2, c5⟩).symm
theorem d_Na_bits_0 : decode y_Na_bits.2.1 0 = .ok (.aload_n 0, 1) := by decide +kernel
theorem d_Na_bits_1 : decode y_Na_bits.2.1 1 = .ok (.getfield 13, 3) := by decide +kernel
theorem d_Na_bits_4 : decode y_Na_bits.2.1 4 = .ok (.ifCond .ne 7, 3) := by decide +kernel
theorem d_Na_bits_7 : decode y_Na_bits.2.1 7 = .ok (.iconst 0, 1) := by decide +kernel
theorem d_Na_bits_8 : decode y_Na_bits.2.1 8 = .ok (.goto 27, 3) := by decide +kernel
theorem d_Na_bits_11 : decode y_Na_bits.2.1 11 = .ok (.bipush 30, 2) := by decide +kernel
theorem d_Na_bits_13 : decode y_Na_bits.2.1 13 = .ok (.aload_n 0, 1) := by decide +kernel
theorem d_Na_bits_14 : decode y_Na_bits.2.1 14 = .ok (.getfield 13, 3) := by decide +kernel
theorem d_Na_bits_17 : decode y_Na_bits.2.1 17 = .ok (.imul, 1) := by decide +kernel
theorem d_Na_bits_18 : decode y_Na_bits.2.1 18 = .ok (.aload_n 0, 1) := by decide +kernel
theorem d_Na_bits_19 : decode y_Na_bits.2.1 19 = .ok (.getfield 9, 3) := by decide +kernel
theorem d_Na_bits_22 : decode y_Na_bits.2.1 22 = .ok (.aload_n 0, 1) := by decide +kernel
theorem d_Na_bits_23 : decode y_Na_bits.2.1 23 = .ok (.getfield 13, 3) := by decide +kernel
theorem d_Na_bits_26 : decode y_Na_bits.2.1 26 = .ok (.iconst 1, 1) := by decide +kernel
theorem d_Na_bits_27 : decode y_Na_bits.2.1 27 = .ok (.isub, 1) := by decide +kernel
theorem d_Na_bits_28 : decode y_Na_bits.2.1 28 = .ok (.iaload, 1) := by decide +kernel
theorem d_Na_bits_35 : decode y_Na_bits.2.1 35 = .ok (.ireturn, 1) := by decide +kernel
theorem d_Na_bits_29 : decode y_Na_bits.2.1 29 = .ok (.invokestatic 41, 3) := by decide +kernel
theorem d_Na_bits_32 : decode y_Na_bits.2.1 32 = .ok (.isub, 1) := by decide +kernel
theorem d_Na_bits_33 : decode y_Na_bits.2.1 33 = .ok (.iconst 2, 1) := by decide +kernel
theorem d_Na_bits_34 : decode y_Na_bits.2.1 34 = .ok (.iadd, 1) := by decide +kernel
theorem k_Na_bits {G : mG} {d : Nat} {a0 : Nat} {M : mM} {Q : Int → mM → Prop} (hO : mOk M)
    (h : mK M a0 = 10 ∧ ((mI M a0 1 = 0) → (Q 0 M)) ∧ (¬ (mI M a0 1 = 0) → (mK M (mR M a0 0) = 30 ∧ ((0 : Int) ≤ (mI M a0 1) - 1 ∧ (mI M a0 1) - 1 < (mN M (mR M a0 0) : Int)) ∧ Ci G y_JI_nlz d [vi (mI M (mR M a0 0) (Int.toNat ((mI M a0 1) - 1)))] M (fun x10 M9 => i32 x10 ∧ mOk M9 ∧ (Q (((30 * (mI M a0 1)) - x10) + 2) M9))))) :
    Ci G y_Na_bits (d + 1) [vr a0] M Q := by
  refine wm_open (y := y_Na_bits) rfl (Nat.le_of_ble_eq_true rfl) (L := [vr a0]) rfl ?_
  obtain ⟨h1, h⟩ := h
  refine wm_aload_n d_Na_bits_0 rfl rfl ?_
  refine gf_Na_13 rfl d_Na_bits_1 h1 ?_
  refine wm_if_ne (tgt := 11) d_Na_bits_4 rfl (hO _ _).1 (fun c6 => ?_) (fun c6 => ?_)
  · replace h := h.2 c6
    obtain ⟨h7, h⟩ := h
    obtain ⟨h8, h⟩ := h
    refine wm_bipush d_Na_bits_11 (by decide) ?_
    refine wm_aload_n d_Na_bits_13 rfl rfl ?_
    refine gf_Na_13 rfl d_Na_bits_14 h1 ?_
    refine wm_imul d_Na_bits_17 ?_
    refine wm_aload_n d_Na_bits_18 rfl rfl ?_
    refine gf_Na_9 rfl d_Na_bits_19 h1 ?_
    refine wm_aload_n d_Na_bits_22 rfl rfl ?_
    refine gf_Na_13 rfl d_Na_bits_23 h1 ?_
    refine wm_iconst d_Na_bits_26 ?_
    refine wm_isub d_Na_bits_27 ?_
    refine wm_iald d_Na_bits_28 h7 h8 ?_
    refine cf_Na_41 rfl d_Na_bits_29 (Nat.le_of_ble_eq_true rfl) (Ci.mono h (fun x10 M9 h => ?_))
    obtain ⟨h11, hOM9, h⟩ := h
    refine wm_isub d_Na_bits_32 ?_
    refine wm_iconst d_Na_bits_33 ?_
    refine wm_iadd d_Na_bits_34 ?_
    refine wm_ireturn d_Na_bits_35 rfl rfl ?_
    exact ⟨_, rfl, h⟩
  · replace c6 := Classical.not_not.mp c6
    replace h := h.1 c6
    refine wm_iconst d_Na_bits_7 ?_
    refine wm_goto (tgt := 35) d_Na_bits_8 rfl ?_
    refine wm_ireturn d_Na_bits_35 rfl rfl ?_
    exact ⟨_, rfl, h⟩
theorem d_Na_order_0 : decode y_Na_order.2.1 0 = .ok (.aload_n 0, 1) := by decide +kernel
theorem d_Na_order_1 : decode y_Na_order.2.1 1 = .ok (.getfield 13, 3) := by decide +kernel
theorem d_Na_order_4 : decode y_Na_order.2.1 4 = .ok (.aload_n 1, 1) := by decide +kernel
theorem d_Na_order_5 : decode y_Na_order.2.1 5 = .ok (.getfield 13, 3) := by decide +kernel
theorem d_Na_order_8 : decode y_Na_order.2.1 8 = .ok (.if_icmp .eq 20, 3) := by decide +kernel
theorem d_Na_order_28 : decode y_Na_order.2.1 28 = .ok (.aload_n 0, 1) := by decide +kernel
theorem d_Na_order_29 : decode y_Na_order.2.1 29 = .ok (.getfield 13, 3) := by decide +kernel
theorem d_Na_order_32 : decode y_Na_order.2.1 32 = .ok (.iconst 1, 1) := by decide +kernel
theorem d_Na_order_33 : decode y_Na_order.2.1 33 = .ok (.isub, 1) := by decide +kernel
theorem d_Na_order_34 : decode y_Na_order.2.1 34 = .ok (.istore_n 2, 1) := by decide +kernel
theorem d_Na_order_11 : decode y_Na_order.2.1 11 = .ok (.aload_n 0, 1) := by decide +kernel
theorem d_Na_order_12 : decode y_Na_order.2.1 12 = .ok (.getfield 13, 3) := by decide +kernel
theorem d_Na_order_15 : decode y_Na_order.2.1 15 = .ok (.aload_n 1, 1) := by decide +kernel
theorem d_Na_order_16 : decode y_Na_order.2.1 16 = .ok (.getfield 13, 3) := by decide +kernel
theorem d_Na_order_19 : decode y_Na_order.2.1 19 = .ok (.if_icmp .ge 7, 3) := by decide +kernel
theorem d_Na_order_26 : decode y_Na_order.2.1 26 = .ok (.iconst 1, 1) := by decide +kernel
theorem d_Na_order_27 : decode y_Na_order.2.1 27 = .ok (.ireturn, 1) := by decide +kernel
theorem d_Na_order_22 : decode y_Na_order.2.1 22 = .ok (.iconst (-1), 1) := by decide +kernel
theorem d_Na_order_23 : decode y_Na_order.2.1 23 = .ok (.goto 4, 3) := by decide +kernel
theorem d_Na_order_35 : decode y_Na_order.2.1 35 = .ok (.iload_n 2, 1) := by decide +kernel
theorem d_Na_order_36 : decode y_Na_order.2.1 36 = .ok (.ifCond .lt 45, 3) := by decide +kernel
theorem d_Na_order_81 : decode y_Na_order.2.1 81 = .ok (.iconst 0, 1) := by decide +kernel
theorem d_Na_order_82 : decode y_Na_order.2.1 82 = .ok (.ireturn, 1) := by decide +kernel
theorem d_Na_order_39 : decode y_Na_order.2.1 39 = .ok (.aload_n 0, 1) := by decide +kernel
theorem d_Na_order_40 : decode y_Na_order.2.1 40 = .ok (.getfield 9, 3) := by decide +kernel
theorem d_Na_order_43 : decode y_Na_order.2.1 43 = .ok (.iload_n 2, 1) := by decide +kernel
theorem d_Na_order_44 : decode y_Na_order.2.1 44 = .ok (.iaload, 1) := by decide +kernel
theorem d_Na_order_45 : decode y_Na_order.2.1 45 = .ok (.aload_n 1, 1) := by decide +kernel
theorem d_Na_order_46 : decode y_Na_order.2.1 46 = .ok (.getfield 9, 3) := by decide +kernel
theorem d_Na_order_49 : decode y_Na_order.2.1 49 = .ok (.iload_n 2, 1) := by decide +kernel
theorem d_Na_order_50 : decode y_Na_order.2.1 50 = .ok (.iaload, 1) := by decide +kernel
theorem d_Na_order_51 : decode y_Na_order.2.1 51 = .ok (.if_icmp .eq 24, 3) := by decide +kernel
theorem d_Na_order_75 : decode y_Na_order.2.1 75 = .ok (.iinc 2 (-1), 3) := by decide +kernel
theorem d_Na_order_78 : decode y_Na_order.2.1 78 = .ok (.goto (-43), 3) := by decide +kernel
theorem d_Na_order_54 : decode y_Na_order.2.1 54 = .ok (.aload_n 0, 1) := by decide +kernel
theorem d_Na_order_55 : decode y_Na_order.2.1 55 = .ok (.getfield 9, 3) := by decide +kernel
theorem d_Na_order_58 : decode y_Na_order.2.1 58 = .ok (.iload_n 2, 1) := by decide +kernel
theorem d_Na_order_59 : decode y_Na_order.2.1 59 = .ok (.iaload, 1) := by decide +kernel
theorem d_Na_order_60 : decode y_Na_order.2.1 60 = .ok (.aload_n 1, 1) := by decide +kernel
theorem d_Na_order_61 : decode y_Na_order.2.1 61 = .ok (.getfield 9, 3) := by decide +kernel
theorem d_Na_order_64 : decode y_Na_order.2.1 64 = .ok (.iload_n 2, 1) := by decide +kernel
theorem d_Na_order_65 : decode y_Na_order.2.1 65 = .ok (.iaload, 1) := by decide +kernel
theorem d_Na_order_66 : decode y_Na_order.2.1 66 = .ok (.if_icmp .ge 7, 3) := by decide +kernel
theorem d_Na_order_73 : decode y_Na_order.2.1 73 = .ok (.iconst 1, 1) := by decide +kernel
theorem d_Na_order_74 : decode y_Na_order.2.1 74 = .ok (.ireturn, 1) := by decide +kernel
theorem d_Na_order_69 : decode y_Na_order.2.1 69 = .ok (.iconst (-1), 1) := by decide +kernel
theorem d_Na_order_70 : decode y_Na_order.2.1 70 = .ok (.goto 4, 3) := by decide +kernel
def h_Na_order_35 (G : mG) (d : Nat) (a0 : Nat) (a1 : Nat) (l2 : Int) (M : mM) (Q : Int → mM → Prop) : Prop := mWm G y_Na_order d 35 [vr a0, vr a1, vi l2] [] M (fun r9 M9 => ∃ x9, r9 = some (vi x9) ∧ Q x9 M9)
theorem k_Na_order {G : mG} {d : Nat} {a0 : Nat} {a1 : Nat} {M : mM} {Q : Int → mM → Prop} (hO : mOk M)
    (h : mK M a0 = 10 ∧ mK M a1 = 10 ∧ ((mI M a0 1 = mI M a1 1) → (h_Na_order_35 G d a0 a1 ((mI M a0 1) - 1) M Q)) ∧ (¬ (mI M a0 1 = mI M a1 1) → (∀ v7 : Int, v7 = (if (mI M a1 1 ≤ mI M a0 1) then 1 else (-1)) → Q v7 M))) :
    Ci G y_Na_order d [vr a0, vr a1] M Q := by
  refine wm_open (y := y_Na_order) rfl (Nat.le_of_ble_eq_true rfl) (L := [vr a0, vr a1, vd]) rfl ?_
  obtain ⟨h1, h⟩ := h
  obtain ⟨h2, h⟩ := h
  refine wm_aload_n d_Na_order_0 rfl rfl ?_
  refine gf_Na_13 rfl d_Na_order_1 h1 ?_
  refine wm_aload_n d_Na_order_4 rfl rfl ?_
  refine gf_Na_13 rfl d_Na_order_5 h2 ?_
  refine wm_icmp_eq (tgt := 28) d_Na_order_8 rfl (hO _ _).1 (hO _ _).1 (fun c5 => ?_) (fun c5 => ?_)
  · replace h := h.1 c5
    refine wm_aload_n d_Na_order_28 rfl rfl ?_
    refine gf_Na_13 rfl d_Na_order_29 h1 ?_
    refine wm_iconst d_Na_order_32 ?_
    refine wm_isub d_Na_order_33 ?_
    refine wm_istore_n d_Na_order_34 rfl (by decide) (L' := [vr a0, vr a1, vi ((mI M a0 1) - 1)]) rfl ?_
    exact h
  · replace h := h.2 c5
    refine wm_aload_n d_Na_order_11 rfl rfl ?_
    refine gf_Na_13 rfl d_Na_order_12 h1 ?_
    refine wm_aload_n d_Na_order_15 rfl rfl ?_
    refine gf_Na_13 rfl d_Na_order_16 h2 ?_
    have hJ : ∀ v7 : Int, v7 = (if (mI M a1 1 ≤ mI M a0 1) then 1 else (-1)) → mWm G y_Na_order d 27 [vd, vd, vd] [vi v7] M (fun r9 M9 => ∃ x9, r9 = some (vi x9) ∧ Q x9 M9) := by
      intro v7 e9
      have h := h v7 e9
      have h10 : i32 v7 := by rw [e9]; (repeat' split) <;> first | exact ⟨by decide, by decide⟩ | exact ⟨by decide, by decide⟩
      refine wm_ireturn d_Na_order_27 rfl rfl ?_
      exact ⟨_, rfl, h⟩
    clear h
    refine wm_icmp_ge (tgt := 26) d_Na_order_19 rfl (hO _ _).1 (hO _ _).1 (fun c6 => ?_) (fun c6 => ?_)
    · refine wm_iconst d_Na_order_26 ?_
      refine wm_less (L' := [vd, vd, vd]) ⟨Or.inl rfl, Or.inl rfl, Or.inl rfl, trivial⟩ ?_
      exact hJ 1 (if_pos c6).symm
    · refine wm_iconst d_Na_order_22 ?_
      refine wm_goto (tgt := 27) d_Na_order_23 rfl ?_
      refine wm_less (L' := [vd, vd, vd]) ⟨Or.inl rfl, Or.inl rfl, Or.inl rfl, trivial⟩ ?_
      exact hJ (-1) (if_neg c6).symm
theorem k_Na_order_35 {G : mG} {d : Nat} {a0 : Nat} {a1 : Nat} {l2 : Int} {M : mM} {Q : Int → mM → Prop} (hO : mOk M) (hi_l2 : i32 l2)
    (h : ((l2 < 0) → (Q 0 M)) ∧ (¬ (l2 < 0) → (mK M a0 = 10 ∧ mK M (mR M a0 0) = 30 ∧ ((0 : Int) ≤ l2 ∧ l2 < (mN M (mR M a0 0) : Int)) ∧ mK M a1 = 10 ∧ mK M (mR M a1 0) = 30 ∧ ((0 : Int) ≤ l2 ∧ l2 < (mN M (mR M a1 0) : Int)) ∧ ((mI M (mR M a0 0) (Int.toNat l2) = mI M (mR M a1 0) (Int.toNat l2)) → (h_Na_order_35 G d a0 a1 (l2 + (-1)) M Q)) ∧ (¬ (mI M (mR M a0 0) (Int.toNat l2) = mI M (mR M a1 0) (Int.toNat l2)) → (((0 : Int) ≤ l2 ∧ l2 < (mN M (mR M a0 0) : Int)) ∧ ((0 : Int) ≤ l2 ∧ l2 < (mN M (mR M a1 0) : Int)) ∧ ∀ v38 : Int, v38 = (if (mI M (mR M a1 0) (Int.toNat l2) ≤ mI M (mR M a0 0) (Int.toNat l2)) then 1 else (-1)) → Q v38 M))))) :
    h_Na_order_35 G d a0 a1 l2 M Q := by
  unfold h_Na_order_35
  refine wm_iload_n d_Na_order_35 rfl rfl ?_
  refine wm_if_lt (tgt := 81) d_Na_order_36 rfl hi_l2 (fun c23 => ?_) (fun c23 => ?_)
  · replace h := h.1 c23
    refine wm_iconst d_Na_order_81 ?_
    refine wm_ireturn d_Na_order_82 rfl rfl ?_
    exact ⟨_, rfl, h⟩
  · replace h := h.2 c23
    obtain ⟨h24, h⟩ := h
    obtain ⟨h25, h⟩ := h
    obtain ⟨h26, h⟩ := h
    obtain ⟨h27, h⟩ := h
    obtain ⟨h28, h⟩ := h
    obtain ⟨h29, h⟩ := h
    refine wm_aload_n d_Na_order_39 rfl rfl ?_
    refine gf_Na_9 rfl d_Na_order_40 h24 ?_
    refine wm_iload_n d_Na_order_43 rfl rfl ?_
    refine wm_iald d_Na_order_44 h25 h26 ?_
    refine wm_aload_n d_Na_order_45 rfl rfl ?_
    refine gf_Na_9 rfl d_Na_order_46 h27 ?_
    refine wm_iload_n d_Na_order_49 rfl rfl ?_
    refine wm_iald d_Na_order_50 h28 h29 ?_
    refine wm_icmp_eq (tgt := 75) d_Na_order_51 rfl (hO _ _).1 (hO _ _).1 (fun c34 => ?_) (fun c34 => ?_)
    · replace h := h.1 c34
      refine wm_iinc d_Na_order_75 (by decide) rfl (L' := [vr a0, vr a1, vi (l2 + (-1))]) rfl ?_
      refine wm_goto (tgt := 35) d_Na_order_78 rfl ?_
      exact h
    · replace h := h.2 c34
      obtain ⟨h35, h⟩ := h
      obtain ⟨h36, h⟩ := h
      refine wm_aload_n d_Na_order_54 rfl rfl ?_
      refine gf_Na_9 rfl d_Na_order_55 h24 ?_
      refine wm_iload_n d_Na_order_58 rfl rfl ?_
      refine wm_iald d_Na_order_59 h25 h35 ?_
      refine wm_aload_n d_Na_order_60 rfl rfl ?_
      refine gf_Na_9 rfl d_Na_order_61 h27 ?_
      refine wm_iload_n d_Na_order_64 rfl rfl ?_
      refine wm_iald d_Na_order_65 h28 h36 ?_
      have hJ : ∀ v38 : Int, v38 = (if (mI M (mR M a1 0) (Int.toNat l2) ≤ mI M (mR M a0 0) (Int.toNat l2)) then 1 else (-1)) → mWm G y_Na_order d 74 [vd, vd, vd] [vi v38] M (fun r9 M9 => ∃ x9, r9 = some (vi x9) ∧ Q x9 M9) := by
        intro v38 e40
        have h := h v38 e40
        have h41 : i32 v38 := by rw [e40]; (repeat' split) <;> first | exact ⟨by decide, by decide⟩ | exact ⟨by decide, by decide⟩
        refine wm_ireturn d_Na_order_74 rfl rfl ?_
        exact ⟨_, rfl, h⟩
      clear h
      refine wm_icmp_ge (tgt := 73) d_Na_order_66 rfl (hO _ _).1 (hO _ _).1 (fun c37 => ?_) (fun c37 => ?_)
      · refine wm_iconst d_Na_order_73 ?_
        refine wm_less (L' := [vd, vd, vd]) ⟨Or.inl rfl, Or.inl rfl, Or.inl rfl, trivial⟩ ?_
        exact hJ 1 (if_pos c37).symm
      · refine wm_iconst d_Na_order_69 ?_
        refine wm_goto (tgt := 74) d_Na_order_70 rfl ?_
        refine wm_less (L' := [vd, vd, vd]) ⟨Or.inl rfl, Or.inl rfl, Or.inl rfl, trivial⟩ ?_
        exact hJ (-1) (if_neg c37).symm
theorem d_Na_add_0 : decode y_Na_add.2.1 0 = .ok (.aload_n 0, 1) := by decide +kernel
theorem d_Na_add_1 : decode y_Na_add.2.1 1 = .ok (.getfield 13, 3) := by decide +kernel
theorem d_Na_add_4 : decode y_Na_add.2.1 4 = .ok (.aload_n 1, 1) := by decide +kernel
theorem d_Na_add_5 : decode y_Na_add.2.1 5 = .ok (.getfield 13, 3) := by decide +kernel
theorem d_Na_add_8 : decode y_Na_add.2.1 8 = .ok (.invokestatic 17, 3) := by decide +kernel
theorem d_Na_add_11 : decode y_Na_add.2.1 11 = .ok (.istore_n 3, 1) := by decide +kernel
theorem d_Na_add_12 : decode y_Na_add.2.1 12 = .ok (.aload_n 0, 1) := by decide +kernel
theorem d_Na_add_13 : decode y_Na_add.2.1 13 = .ok (.iload_n 3, 1) := by decide +kernel
theorem d_Na_add_14 : decode y_Na_add.2.1 14 = .ok (.iconst 1, 1) := by decide +kernel
theorem d_Na_add_15 : decode y_Na_add.2.1 15 = .ok (.iadd, 1) := by decide +kernel
theorem d_Na_add_16 : decode y_Na_add.2.1 16 = .ok (.invokevirtual 47, 3) := by decide +kernel
theorem d_Na_add_19 : decode y_Na_add.2.1 19 = .ok (.aload_n 0, 1) := by decide +kernel
theorem d_Na_add_20 : decode y_Na_add.2.1 20 = .ok (.getfield 9, 3) := by decide +kernel
theorem d_Na_add_23 : decode y_Na_add.2.1 23 = .ok (.aload_n 0, 1) := by decide +kernel
theorem d_Na_add_24 : decode y_Na_add.2.1 24 = .ok (.getfield 13, 3) := by decide +kernel
theorem d_Na_add_27 : decode y_Na_add.2.1 27 = .ok (.iload_n 3, 1) := by decide +kernel
theorem d_Na_add_28 : decode y_Na_add.2.1 28 = .ok (.iconst 1, 1) := by decide +kernel
theorem d_Na_add_29 : decode y_Na_add.2.1 29 = .ok (.iadd, 1) := by decide +kernel
theorem d_Na_add_30 : decode y_Na_add.2.1 30 = .ok (.iconst 0, 1) := by decide +kernel
theorem d_Na_add_31 : decode y_Na_add.2.1 31 = .ok (.invokestatic 50, 3) := by decide +kernel
theorem d_Na_add_34 : decode y_Na_add.2.1 34 = .ok (.lconst 0, 1) := by decide +kernel
theorem d_Na_add_35 : decode y_Na_add.2.1 35 = .ok (.lstore 4, 2) := by decide +kernel
theorem d_Na_add_37 : decode y_Na_add.2.1 37 = .ok (.iconst 0, 1) := by decide +kernel
theorem d_Na_add_38 : decode y_Na_add.2.1 38 = .ok (.istore 6, 2) := by decide +kernel
theorem d_Na_add_40 : decode y_Na_add.2.1 40 = .ok (.iload 6, 2) := by decide +kernel
theorem d_Na_add_42 : decode y_Na_add.2.1 42 = .ok (.aload_n 1, 1) := by decide +kernel
theorem d_Na_add_43 : decode y_Na_add.2.1 43 = .ok (.getfield 13, 3) := by decide +kernel
theorem d_Na_add_46 : decode y_Na_add.2.1 46 = .ok (.if_icmp .ge 55, 3) := by decide +kernel
theorem d_Na_add_101 : decode y_Na_add.2.1 101 = .ok (.aload_n 1, 1) := by decide +kernel
theorem d_Na_add_102 : decode y_Na_add.2.1 102 = .ok (.getfield 13, 3) := by decide +kernel
theorem d_Na_add_105 : decode y_Na_add.2.1 105 = .ok (.istore 6, 2) := by decide +kernel
theorem d_Na_add_49 : decode y_Na_add.2.1 49 = .ok (.lload 4, 2) := by decide +kernel
theorem d_Na_add_51 : decode y_Na_add.2.1 51 = .ok (.aload_n 0, 1) := by decide +kernel
theorem d_Na_add_52 : decode y_Na_add.2.1 52 = .ok (.getfield 9, 3) := by decide +kernel
theorem d_Na_add_55 : decode y_Na_add.2.1 55 = .ok (.iload 6, 2) := by decide +kernel
theorem d_Na_add_57 : decode y_Na_add.2.1 57 = .ok (.iaload, 1) := by decide +kernel
theorem d_Na_add_58 : decode y_Na_add.2.1 58 = .ok (.i2l, 1) := by decide +kernel
theorem d_Na_add_59 : decode y_Na_add.2.1 59 = .ok (.iload_n 2, 1) := by decide +kernel
theorem d_Na_add_60 : decode y_Na_add.2.1 60 = .ok (.i2l, 1) := by decide +kernel
theorem d_Na_add_61 : decode y_Na_add.2.1 61 = .ok (.aload_n 1, 1) := by decide +kernel
theorem d_Na_add_62 : decode y_Na_add.2.1 62 = .ok (.getfield 9, 3) := by decide +kernel
theorem d_Na_add_65 : decode y_Na_add.2.1 65 = .ok (.iload 6, 2) := by decide +kernel
theorem d_Na_add_67 : decode y_Na_add.2.1 67 = .ok (.iaload, 1) := by decide +kernel
theorem d_Na_add_68 : decode y_Na_add.2.1 68 = .ok (.i2l, 1) := by decide +kernel
theorem d_Na_add_69 : decode y_Na_add.2.1 69 = .ok (.lmul, 1) := by decide +kernel
theorem d_Na_add_70 : decode y_Na_add.2.1 70 = .ok (.ladd, 1) := by decide +kernel
theorem d_Na_add_71 : decode y_Na_add.2.1 71 = .ok (.ladd, 1) := by decide +kernel
theorem d_Na_add_72 : decode y_Na_add.2.1 72 = .ok (.lstore 4, 2) := by decide +kernel
theorem d_Na_add_74 : decode y_Na_add.2.1 74 = .ok (.aload_n 0, 1) := by decide +kernel
theorem d_Na_add_75 : decode y_Na_add.2.1 75 = .ok (.getfield 9, 3) := by decide +kernel
theorem d_Na_add_78 : decode y_Na_add.2.1 78 = .ok (.iload 6, 2) := by decide +kernel
theorem d_Na_add_80 : decode y_Na_add.2.1 80 = .ok (.lload 4, 2) := by decide +kernel
theorem d_Na_add_82 : decode y_Na_add.2.1 82 = .ok (.ldc2_w 29, 3) := by decide +kernel
theorem d_Na_add_85 : decode y_Na_add.2.1 85 = .ok (.land, 1) := by decide +kernel
theorem d_Na_add_86 : decode y_Na_add.2.1 86 = .ok (.l2i, 1) := by decide +kernel
theorem d_Na_add_87 : decode y_Na_add.2.1 87 = .ok (.iastore, 1) := by decide +kernel
theorem d_Na_add_88 : decode y_Na_add.2.1 88 = .ok (.lload 4, 2) := by decide +kernel
theorem d_Na_add_90 : decode y_Na_add.2.1 90 = .ok (.bipush 30, 2) := by decide +kernel
theorem d_Na_add_92 : decode y_Na_add.2.1 92 = .ok (.lushr, 1) := by decide +kernel
theorem d_Na_add_93 : decode y_Na_add.2.1 93 = .ok (.lstore 4, 2) := by decide +kernel
theorem d_Na_add_95 : decode y_Na_add.2.1 95 = .ok (.iinc 6 1, 3) := by decide +kernel
theorem d_Na_add_98 : decode y_Na_add.2.1 98 = .ok (.goto (-58), 3) := by decide +kernel
theorem d_Na_add_107 : decode y_Na_add.2.1 107 = .ok (.iload 6, 2) := by decide +kernel
theorem d_Na_add_109 : decode y_Na_add.2.1 109 = .ok (.iload_n 3, 1) := by decide +kernel
theorem d_Na_add_110 : decode y_Na_add.2.1 110 = .ok (.if_icmp .gt 50, 3) := by decide +kernel
theorem d_Na_add_113 : decode y_Na_add.2.1 113 = .ok (.lload 4, 2) := by decide +kernel
theorem d_Na_add_115 : decode y_Na_add.2.1 115 = .ok (.lconst 0, 1) := by decide +kernel
theorem d_Na_add_116 : decode y_Na_add.2.1 116 = .ok (.lcmp, 1) := by decide +kernel
theorem d_Na_add_117 : decode y_Na_add.2.1 117 = .ok (.ifCond .eq 43, 3) := by decide +kernel
theorem d_Na_add_120 : decode y_Na_add.2.1 120 = .ok (.lload 4, 2) := by decide +kernel
theorem d_Na_add_122 : decode y_Na_add.2.1 122 = .ok (.aload_n 0, 1) := by decide +kernel
theorem d_Na_add_123 : decode y_Na_add.2.1 123 = .ok (.getfield 9, 3) := by decide +kernel
theorem d_Na_add_126 : decode y_Na_add.2.1 126 = .ok (.iload 6, 2) := by decide +kernel
theorem d_Na_add_128 : decode y_Na_add.2.1 128 = .ok (.iaload, 1) := by decide +kernel
theorem d_Na_add_129 : decode y_Na_add.2.1 129 = .ok (.i2l, 1) := by decide +kernel
theorem d_Na_add_130 : decode y_Na_add.2.1 130 = .ok (.ladd, 1) := by decide +kernel
theorem d_Na_add_131 : decode y_Na_add.2.1 131 = .ok (.lstore 4, 2) := by decide +kernel
theorem d_Na_add_133 : decode y_Na_add.2.1 133 = .ok (.aload_n 0, 1) := by decide +kernel
theorem d_Na_add_134 : decode y_Na_add.2.1 134 = .ok (.getfield 9, 3) := by decide +kernel
theorem d_Na_add_137 : decode y_Na_add.2.1 137 = .ok (.iload 6, 2) := by decide +kernel
theorem d_Na_add_139 : decode y_Na_add.2.1 139 = .ok (.lload 4, 2) := by decide +kernel
theorem d_Na_add_141 : decode y_Na_add.2.1 141 = .ok (.ldc2_w 29, 3) := by decide +kernel
theorem d_Na_add_144 : decode y_Na_add.2.1 144 = .ok (.land, 1) := by decide +kernel
theorem d_Na_add_145 : decode y_Na_add.2.1 145 = .ok (.l2i, 1) := by decide +kernel
theorem d_Na_add_146 : decode y_Na_add.2.1 146 = .ok (.iastore, 1) := by decide +kernel
theorem d_Na_add_147 : decode y_Na_add.2.1 147 = .ok (.lload 4, 2) := by decide +kernel
theorem d_Na_add_149 : decode y_Na_add.2.1 149 = .ok (.bipush 30, 2) := by decide +kernel
theorem d_Na_add_151 : decode y_Na_add.2.1 151 = .ok (.lushr, 1) := by decide +kernel
theorem d_Na_add_152 : decode y_Na_add.2.1 152 = .ok (.lstore 4, 2) := by decide +kernel
theorem d_Na_add_154 : decode y_Na_add.2.1 154 = .ok (.iinc 6 1, 3) := by decide +kernel
theorem d_Na_add_157 : decode y_Na_add.2.1 157 = .ok (.goto (-50), 3) := by decide +kernel
theorem d_Na_add_160 : decode y_Na_add.2.1 160 = .ok (.aload_n 0, 1) := by decide +kernel
theorem d_Na_add_161 : decode y_Na_add.2.1 161 = .ok (.iload_n 3, 1) := by decide +kernel
theorem d_Na_add_162 : decode y_Na_add.2.1 162 = .ok (.iconst 1, 1) := by decide +kernel
theorem d_Na_add_163 : decode y_Na_add.2.1 163 = .ok (.iadd, 1) := by decide +kernel
theorem d_Na_add_164 : decode y_Na_add.2.1 164 = .ok (.invokevirtual 31, 3) := by decide +kernel
theorem d_Na_add_167 : decode y_Na_add.2.1 167 = .ok (.return_, 1) := by decide +kernel
def h_Na_add_40 (G : mG) (d : Nat) (a0 : Nat) (a1 : Nat) (l2 : Int) (l3 : Int) (j4 : Int) (l6 : Int) (M : mM) (Q : mM → Prop) : Prop := mWm G y_Na_add (d + 1) 40 [vr a0, vr a1, vi l2, vi l3, vl j4, vd, vi l6] [] M (fun r9 M9 => r9 = none ∧ Q M9)
def h_Na_add_107 (G : mG) (d : Nat) (a0 : Nat) (l3 : Int) (j4 : Int) (l6 : Int) (M : mM) (Q : mM → Prop) : Prop := mWm G y_Na_add (d + 1) 107 [vr a0, vd, vd, vi l3, vl j4, vd, vi l6] [] M (fun r9 M9 => r9 = none ∧ Q M9)
theorem k_Na_add {G : mG} {d : Nat} {a0 : Nat} {a1 : Nat} {l2 : Int} {M : mM} {Q : mM → Prop} (hO : mOk M) (hi_l2 : i32 l2)
    (h : mK M a0 = 10 ∧ mK M a1 = 10 ∧ Cv G y_Na_reserve d [vr a0, vi ((if mI M a0 1 < mI M a1 1 then mI M a1 1 else mI M a0 1) + 1)] M (fun M3 => mOk M3 ∧ (mK M3 a0 = 10 ∧ Cv G y_JA_fillR d [vr (mR M3 a0 0), vi (mI M3 a0 1), vi ((if mI M a0 1 < mI M a1 1 then mI M a1 1 else mI M a0 1) + 1), vi 0] M3 (fun M7 => mOk M7 ∧ (h_Na_add_40 G d a0 a1 l2 (if mI M a0 1 < mI M a1 1 then mI M a1 1 else mI M a0 1) 0 0 M7 Q))))) :
    Cv G y_Na_add (d + 1) [vr a0, vr a1, vi l2] M Q := by
  refine wm_open (y := y_Na_add) rfl (Nat.le_of_ble_eq_true rfl) (L := [vr a0, vr a1, vi l2, vd, vd, vd, vd]) rfl ?_
  obtain ⟨h1, h⟩ := h
  obtain ⟨h2, h⟩ := h
  refine wm_aload_n d_Na_add_0 rfl rfl ?_
  refine gf_Na_13 rfl d_Na_add_1 h1 ?_
  refine wm_aload_n d_Na_add_4 rfl rfl ?_
  refine gf_Na_13 rfl d_Na_add_5 h2 ?_
  refine wm_mmax k5_191 (Nat.le_of_ble_eq_true rfl) (hO _ _).1 (hO _ _).1 d_Na_add_8 ?_
  refine wm_istore_n d_Na_add_11 rfl (by decide) (L' := [vr a0, vr a1, vi l2, vi (if mI M a0 1 < mI M a1 1 then mI M a1 1 else mI M a0 1), vd, vd, vd]) rfl ?_
  refine wm_aload_n d_Na_add_12 rfl rfl ?_
  refine wm_iload_n d_Na_add_13 rfl rfl ?_
  refine wm_iconst d_Na_add_14 ?_
  refine wm_iadd d_Na_add_15 ?_
  refine cf_Na_47 rfl d_Na_add_16 h1 (Nat.le_of_ble_eq_true rfl) (Cv.mono h (fun M3 h => ?_))
  obtain ⟨hOM3, h⟩ := h
  obtain ⟨h6, h⟩ := h
  refine wm_aload_n d_Na_add_19 rfl rfl ?_
  refine gf_Na_9 rfl d_Na_add_20 h6 ?_
  refine wm_aload_n d_Na_add_23 rfl rfl ?_
  refine gf_Na_13 rfl d_Na_add_24 h6 ?_
  refine wm_iload_n d_Na_add_27 rfl rfl ?_
  refine wm_iconst d_Na_add_28 ?_
  refine wm_iadd d_Na_add_29 ?_
  refine wm_iconst d_Na_add_30 ?_
  refine cf_Na_50 rfl d_Na_add_31 (Nat.le_of_ble_eq_true rfl) (Cv.mono h (fun M7 h => ?_))
  obtain ⟨hOM7, h⟩ := h
  refine wm_lconst (x := 0) d_Na_add_34 rfl ?_
  refine wm_lstore d_Na_add_35 (by decide) (L' := [vr a0, vr a1, vi l2, vi (if mI M a0 1 < mI M a1 1 then mI M a1 1 else mI M a0 1), vl 0, vd, vd]) rfl ?_
  refine wm_iconst d_Na_add_37 ?_
  refine wm_istore d_Na_add_38 (by decide) (L' := [vr a0, vr a1, vi l2, vi (if mI M a0 1 < mI M a1 1 then mI M a1 1 else mI M a0 1), vl 0, vd, vi 0]) rfl ?_
  exact h
theorem k_Na_add_40 {G : mG} {d : Nat} {a0 : Nat} {a1 : Nat} {l2 : Int} {l3 : Int} {j4 : Int} {l6 : Int} {M : mM} {Q : mM → Prop} (hO : mOk M) (hi_l2 : i32 l2) (hi_l3 : i32 l3) (hi_j4 : i64 j4) (hi_l6 : i32 l6)
    (h : mK M a1 = 10 ∧ ((mI M a1 1 ≤ l6) → (h_Na_add_107 G d a0 l3 j4 (mI M a1 1) M Q)) ∧ (¬ (mI M a1 1 ≤ l6) → (mK M a0 = 10 ∧ mK M (mR M a0 0) = 30 ∧ ((0 : Int) ≤ l6 ∧ l6 < (mN M (mR M a0 0) : Int)) ∧ mK M (mR M a1 0) = 30 ∧ ((0 : Int) ≤ l6 ∧ l6 < (mN M (mR M a1 0) : Int)) ∧ ((0 : Int) ≤ l6 ∧ l6 < (mN M (mR M a0 0) : Int)) ∧ i32 (andL (j4 + ((mI M (mR M a0 0) (Int.toNat l6)) + (l2 * (mI M (mR M a1 0) (Int.toNat l6))))) 1073741823) ∧ ∀ M27, M27 = mUI M (mR M a0 0) (Int.toNat l6) (andL (j4 + ((mI M (mR M a0 0) (Int.toNat l6)) + (l2 * (mI M (mR M a1 0) (Int.toNat l6))))) 1073741823) → h_Na_add_40 G d a0 a1 l2 l3 (ushrL (j4 + ((mI M (mR M a0 0) (Int.toNat l6)) + (l2 * (mI M (mR M a1 0) (Int.toNat l6))))) 30) (l6 + 1) M27 Q))) :
    h_Na_add_40 G d a0 a1 l2 l3 j4 l6 M Q := by
  unfold h_Na_add_40
  obtain ⟨h10, h⟩ := h
  refine wm_iload d_Na_add_40 rfl ?_
  refine wm_aload_n d_Na_add_42 rfl rfl ?_
  refine gf_Na_13 rfl d_Na_add_43 h10 ?_
  refine wm_icmp_ge (tgt := 101) d_Na_add_46 rfl hi_l6 (hO _ _).1 (fun c19 => ?_) (fun c19 => ?_)
  · replace h := h.1 c19
    refine wm_aload_n d_Na_add_101 rfl rfl ?_
    refine gf_Na_13 rfl d_Na_add_102 h10 ?_
    refine wm_istore d_Na_add_105 (by decide) (L' := [vr a0, vr a1, vi l2, vi l3, vl j4, vd, vi (mI M a1 1)]) rfl ?_
    refine wm_less (L' := [vr a0, vd, vd, vi l3, vl j4, vd, vi (mI M a1 1)]) ⟨Or.inr rfl, Or.inl rfl, Or.inl rfl, Or.inr rfl, Or.inr rfl, Or.inl rfl, Or.inr rfl, trivial⟩ ?_
    exact h
  · replace h := h.2 c19
    obtain ⟨h20, h⟩ := h
    obtain ⟨h21, h⟩ := h
    obtain ⟨h22, h⟩ := h
    obtain ⟨h23, h⟩ := h
    obtain ⟨h24, h⟩ := h
    obtain ⟨h25, h⟩ := h
    obtain ⟨h26, h⟩ := h
    obtain ⟨M27, e28⟩ : ∃ M27, M27 = mUI M (mR M a0 0) (Int.toNat l6) (andL (j4 + ((mI M (mR M a0 0) (Int.toNat l6)) + (l2 * (mI M (mR M a1 0) (Int.toNat l6))))) 1073741823) := ⟨_, rfl⟩
    replace h := h M27 e28
    refine wm_lload d_Na_add_49 rfl ?_
    refine wm_aload_n d_Na_add_51 rfl rfl ?_
    refine gf_Na_9 rfl d_Na_add_52 h20 ?_
    refine wm_iload d_Na_add_55 rfl ?_
    refine wm_iald d_Na_add_57 h21 h22 ?_
    refine wm_i2l d_Na_add_58 (hO _ _).1 ?_
    refine wm_iload_n d_Na_add_59 rfl rfl ?_
    refine wm_i2l d_Na_add_60 hi_l2 ?_
    refine wm_aload_n d_Na_add_61 rfl rfl ?_
    refine gf_Na_9 rfl d_Na_add_62 h10 ?_
    refine wm_iload d_Na_add_65 rfl ?_
    refine wm_iald d_Na_add_67 h23 h24 ?_
    refine wm_i2l d_Na_add_68 (hO _ _).1 ?_
    refine wm_lmul d_Na_add_69 ?_
    refine wm_ladd d_Na_add_70 ?_
    refine wm_ladd d_Na_add_71 ?_
    refine wm_lstore d_Na_add_72 (by decide) (L' := [vr a0, vr a1, vi l2, vi l3, vl (j4 + ((mI M (mR M a0 0) (Int.toNat l6)) + (l2 * (mI M (mR M a1 0) (Int.toNat l6))))), vd, vi l6]) rfl ?_
    refine wm_aload_n d_Na_add_74 rfl rfl ?_
    refine gf_Na_9 rfl d_Na_add_75 h20 ?_
    refine wm_iload d_Na_add_78 rfl ?_
    refine wm_lload d_Na_add_80 rfl ?_
    refine wm_ldc2 (x := 1073741823) d_Na_add_82 k5_202 (by decide) ?_
    refine wm_land d_Na_add_85 ?_
    refine wm_l2i d_Na_add_86 ?_
    have hOM27 : mOk M27 := by rw [e28]; exact mOk_UI hO h26
    refine wm_iastE d_Na_add_87 h21 h25 h26 e28 ?_
    refine wm_lload d_Na_add_88 rfl ?_
    refine wm_bipush d_Na_add_90 (by decide) ?_
    refine wm_lushr d_Na_add_92 ?_
    refine wm_lstore d_Na_add_93 (by decide) (L' := [vr a0, vr a1, vi l2, vi l3, vl (ushrL (j4 + ((mI M (mR M a0 0) (Int.toNat l6)) + (l2 * (mI M (mR M a1 0) (Int.toNat l6))))) 30), vd, vi l6]) rfl ?_
    refine wm_iinc d_Na_add_95 (by decide) rfl (L' := [vr a0, vr a1, vi l2, vi l3, vl (ushrL (j4 + ((mI M (mR M a0 0) (Int.toNat l6)) + (l2 * (mI M (mR M a1 0) (Int.toNat l6))))) 30), vd, vi (l6 + 1)]) rfl ?_
    refine wm_goto (tgt := 40) d_Na_add_98 rfl ?_
    exact h
theorem k_Na_add_107 {G : mG} {d : Nat} {a0 : Nat} {l3 : Int} {j4 : Int} {l6 : Int} {M : mM} {Q : mM → Prop} (hO : mOk M) (hi_l3 : i32 l3) (hi_j4 : i64 j4) (hi_l6 : i32 l6)
    (h : (((l3 < l6) ∨ (cmpL j4 0 = 0)) → (mK M a0 = 10 ∧ Cv G y_Na_trim d [vr a0, vi (l3 + 1)] M (fun M39 => mOk M39 ∧ (Q M39)))) ∧ (¬ ((l3 < l6) ∨ (cmpL j4 0 = 0)) → (mK M a0 = 10 ∧ mK M (mR M a0 0) = 30 ∧ ((0 : Int) ≤ l6 ∧ l6 < (mN M (mR M a0 0) : Int)) ∧ ((0 : Int) ≤ l6 ∧ l6 < (mN M (mR M a0 0) : Int)) ∧ i32 (andL (j4 + (mI M (mR M a0 0) (Int.toNat l6))) 1073741823) ∧ ∀ M48, M48 = mUI M (mR M a0 0) (Int.toNat l6) (andL (j4 + (mI M (mR M a0 0) (Int.toNat l6))) 1073741823) → h_Na_add_107 G d a0 l3 (ushrL (j4 + (mI M (mR M a0 0) (Int.toNat l6))) 30) (l6 + 1) M48 Q))) :
    h_Na_add_107 G d a0 l3 j4 l6 M Q := by
  unfold h_Na_add_107
  refine wm_iload d_Na_add_107 rfl ?_
  refine wm_iload_n d_Na_add_109 rfl rfl ?_
  have hE0 : ((l3 < l6) ∨ (cmpL j4 0 = 0)) → mWm G y_Na_add (d + 1) 160 [vr a0, vd, vd, vi l3, vl j4, vd, vi l6] [] M (fun r9 M9 => r9 = none ∧ Q M9) := by
    intro q37
    have h := h.1 q37
    obtain ⟨h38, h⟩ := h
    refine wm_aload_n d_Na_add_160 rfl rfl ?_
    refine wm_iload_n d_Na_add_161 rfl rfl ?_
    refine wm_iconst d_Na_add_162 ?_
    refine wm_iadd d_Na_add_163 ?_
    refine cf_Na_31 rfl d_Na_add_164 h38 (Nat.le_of_ble_eq_true rfl) (Cv.mono h (fun M39 h => ?_))
    obtain ⟨hOM39, h⟩ := h
    refine wm_return d_Na_add_167 rfl ?_
    exact ⟨rfl, h⟩
  have hE1 : ¬ ((l3 < l6) ∨ (cmpL j4 0 = 0)) → mWm G y_Na_add (d + 1) 120 [vr a0, vd, vd, vi l3, vl j4, vd, vi l6] [] M (fun r9 M9 => r9 = none ∧ Q M9) := by
    intro q42
    have h := h.2 q42
    obtain ⟨h43, h⟩ := h
    obtain ⟨h44, h⟩ := h
    obtain ⟨h45, h⟩ := h
    obtain ⟨h46, h⟩ := h
    obtain ⟨h47, h⟩ := h
    obtain ⟨M48, e49⟩ : ∃ M48, M48 = mUI M (mR M a0 0) (Int.toNat l6) (andL (j4 + (mI M (mR M a0 0) (Int.toNat l6))) 1073741823) := ⟨_, rfl⟩
    replace h := h M48 e49
    refine wm_lload d_Na_add_120 rfl ?_
    refine wm_aload_n d_Na_add_122 rfl rfl ?_
    refine gf_Na_9 rfl d_Na_add_123 h43 ?_
    refine wm_iload d_Na_add_126 rfl ?_
    refine wm_iald d_Na_add_128 h44 h45 ?_
    refine wm_i2l d_Na_add_129 (hO _ _).1 ?_
    refine wm_ladd d_Na_add_130 ?_
    refine wm_lstore d_Na_add_131 (by decide) (L' := [vr a0, vd, vd, vi l3, vl (j4 + (mI M (mR M a0 0) (Int.toNat l6))), vd, vi l6]) rfl ?_
    refine wm_aload_n d_Na_add_133 rfl rfl ?_
    refine gf_Na_9 rfl d_Na_add_134 h43 ?_
    refine wm_iload d_Na_add_137 rfl ?_
    refine wm_lload d_Na_add_139 rfl ?_
    refine wm_ldc2 (x := 1073741823) d_Na_add_141 k5_202 (by decide) ?_
    refine wm_land d_Na_add_144 ?_
    refine wm_l2i d_Na_add_145 ?_
    have hOM48 : mOk M48 := by rw [e49]; exact mOk_UI hO h47
    refine wm_iastE d_Na_add_146 h44 h46 h47 e49 ?_
    refine wm_lload d_Na_add_147 rfl ?_
    refine wm_bipush d_Na_add_149 (by decide) ?_
    refine wm_lushr d_Na_add_151 ?_
    refine wm_lstore d_Na_add_152 (by decide) (L' := [vr a0, vd, vd, vi l3, vl (ushrL (j4 + (mI M (mR M a0 0) (Int.toNat l6))) 30), vd, vi l6]) rfl ?_
    refine wm_iinc d_Na_add_154 (by decide) rfl (L' := [vr a0, vd, vd, vi l3, vl (ushrL (j4 + (mI M (mR M a0 0) (Int.toNat l6))) 30), vd, vi (l6 + 1)]) rfl ?_
    refine wm_goto (tgt := 107) d_Na_add_157 rfl ?_
    exact h
  clear h
  refine wm_icmp_gt (tgt := 160) d_Na_add_110 rfl hi_l6 hi_l3 (fun c35 => ?_) (fun c35 => ?_)
  · exact hE0 (Or.inl c35)
  · refine wm_lload d_Na_add_113 rfl ?_
    refine wm_lconst (x := 0) d_Na_add_115 rfl ?_
    refine wm_lcmp d_Na_add_116 hi_j4 ⟨by decide, by decide⟩ ?_
    refine wm_if_eq (tgt := 160) d_Na_add_117 rfl (m_cmp32 _ _) (fun c34 => ?_) (fun c34 => ?_)
    · exact hE0 (Or.inr c34)
    · exact hE1 (fun z50 => Or.elim z50 c35 c34)
theorem d_Na_multiply_0 : decode y_Na_multiply.2.1 0 = .ok (.iload_n 1, 1) := by decide +kernel
theorem d_Na_multiply_1 : decode y_Na_multiply.2.1 1 = .ok (.iconst 1, 1) := by decide +kernel
theorem d_Na_multiply_2 : decode y_Na_multiply.2.1 2 = .ok (.if_icmp .ne 4, 3) := by decide +kernel
theorem d_Na_multiply_5 : decode y_Na_multiply.2.1 5 = .ok (.return_, 1) := by decide +kernel
theorem d_Na_multiply_6 : decode y_Na_multiply.2.1 6 = .ok (.aload_n 0, 1) := by decide +kernel
theorem d_Na_multiply_7 : decode y_Na_multiply.2.1 7 = .ok (.getfield 13, 3) := by decide +kernel
theorem d_Na_multiply_10 : decode y_Na_multiply.2.1 10 = .ok (.aload_n 0, 1) := by decide +kernel
theorem d_Na_multiply_11 : decode y_Na_multiply.2.1 11 = .ok (.getfield 9, 3) := by decide +kernel
theorem d_Na_multiply_14 : decode y_Na_multiply.2.1 14 = .ok (.arraylength, 1) := by decide +kernel
theorem d_Na_multiply_15 : decode y_Na_multiply.2.1 15 = .ok (.if_icmp .ne 20, 3) := by decide +kernel
theorem d_Na_multiply_18 : decode y_Na_multiply.2.1 18 = .ok (.aload_n 0, 1) := by decide +kernel
theorem d_Na_multiply_19 : decode y_Na_multiply.2.1 19 = .ok (.aload_n 0, 1) := by decide +kernel
theorem d_Na_multiply_20 : decode y_Na_multiply.2.1 20 = .ok (.getfield 9, 3) := by decide +kernel
theorem d_Na_multiply_23 : decode y_Na_multiply.2.1 23 = .ok (.iconst 2, 1) := by decide +kernel
theorem d_Na_multiply_24 : decode y_Na_multiply.2.1 24 = .ok (.aload_n 0, 1) := by decide +kernel
theorem d_Na_multiply_25 : decode y_Na_multiply.2.1 25 = .ok (.getfield 13, 3) := by decide +kernel
theorem d_Na_multiply_28 : decode y_Na_multiply.2.1 28 = .ok (.imul, 1) := by decide +kernel
theorem d_Na_multiply_29 : decode y_Na_multiply.2.1 29 = .ok (.invokestatic 23, 3) := by decide +kernel
theorem d_Na_multiply_32 : decode y_Na_multiply.2.1 32 = .ok (.putfield 9, 3) := by decide +kernel
theorem d_Na_multiply_35 : decode y_Na_multiply.2.1 35 = .ok (.lconst 0, 1) := by decide +kernel
theorem d_Na_multiply_36 : decode y_Na_multiply.2.1 36 = .ok (.lstore_n 2, 1) := by decide +kernel
theorem d_Na_multiply_37 : decode y_Na_multiply.2.1 37 = .ok (.iconst 0, 1) := by decide +kernel
theorem d_Na_multiply_38 : decode y_Na_multiply.2.1 38 = .ok (.istore 4, 2) := by decide +kernel
theorem d_Na_multiply_40 : decode y_Na_multiply.2.1 40 = .ok (.iload 4, 2) := by decide +kernel
theorem d_Na_multiply_42 : decode y_Na_multiply.2.1 42 = .ok (.aload_n 0, 1) := by decide +kernel
theorem d_Na_multiply_43 : decode y_Na_multiply.2.1 43 = .ok (.getfield 13, 3) := by decide +kernel
theorem d_Na_multiply_46 : decode y_Na_multiply.2.1 46 = .ok (.if_icmp .ge 41, 3) := by decide +kernel
theorem d_Na_multiply_87 : decode y_Na_multiply.2.1 87 = .ok (.lload_n 2, 1) := by decide +kernel
theorem d_Na_multiply_88 : decode y_Na_multiply.2.1 88 = .ok (.lconst 0, 1) := by decide +kernel
theorem d_Na_multiply_89 : decode y_Na_multiply.2.1 89 = .ok (.lcmp, 1) := by decide +kernel
theorem d_Na_multiply_49 : decode y_Na_multiply.2.1 49 = .ok (.lload_n 2, 1) := by decide +kernel
theorem d_Na_multiply_50 : decode y_Na_multiply.2.1 50 = .ok (.iload_n 1, 1) := by decide +kernel
theorem d_Na_multiply_51 : decode y_Na_multiply.2.1 51 = .ok (.i2l, 1) := by decide +kernel
theorem d_Na_multiply_52 : decode y_Na_multiply.2.1 52 = .ok (.aload_n 0, 1) := by decide +kernel
theorem d_Na_multiply_53 : decode y_Na_multiply.2.1 53 = .ok (.getfield 9, 3) := by decide +kernel
theorem d_Na_multiply_56 : decode y_Na_multiply.2.1 56 = .ok (.iload 4, 2) := by decide +kernel
theorem d_Na_multiply_58 : decode y_Na_multiply.2.1 58 = .ok (.iaload, 1) := by decide +kernel
theorem d_Na_multiply_59 : decode y_Na_multiply.2.1 59 = .ok (.i2l, 1) := by decide +kernel
theorem d_Na_multiply_60 : decode y_Na_multiply.2.1 60 = .ok (.lmul, 1) := by decide +kernel
theorem d_Na_multiply_61 : decode y_Na_multiply.2.1 61 = .ok (.ladd, 1) := by decide +kernel
theorem d_Na_multiply_62 : decode y_Na_multiply.2.1 62 = .ok (.lstore_n 2, 1) := by decide +kernel
theorem d_Na_multiply_63 : decode y_Na_multiply.2.1 63 = .ok (.aload_n 0, 1) := by decide +kernel
theorem d_Na_multiply_64 : decode y_Na_multiply.2.1 64 = .ok (.getfield 9, 3) := by decide +kernel
theorem d_Na_multiply_67 : decode y_Na_multiply.2.1 67 = .ok (.iload 4, 2) := by decide +kernel
theorem d_Na_multiply_69 : decode y_Na_multiply.2.1 69 = .ok (.lload_n 2, 1) := by decide +kernel
theorem d_Na_multiply_70 : decode y_Na_multiply.2.1 70 = .ok (.ldc2_w 29, 3) := by decide +kernel
theorem d_Na_multiply_73 : decode y_Na_multiply.2.1 73 = .ok (.land, 1) := by decide +kernel
theorem d_Na_multiply_74 : decode y_Na_multiply.2.1 74 = .ok (.l2i, 1) := by decide +kernel
theorem d_Na_multiply_75 : decode y_Na_multiply.2.1 75 = .ok (.iastore, 1) := by decide +kernel
theorem d_Na_multiply_76 : decode y_Na_multiply.2.1 76 = .ok (.lload_n 2, 1) := by decide +kernel
theorem d_Na_multiply_77 : decode y_Na_multiply.2.1 77 = .ok (.bipush 30, 2) := by decide +kernel
theorem d_Na_multiply_79 : decode y_Na_multiply.2.1 79 = .ok (.lushr, 1) := by decide +kernel
theorem d_Na_multiply_80 : decode y_Na_multiply.2.1 80 = .ok (.lstore_n 2, 1) := by decide +kernel
theorem d_Na_multiply_81 : decode y_Na_multiply.2.1 81 = .ok (.iinc 4 1, 3) := by decide +kernel
theorem d_Na_multiply_84 : decode y_Na_multiply.2.1 84 = .ok (.goto (-44), 3) := by decide +kernel
theorem d_Na_multiply_90 : decode y_Na_multiply.2.1 90 = .ok (.ifCond .eq 24, 3) := by decide +kernel
theorem d_Na_multiply_93 : decode y_Na_multiply.2.1 93 = .ok (.aload_n 0, 1) := by decide +kernel
theorem d_Na_multiply_94 : decode y_Na_multiply.2.1 94 = .ok (.getfield 9, 3) := by decide +kernel
theorem d_Na_multiply_97 : decode y_Na_multiply.2.1 97 = .ok (.aload_n 0, 1) := by decide +kernel
theorem d_Na_multiply_98 : decode y_Na_multiply.2.1 98 = .ok (.getfield 13, 3) := by decide +kernel
theorem d_Na_multiply_101 : decode y_Na_multiply.2.1 101 = .ok (.lload_n 2, 1) := by decide +kernel
theorem d_Na_multiply_102 : decode y_Na_multiply.2.1 102 = .ok (.l2i, 1) := by decide +kernel
theorem d_Na_multiply_103 : decode y_Na_multiply.2.1 103 = .ok (.iastore, 1) := by decide +kernel
theorem d_Na_multiply_104 : decode y_Na_multiply.2.1 104 = .ok (.aload_n 0, 1) := by decide +kernel
theorem d_Na_multiply_105 : decode y_Na_multiply.2.1 105 = .ok (.dup, 1) := by decide +kernel
theorem d_Na_multiply_106 : decode y_Na_multiply.2.1 106 = .ok (.getfield 13, 3) := by decide +kernel
theorem d_Na_multiply_109 : decode y_Na_multiply.2.1 109 = .ok (.iconst 1, 1) := by decide +kernel
theorem d_Na_multiply_110 : decode y_Na_multiply.2.1 110 = .ok (.iadd, 1) := by decide +kernel
theorem d_Na_multiply_111 : decode y_Na_multiply.2.1 111 = .ok (.putfield 13, 3) := by decide +kernel
theorem d_Na_multiply_114 : decode y_Na_multiply.2.1 114 = .ok (.return_, 1) := by decide +kernel
def h_Na_multiply_40 (G : mG) (d : Nat) (a0 : Nat) (l1 : Int) (j2 : Int) (l4 : Int) (M : mM) (Q : mM → Prop) : Prop := mWm G y_Na_multiply (d + 1) 40 [vr a0, vi l1, vl j2, vd, vi l4] [] M (fun r9 M9 => r9 = none ∧ Q M9)
theorem k_Na_multiply {G : mG} {d : Nat} {a0 : Nat} {l1 : Int} {M : mM} {Q : mM → Prop} (hO : mOk M) (hi_l1 : i32 l1)
    (h : ((l1 = 1) → (Q M)) ∧ (¬ (l1 = 1) → (mK M a0 = 10 ∧ mK M (mR M a0 0) = 30 ∧ i32 (mN M (mR M a0 0) : Int) ∧ ((mI M a0 1 = (mN M (mR M a0 0) : Int)) → (Cr G y_JA_copyOf d [vr (mR M a0 0), vi (2 * (mI M a0 1))] M (fun x16 M15 => mOk M15 ∧ (mK M15 a0 = 10 ∧ ∀ M19, M19 = mUR M15 a0 0 x16 → h_Na_multiply_40 G d a0 l1 0 0 M19 Q)))) ∧ (¬ (mI M a0 1 = (mN M (mR M a0 0) : Int)) → (h_Na_multiply_40 G d a0 l1 0 0 M Q))))) :
    Cv G y_Na_multiply (d + 1) [vr a0, vi l1] M Q := by
  refine wm_open (y := y_Na_multiply) rfl (Nat.le_of_ble_eq_true rfl) (L := [vr a0, vi l1, vd, vd, vd]) rfl ?_
  refine wm_iload_n d_Na_multiply_0 rfl rfl ?_
  refine wm_iconst d_Na_multiply_1 ?_
  refine wm_icmp_ne (tgt := 6) d_Na_multiply_2 rfl hi_l1 ⟨by decide, by decide⟩ (fun c6 => ?_) (fun c6 => ?_)
  · replace h := h.2 c6
    obtain ⟨h7, h⟩ := h
    obtain ⟨h8, h⟩ := h
    obtain ⟨h13, h⟩ := h
    refine wm_aload_n d_Na_multiply_6 rfl rfl ?_
    refine gf_Na_13 rfl d_Na_multiply_7 h7 ?_
    refine wm_aload_n d_Na_multiply_10 rfl rfl ?_
    refine gf_Na_9 rfl d_Na_multiply_11 h7 ?_
    refine wm_alen 0 rfl (fun _ => rfl) d_Na_multiply_14 h8 ?_
    refine wm_icmp_ne (tgt := 35) d_Na_multiply_15 rfl (hO _ _).1 h13 (fun c14 => ?_) (fun c14 => ?_)
    · replace h := h.2 c14
      refine wm_lconst (x := 0) d_Na_multiply_35 rfl ?_
      refine wm_lstore_n d_Na_multiply_36 rfl (by decide) (L' := [vr a0, vi l1, vl 0, vd, vd]) rfl ?_
      refine wm_iconst d_Na_multiply_37 ?_
      refine wm_istore d_Na_multiply_38 (by decide) (L' := [vr a0, vi l1, vl 0, vd, vi 0]) rfl ?_
      exact h
    · replace c14 := Classical.not_not.mp c14
      replace h := h.1 c14
      refine wm_aload_n d_Na_multiply_18 rfl rfl ?_
      refine wm_aload_n d_Na_multiply_19 rfl rfl ?_
      refine gf_Na_9 rfl d_Na_multiply_20 h7 ?_
      refine wm_iconst d_Na_multiply_23 ?_
      refine wm_aload_n d_Na_multiply_24 rfl rfl ?_
      refine gf_Na_13 rfl d_Na_multiply_25 h7 ?_
      refine wm_imul d_Na_multiply_28 ?_
      refine cf_Na_23 rfl d_Na_multiply_29 (Nat.le_of_ble_eq_true rfl) (Cr.mono h (fun x16 M15 h => ?_))
      obtain ⟨hOM15, h⟩ := h
      obtain ⟨h18, h⟩ := h
      obtain ⟨M19, e20⟩ : ∃ M19, M19 = mUR M15 a0 0 x16 := ⟨_, rfl⟩
      replace h := h M19 e20
      have hOM19 : mOk M19 := by rw [e20]; exact mOk_UR hOM15
      refine pf_Na_9 rfl d_Na_multiply_32 h18 e20 ?_
      refine wm_lconst (x := 0) d_Na_multiply_35 rfl ?_
      refine wm_lstore_n d_Na_multiply_36 rfl (by decide) (L' := [vr a0, vi l1, vl 0, vd, vd]) rfl ?_
      refine wm_iconst d_Na_multiply_37 ?_
      refine wm_istore d_Na_multiply_38 (by decide) (L' := [vr a0, vi l1, vl 0, vd, vi 0]) rfl ?_
      exact h
  · replace c6 := Classical.not_not.mp c6
    replace h := h.1 c6
    refine wm_return d_Na_multiply_5 rfl ?_
    exact ⟨rfl, h⟩
theorem k_Na_multiply_40 {G : mG} {d : Nat} {a0 : Nat} {l1 : Int} {j2 : Int} {l4 : Int} {M : mM} {Q : mM → Prop} (hO : mOk M) (hi_l1 : i32 l1) (hi_j2 : i64 j2) (hi_l4 : i32 l4)
    (h : mK M a0 = 10 ∧ ((mI M a0 1 ≤ l4) → (((cmpL j2 0 = 0) → (Q M)) ∧ (¬ (cmpL j2 0 = 0) → (mK M (mR M a0 0) = 30 ∧ ((0 : Int) ≤ mI M a0 1 ∧ mI M a0 1 < (mN M (mR M a0 0) : Int)) ∧ i32 j2 ∧ ∀ M39, M39 = mUI M (mR M a0 0) (Int.toNat (mI M a0 1)) j2 → i32 ((mI M39 a0 1) + 1) ∧ ∀ M42, M42 = mUI M39 a0 1 ((mI M39 a0 1) + 1) → Q M42)))) ∧ (¬ (mI M a0 1 ≤ l4) → (mK M (mR M a0 0) = 30 ∧ ((0 : Int) ≤ l4 ∧ l4 < (mN M (mR M a0 0) : Int)) ∧ ((0 : Int) ≤ l4 ∧ l4 < (mN M (mR M a0 0) : Int)) ∧ i32 (andL (j2 + (l1 * (mI M (mR M a0 0) (Int.toNat l4)))) 1073741823) ∧ ∀ M48, M48 = mUI M (mR M a0 0) (Int.toNat l4) (andL (j2 + (l1 * (mI M (mR M a0 0) (Int.toNat l4)))) 1073741823) → h_Na_multiply_40 G d a0 l1 (ushrL (j2 + (l1 * (mI M (mR M a0 0) (Int.toNat l4)))) 30) (l4 + 1) M48 Q))) :
    h_Na_multiply_40 G d a0 l1 j2 l4 M Q := by
  unfold h_Na_multiply_40
  obtain ⟨h21, h⟩ := h
  refine wm_iload d_Na_multiply_40 rfl ?_
  refine wm_aload_n d_Na_multiply_42 rfl rfl ?_
  refine gf_Na_13 rfl d_Na_multiply_43 h21 ?_
  refine wm_icmp_ge (tgt := 87) d_Na_multiply_46 rfl hi_l4 (hO _ _).1 (fun c28 => ?_) (fun c28 => ?_)
  · replace h := h.1 c28
    refine wm_lload_n d_Na_multiply_87 rfl rfl ?_
    refine wm_lconst (x := 0) d_Na_multiply_88 rfl ?_
    refine wm_lcmp d_Na_multiply_89 hi_j2 ⟨by decide, by decide⟩ ?_
    refine wm_if_eq (tgt := 114) d_Na_multiply_90 rfl (m_cmp32 _ _) (fun c35 => ?_) (fun c35 => ?_)
    · replace h := h.1 c35
      refine wm_return d_Na_multiply_114 rfl ?_
      exact ⟨rfl, h⟩
    · replace h := h.2 c35
      obtain ⟨h36, h⟩ := h
      obtain ⟨h37, h⟩ := h
      obtain ⟨h38, h⟩ := h
      obtain ⟨M39, e40⟩ : ∃ M39, M39 = mUI M (mR M a0 0) (Int.toNat (mI M a0 1)) j2 := ⟨_, rfl⟩
      replace h := h M39 e40
      obtain ⟨h41, h⟩ := h
      obtain ⟨M42, e43⟩ : ∃ M42, M42 = mUI M39 a0 1 ((mI M39 a0 1) + 1) := ⟨_, rfl⟩
      replace h := h M42 e43
      refine wm_aload_n d_Na_multiply_93 rfl rfl ?_
      refine gf_Na_9 rfl d_Na_multiply_94 h21 ?_
      refine wm_aload_n d_Na_multiply_97 rfl rfl ?_
      refine gf_Na_13 rfl d_Na_multiply_98 h21 ?_
      refine wm_lload_n d_Na_multiply_101 rfl rfl ?_
      refine wm_l2i d_Na_multiply_102 ?_
      have hOM39 : mOk M39 := by rw [e40]; exact mOk_UI hO h38
      refine wm_iastE d_Na_multiply_103 h36 h37 h38 e40 ?_
      refine wm_aload_n d_Na_multiply_104 rfl rfl ?_
      refine wm_dup d_Na_multiply_105 rfl ?_
      refine gf_Na_13 rfl d_Na_multiply_106 (by rw [e40]; exact h21) ?_
      refine wm_iconst d_Na_multiply_109 ?_
      refine wm_iadd d_Na_multiply_110 ?_
      have hOM42 : mOk M42 := by rw [e43]; exact mOk_UI hOM39 h41
      refine pf_Na_13 rfl d_Na_multiply_111 (by rw [e40]; exact h21) h41 e43 ?_
      refine wm_return d_Na_multiply_114 rfl ?_
      exact ⟨rfl, h⟩
  · replace h := h.2 c28
    obtain ⟨h44, h⟩ := h
    obtain ⟨h45, h⟩ := h
    obtain ⟨h46, h⟩ := h
    obtain ⟨h47, h⟩ := h
    obtain ⟨M48, e49⟩ : ∃ M48, M48 = mUI M (mR M a0 0) (Int.toNat l4) (andL (j2 + (l1 * (mI M (mR M a0 0) (Int.toNat l4)))) 1073741823) := ⟨_, rfl⟩
    replace h := h M48 e49
    refine wm_lload_n d_Na_multiply_49 rfl rfl ?_
    refine wm_iload_n d_Na_multiply_50 rfl rfl ?_
    refine wm_i2l d_Na_multiply_51 hi_l1 ?_
    refine wm_aload_n d_Na_multiply_52 rfl rfl ?_
    refine gf_Na_9 rfl d_Na_multiply_53 h21 ?_
    refine wm_iload d_Na_multiply_56 rfl ?_
    refine wm_iald d_Na_multiply_58 h44 h45 ?_
    refine wm_i2l d_Na_multiply_59 (hO _ _).1 ?_
    refine wm_lmul d_Na_multiply_60 ?_
    refine wm_ladd d_Na_multiply_61 ?_
    refine wm_lstore_n d_Na_multiply_62 rfl (by decide) (L' := [vr a0, vi l1, vl (j2 + (l1 * (mI M (mR M a0 0) (Int.toNat l4)))), vd, vi l4]) rfl ?_
    refine wm_aload_n d_Na_multiply_63 rfl rfl ?_
    refine gf_Na_9 rfl d_Na_multiply_64 h21 ?_
    refine wm_iload d_Na_multiply_67 rfl ?_
    refine wm_lload_n d_Na_multiply_69 rfl rfl ?_
    refine wm_ldc2 (x := 1073741823) d_Na_multiply_70 k5_202 (by decide) ?_
    refine wm_land d_Na_multiply_73 ?_
    refine wm_l2i d_Na_multiply_74 ?_
    have hOM48 : mOk M48 := by rw [e49]; exact mOk_UI hO h47
    refine wm_iastE d_Na_multiply_75 h44 h46 h47 e49 ?_
    refine wm_lload_n d_Na_multiply_76 rfl rfl ?_
    refine wm_bipush d_Na_multiply_77 (by decide) ?_
    refine wm_lushr d_Na_multiply_79 ?_
    refine wm_lstore_n d_Na_multiply_80 rfl (by decide) (L' := [vr a0, vi l1, vl (ushrL (j2 + (l1 * (mI M (mR M a0 0) (Int.toNat l4)))) 30), vd, vi l4]) rfl ?_
    refine wm_iinc d_Na_multiply_81 (by decide) rfl (L' := [vr a0, vi l1, vl (ushrL (j2 + (l1 * (mI M (mR M a0 0) (Int.toNat l4)))) 30), vd, vi (l4 + 1)]) rfl ?_
    refine wm_goto (tgt := 40) d_Na_multiply_84 rfl ?_
    exact h
theorem d_Na_putProduct_0 : decode y_Na_putProduct.2.1 0 = .ok (.aload_n 0, 1) := by decide +kernel
theorem d_Na_putProduct_1 : decode y_Na_putProduct.2.1 1 = .ok (.aload_n 1, 1) := by decide +kernel
theorem d_Na_putProduct_2 : decode y_Na_putProduct.2.1 2 = .ok (.getfield 13, 3) := by decide +kernel
theorem d_Na_putProduct_5 : decode y_Na_putProduct.2.1 5 = .ok (.aload_n 2, 1) := by decide +kernel
theorem d_Na_putProduct_6 : decode y_Na_putProduct.2.1 6 = .ok (.getfield 13, 3) := by decide +kernel
theorem d_Na_putProduct_9 : decode y_Na_putProduct.2.1 9 = .ok (.iadd, 1) := by decide +kernel
theorem d_Na_putProduct_10 : decode y_Na_putProduct.2.1 10 = .ok (.invokevirtual 47, 3) := by decide +kernel
theorem d_Na_putProduct_13 : decode y_Na_putProduct.2.1 13 = .ok (.aload_n 0, 1) := by decide +kernel
theorem d_Na_putProduct_14 : decode y_Na_putProduct.2.1 14 = .ok (.getfield 9, 3) := by decide +kernel
theorem d_Na_putProduct_17 : decode y_Na_putProduct.2.1 17 = .ok (.iconst 0, 1) := by decide +kernel
theorem d_Na_putProduct_18 : decode y_Na_putProduct.2.1 18 = .ok (.aload_n 1, 1) := by decide +kernel
theorem d_Na_putProduct_19 : decode y_Na_putProduct.2.1 19 = .ok (.getfield 13, 3) := by decide +kernel
theorem d_Na_putProduct_22 : decode y_Na_putProduct.2.1 22 = .ok (.aload_n 2, 1) := by decide +kernel
theorem d_Na_putProduct_23 : decode y_Na_putProduct.2.1 23 = .ok (.getfield 13, 3) := by decide +kernel
theorem d_Na_putProduct_26 : decode y_Na_putProduct.2.1 26 = .ok (.iadd, 1) := by decide +kernel
theorem d_Na_putProduct_27 : decode y_Na_putProduct.2.1 27 = .ok (.iconst 0, 1) := by decide +kernel
theorem d_Na_putProduct_28 : decode y_Na_putProduct.2.1 28 = .ok (.invokestatic 50, 3) := by decide +kernel
theorem d_Na_putProduct_31 : decode y_Na_putProduct.2.1 31 = .ok (.iconst 0, 1) := by decide +kernel
theorem d_Na_putProduct_32 : decode y_Na_putProduct.2.1 32 = .ok (.istore_n 3, 1) := by decide +kernel
theorem d_Na_putProduct_33 : decode y_Na_putProduct.2.1 33 = .ok (.iload_n 3, 1) := by decide +kernel
theorem d_Na_putProduct_34 : decode y_Na_putProduct.2.1 34 = .ok (.aload_n 1, 1) := by decide +kernel
theorem d_Na_putProduct_35 : decode y_Na_putProduct.2.1 35 = .ok (.getfield 13, 3) := by decide +kernel
theorem d_Na_putProduct_38 : decode y_Na_putProduct.2.1 38 = .ok (.if_icmp .ge 103, 3) := by decide +kernel
theorem d_Na_putProduct_141 : decode y_Na_putProduct.2.1 141 = .ok (.aload_n 0, 1) := by decide +kernel
theorem d_Na_putProduct_142 : decode y_Na_putProduct.2.1 142 = .ok (.aload_n 1, 1) := by decide +kernel
theorem d_Na_putProduct_143 : decode y_Na_putProduct.2.1 143 = .ok (.getfield 13, 3) := by decide +kernel
theorem d_Na_putProduct_146 : decode y_Na_putProduct.2.1 146 = .ok (.aload_n 2, 1) := by decide +kernel
theorem d_Na_putProduct_147 : decode y_Na_putProduct.2.1 147 = .ok (.getfield 13, 3) := by decide +kernel
theorem d_Na_putProduct_150 : decode y_Na_putProduct.2.1 150 = .ok (.iadd, 1) := by decide +kernel
theorem d_Na_putProduct_41 : decode y_Na_putProduct.2.1 41 = .ok (.aload_n 1, 1) := by decide +kernel
theorem d_Na_putProduct_42 : decode y_Na_putProduct.2.1 42 = .ok (.getfield 9, 3) := by decide +kernel
theorem d_Na_putProduct_45 : decode y_Na_putProduct.2.1 45 = .ok (.iload_n 3, 1) := by decide +kernel
theorem d_Na_putProduct_46 : decode y_Na_putProduct.2.1 46 = .ok (.iaload, 1) := by decide +kernel
theorem d_Na_putProduct_47 : decode y_Na_putProduct.2.1 47 = .ok (.i2l, 1) := by decide +kernel
theorem d_Na_putProduct_48 : decode y_Na_putProduct.2.1 48 = .ok (.lstore 4, 2) := by decide +kernel
theorem d_Na_putProduct_50 : decode y_Na_putProduct.2.1 50 = .ok (.lconst 0, 1) := by decide +kernel
theorem d_Na_putProduct_51 : decode y_Na_putProduct.2.1 51 = .ok (.lstore 6, 2) := by decide +kernel
theorem d_Na_putProduct_53 : decode y_Na_putProduct.2.1 53 = .ok (.iconst 0, 1) := by decide +kernel
theorem d_Na_putProduct_54 : decode y_Na_putProduct.2.1 54 = .ok (.istore 8, 2) := by decide +kernel
theorem d_Na_putProduct_151 : decode y_Na_putProduct.2.1 151 = .ok (.invokevirtual 31, 3) := by decide +kernel
theorem d_Na_putProduct_154 : decode y_Na_putProduct.2.1 154 = .ok (.return_, 1) := by decide +kernel
theorem d_Na_putProduct_56 : decode y_Na_putProduct.2.1 56 = .ok (.iload 8, 2) := by decide +kernel
theorem d_Na_putProduct_58 : decode y_Na_putProduct.2.1 58 = .ok (.aload_n 2, 1) := by decide +kernel
theorem d_Na_putProduct_59 : decode y_Na_putProduct.2.1 59 = .ok (.getfield 13, 3) := by decide +kernel
theorem d_Na_putProduct_62 : decode y_Na_putProduct.2.1 62 = .ok (.if_icmp .ge 59, 3) := by decide +kernel
theorem d_Na_putProduct_121 : decode y_Na_putProduct.2.1 121 = .ok (.aload_n 0, 1) := by decide +kernel
theorem d_Na_putProduct_122 : decode y_Na_putProduct.2.1 122 = .ok (.getfield 9, 3) := by decide +kernel
theorem d_Na_putProduct_125 : decode y_Na_putProduct.2.1 125 = .ok (.iload_n 3, 1) := by decide +kernel
theorem d_Na_putProduct_126 : decode y_Na_putProduct.2.1 126 = .ok (.aload_n 2, 1) := by decide +kernel
theorem d_Na_putProduct_127 : decode y_Na_putProduct.2.1 127 = .ok (.getfield 13, 3) := by decide +kernel
theorem d_Na_putProduct_130 : decode y_Na_putProduct.2.1 130 = .ok (.iadd, 1) := by decide +kernel
theorem d_Na_putProduct_131 : decode y_Na_putProduct.2.1 131 = .ok (.lload 6, 2) := by decide +kernel
theorem d_Na_putProduct_133 : decode y_Na_putProduct.2.1 133 = .ok (.l2i, 1) := by decide +kernel
theorem d_Na_putProduct_134 : decode y_Na_putProduct.2.1 134 = .ok (.iastore, 1) := by decide +kernel
theorem d_Na_putProduct_135 : decode y_Na_putProduct.2.1 135 = .ok (.iinc 3 1, 3) := by decide +kernel
theorem d_Na_putProduct_138 : decode y_Na_putProduct.2.1 138 = .ok (.goto (-105), 3) := by decide +kernel
theorem d_Na_putProduct_65 : decode y_Na_putProduct.2.1 65 = .ok (.lload 6, 2) := by decide +kernel
theorem d_Na_putProduct_67 : decode y_Na_putProduct.2.1 67 = .ok (.aload_n 0, 1) := by decide +kernel
theorem d_Na_putProduct_68 : decode y_Na_putProduct.2.1 68 = .ok (.getfield 9, 3) := by decide +kernel
theorem d_Na_putProduct_71 : decode y_Na_putProduct.2.1 71 = .ok (.iload_n 3, 1) := by decide +kernel
theorem d_Na_putProduct_72 : decode y_Na_putProduct.2.1 72 = .ok (.iload 8, 2) := by decide +kernel
theorem d_Na_putProduct_74 : decode y_Na_putProduct.2.1 74 = .ok (.iadd, 1) := by decide +kernel
theorem d_Na_putProduct_75 : decode y_Na_putProduct.2.1 75 = .ok (.iaload, 1) := by decide +kernel
theorem d_Na_putProduct_76 : decode y_Na_putProduct.2.1 76 = .ok (.i2l, 1) := by decide +kernel
theorem d_Na_putProduct_77 : decode y_Na_putProduct.2.1 77 = .ok (.lload 4, 2) := by decide +kernel
theorem d_Na_putProduct_79 : decode y_Na_putProduct.2.1 79 = .ok (.aload_n 2, 1) := by decide +kernel
theorem d_Na_putProduct_80 : decode y_Na_putProduct.2.1 80 = .ok (.getfield 9, 3) := by decide +kernel
theorem d_Na_putProduct_83 : decode y_Na_putProduct.2.1 83 = .ok (.iload 8, 2) := by decide +kernel
theorem d_Na_putProduct_85 : decode y_Na_putProduct.2.1 85 = .ok (.iaload, 1) := by decide +kernel
theorem d_Na_putProduct_86 : decode y_Na_putProduct.2.1 86 = .ok (.i2l, 1) := by decide +kernel
theorem d_Na_putProduct_87 : decode y_Na_putProduct.2.1 87 = .ok (.lmul, 1) := by decide +kernel
theorem d_Na_putProduct_88 : decode y_Na_putProduct.2.1 88 = .ok (.ladd, 1) := by decide +kernel
theorem d_Na_putProduct_89 : decode y_Na_putProduct.2.1 89 = .ok (.ladd, 1) := by decide +kernel
theorem d_Na_putProduct_90 : decode y_Na_putProduct.2.1 90 = .ok (.lstore 6, 2) := by decide +kernel
theorem d_Na_putProduct_92 : decode y_Na_putProduct.2.1 92 = .ok (.aload_n 0, 1) := by decide +kernel
theorem d_Na_putProduct_93 : decode y_Na_putProduct.2.1 93 = .ok (.getfield 9, 3) := by decide +kernel
theorem d_Na_putProduct_96 : decode y_Na_putProduct.2.1 96 = .ok (.iload_n 3, 1) := by decide +kernel
theorem d_Na_putProduct_97 : decode y_Na_putProduct.2.1 97 = .ok (.iload 8, 2) := by decide +kernel
theorem d_Na_putProduct_99 : decode y_Na_putProduct.2.1 99 = .ok (.iadd, 1) := by decide +kernel
theorem d_Na_putProduct_100 : decode y_Na_putProduct.2.1 100 = .ok (.lload 6, 2) := by decide +kernel
theorem d_Na_putProduct_102 : decode y_Na_putProduct.2.1 102 = .ok (.ldc2_w 29, 3) := by decide +kernel
theorem d_Na_putProduct_105 : decode y_Na_putProduct.2.1 105 = .ok (.land, 1) := by decide +kernel
theorem d_Na_putProduct_106 : decode y_Na_putProduct.2.1 106 = .ok (.l2i, 1) := by decide +kernel
theorem d_Na_putProduct_107 : decode y_Na_putProduct.2.1 107 = .ok (.iastore, 1) := by decide +kernel
theorem d_Na_putProduct_108 : decode y_Na_putProduct.2.1 108 = .ok (.lload 6, 2) := by decide +kernel
theorem d_Na_putProduct_110 : decode y_Na_putProduct.2.1 110 = .ok (.bipush 30, 2) := by decide +kernel
theorem d_Na_putProduct_112 : decode y_Na_putProduct.2.1 112 = .ok (.lushr, 1) := by decide +kernel
theorem d_Na_putProduct_113 : decode y_Na_putProduct.2.1 113 = .ok (.lstore 6, 2) := by decide +kernel
theorem d_Na_putProduct_115 : decode y_Na_putProduct.2.1 115 = .ok (.iinc 8 1, 3) := by decide +kernel
theorem d_Na_putProduct_118 : decode y_Na_putProduct.2.1 118 = .ok (.goto (-62), 3) := by decide +kernel
def h_Na_putProduct_33 (G : mG) (d : Nat) (a0 : Nat) (a1 : Nat) (a2 : Nat) (l3 : Int) (M : mM) (Q : mM → Prop) : Prop := mWm G y_Na_putProduct (d + 1) 33 [vr a0, vr a1, vr a2, vi l3, vd, vd, vd, vd, vd] [] M (fun r9 M9 => r9 = none ∧ Q M9)
def h_Na_putProduct_56 (G : mG) (d : Nat) (a0 : Nat) (a1 : Nat) (a2 : Nat) (l3 : Int) (j4 : Int) (j6 : Int) (l8 : Int) (M : mM) (Q : mM → Prop) : Prop := mWm G y_Na_putProduct (d + 1) 56 [vr a0, vr a1, vr a2, vi l3, vl j4, vd, vl j6, vd, vi l8] [] M (fun r9 M9 => r9 = none ∧ Q M9)
theorem k_Na_putProduct {G : mG} {d : Nat} {a0 : Nat} {a1 : Nat} {a2 : Nat} {M : mM} {Q : mM → Prop} (hO : mOk M)
    (h : mK M a1 = 10 ∧ mK M a2 = 10 ∧ mK M a0 = 10 ∧ Cv G y_Na_reserve d [vr a0, vi ((mI M a1 1) + (mI M a2 1))] M (fun M4 => mOk M4 ∧ (mK M4 a0 = 10 ∧ mK M4 a1 = 10 ∧ mK M4 a2 = 10 ∧ Cv G y_JA_fillR d [vr (mR M4 a0 0), vi 0, vi ((mI M4 a1 1) + (mI M4 a2 1)), vi 0] M4 (fun M10 => mOk M10 ∧ (h_Na_putProduct_33 G d a0 a1 a2 0 M10 Q))))) :
    Cv G y_Na_putProduct (d + 1) [vr a0, vr a1, vr a2] M Q := by
  refine wm_open (y := y_Na_putProduct) rfl (Nat.le_of_ble_eq_true rfl) (L := [vr a0, vr a1, vr a2, vd, vd, vd, vd, vd, vd]) rfl ?_
  obtain ⟨h1, h⟩ := h
  obtain ⟨h2, h⟩ := h
  obtain ⟨h3, h⟩ := h
  refine wm_aload_n d_Na_putProduct_0 rfl rfl ?_
  refine wm_aload_n d_Na_putProduct_1 rfl rfl ?_
  refine gf_Na_13 rfl d_Na_putProduct_2 h1 ?_
  refine wm_aload_n d_Na_putProduct_5 rfl rfl ?_
  refine gf_Na_13 rfl d_Na_putProduct_6 h2 ?_
  refine wm_iadd d_Na_putProduct_9 ?_
  refine cf_Na_47 rfl d_Na_putProduct_10 h3 (Nat.le_of_ble_eq_true rfl) (Cv.mono h (fun M4 h => ?_))
  obtain ⟨hOM4, h⟩ := h
  obtain ⟨h7, h⟩ := h
  obtain ⟨h8, h⟩ := h
  obtain ⟨h9, h⟩ := h
  refine wm_aload_n d_Na_putProduct_13 rfl rfl ?_
  refine gf_Na_9 rfl d_Na_putProduct_14 h7 ?_
  refine wm_iconst d_Na_putProduct_17 ?_
  refine wm_aload_n d_Na_putProduct_18 rfl rfl ?_
  refine gf_Na_13 rfl d_Na_putProduct_19 h8 ?_
  refine wm_aload_n d_Na_putProduct_22 rfl rfl ?_
  refine gf_Na_13 rfl d_Na_putProduct_23 h9 ?_
  refine wm_iadd d_Na_putProduct_26 ?_
  refine wm_iconst d_Na_putProduct_27 ?_
  refine cf_Na_50 rfl d_Na_putProduct_28 (Nat.le_of_ble_eq_true rfl) (Cv.mono h (fun M10 h => ?_))
  obtain ⟨hOM10, h⟩ := h
  refine wm_iconst d_Na_putProduct_31 ?_
  refine wm_istore_n d_Na_putProduct_32 rfl (by decide) (L' := [vr a0, vr a1, vr a2, vi 0, vd, vd, vd, vd, vd]) rfl ?_
  exact h
theorem k_Na_putProduct_33 {G : mG} {d : Nat} {a0 : Nat} {a1 : Nat} {a2 : Nat} {l3 : Int} {M : mM} {Q : mM → Prop} (hO : mOk M) (hi_l3 : i32 l3)
    (h : mK M a1 = 10 ∧ ((mI M a1 1 ≤ l3) → (mK M a2 = 10 ∧ mK M a0 = 10 ∧ Cv G y_Na_trim d [vr a0, vi ((mI M a1 1) + (mI M a2 1))] M (fun M20 => mOk M20 ∧ (Q M20)))) ∧ (¬ (mI M a1 1 ≤ l3) → (mK M (mR M a1 0) = 30 ∧ ((0 : Int) ≤ l3 ∧ l3 < (mN M (mR M a1 0) : Int)) ∧ h_Na_putProduct_56 G d a0 a1 a2 l3 (mI M (mR M a1 0) (Int.toNat l3)) 0 0 M Q))) :
    h_Na_putProduct_33 G d a0 a1 a2 l3 M Q := by
  unfold h_Na_putProduct_33
  obtain ⟨h13, h⟩ := h
  refine wm_iload_n d_Na_putProduct_33 rfl rfl ?_
  refine wm_aload_n d_Na_putProduct_34 rfl rfl ?_
  refine gf_Na_13 rfl d_Na_putProduct_35 h13 ?_
  refine wm_icmp_ge (tgt := 141) d_Na_putProduct_38 rfl hi_l3 (hO _ _).1 (fun c17 => ?_) (fun c17 => ?_)
  · replace h := h.1 c17
    obtain ⟨h18, h⟩ := h
    obtain ⟨h19, h⟩ := h
    refine wm_aload_n d_Na_putProduct_141 rfl rfl ?_
    refine wm_aload_n d_Na_putProduct_142 rfl rfl ?_
    refine gf_Na_13 rfl d_Na_putProduct_143 h13 ?_
    refine wm_aload_n d_Na_putProduct_146 rfl rfl ?_
    refine gf_Na_13 rfl d_Na_putProduct_147 h18 ?_
    refine wm_iadd d_Na_putProduct_150 ?_
    refine cf_Na_31 rfl d_Na_putProduct_151 h19 (Nat.le_of_ble_eq_true rfl) (Cv.mono h (fun M20 h => ?_))
    obtain ⟨hOM20, h⟩ := h
    refine wm_return d_Na_putProduct_154 rfl ?_
    exact ⟨rfl, h⟩
  · replace h := h.2 c17
    obtain ⟨h23, h⟩ := h
    obtain ⟨h24, h⟩ := h
    refine wm_aload_n d_Na_putProduct_41 rfl rfl ?_
    refine gf_Na_9 rfl d_Na_putProduct_42 h13 ?_
    refine wm_iload_n d_Na_putProduct_45 rfl rfl ?_
    refine wm_iald d_Na_putProduct_46 h23 h24 ?_
    refine wm_i2l d_Na_putProduct_47 (hO _ _).1 ?_
    refine wm_lstore d_Na_putProduct_48 (by decide) (L' := [vr a0, vr a1, vr a2, vi l3, vl (mI M (mR M a1 0) (Int.toNat l3)), vd, vd, vd, vd]) rfl ?_
    refine wm_lconst (x := 0) d_Na_putProduct_50 rfl ?_
    refine wm_lstore d_Na_putProduct_51 (by decide) (L' := [vr a0, vr a1, vr a2, vi l3, vl (mI M (mR M a1 0) (Int.toNat l3)), vd, vl 0, vd, vd]) rfl ?_
    refine wm_iconst d_Na_putProduct_53 ?_
    refine wm_istore d_Na_putProduct_54 (by decide) (L' := [vr a0, vr a1, vr a2, vi l3, vl (mI M (mR M a1 0) (Int.toNat l3)), vd, vl 0, vd, vi 0]) rfl ?_
    exact h
theorem k_Na_putProduct_56 {G : mG} {d : Nat} {a0 : Nat} {a1 : Nat} {a2 : Nat} {l3 : Int} {j4 : Int} {j6 : Int} {l8 : Int} {M : mM} {Q : mM → Prop} (hO : mOk M) (hi_l3 : i32 l3) (hi_j4 : i64 j4) (hi_j6 : i64 j6) (hi_l8 : i32 l8)
    (h : mK M a2 = 10 ∧ ((mI M a2 1 ≤ l8) → (mK M a0 = 10 ∧ mK M (mR M a0 0) = 30 ∧ ((0 : Int) ≤ l3 + (mI M a2 1) ∧ l3 + (mI M a2 1) < (mN M (mR M a0 0) : Int)) ∧ i32 j6 ∧ ∀ M43, M43 = mUI M (mR M a0 0) (Int.toNat (l3 + (mI M a2 1))) j6 → h_Na_putProduct_33 G d a0 a1 a2 (l3 + 1) M43 Q)) ∧ (¬ (mI M a2 1 ≤ l8) → (mK M a0 = 10 ∧ mK M (mR M a0 0) = 30 ∧ ((0 : Int) ≤ l3 + l8 ∧ l3 + l8 < (mN M (mR M a0 0) : Int)) ∧ mK M (mR M a2 0) = 30 ∧ ((0 : Int) ≤ l8 ∧ l8 < (mN M (mR M a2 0) : Int)) ∧ ((0 : Int) ≤ l3 + l8 ∧ l3 + l8 < (mN M (mR M a0 0) : Int)) ∧ i32 (andL (j6 + ((mI M (mR M a0 0) (Int.toNat (l3 + l8))) + (j4 * (mI M (mR M a2 0) (Int.toNat l8))))) 1073741823) ∧ ∀ M52, M52 = mUI M (mR M a0 0) (Int.toNat (l3 + l8)) (andL (j6 + ((mI M (mR M a0 0) (Int.toNat (l3 + l8))) + (j4 * (mI M (mR M a2 0) (Int.toNat l8))))) 1073741823) → h_Na_putProduct_56 G d a0 a1 a2 l3 j4 (ushrL (j6 + ((mI M (mR M a0 0) (Int.toNat (l3 + l8))) + (j4 * (mI M (mR M a2 0) (Int.toNat l8))))) 30) (l8 + 1) M52 Q))) :
    h_Na_putProduct_56 G d a0 a1 a2 l3 j4 j6 l8 M Q := by
  unfold h_Na_putProduct_56
  obtain ⟨h25, h⟩ := h
  refine wm_iload d_Na_putProduct_56 rfl ?_
  refine wm_aload_n d_Na_putProduct_58 rfl rfl ?_
  refine gf_Na_13 rfl d_Na_putProduct_59 h25 ?_
  refine wm_icmp_ge (tgt := 121) d_Na_putProduct_62 rfl hi_l8 (hO _ _).1 (fun c38 => ?_) (fun c38 => ?_)
  · replace h := h.1 c38
    obtain ⟨h39, h⟩ := h
    obtain ⟨h40, h⟩ := h
    obtain ⟨h41, h⟩ := h
    obtain ⟨h42, h⟩ := h
    obtain ⟨M43, e44⟩ : ∃ M43, M43 = mUI M (mR M a0 0) (Int.toNat (l3 + (mI M a2 1))) j6 := ⟨_, rfl⟩
    replace h := h M43 e44
    refine wm_aload_n d_Na_putProduct_121 rfl rfl ?_
    refine gf_Na_9 rfl d_Na_putProduct_122 h39 ?_
    refine wm_iload_n d_Na_putProduct_125 rfl rfl ?_
    refine wm_aload_n d_Na_putProduct_126 rfl rfl ?_
    refine gf_Na_13 rfl d_Na_putProduct_127 h25 ?_
    refine wm_iadd d_Na_putProduct_130 ?_
    refine wm_lload d_Na_putProduct_131 rfl ?_
    refine wm_l2i d_Na_putProduct_133 ?_
    have hOM43 : mOk M43 := by rw [e44]; exact mOk_UI hO h42
    refine wm_iastE d_Na_putProduct_134 h40 h41 h42 e44 ?_
    refine wm_iinc d_Na_putProduct_135 (by decide) rfl (L' := [vr a0, vr a1, vr a2, vi (l3 + 1), vl j4, vd, vl j6, vd, vi l8]) rfl ?_
    refine wm_goto (tgt := 33) d_Na_putProduct_138 rfl ?_
    refine wm_less (L' := [vr a0, vr a1, vr a2, vi (l3 + 1), vd, vd, vd, vd, vd]) ⟨Or.inr rfl, Or.inr rfl, Or.inr rfl, Or.inr rfl, Or.inl rfl, Or.inl rfl, Or.inl rfl, Or.inl rfl, Or.inl rfl, trivial⟩ ?_
    exact h
  · replace h := h.2 c38
    obtain ⟨h45, h⟩ := h
    obtain ⟨h46, h⟩ := h
    obtain ⟨h47, h⟩ := h
    obtain ⟨h48, h⟩ := h
    obtain ⟨h49, h⟩ := h
    obtain ⟨h50, h⟩ := h
    obtain ⟨h51, h⟩ := h
    obtain ⟨M52, e53⟩ : ∃ M52, M52 = mUI M (mR M a0 0) (Int.toNat (l3 + l8)) (andL (j6 + ((mI M (mR M a0 0) (Int.toNat (l3 + l8))) + (j4 * (mI M (mR M a2 0) (Int.toNat l8))))) 1073741823) := ⟨_, rfl⟩
    replace h := h M52 e53
    refine wm_lload d_Na_putProduct_65 rfl ?_
    refine wm_aload_n d_Na_putProduct_67 rfl rfl ?_
    refine gf_Na_9 rfl d_Na_putProduct_68 h45 ?_
    refine wm_iload_n d_Na_putProduct_71 rfl rfl ?_
    refine wm_iload d_Na_putProduct_72 rfl ?_
    refine wm_iadd d_Na_putProduct_74 ?_
    refine wm_iald d_Na_putProduct_75 h46 h47 ?_
    refine wm_i2l d_Na_putProduct_76 (hO _ _).1 ?_
    refine wm_lload d_Na_putProduct_77 rfl ?_
    refine wm_aload_n d_Na_putProduct_79 rfl rfl ?_
    refine gf_Na_9 rfl d_Na_putProduct_80 h25 ?_
    refine wm_iload d_Na_putProduct_83 rfl ?_
    refine wm_iald d_Na_putProduct_85 h48 h49 ?_
    refine wm_i2l d_Na_putProduct_86 (hO _ _).1 ?_
    refine wm_lmul d_Na_putProduct_87 ?_
    refine wm_ladd d_Na_putProduct_88 ?_
    refine wm_ladd d_Na_putProduct_89 ?_
    refine wm_lstore d_Na_putProduct_90 (by decide) (L' := [vr a0, vr a1, vr a2, vi l3, vl j4, vd, vl (j6 + ((mI M (mR M a0 0) (Int.toNat (l3 + l8))) + (j4 * (mI M (mR M a2 0) (Int.toNat l8))))), vd, vi l8]) rfl ?_
    refine wm_aload_n d_Na_putProduct_92 rfl rfl ?_
    refine gf_Na_9 rfl d_Na_putProduct_93 h45 ?_
    refine wm_iload_n d_Na_putProduct_96 rfl rfl ?_
    refine wm_iload d_Na_putProduct_97 rfl ?_
    refine wm_iadd d_Na_putProduct_99 ?_
    refine wm_lload d_Na_putProduct_100 rfl ?_
    refine wm_ldc2 (x := 1073741823) d_Na_putProduct_102 k5_202 (by decide) ?_
    refine wm_land d_Na_putProduct_105 ?_
    refine wm_l2i d_Na_putProduct_106 ?_
    have hOM52 : mOk M52 := by rw [e53]; exact mOk_UI hO h51
    refine wm_iastE d_Na_putProduct_107 h46 h50 h51 e53 ?_
    refine wm_lload d_Na_putProduct_108 rfl ?_
    refine wm_bipush d_Na_putProduct_110 (by decide) ?_
    refine wm_lushr d_Na_putProduct_112 ?_
    refine wm_lstore d_Na_putProduct_113 (by decide) (L' := [vr a0, vr a1, vr a2, vi l3, vl j4, vd, vl (ushrL (j6 + ((mI M (mR M a0 0) (Int.toNat (l3 + l8))) + (j4 * (mI M (mR M a2 0) (Int.toNat l8))))) 30), vd, vi l8]) rfl ?_
    refine wm_iinc d_Na_putProduct_115 (by decide) rfl (L' := [vr a0, vr a1, vr a2, vi l3, vl j4, vd, vl (ushrL (j6 + ((mI M (mR M a0 0) (Int.toNat (l3 + l8))) + (j4 * (mI M (mR M a2 0) (Int.toNat l8))))) 30), vd, vi (l8 + 1)]) rfl ?_
    refine wm_goto (tgt := 56) d_Na_putProduct_118 rfl ?_
    exact h
theorem d_Na_divideSmall_0 : decode y_Na_divideSmall.2.1 0 = .ok (.lconst 0, 1) := by decide +kernel
theorem d_Na_divideSmall_1 : decode y_Na_divideSmall.2.1 1 = .ok (.lstore_n 2, 1) := by decide +kernel
theorem d_Na_divideSmall_2 : decode y_Na_divideSmall.2.1 2 = .ok (.aload_n 0, 1) := by decide +kernel
theorem d_Na_divideSmall_3 : decode y_Na_divideSmall.2.1 3 = .ok (.getfield 13, 3) := by decide +kernel
theorem d_Na_divideSmall_6 : decode y_Na_divideSmall.2.1 6 = .ok (.iconst 1, 1) := by decide +kernel
theorem d_Na_divideSmall_7 : decode y_Na_divideSmall.2.1 7 = .ok (.isub, 1) := by decide +kernel
theorem d_Na_divideSmall_8 : decode y_Na_divideSmall.2.1 8 = .ok (.istore 4, 2) := by decide +kernel
theorem d_Na_divideSmall_10 : decode y_Na_divideSmall.2.1 10 = .ok (.iload 4, 2) := by decide +kernel
theorem d_Na_divideSmall_12 : decode y_Na_divideSmall.2.1 12 = .ok (.ifCond .lt 44, 3) := by decide +kernel
theorem d_Na_divideSmall_15 : decode y_Na_divideSmall.2.1 15 = .ok (.iload_n 1, 1) := by decide +kernel
theorem d_Na_divideSmall_16 : decode y_Na_divideSmall.2.1 16 = .ok (.ifCond .le 40, 3) := by decide +kernel
theorem d_Na_divideSmall_19 : decode y_Na_divideSmall.2.1 19 = .ok (.lload_n 2, 1) := by decide +kernel
theorem d_Na_divideSmall_20 : decode y_Na_divideSmall.2.1 20 = .ok (.bipush 30, 2) := by decide +kernel
theorem d_Na_divideSmall_22 : decode y_Na_divideSmall.2.1 22 = .ok (.lshl, 1) := by decide +kernel
theorem d_Na_divideSmall_23 : decode y_Na_divideSmall.2.1 23 = .ok (.aload_n 0, 1) := by decide +kernel
theorem d_Na_divideSmall_24 : decode y_Na_divideSmall.2.1 24 = .ok (.getfield 9, 3) := by decide +kernel
theorem d_Na_divideSmall_27 : decode y_Na_divideSmall.2.1 27 = .ok (.iload 4, 2) := by decide +kernel
theorem d_Na_divideSmall_29 : decode y_Na_divideSmall.2.1 29 = .ok (.iaload, 1) := by decide +kernel
theorem d_Na_divideSmall_30 : decode y_Na_divideSmall.2.1 30 = .ok (.i2l, 1) := by decide +kernel
theorem d_Na_divideSmall_31 : decode y_Na_divideSmall.2.1 31 = .ok (.ladd, 1) := by decide +kernel
theorem d_Na_divideSmall_32 : decode y_Na_divideSmall.2.1 32 = .ok (.lstore_n 2, 1) := by decide +kernel
theorem d_Na_divideSmall_33 : decode y_Na_divideSmall.2.1 33 = .ok (.aload_n 0, 1) := by decide +kernel
theorem d_Na_divideSmall_34 : decode y_Na_divideSmall.2.1 34 = .ok (.getfield 9, 3) := by decide +kernel
theorem d_Na_divideSmall_37 : decode y_Na_divideSmall.2.1 37 = .ok (.iload 4, 2) := by decide +kernel
theorem d_Na_divideSmall_39 : decode y_Na_divideSmall.2.1 39 = .ok (.lload_n 2, 1) := by decide +kernel
theorem d_Na_divideSmall_40 : decode y_Na_divideSmall.2.1 40 = .ok (.iload_n 1, 1) := by decide +kernel
theorem d_Na_divideSmall_41 : decode y_Na_divideSmall.2.1 41 = .ok (.i2l, 1) := by decide +kernel
theorem d_Na_divideSmall_42 : decode y_Na_divideSmall.2.1 42 = .ok (.ldiv, 1) := by decide +kernel
theorem d_Na_divideSmall_43 : decode y_Na_divideSmall.2.1 43 = .ok (.l2i, 1) := by decide +kernel
theorem d_Na_divideSmall_44 : decode y_Na_divideSmall.2.1 44 = .ok (.iastore, 1) := by decide +kernel
theorem d_Na_divideSmall_45 : decode y_Na_divideSmall.2.1 45 = .ok (.lload_n 2, 1) := by decide +kernel
theorem d_Na_divideSmall_46 : decode y_Na_divideSmall.2.1 46 = .ok (.iload_n 1, 1) := by decide +kernel
theorem d_Na_divideSmall_47 : decode y_Na_divideSmall.2.1 47 = .ok (.i2l, 1) := by decide +kernel
theorem d_Na_divideSmall_48 : decode y_Na_divideSmall.2.1 48 = .ok (.lrem, 1) := by decide +kernel
theorem d_Na_divideSmall_49 : decode y_Na_divideSmall.2.1 49 = .ok (.lstore_n 2, 1) := by decide +kernel
theorem d_Na_divideSmall_50 : decode y_Na_divideSmall.2.1 50 = .ok (.iinc 4 (-1), 3) := by decide +kernel
theorem d_Na_divideSmall_53 : decode y_Na_divideSmall.2.1 53 = .ok (.goto (-43), 3) := by decide +kernel
theorem d_Na_divideSmall_56 : decode y_Na_divideSmall.2.1 56 = .ok (.aload_n 0, 1) := by decide +kernel
theorem d_Na_divideSmall_57 : decode y_Na_divideSmall.2.1 57 = .ok (.getfield 13, 3) := by decide +kernel
theorem d_Na_divideSmall_60 : decode y_Na_divideSmall.2.1 60 = .ok (.ifCond .le 30, 3) := by decide +kernel
theorem d_Na_divideSmall_63 : decode y_Na_divideSmall.2.1 63 = .ok (.aload_n 0, 1) := by decide +kernel
theorem d_Na_divideSmall_64 : decode y_Na_divideSmall.2.1 64 = .ok (.getfield 9, 3) := by decide +kernel
theorem d_Na_divideSmall_67 : decode y_Na_divideSmall.2.1 67 = .ok (.aload_n 0, 1) := by decide +kernel
theorem d_Na_divideSmall_68 : decode y_Na_divideSmall.2.1 68 = .ok (.getfield 13, 3) := by decide +kernel
theorem d_Na_divideSmall_71 : decode y_Na_divideSmall.2.1 71 = .ok (.iconst 1, 1) := by decide +kernel
theorem d_Na_divideSmall_72 : decode y_Na_divideSmall.2.1 72 = .ok (.isub, 1) := by decide +kernel
theorem d_Na_divideSmall_73 : decode y_Na_divideSmall.2.1 73 = .ok (.iaload, 1) := by decide +kernel
theorem d_Na_divideSmall_74 : decode y_Na_divideSmall.2.1 74 = .ok (.ifCond .ne 16, 3) := by decide +kernel
theorem d_Na_divideSmall_77 : decode y_Na_divideSmall.2.1 77 = .ok (.aload_n 0, 1) := by decide +kernel
theorem d_Na_divideSmall_78 : decode y_Na_divideSmall.2.1 78 = .ok (.dup, 1) := by decide +kernel
theorem d_Na_divideSmall_79 : decode y_Na_divideSmall.2.1 79 = .ok (.getfield 13, 3) := by decide +kernel
theorem d_Na_divideSmall_82 : decode y_Na_divideSmall.2.1 82 = .ok (.iconst 1, 1) := by decide +kernel
theorem d_Na_divideSmall_83 : decode y_Na_divideSmall.2.1 83 = .ok (.isub, 1) := by decide +kernel
theorem d_Na_divideSmall_84 : decode y_Na_divideSmall.2.1 84 = .ok (.putfield 13, 3) := by decide +kernel
theorem d_Na_divideSmall_87 : decode y_Na_divideSmall.2.1 87 = .ok (.goto (-31), 3) := by decide +kernel
theorem d_Na_divideSmall_90 : decode y_Na_divideSmall.2.1 90 = .ok (.lload_n 2, 1) := by decide +kernel
theorem d_Na_divideSmall_91 : decode y_Na_divideSmall.2.1 91 = .ok (.l2i, 1) := by decide +kernel
theorem d_Na_divideSmall_92 : decode y_Na_divideSmall.2.1 92 = .ok (.ireturn, 1) := by decide +kernel
def h_Na_divideSmall_10 (G : mG) (d : Nat) (a0 : Nat) (l1 : Int) (j2 : Int) (l4 : Int) (M : mM) (Q : Int → mM → Prop) : Prop := mWm G y_Na_divideSmall d 10 [vr a0, vi l1, vl j2, vd, vi l4] [] M (fun r9 M9 => ∃ x9, r9 = some (vi x9) ∧ Q x9 M9)
def h_Na_divideSmall_56 (G : mG) (d : Nat) (a0 : Nat) (j2 : Int) (M : mM) (Q : Int → mM → Prop) : Prop := mWm G y_Na_divideSmall d 56 [vr a0, vd, vl j2, vd, vd] [] M (fun r9 M9 => ∃ x9, r9 = some (vi x9) ∧ Q x9 M9)
theorem k_Na_divideSmall {G : mG} {d : Nat} {a0 : Nat} {l1 : Int} {M : mM} {Q : Int → mM → Prop} (hO : mOk M) (hi_l1 : i32 l1)
    (h : mK M a0 = 10 ∧ h_Na_divideSmall_10 G d a0 l1 0 ((mI M a0 1) - 1) M Q) :
    Ci G y_Na_divideSmall d [vr a0, vi l1] M Q := by
  refine wm_open (y := y_Na_divideSmall) rfl (Nat.le_of_ble_eq_true rfl) (L := [vr a0, vi l1, vd, vd, vd]) rfl ?_
  obtain ⟨h1, h⟩ := h
  refine wm_lconst (x := 0) d_Na_divideSmall_0 rfl ?_
  refine wm_lstore_n d_Na_divideSmall_1 rfl (by decide) (L' := [vr a0, vi l1, vl 0, vd, vd]) rfl ?_
  refine wm_aload_n d_Na_divideSmall_2 rfl rfl ?_
  refine gf_Na_13 rfl d_Na_divideSmall_3 h1 ?_
  refine wm_iconst d_Na_divideSmall_6 ?_
  refine wm_isub d_Na_divideSmall_7 ?_
  refine wm_istore d_Na_divideSmall_8 (by decide) (L' := [vr a0, vi l1, vl 0, vd, vi ((mI M a0 1) - 1)]) rfl ?_
  exact h
theorem k_Na_divideSmall_10 {G : mG} {d : Nat} {a0 : Nat} {l1 : Int} {j2 : Int} {l4 : Int} {M : mM} {Q : Int → mM → Prop} (hO : mOk M) (hi_l1 : i32 l1) (hi_j2 : i64 j2) (hi_l4 : i32 l4)
    (h : (((l4 < 0) ∨ (l1 ≤ 0)) → (h_Na_divideSmall_56 G d a0 j2 M Q)) ∧ (¬ ((l4 < 0) ∨ (l1 ≤ 0)) → (mK M a0 = 10 ∧ mK M (mR M a0 0) = 30 ∧ ((0 : Int) ≤ l4 ∧ l4 < (mN M (mR M a0 0) : Int)) ∧ i64 ((shlL j2 30) + (mI M (mR M a0 0) (Int.toNat l4))) ∧ l1 ≠ 0 ∧ ((0 : Int) ≤ l4 ∧ l4 < (mN M (mR M a0 0) : Int)) ∧ i32 (Int.tdiv ((shlL j2 30) + (mI M (mR M a0 0) (Int.toNat l4))) l1) ∧ ∀ M22, M22 = mUI M (mR M a0 0) (Int.toNat l4) (Int.tdiv ((shlL j2 30) + (mI M (mR M a0 0) (Int.toNat l4))) l1) → l1 ≠ 0 ∧ h_Na_divideSmall_10 G d a0 l1 (Int.tmod ((shlL j2 30) + (mI M (mR M a0 0) (Int.toNat l4))) l1) (l4 + (-1)) M22 Q))) :
    h_Na_divideSmall_10 G d a0 l1 j2 l4 M Q := by
  unfold h_Na_divideSmall_10
  refine wm_iload d_Na_divideSmall_10 rfl ?_
  have hE0 : ((l4 < 0) ∨ (l1 ≤ 0)) → mWm G y_Na_divideSmall d 56 [vr a0, vi l1, vl j2, vd, vi l4] [] M (fun r9 M9 => ∃ x9, r9 = some (vi x9) ∧ Q x9 M9) := by
    intro q13
    have h := h.1 q13
    refine wm_less (L' := [vr a0, vd, vl j2, vd, vd]) ⟨Or.inr rfl, Or.inl rfl, Or.inr rfl, Or.inl rfl, Or.inl rfl, trivial⟩ ?_
    exact h
  have hE1 : ¬ ((l4 < 0) ∨ (l1 ≤ 0)) → mWm G y_Na_divideSmall d 19 [vr a0, vi l1, vl j2, vd, vi l4] [] M (fun r9 M9 => ∃ x9, r9 = some (vi x9) ∧ Q x9 M9) := by
    intro q14
    have h := h.2 q14
    obtain ⟨h15, h⟩ := h
    obtain ⟨h16, h⟩ := h
    obtain ⟨h17, h⟩ := h
    obtain ⟨h18, h⟩ := h
    obtain ⟨h19, h⟩ := h
    obtain ⟨h20, h⟩ := h
    obtain ⟨h21, h⟩ := h
    obtain ⟨M22, e23⟩ : ∃ M22, M22 = mUI M (mR M a0 0) (Int.toNat l4) (Int.tdiv ((shlL j2 30) + (mI M (mR M a0 0) (Int.toNat l4))) l1) := ⟨_, rfl⟩
    replace h := h M22 e23
    obtain ⟨h24, h⟩ := h
    refine wm_lload_n d_Na_divideSmall_19 rfl rfl ?_
    refine wm_bipush d_Na_divideSmall_20 (by decide) ?_
    refine wm_lshl d_Na_divideSmall_22 ?_
    refine wm_aload_n d_Na_divideSmall_23 rfl rfl ?_
    refine gf_Na_9 rfl d_Na_divideSmall_24 h15 ?_
    refine wm_iload d_Na_divideSmall_27 rfl ?_
    refine wm_iald d_Na_divideSmall_29 h16 h17 ?_
    refine wm_i2l d_Na_divideSmall_30 (hO _ _).1 ?_
    refine wm_ladd d_Na_divideSmall_31 ?_
    refine wm_lstore_n d_Na_divideSmall_32 rfl (by decide) (L' := [vr a0, vi l1, vl ((shlL j2 30) + (mI M (mR M a0 0) (Int.toNat l4))), vd, vi l4]) rfl ?_
    refine wm_aload_n d_Na_divideSmall_33 rfl rfl ?_
    refine gf_Na_9 rfl d_Na_divideSmall_34 h15 ?_
    refine wm_iload d_Na_divideSmall_37 rfl ?_
    refine wm_lload_n d_Na_divideSmall_39 rfl rfl ?_
    refine wm_iload_n d_Na_divideSmall_40 rfl rfl ?_
    refine wm_i2l d_Na_divideSmall_41 hi_l1 ?_
    refine wm_ldiv d_Na_divideSmall_42 h18 (i64_of32 hi_l1) h19 ?_
    refine wm_l2i d_Na_divideSmall_43 ?_
    have hOM22 : mOk M22 := by rw [e23]; exact mOk_UI hO h21
    refine wm_iastE d_Na_divideSmall_44 h16 h20 h21 e23 ?_
    refine wm_lload_n d_Na_divideSmall_45 rfl rfl ?_
    refine wm_iload_n d_Na_divideSmall_46 rfl rfl ?_
    refine wm_i2l d_Na_divideSmall_47 hi_l1 ?_
    refine wm_lrem d_Na_divideSmall_48 h18 (i64_of32 hi_l1) h24 ?_
    refine wm_lstore_n d_Na_divideSmall_49 rfl (by decide) (L' := [vr a0, vi l1, vl (Int.tmod ((shlL j2 30) + (mI M (mR M a0 0) (Int.toNat l4))) l1), vd, vi l4]) rfl ?_
    refine wm_iinc d_Na_divideSmall_50 (by decide) rfl (L' := [vr a0, vi l1, vl (Int.tmod ((shlL j2 30) + (mI M (mR M a0 0) (Int.toNat l4))) l1), vd, vi (l4 + (-1))]) rfl ?_
    refine wm_goto (tgt := 10) d_Na_divideSmall_53 rfl ?_
    exact h
  clear h
  refine wm_if_lt (tgt := 56) d_Na_divideSmall_12 rfl hi_l4 (fun c11 => ?_) (fun c11 => ?_)
  · exact hE0 (Or.inl c11)
  · refine wm_iload_n d_Na_divideSmall_15 rfl rfl ?_
    refine wm_if_le (tgt := 56) d_Na_divideSmall_16 rfl hi_l1 (fun c10 => ?_) (fun c10 => ?_)
    · exact hE0 (Or.inr c10)
    · exact hE1 (fun z25 => Or.elim z25 c11 c10)
theorem k_Na_divideSmall_56 {G : mG} {d : Nat} {a0 : Nat} {j2 : Int} {M : mM} {Q : Int → mM → Prop} (hO : mOk M) (hi_j2 : i64 j2)
    (h : mK M a0 = 10 ∧ (¬ (mI M a0 1 ≤ 0) → (mK M (mR M a0 0) = 30 ∧ ((0 : Int) ≤ (mI M a0 1) - 1 ∧ (mI M a0 1) - 1 < (mN M (mR M a0 0) : Int)))) ∧ (((mI M a0 1 ≤ 0) ∨ (¬ (mI M (mR M a0 0) (Int.toNat ((mI M a0 1) - 1)) = 0))) → (Q j2 M)) ∧ (¬ ((mI M a0 1 ≤ 0) ∨ (¬ (mI M (mR M a0 0) (Int.toNat ((mI M a0 1) - 1)) = 0))) → (i32 ((mI M a0 1) - 1) ∧ ∀ M37, M37 = mUI M a0 1 ((mI M a0 1) - 1) → h_Na_divideSmall_56 G d a0 j2 M37 Q))) :
    h_Na_divideSmall_56 G d a0 j2 M Q := by
  unfold h_Na_divideSmall_56
  obtain ⟨h27, h⟩ := h
  refine wm_aload_n d_Na_divideSmall_56 rfl rfl ?_
  refine gf_Na_13 rfl d_Na_divideSmall_57 h27 ?_
  obtain ⟨s33, h⟩ := h
  have hE0 : ((mI M a0 1 ≤ 0) ∨ (¬ (mI M (mR M a0 0) (Int.toNat ((mI M a0 1) - 1)) = 0))) → mWm G y_Na_divideSmall d 90 [vr a0, vd, vl j2, vd, vd] [] M (fun r9 M9 => ∃ x9, r9 = some (vi x9) ∧ Q x9 M9) := by
    intro q34
    have h := h.1 q34
    refine wm_lload_n d_Na_divideSmall_90 rfl rfl ?_
    refine wm_l2i d_Na_divideSmall_91 ?_
    refine wm_ireturn d_Na_divideSmall_92 rfl rfl ?_
    exact ⟨_, rfl, h⟩
  have hE1 : ¬ ((mI M a0 1 ≤ 0) ∨ (¬ (mI M (mR M a0 0) (Int.toNat ((mI M a0 1) - 1)) = 0))) → mWm G y_Na_divideSmall d 77 [vr a0, vd, vl j2, vd, vd] [] M (fun r9 M9 => ∃ x9, r9 = some (vi x9) ∧ Q x9 M9) := by
    intro q35
    have h := h.2 q35
    obtain ⟨h36, h⟩ := h
    obtain ⟨M37, e38⟩ : ∃ M37, M37 = mUI M a0 1 ((mI M a0 1) - 1) := ⟨_, rfl⟩
    replace h := h M37 e38
    refine wm_aload_n d_Na_divideSmall_77 rfl rfl ?_
    refine wm_dup d_Na_divideSmall_78 rfl ?_
    refine gf_Na_13 rfl d_Na_divideSmall_79 h27 ?_
    refine wm_iconst d_Na_divideSmall_82 ?_
    refine wm_isub d_Na_divideSmall_83 ?_
    have hOM37 : mOk M37 := by rw [e38]; exact mOk_UI hO h36
    refine pf_Na_13 rfl d_Na_divideSmall_84 h27 h36 e38 ?_
    refine wm_goto (tgt := 56) d_Na_divideSmall_87 rfl ?_
    exact h
  clear h
  have s39 := s33
  refine wm_if_le (tgt := 90) d_Na_divideSmall_60 rfl (hO _ _).1 (fun c32 => ?_) (fun c32 => ?_)
  · exact hE0 (Or.inl c32)
  · have s39 := s39 c32
    obtain ⟨h28, h29⟩ := s39
    refine wm_aload_n d_Na_divideSmall_63 rfl rfl ?_
    refine gf_Na_9 rfl d_Na_divideSmall_64 h27 ?_
    refine wm_aload_n d_Na_divideSmall_67 rfl rfl ?_
    refine gf_Na_13 rfl d_Na_divideSmall_68 h27 ?_
    refine wm_iconst d_Na_divideSmall_71 ?_
    refine wm_isub d_Na_divideSmall_72 ?_
    refine wm_iald d_Na_divideSmall_73 h28 h29 ?_
    refine wm_if_ne (tgt := 90) d_Na_divideSmall_74 rfl (hO _ _).1 (fun c31 => ?_) (fun c31 => ?_)
    · exact hE0 (Or.inr c31)
    · replace c31 := Classical.not_not.mp c31
      exact hE1 (fun z40 => Or.elim z40 c32 (fun z41 => z41 c31))
theorem d_Na_modulo_0 : decode y_Na_modulo.2.1 0 = .ok (.lconst 0, 1) := by decide +kernel
theorem d_Na_modulo_1 : decode y_Na_modulo.2.1 1 = .ok (.lstore_n 2, 1) := by decide +kernel
theorem d_Na_modulo_2 : decode y_Na_modulo.2.1 2 = .ok (.aload_n 0, 1) := by decide +kernel
theorem d_Na_modulo_3 : decode y_Na_modulo.2.1 3 = .ok (.getfield 13, 3) := by decide +kernel
theorem d_Na_modulo_6 : decode y_Na_modulo.2.1 6 = .ok (.iconst 1, 1) := by decide +kernel
theorem d_Na_modulo_7 : decode y_Na_modulo.2.1 7 = .ok (.isub, 1) := by decide +kernel
theorem d_Na_modulo_8 : decode y_Na_modulo.2.1 8 = .ok (.istore 4, 2) := by decide +kernel
theorem d_Na_modulo_10 : decode y_Na_modulo.2.1 10 = .ok (.iload 4, 2) := by decide +kernel
theorem d_Na_modulo_12 : decode y_Na_modulo.2.1 12 = .ok (.ifCond .lt 30, 3) := by decide +kernel
theorem d_Na_modulo_15 : decode y_Na_modulo.2.1 15 = .ok (.iload_n 1, 1) := by decide +kernel
theorem d_Na_modulo_16 : decode y_Na_modulo.2.1 16 = .ok (.ifCond .le 26, 3) := by decide +kernel
theorem d_Na_modulo_19 : decode y_Na_modulo.2.1 19 = .ok (.lload_n 2, 1) := by decide +kernel
theorem d_Na_modulo_20 : decode y_Na_modulo.2.1 20 = .ok (.bipush 30, 2) := by decide +kernel
theorem d_Na_modulo_22 : decode y_Na_modulo.2.1 22 = .ok (.lshl, 1) := by decide +kernel
theorem d_Na_modulo_23 : decode y_Na_modulo.2.1 23 = .ok (.aload_n 0, 1) := by decide +kernel
theorem d_Na_modulo_24 : decode y_Na_modulo.2.1 24 = .ok (.getfield 9, 3) := by decide +kernel
theorem d_Na_modulo_27 : decode y_Na_modulo.2.1 27 = .ok (.iload 4, 2) := by decide +kernel
theorem d_Na_modulo_29 : decode y_Na_modulo.2.1 29 = .ok (.iaload, 1) := by decide +kernel
theorem d_Na_modulo_30 : decode y_Na_modulo.2.1 30 = .ok (.i2l, 1) := by decide +kernel
theorem d_Na_modulo_31 : decode y_Na_modulo.2.1 31 = .ok (.ladd, 1) := by decide +kernel
theorem d_Na_modulo_32 : decode y_Na_modulo.2.1 32 = .ok (.iload_n 1, 1) := by decide +kernel
theorem d_Na_modulo_33 : decode y_Na_modulo.2.1 33 = .ok (.i2l, 1) := by decide +kernel
theorem d_Na_modulo_34 : decode y_Na_modulo.2.1 34 = .ok (.lrem, 1) := by decide +kernel
theorem d_Na_modulo_35 : decode y_Na_modulo.2.1 35 = .ok (.lstore_n 2, 1) := by decide +kernel
theorem d_Na_modulo_36 : decode y_Na_modulo.2.1 36 = .ok (.iinc 4 (-1), 3) := by decide +kernel
theorem d_Na_modulo_39 : decode y_Na_modulo.2.1 39 = .ok (.goto (-29), 3) := by decide +kernel
theorem d_Na_modulo_42 : decode y_Na_modulo.2.1 42 = .ok (.lload_n 2, 1) := by decide +kernel
theorem d_Na_modulo_43 : decode y_Na_modulo.2.1 43 = .ok (.l2i, 1) := by decide +kernel
theorem d_Na_modulo_44 : decode y_Na_modulo.2.1 44 = .ok (.ireturn, 1) := by decide +kernel
def h_Na_modulo_10 (G : mG) (d : Nat) (a0 : Nat) (l1 : Int) (j2 : Int) (l4 : Int) (M : mM) (Q : Int → mM → Prop) : Prop := mWm G y_Na_modulo d 10 [vr a0, vi l1, vl j2, vd, vi l4] [] M (fun r9 M9 => ∃ x9, r9 = some (vi x9) ∧ Q x9 M9)
theorem k_Na_modulo {G : mG} {d : Nat} {a0 : Nat} {l1 : Int} {M : mM} {Q : Int → mM → Prop} (hO : mOk M) (hi_l1 : i32 l1)
    (h : mK M a0 = 10 ∧ h_Na_modulo_10 G d a0 l1 0 ((mI M a0 1) - 1) M Q) :
    Ci G y_Na_modulo d [vr a0, vi l1] M Q := by
  refine wm_open (y := y_Na_modulo) rfl (Nat.le_of_ble_eq_true rfl) (L := [vr a0, vi l1, vd, vd, vd]) rfl ?_
  obtain ⟨h1, h⟩ := h
  refine wm_lconst (x := 0) d_Na_modulo_0 rfl ?_
  refine wm_lstore_n d_Na_modulo_1 rfl (by decide) (L' := [vr a0, vi l1, vl 0, vd, vd]) rfl ?_
  refine wm_aload_n d_Na_modulo_2 rfl rfl ?_
  refine gf_Na_13 rfl d_Na_modulo_3 h1 ?_
  refine wm_iconst d_Na_modulo_6 ?_
  refine wm_isub d_Na_modulo_7 ?_
  refine wm_istore d_Na_modulo_8 (by decide) (L' := [vr a0, vi l1, vl 0, vd, vi ((mI M a0 1) - 1)]) rfl ?_
  exact h
theorem k_Na_modulo_10 {G : mG} {d : Nat} {a0 : Nat} {l1 : Int} {j2 : Int} {l4 : Int} {M : mM} {Q : Int → mM → Prop} (hO : mOk M) (hi_l1 : i32 l1) (hi_j2 : i64 j2) (hi_l4 : i32 l4)
    (h : (((l4 < 0) ∨ (l1 ≤ 0)) → (Q j2 M)) ∧ (¬ ((l4 < 0) ∨ (l1 ≤ 0)) → (mK M a0 = 10 ∧ mK M (mR M a0 0) = 30 ∧ ((0 : Int) ≤ l4 ∧ l4 < (mN M (mR M a0 0) : Int)) ∧ i64 ((shlL j2 30) + (mI M (mR M a0 0) (Int.toNat l4))) ∧ l1 ≠ 0 ∧ h_Na_modulo_10 G d a0 l1 (Int.tmod ((shlL j2 30) + (mI M (mR M a0 0) (Int.toNat l4))) l1) (l4 + (-1)) M Q))) :
    h_Na_modulo_10 G d a0 l1 j2 l4 M Q := by
  unfold h_Na_modulo_10
  refine wm_iload d_Na_modulo_10 rfl ?_
  have hE0 : ((l4 < 0) ∨ (l1 ≤ 0)) → mWm G y_Na_modulo d 42 [vr a0, vi l1, vl j2, vd, vi l4] [] M (fun r9 M9 => ∃ x9, r9 = some (vi x9) ∧ Q x9 M9) := by
    intro q10
    have h := h.1 q10
    refine wm_lload_n d_Na_modulo_42 rfl rfl ?_
    refine wm_l2i d_Na_modulo_43 ?_
    refine wm_ireturn d_Na_modulo_44 rfl rfl ?_
    exact ⟨_, rfl, h⟩
  have hE1 : ¬ ((l4 < 0) ∨ (l1 ≤ 0)) → mWm G y_Na_modulo d 19 [vr a0, vi l1, vl j2, vd, vi l4] [] M (fun r9 M9 => ∃ x9, r9 = some (vi x9) ∧ Q x9 M9) := by
    intro q11
    have h := h.2 q11
    obtain ⟨h12, h⟩ := h
    obtain ⟨h13, h⟩ := h
    obtain ⟨h14, h⟩ := h
    obtain ⟨h15, h⟩ := h
    obtain ⟨h16, h⟩ := h
    refine wm_lload_n d_Na_modulo_19 rfl rfl ?_
    refine wm_bipush d_Na_modulo_20 (by decide) ?_
    refine wm_lshl d_Na_modulo_22 ?_
    refine wm_aload_n d_Na_modulo_23 rfl rfl ?_
    refine gf_Na_9 rfl d_Na_modulo_24 h12 ?_
    refine wm_iload d_Na_modulo_27 rfl ?_
    refine wm_iald d_Na_modulo_29 h13 h14 ?_
    refine wm_i2l d_Na_modulo_30 (hO _ _).1 ?_
    refine wm_ladd d_Na_modulo_31 ?_
    refine wm_iload_n d_Na_modulo_32 rfl rfl ?_
    refine wm_i2l d_Na_modulo_33 hi_l1 ?_
    refine wm_lrem d_Na_modulo_34 h15 (i64_of32 hi_l1) h16 ?_
    refine wm_lstore_n d_Na_modulo_35 rfl (by decide) (L' := [vr a0, vi l1, vl (Int.tmod ((shlL j2 30) + (mI M (mR M a0 0) (Int.toNat l4))) l1), vd, vi l4]) rfl ?_
    refine wm_iinc d_Na_modulo_36 (by decide) rfl (L' := [vr a0, vi l1, vl (Int.tmod ((shlL j2 30) + (mI M (mR M a0 0) (Int.toNat l4))) l1), vd, vi (l4 + (-1))]) rfl ?_
    refine wm_goto (tgt := 10) d_Na_modulo_39 rfl ?_
    exact h
  clear h
  refine wm_if_lt (tgt := 42) d_Na_modulo_12 rfl hi_l4 (fun c8 => ?_) (fun c8 => ?_)
  · exact hE0 (Or.inl c8)
  · refine wm_iload_n d_Na_modulo_15 rfl rfl ?_
    refine wm_if_le (tgt := 42) d_Na_modulo_16 rfl hi_l1 (fun c7 => ?_) (fun c7 => ?_)
    · exact hE0 (Or.inr c7)
    · exact hE1 (fun z17 => Or.elim z17 c8 c7)
