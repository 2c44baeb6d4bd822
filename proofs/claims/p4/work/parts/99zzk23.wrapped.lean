/-! The class: rules where an int may run over. -/
theorem k_Ma_computew {G : mG} {d : Nat} {a0 : Nat} {l1 : Int} {l2 : Int} {M : mM} {Q : Int → mM → Prop} (hO : mOk M) (hi_l1 : i32 l1) (hi_l2 : i32 l2)
    (h : ((l1 = 40) → (mK M a0 = 5 ∧ mK M (mR M a0 6) = 30 ∧ ((0 : Int) ≤ (mI M a0 8) - 1 ∧ (mI M a0 8) - 1 < (mN M (mR M a0 6) : Int)) ∧ ((0 : Int) ≤ (mI M a0 8) - 1 ∧ (mI M a0 8) - 1 < (mN M (mR M a0 6) : Int)) ∧ ∀ M9, M9 = mUI M (mR M a0 6) (Int.toNat ((mI M a0 8) - 1)) (w32 (-(mI M (mR M a0 6) (Int.toNat ((mI M a0 8) - 1))))) → Q 1 M9)) ∧ (¬ (l1 = 40) → (((l1 = 41) → (mK M a0 = 5 ∧ mK M (mR M a0 6) = 30 ∧ ((0 : Int) ≤ (mI M a0 8) - 1 ∧ (mI M a0 8) - 1 < (mN M (mR M a0 6) : Int)) ∧ ((0 : Int) ≤ (mI M a0 8) - 1 ∧ (mI M a0 8) - 1 < (mN M (mR M a0 6) : Int)) ∧ ∀ M18, M18 = mUI M (mR M a0 6) (Int.toNat ((mI M a0 8) - 1)) (w32 (1 - (mI M (mR M a0 6) (Int.toNat ((mI M a0 8) - 1))))) → Q 1 M18)) ∧ (¬ (l1 = 41) → (((l1 = 43) → (mK M a0 = 5 ∧ Ci G y_Ma_store d [vr a0, vi (Int.tdiv l2 16), vi (Int.tmod l2 16)] M (fun x24 M23 => i32 x24 ∧ mOk M23 ∧ ((x24 = 0 ∨ x24 = 1) ∧ Q x24 M23)))) ∧ (¬ (l1 = 43) → (mK M a0 = 5 ∧ i32 ((mI M a0 8) - 1) ∧ ∀ M29, M29 = mUI M a0 8 ((mI M a0 8) - 1) → mK M29 (mR M29 a0 6) = 30 ∧ ((0 : Int) ≤ (mI M29 a0 8) - 1 ∧ (mI M29 a0 8) - 1 < (mN M29 (mR M29 a0 6) : Int)) ∧ mK M29 (mR M29 a0 7) = 30 ∧ ((0 : Int) ≤ (mI M29 a0 8) - 1 ∧ (mI M29 a0 8) - 1 < (mN M29 (mR M29 a0 7) : Int)) ∧ ((0 : Int) ≤ mI M29 a0 8 ∧ mI M29 a0 8 < (mN M29 (mR M29 a0 6) : Int)) ∧ ((0 : Int) ≤ mI M29 a0 8 ∧ mI M29 a0 8 < (mN M29 (mR M29 a0 7) : Int)) ∧ ((l1 = 25) → (Ci G y_Ma_settle d [vr a0, vl (((mI M29 (mR M29 a0 6) (Int.toNat ((mI M29 a0 8) - 1))) * (mI M29 (mR M29 a0 7) (Int.toNat (mI M29 a0 8)))) + ((mI M29 (mR M29 a0 6) (Int.toNat (mI M29 a0 8))) * (mI M29 (mR M29 a0 7) (Int.toNat ((mI M29 a0 8) - 1))))), vl ((mI M29 (mR M29 a0 7) (Int.toNat ((mI M29 a0 8) - 1))) * (mI M29 (mR M29 a0 7) (Int.toNat (mI M29 a0 8)))), vi l2] M29 (fun x39 M38 => i32 x39 ∧ mOk M38 ∧ ((x39 = 0 ∨ x39 = 1) ∧ Q x39 M38)))) ∧ (¬ (l1 = 25) → (((l1 = 26) → (Ci G y_Ma_settle d [vr a0, vl (((mI M29 (mR M29 a0 6) (Int.toNat ((mI M29 a0 8) - 1))) * (mI M29 (mR M29 a0 7) (Int.toNat (mI M29 a0 8)))) - ((mI M29 (mR M29 a0 6) (Int.toNat (mI M29 a0 8))) * (mI M29 (mR M29 a0 7) (Int.toNat ((mI M29 a0 8) - 1))))), vl ((mI M29 (mR M29 a0 7) (Int.toNat ((mI M29 a0 8) - 1))) * (mI M29 (mR M29 a0 7) (Int.toNat (mI M29 a0 8)))), vi l2] M29 (fun x44 M43 => i32 x44 ∧ mOk M43 ∧ ((x44 = 0 ∨ x44 = 1) ∧ Q x44 M43)))) ∧ (¬ (l1 = 26) → (((l1 = 27) → (Ci G y_Ma_settle d [vr a0, vl ((mI M29 (mR M29 a0 6) (Int.toNat ((mI M29 a0 8) - 1))) * (mI M29 (mR M29 a0 6) (Int.toNat (mI M29 a0 8)))), vl ((mI M29 (mR M29 a0 7) (Int.toNat ((mI M29 a0 8) - 1))) * (mI M29 (mR M29 a0 7) (Int.toNat (mI M29 a0 8)))), vi l2] M29 (fun x49 M48 => i32 x49 ∧ mOk M48 ∧ ((x49 = 0 ∨ x49 = 1) ∧ Q x49 M48)))) ∧ (¬ (l1 = 27) → (((l1 = 28) → (((cmpL (mI M29 (mR M29 a0 6) (Int.toNat (mI M29 a0 8))) 0 = 0) → (Ci G y_Ma_stop d [vr a0, vi 7, vi l2] M29 (fun x57 M56 => i32 x57 ∧ mOk M56 ∧ ((x57 = 0 ∨ x57 = 1) ∧ Q x57 M56)))) ∧ (¬ (cmpL (mI M29 (mR M29 a0 6) (Int.toNat (mI M29 a0 8))) 0 = 0) → (((cmpL (mI M29 (mR M29 a0 6) (Int.toNat (mI M29 a0 8))) 0 ≤ 0) → (Ci G y_Ma_settle d [vr a0, vl ((-(mI M29 (mR M29 a0 6) (Int.toNat ((mI M29 a0 8) - 1)))) * (mI M29 (mR M29 a0 7) (Int.toNat (mI M29 a0 8)))), vl ((-(mI M29 (mR M29 a0 7) (Int.toNat ((mI M29 a0 8) - 1)))) * (mI M29 (mR M29 a0 6) (Int.toNat (mI M29 a0 8)))), vi l2] M29 (fun x63 M62 => i32 x63 ∧ mOk M62 ∧ (h_Ma_compute_304 G d x63 M62 Q)))) ∧ (¬ (cmpL (mI M29 (mR M29 a0 6) (Int.toNat (mI M29 a0 8))) 0 ≤ 0) → (Ci G y_Ma_settle d [vr a0, vl ((mI M29 (mR M29 a0 6) (Int.toNat ((mI M29 a0 8) - 1))) * (mI M29 (mR M29 a0 7) (Int.toNat (mI M29 a0 8)))), vl ((mI M29 (mR M29 a0 7) (Int.toNat ((mI M29 a0 8) - 1))) * (mI M29 (mR M29 a0 6) (Int.toNat (mI M29 a0 8)))), vi l2] M29 (fun x66 M65 => i32 x66 ∧ mOk M65 ∧ (h_Ma_compute_304 G d x66 M65 Q)))))))) ∧ (¬ (l1 = 28) → (((l1 = 29) → ((((cmpL (mI M29 (mR M29 a0 7) (Int.toNat ((mI M29 a0 8) - 1))) 1 = 0) ∧ (cmpL (mI M29 (mR M29 a0 7) (Int.toNat (mI M29 a0 8))) 1 = 0)) → (((0 < cmpL (mI M29 (mR M29 a0 6) (Int.toNat (mI M29 a0 8))) 0) → (Cj G y_JM_floorMod d [vl (mI M29 (mR M29 a0 6) (Int.toNat ((mI M29 a0 8) - 1))), vl (mI M29 (mR M29 a0 6) (Int.toNat (mI M29 a0 8)))] M29 (fun x77 M76 => i64 x77 ∧ mOk M76 ∧ (mK M76 a0 = 5 ∧ Ci G y_Ma_settle d [vr a0, vl x77, vl 1, vi l2] M76 (fun x81 M80 => i32 x81 ∧ mOk M80 ∧ (h_Ma_compute_356 G d x81 M80 Q)))))) ∧ (¬ (0 < cmpL (mI M29 (mR M29 a0 6) (Int.toNat (mI M29 a0 8))) 0) → (Ci G y_Ma_stop d [vr a0, vi 7, vi l2] M29 (fun x84 M83 => i32 x84 ∧ mOk M83 ∧ (h_Ma_compute_356 G d x84 M83 Q)))))) ∧ (¬ ((cmpL (mI M29 (mR M29 a0 7) (Int.toNat ((mI M29 a0 8) - 1))) 1 = 0) ∧ (cmpL (mI M29 (mR M29 a0 7) (Int.toNat (mI M29 a0 8))) 1 = 0)) → (Ci G y_Ma_stop d [vr a0, vi 8, vi l2] M29 (fun x88 M87 => i32 x88 ∧ mOk M87 ∧ ((x88 = 0 ∨ x88 = 1) ∧ Q x88 M87)))))) ∧ (¬ (l1 = 29) → (Ci G y_JL_compare d [vl ((mI M29 (mR M29 a0 6) (Int.toNat ((mI M29 a0 8) - 1))) * (mI M29 (mR M29 a0 7) (Int.toNat (mI M29 a0 8)))), vl ((mI M29 (mR M29 a0 6) (Int.toNat (mI M29 a0 8))) * (mI M29 (mR M29 a0 7) (Int.toNat ((mI M29 a0 8) - 1))))] M29 (fun x95 M94 => i32 x95 ∧ mOk M94 ∧ (mK M94 a0 = 5 ∧ Ci G y_Ma_relate d [vr a0, vi l1, vi x95] M94 (fun x99 M98 => i32 x99 ∧ mOk M98 ∧ ((x99 = 0 ∨ x99 = 1) ∧ Q x99 M98))))))))))))))))))))) :
    Ci G y_Ma_compute (d + 1) [vr a0, vi l1, vi l2] M Q := by
  refine wm_open (y := y_Ma_compute) rfl (Nat.le_of_ble_eq_true rfl) (L := [vr a0, vi l1, vi l2, vd, vd, vd, vd, vd, vd, vd, vd]) rfl ?_
  refine wm_iload_n d_Ma_compute_0 rfl rfl ?_
  by_cases c3 : l1 = 40
  · replace h := h.1 c3
    refine wm_tableIn (tgt := 32) (off := 31) d_Ma_compute_1 hi_l1 (by omega) (by omega) (by rw [c3]; rfl) rfl ?_
    obtain ⟨h4, h⟩ := h
    obtain ⟨h5, h⟩ := h
    obtain ⟨h6, h⟩ := h
    obtain ⟨h7, h⟩ := h
    have h8 := i32_w32 (x := -(mI M (mR M a0 6) (Int.toNat ((mI M a0 8) - 1))))
    obtain ⟨M9, e10⟩ : ∃ M9, M9 = mUI M (mR M a0 6) (Int.toNat ((mI M a0 8) - 1)) (w32 (-(mI M (mR M a0 6) (Int.toNat ((mI M a0 8) - 1))))) := ⟨_, rfl⟩
    replace h := h M9 e10
    refine wm_aload_n d_Ma_compute_32 rfl rfl ?_
    refine gf_Ma_18 rfl d_Ma_compute_33 h4 ?_
    refine wm_aload_n d_Ma_compute_36 rfl rfl ?_
    refine gf_Ma_52 rfl d_Ma_compute_37 h4 ?_
    refine wm_iconst d_Ma_compute_40 ?_
    refine wm_isub d_Ma_compute_41 ?_
    refine wm_aload_n d_Ma_compute_42 rfl rfl ?_
    refine gf_Ma_18 rfl d_Ma_compute_43 h4 ?_
    refine wm_aload_n d_Ma_compute_46 rfl rfl ?_
    refine gf_Ma_52 rfl d_Ma_compute_47 h4 ?_
    refine wm_iconst d_Ma_compute_50 ?_
    refine wm_isub d_Ma_compute_51 ?_
    refine wm_iald d_Ma_compute_52 h5 h6 ?_
    refine wm_ineg d_Ma_compute_53 ?_
    refine wm_w ?_
    have hOM9 : mOk M9 := by rw [e10]; exact mOk_UI hO h8
    refine wm_iastE d_Ma_compute_54 h5 h7 h8 e10 ?_
    refine wm_iconst d_Ma_compute_55 ?_
    refine wm_ireturn d_Ma_compute_56 rfl (m_nb (by decide)) ?_
    exact ⟨_, rfl, h⟩
  · replace h := h.2 c3
    by_cases c12 : l1 = 41
    · replace h := h.1 c12
      refine wm_tableIn (tgt := 57) (off := 56) d_Ma_compute_1 hi_l1 (by omega) (by omega) (by rw [c12]; rfl) rfl ?_
      obtain ⟨h13, h⟩ := h
      obtain ⟨h14, h⟩ := h
      obtain ⟨h15, h⟩ := h
      obtain ⟨h16, h⟩ := h
      have h17 := i32_w32 (x := 1 - (mI M (mR M a0 6) (Int.toNat ((mI M a0 8) - 1))))
      obtain ⟨M18, e19⟩ : ∃ M18, M18 = mUI M (mR M a0 6) (Int.toNat ((mI M a0 8) - 1)) (w32 (1 - (mI M (mR M a0 6) (Int.toNat ((mI M a0 8) - 1))))) := ⟨_, rfl⟩
      replace h := h M18 e19
      refine wm_aload_n d_Ma_compute_57 rfl rfl ?_
      refine gf_Ma_18 rfl d_Ma_compute_58 h13 ?_
      refine wm_aload_n d_Ma_compute_61 rfl rfl ?_
      refine gf_Ma_52 rfl d_Ma_compute_62 h13 ?_
      refine wm_iconst d_Ma_compute_65 ?_
      refine wm_isub d_Ma_compute_66 ?_
      refine wm_iconst d_Ma_compute_67 ?_
      refine wm_aload_n d_Ma_compute_68 rfl rfl ?_
      refine gf_Ma_18 rfl d_Ma_compute_69 h13 ?_
      refine wm_aload_n d_Ma_compute_72 rfl rfl ?_
      refine gf_Ma_52 rfl d_Ma_compute_73 h13 ?_
      refine wm_iconst d_Ma_compute_76 ?_
      refine wm_isub d_Ma_compute_77 ?_
      refine wm_iald d_Ma_compute_78 h14 h15 ?_
      refine wm_isub d_Ma_compute_79 ?_
      refine wm_w ?_
      have hOM18 : mOk M18 := by rw [e19]; exact mOk_UI hO h17
      refine wm_iastE d_Ma_compute_80 h14 h16 h17 e19 ?_
      refine wm_iconst d_Ma_compute_81 ?_
      refine wm_ireturn d_Ma_compute_82 rfl (m_nb (by decide)) ?_
      exact ⟨_, rfl, h⟩
    · replace h := h.2 c12
      by_cases c21 : l1 = 43
      · replace h := h.1 c21
        refine wm_tableIn (tgt := 83) (off := 82) d_Ma_compute_1 hi_l1 (by omega) (by omega) (by rw [c21]; rfl) rfl ?_
        obtain ⟨h22, h⟩ := h
        refine wm_aload_n d_Ma_compute_83 rfl rfl ?_
        refine wm_iload_n d_Ma_compute_84 rfl rfl ?_
        refine wm_bipush d_Ma_compute_85 (by decide) ?_
        refine wm_idiv d_Ma_compute_87 hi_l2 ⟨by decide, by decide⟩ (by decide) ?_
        refine wm_iload_n d_Ma_compute_88 rfl rfl ?_
        refine wm_bipush d_Ma_compute_89 (by decide) ?_
        refine wm_irem d_Ma_compute_91 hi_l2 ⟨by decide, by decide⟩ (by decide) ?_
        refine cf_Ma_110 rfl d_Ma_compute_92 h22 (Nat.le_of_ble_eq_true rfl) (Ci.mono h (fun x24 M23 h => ?_))
        obtain ⟨h25, hOM23, h⟩ := h
        obtain ⟨h26, h⟩ := h
        refine wm_ireturn d_Ma_compute_95 rfl (m_nb h26) ?_
        exact ⟨_, rfl, h⟩
      · replace h := h.2 c21
        refine wm_tableD (tgt := 96) (off := 95) d_Ma_compute_1 hi_l1 (if q8 : 40 ≤ l1 ∧ l1 ≤ 43 then Or.inr ⟨q8.1, q8.2, by
      have q9 : l1 = 42 := by omega
      rcases q9 with q9 <;> (rw [q9]; rfl)⟩ else Or.inl (by omega)) rfl ?_
        obtain ⟨h27, h⟩ := h
        obtain ⟨h28, h⟩ := h
        obtain ⟨M29, e30⟩ : ∃ M29, M29 = mUI M a0 8 ((mI M a0 8) - 1) := ⟨_, rfl⟩
        replace h := h M29 e30
        obtain ⟨h31, h⟩ := h
        obtain ⟨h32, h⟩ := h
        obtain ⟨h33, h⟩ := h
        obtain ⟨h34, h⟩ := h
        obtain ⟨h35, h⟩ := h
        obtain ⟨h36, h⟩ := h
        refine wm_aload_n d_Ma_compute_96 rfl rfl ?_
        refine wm_dup d_Ma_compute_97 rfl ?_
        refine gf_Ma_52 rfl d_Ma_compute_98 h27 ?_
        refine wm_iconst d_Ma_compute_101 ?_
        refine wm_isub d_Ma_compute_102 ?_
        have hOM29 : mOk M29 := by rw [e30]; exact mOk_UI hO h28
        refine pf_Ma_52 rfl d_Ma_compute_103 h27 h28 e30 ?_
        refine wm_aload_n d_Ma_compute_106 rfl rfl ?_
        refine gf_Ma_18 rfl d_Ma_compute_107 (by rw [e30]; exact h27) ?_
        refine wm_aload_n d_Ma_compute_110 rfl rfl ?_
        refine gf_Ma_52 rfl d_Ma_compute_111 (by rw [e30]; exact h27) ?_
        refine wm_iconst d_Ma_compute_114 ?_
        refine wm_isub d_Ma_compute_115 ?_
        refine wm_iald d_Ma_compute_116 h31 h32 ?_
        refine wm_i2l d_Ma_compute_117 (hOM29 _ _).1 ?_
        refine wm_lstore_n d_Ma_compute_118 rfl (by decide) (L' := [vr a0, vi l1, vi l2, vl (mI M29 (mR M29 a0 6) (Int.toNat ((mI M29 a0 8) - 1))), vd, vd, vd, vd, vd, vd, vd]) rfl ?_
        refine wm_aload_n d_Ma_compute_119 rfl rfl ?_
        refine gf_Ma_21 rfl d_Ma_compute_120 (by rw [e30]; exact h27) ?_
        refine wm_aload_n d_Ma_compute_123 rfl rfl ?_
        refine gf_Ma_52 rfl d_Ma_compute_124 (by rw [e30]; exact h27) ?_
        refine wm_iconst d_Ma_compute_127 ?_
        refine wm_isub d_Ma_compute_128 ?_
        refine wm_iald d_Ma_compute_129 h33 h34 ?_
        refine wm_i2l d_Ma_compute_130 (hOM29 _ _).1 ?_
        refine wm_lstore d_Ma_compute_131 (by decide) (L' := [vr a0, vi l1, vi l2, vl (mI M29 (mR M29 a0 6) (Int.toNat ((mI M29 a0 8) - 1))), vd, vl (mI M29 (mR M29 a0 7) (Int.toNat ((mI M29 a0 8) - 1))), vd, vd, vd, vd, vd]) rfl ?_
        refine wm_aload_n d_Ma_compute_133 rfl rfl ?_
        refine gf_Ma_18 rfl d_Ma_compute_134 (by rw [e30]; exact h27) ?_
        refine wm_aload_n d_Ma_compute_137 rfl rfl ?_
        refine gf_Ma_52 rfl d_Ma_compute_138 (by rw [e30]; exact h27) ?_
        refine wm_iald d_Ma_compute_141 h31 h35 ?_
        refine wm_i2l d_Ma_compute_142 (hOM29 _ _).1 ?_
        refine wm_lstore d_Ma_compute_143 (by decide) (L' := [vr a0, vi l1, vi l2, vl (mI M29 (mR M29 a0 6) (Int.toNat ((mI M29 a0 8) - 1))), vd, vl (mI M29 (mR M29 a0 7) (Int.toNat ((mI M29 a0 8) - 1))), vd, vl (mI M29 (mR M29 a0 6) (Int.toNat (mI M29 a0 8))), vd, vd, vd]) rfl ?_
        refine wm_aload_n d_Ma_compute_145 rfl rfl ?_
        refine gf_Ma_21 rfl d_Ma_compute_146 (by rw [e30]; exact h27) ?_
        refine wm_aload_n d_Ma_compute_149 rfl rfl ?_
        refine gf_Ma_52 rfl d_Ma_compute_150 (by rw [e30]; exact h27) ?_
        refine wm_iald d_Ma_compute_153 h33 h36 ?_
        refine wm_i2l d_Ma_compute_154 (hOM29 _ _).1 ?_
        refine wm_lstore d_Ma_compute_155 (by decide) (L' := [vr a0, vi l1, vi l2, vl (mI M29 (mR M29 a0 6) (Int.toNat ((mI M29 a0 8) - 1))), vd, vl (mI M29 (mR M29 a0 7) (Int.toNat ((mI M29 a0 8) - 1))), vd, vl (mI M29 (mR M29 a0 6) (Int.toNat (mI M29 a0 8))), vd, vl (mI M29 (mR M29 a0 7) (Int.toNat (mI M29 a0 8))), vd]) rfl ?_
        refine wm_iload_n d_Ma_compute_157 rfl rfl ?_
        by_cases c37 : l1 = 25
        · replace h := h.1 c37
          refine wm_tableIn (tgt := 192) (off := 34) d_Ma_compute_158 hi_l1 (by omega) (by omega) (by rw [c37]; rfl) rfl ?_
          refine wm_aload_n d_Ma_compute_192 rfl rfl ?_
          refine wm_lload_n d_Ma_compute_193 rfl rfl ?_
          refine wm_lload d_Ma_compute_194 rfl ?_
          refine wm_lmul d_Ma_compute_196 ?_
          refine wm_lload d_Ma_compute_197 rfl ?_
          refine wm_lload d_Ma_compute_199 rfl ?_
          refine wm_lmul d_Ma_compute_201 ?_
          refine wm_ladd d_Ma_compute_202 ?_
          refine wm_lload d_Ma_compute_203 rfl ?_
          refine wm_lload d_Ma_compute_205 rfl ?_
          refine wm_lmul d_Ma_compute_207 ?_
          refine wm_iload_n d_Ma_compute_208 rfl rfl ?_
          refine cf_Ma_113 rfl d_Ma_compute_209 (by rw [e30]; exact h27) (Nat.le_of_ble_eq_true rfl) (Ci.mono h (fun x39 M38 h => ?_))
          obtain ⟨h40, hOM38, h⟩ := h
          obtain ⟨h41, h⟩ := h
          refine wm_ireturn d_Ma_compute_212 rfl (m_nb h41) ?_
          exact ⟨_, rfl, h⟩
        · replace h := h.2 c37
          by_cases c42 : l1 = 26
          · replace h := h.1 c42
            refine wm_tableIn (tgt := 213) (off := 55) d_Ma_compute_158 hi_l1 (by omega) (by omega) (by rw [c42]; rfl) rfl ?_
            refine wm_aload_n d_Ma_compute_213 rfl rfl ?_
            refine wm_lload_n d_Ma_compute_214 rfl rfl ?_
            refine wm_lload d_Ma_compute_215 rfl ?_
            refine wm_lmul d_Ma_compute_217 ?_
            refine wm_lload d_Ma_compute_218 rfl ?_
            refine wm_lload d_Ma_compute_220 rfl ?_
            refine wm_lmul d_Ma_compute_222 ?_
            refine wm_lsub d_Ma_compute_223 ?_
            refine wm_lload d_Ma_compute_224 rfl ?_
            refine wm_lload d_Ma_compute_226 rfl ?_
            refine wm_lmul d_Ma_compute_228 ?_
            refine wm_iload_n d_Ma_compute_229 rfl rfl ?_
            refine cf_Ma_113 rfl d_Ma_compute_230 (by rw [e30]; exact h27) (Nat.le_of_ble_eq_true rfl) (Ci.mono h (fun x44 M43 h => ?_))
            obtain ⟨h45, hOM43, h⟩ := h
            obtain ⟨h46, h⟩ := h
            refine wm_ireturn d_Ma_compute_233 rfl (m_nb h46) ?_
            exact ⟨_, rfl, h⟩
          · replace h := h.2 c42
            by_cases c47 : l1 = 27
            · replace h := h.1 c47
              refine wm_tableIn (tgt := 234) (off := 76) d_Ma_compute_158 hi_l1 (by omega) (by omega) (by rw [c47]; rfl) rfl ?_
              refine wm_aload_n d_Ma_compute_234 rfl rfl ?_
              refine wm_lload_n d_Ma_compute_235 rfl rfl ?_
              refine wm_lload d_Ma_compute_236 rfl ?_
              refine wm_lmul d_Ma_compute_238 ?_
              refine wm_lload d_Ma_compute_239 rfl ?_
              refine wm_lload d_Ma_compute_241 rfl ?_
              refine wm_lmul d_Ma_compute_243 ?_
              refine wm_iload_n d_Ma_compute_244 rfl rfl ?_
              refine cf_Ma_113 rfl d_Ma_compute_245 (by rw [e30]; exact h27) (Nat.le_of_ble_eq_true rfl) (Ci.mono h (fun x49 M48 h => ?_))
              obtain ⟨h50, hOM48, h⟩ := h
              obtain ⟨h51, h⟩ := h
              refine wm_ireturn d_Ma_compute_248 rfl (m_nb h51) ?_
              exact ⟨_, rfl, h⟩
            · replace h := h.2 c47
              by_cases c52 : l1 = 28
              · replace h := h.1 c52
                refine wm_tableIn (tgt := 249) (off := 91) d_Ma_compute_158 hi_l1 (by omega) (by omega) (by rw [c52]; rfl) rfl ?_
                refine wm_lload d_Ma_compute_249 rfl ?_
                refine wm_lconst (x := 0) d_Ma_compute_251 rfl ?_
                refine wm_lcmp d_Ma_compute_252 (i64_of32 (hOM29 _ _).1) ⟨by decide, by decide⟩ ?_
                refine wm_if_ne (tgt := 264) d_Ma_compute_253 rfl (m_cmp32 _ _) (fun c55 => ?_) (fun c55 => ?_)
                · replace h := h.2 c55
                  refine wm_lload d_Ma_compute_264 rfl ?_
                  refine wm_lconst (x := 0) d_Ma_compute_266 rfl ?_
                  refine wm_lcmp d_Ma_compute_267 (i64_of32 (hOM29 _ _).1) ⟨by decide, by decide⟩ ?_
                  refine wm_if_le (tgt := 288) d_Ma_compute_268 rfl (m_cmp32 _ _) (fun c61 => ?_) (fun c61 => ?_)
                  · replace h := h.1 c61
                    refine wm_aload_n d_Ma_compute_288 rfl rfl ?_
                    refine wm_lload_n d_Ma_compute_289 rfl rfl ?_
                    refine wm_lneg d_Ma_compute_290 ?_
                    refine wm_lload d_Ma_compute_291 rfl ?_
                    refine wm_lmul d_Ma_compute_293 ?_
                    refine wm_lload d_Ma_compute_294 rfl ?_
                    refine wm_lneg d_Ma_compute_296 ?_
                    refine wm_lload d_Ma_compute_297 rfl ?_
                    refine wm_lmul d_Ma_compute_299 ?_
                    refine wm_iload_n d_Ma_compute_300 rfl rfl ?_
                    refine cf_Ma_113 rfl d_Ma_compute_301 (by rw [e30]; exact h27) (Nat.le_of_ble_eq_true rfl) (Ci.mono h (fun x63 M62 h => ?_))
                    obtain ⟨h64, hOM62, h⟩ := h
                    refine wm_less (L' := [vd, vd, vd, vd, vd, vd, vd, vd, vd, vd, vd]) ⟨Or.inl rfl, Or.inl rfl, Or.inl rfl, Or.inl rfl, Or.inl rfl, Or.inl rfl, Or.inl rfl, Or.inl rfl, Or.inl rfl, Or.inl rfl, Or.inl rfl, trivial⟩ ?_
                    exact h
                  · replace h := h.2 c61
                    refine wm_aload_n d_Ma_compute_271 rfl rfl ?_
                    refine wm_lload_n d_Ma_compute_272 rfl rfl ?_
                    refine wm_lload d_Ma_compute_273 rfl ?_
                    refine wm_lmul d_Ma_compute_275 ?_
                    refine wm_lload d_Ma_compute_276 rfl ?_
                    refine wm_lload d_Ma_compute_278 rfl ?_
                    refine wm_lmul d_Ma_compute_280 ?_
                    refine wm_iload_n d_Ma_compute_281 rfl rfl ?_
                    refine cf_Ma_113 rfl d_Ma_compute_282 (by rw [e30]; exact h27) (Nat.le_of_ble_eq_true rfl) (Ci.mono h (fun x66 M65 h => ?_))
                    obtain ⟨h67, hOM65, h⟩ := h
                    refine wm_goto (tgt := 304) d_Ma_compute_285 rfl ?_
                    refine wm_less (L' := [vd, vd, vd, vd, vd, vd, vd, vd, vd, vd, vd]) ⟨Or.inl rfl, Or.inl rfl, Or.inl rfl, Or.inl rfl, Or.inl rfl, Or.inl rfl, Or.inl rfl, Or.inl rfl, Or.inl rfl, Or.inl rfl, Or.inl rfl, trivial⟩ ?_
                    exact h
                · replace c55 := Classical.not_not.mp c55
                  replace h := h.1 c55
                  refine wm_aload_n d_Ma_compute_256 rfl rfl ?_
                  refine wm_bipush d_Ma_compute_257 (by decide) ?_
                  refine wm_iload_n d_Ma_compute_259 rfl rfl ?_
                  refine cf_Ma_92 rfl d_Ma_compute_260 (by rw [e30]; exact h27) (Nat.le_of_ble_eq_true rfl) (Ci.mono h (fun x57 M56 h => ?_))
                  obtain ⟨h58, hOM56, h⟩ := h
                  obtain ⟨h59, h⟩ := h
                  refine wm_ireturn d_Ma_compute_263 rfl (m_nb h59) ?_
                  exact ⟨_, rfl, h⟩
              · replace h := h.2 c52
                by_cases c68 : l1 = 29
                · replace h := h.1 c68
                  refine wm_tableIn (tgt := 305) (off := 147) d_Ma_compute_158 hi_l1 (by omega) (by omega) (by rw [c68]; rfl) rfl ?_
                  refine wm_lload d_Ma_compute_305 rfl ?_
                  refine wm_lconst (x := 1) d_Ma_compute_307 rfl ?_
                  refine wm_lcmp d_Ma_compute_308 (i64_of32 (hOM29 _ _).1) ⟨by decide, by decide⟩ ?_
                  have hE0 : ((cmpL (mI M29 (mR M29 a0 7) (Int.toNat ((mI M29 a0 8) - 1))) 1 = 0) ∧ (cmpL (mI M29 (mR M29 a0 7) (Int.toNat (mI M29 a0 8))) 1 = 0)) → mWm G y_Ma_compute (d + 1) 327 [vr a0, vi l1, vi l2, vl (mI M29 (mR M29 a0 6) (Int.toNat ((mI M29 a0 8) - 1))), vd, vl (mI M29 (mR M29 a0 7) (Int.toNat ((mI M29 a0 8) - 1))), vd, vl (mI M29 (mR M29 a0 6) (Int.toNat (mI M29 a0 8))), vd, vl (mI M29 (mR M29 a0 7) (Int.toNat (mI M29 a0 8))), vd] [] M29 (fun r9 M9 => ∃ x9, r9 = some (vi x9) ∧ Q x9 M9) := by
                    intro q73
                    have h := h.1 q73
                    refine wm_lload d_Ma_compute_327 rfl ?_
                    refine wm_lconst (x := 0) d_Ma_compute_329 rfl ?_
                    refine wm_lcmp d_Ma_compute_330 (i64_of32 (hOM29 _ _).1) ⟨by decide, by decide⟩ ?_
                    refine wm_if_gt (tgt := 344) d_Ma_compute_331 rfl (m_cmp32 _ _) (fun c75 => ?_) (fun c75 => ?_)
                    · replace h := h.1 c75
                      refine wm_aload_n d_Ma_compute_344 rfl rfl ?_
                      refine wm_lload_n d_Ma_compute_345 rfl rfl ?_
                      refine wm_lload d_Ma_compute_346 rfl ?_
                      refine cf_Ma_117 rfl d_Ma_compute_348 (Nat.le_of_ble_eq_true rfl) (Cj.mono h (fun x77 M76 h => ?_))
                      obtain ⟨h78, hOM76, h⟩ := h
                      obtain ⟨h79, h⟩ := h
                      refine wm_lconst (x := 1) d_Ma_compute_351 rfl ?_
                      refine wm_iload_n d_Ma_compute_352 rfl rfl ?_
                      refine cf_Ma_113 rfl d_Ma_compute_353 h79 (Nat.le_of_ble_eq_true rfl) (Ci.mono h (fun x81 M80 h => ?_))
                      obtain ⟨h82, hOM80, h⟩ := h
                      refine wm_less (L' := [vd, vd, vd, vd, vd, vd, vd, vd, vd, vd, vd]) ⟨Or.inl rfl, Or.inl rfl, Or.inl rfl, Or.inl rfl, Or.inl rfl, Or.inl rfl, Or.inl rfl, Or.inl rfl, Or.inl rfl, Or.inl rfl, Or.inl rfl, trivial⟩ ?_
                      exact h
                    · replace h := h.2 c75
                      refine wm_aload_n d_Ma_compute_334 rfl rfl ?_
                      refine wm_bipush d_Ma_compute_335 (by decide) ?_
                      refine wm_iload_n d_Ma_compute_337 rfl rfl ?_
                      refine cf_Ma_92 rfl d_Ma_compute_338 (by rw [e30]; exact h27) (Nat.le_of_ble_eq_true rfl) (Ci.mono h (fun x84 M83 h => ?_))
                      obtain ⟨h85, hOM83, h⟩ := h
                      refine wm_goto (tgt := 356) d_Ma_compute_341 rfl ?_
                      refine wm_less (L' := [vd, vd, vd, vd, vd, vd, vd, vd, vd, vd, vd]) ⟨Or.inl rfl, Or.inl rfl, Or.inl rfl, Or.inl rfl, Or.inl rfl, Or.inl rfl, Or.inl rfl, Or.inl rfl, Or.inl rfl, Or.inl rfl, Or.inl rfl, trivial⟩ ?_
                      exact h
                  have hE1 : ¬ ((cmpL (mI M29 (mR M29 a0 7) (Int.toNat ((mI M29 a0 8) - 1))) 1 = 0) ∧ (cmpL (mI M29 (mR M29 a0 7) (Int.toNat (mI M29 a0 8))) 1 = 0)) → mWm G y_Ma_compute (d + 1) 319 [vr a0, vi l1, vi l2, vl (mI M29 (mR M29 a0 6) (Int.toNat ((mI M29 a0 8) - 1))), vd, vl (mI M29 (mR M29 a0 7) (Int.toNat ((mI M29 a0 8) - 1))), vd, vl (mI M29 (mR M29 a0 6) (Int.toNat (mI M29 a0 8))), vd, vl (mI M29 (mR M29 a0 7) (Int.toNat (mI M29 a0 8))), vd] [] M29 (fun r9 M9 => ∃ x9, r9 = some (vi x9) ∧ Q x9 M9) := by
                    intro q86
                    have h := h.2 q86
                    refine wm_aload_n d_Ma_compute_319 rfl rfl ?_
                    refine wm_bipush d_Ma_compute_320 (by decide) ?_
                    refine wm_iload_n d_Ma_compute_322 rfl rfl ?_
                    refine cf_Ma_92 rfl d_Ma_compute_323 (by rw [e30]; exact h27) (Nat.le_of_ble_eq_true rfl) (Ci.mono h (fun x88 M87 h => ?_))
                    obtain ⟨h89, hOM87, h⟩ := h
                    obtain ⟨h90, h⟩ := h
                    refine wm_ireturn d_Ma_compute_326 rfl (m_nb h90) ?_
                    exact ⟨_, rfl, h⟩
                  clear h
                  refine wm_if_ne (tgt := 319) d_Ma_compute_309 rfl (m_cmp32 _ _) (fun c71 => ?_) (fun c71 => ?_)
                  · exact hE1 (fun z93 => c71 z93.1)
                  · replace c71 := Classical.not_not.mp c71
                    refine wm_lload d_Ma_compute_312 rfl ?_
                    refine wm_lconst (x := 1) d_Ma_compute_314 rfl ?_
                    refine wm_lcmp d_Ma_compute_315 (i64_of32 (hOM29 _ _).1) ⟨by decide, by decide⟩ ?_
                    refine wm_if_eq (tgt := 327) d_Ma_compute_316 rfl (m_cmp32 _ _) (fun c70 => ?_) (fun c70 => ?_)
                    · exact hE0 ⟨c71, c70⟩
                    · exact hE1 (fun z91 => c70 z91.2)
                · replace h := h.2 c68
                  refine wm_tableOut (tgt := 357) d_Ma_compute_158 hi_l1 (by omega) rfl ?_
                  refine wm_aload_n d_Ma_compute_357 rfl rfl ?_
                  refine wm_iload_n d_Ma_compute_358 rfl rfl ?_
                  refine wm_lload_n d_Ma_compute_359 rfl rfl ?_
                  refine wm_lload d_Ma_compute_360 rfl ?_
                  refine wm_lmul d_Ma_compute_362 ?_
                  refine wm_lload d_Ma_compute_363 rfl ?_
                  refine wm_lload d_Ma_compute_365 rfl ?_
                  refine wm_lmul d_Ma_compute_367 ?_
                  refine cf_Ma_123 rfl d_Ma_compute_368 (Nat.le_of_ble_eq_true rfl) (Ci.mono h (fun x95 M94 h => ?_))
                  obtain ⟨h96, hOM94, h⟩ := h
                  obtain ⟨h97, h⟩ := h
                  refine cf_Ma_129 rfl d_Ma_compute_371 h97 (Nat.le_of_ble_eq_true rfl) (Ci.mono h (fun x99 M98 h => ?_))
                  obtain ⟨h100, hOM98, h⟩ := h
                  obtain ⟨h101, h⟩ := h
                  refine wm_ireturn d_Ma_compute_374 rfl (m_nb h101) ?_
                  exact ⟨_, rfl, h⟩
theorem k_TR_settleVar_76w {G : mG} {d : Nat} {a0 : Nat} {l1 : Int} {k0 : Int} {M : mM} {Q : mM → Prop} (hO : mOk M) (hi_l1 : i32 l1) (hi_k0 : i32 k0)
    (h : True ∧ (((k0 < l1) ∨ (¬ (w32 (k0 - l1) < 10000))) → (mK M a0 = 3 ∧ mK M (mR M a0 6) = 30 ∧ ((0 : Int) ≤ 1 ∧ 1 < (mN M (mR M a0 6) : Int)) ∧ mK M (mR M a0 0) = 4 ∧ Cv G y_RR_note d [vr (mR M a0 0), vi 9, vi (mI M (mR M a0 6) 1)] M (fun M50 => mOk M50 ∧ (h_TR_settleVar_106 G d a0 l1 k0 M50 Q)))) ∧ (¬ ((k0 < l1) ∨ (¬ (w32 (k0 - l1) < 10000))) → (h_TR_settleVar_106 G d a0 l1 k0 M Q))) :
    h_TR_settleVar_76 G d a0 l1 k0 M Q := by
  unfold h_TR_settleVar_76
  refine wm_istore_n d_TR_settleVar_76 rfl (by decide) (L' := [vr a0, vi l1, vi k0, vd]) rfl ?_
  refine wm_iload_n d_TR_settleVar_77 rfl rfl ?_
  refine wm_iload_n d_TR_settleVar_78 rfl rfl ?_
  obtain ⟨s44, h⟩ := h
  have hE0 : ((k0 < l1) ∨ (¬ (w32 (k0 - l1) < 10000))) → mWm G y_TR_settleVar (d + 1) 91 [vr a0, vi l1, vi k0, vd] [] M (fun r9 M9 => r9 = none ∧ Q M9) := by
    intro q45
    have h := h.1 q45
    obtain ⟨h46, h⟩ := h
    obtain ⟨h47, h⟩ := h
    obtain ⟨h48, h⟩ := h
    obtain ⟨h49, h⟩ := h
    refine wm_aload_n d_TR_settleVar_91 rfl rfl ?_
    refine gf_TR_12 rfl d_TR_settleVar_92 h46 ?_
    refine wm_bipush d_TR_settleVar_95 (by decide) ?_
    refine wm_aload_n d_TR_settleVar_97 rfl rfl ?_
    refine gf_TR_29 rfl d_TR_settleVar_98 h46 ?_
    refine wm_iconst d_TR_settleVar_101 ?_
    refine wm_iald d_TR_settleVar_102 h47 h48 ?_
    refine cf_TR_95 rfl d_TR_settleVar_103 h49 (Nat.le_of_ble_eq_true rfl) (Cv.mono h (fun M50 h => ?_))
    obtain ⟨hOM50, h⟩ := h
    exact h
  have hE1 : ¬ ((k0 < l1) ∨ (¬ (w32 (k0 - l1) < 10000))) → mWm G y_TR_settleVar (d + 1) 106 [vr a0, vi l1, vi k0, vd] [] M (fun r9 M9 => r9 = none ∧ Q M9) := by
    intro q53
    have h := h.2 q53
    exact h
  clear h
  refine wm_icmp_lt (tgt := 91) d_TR_settleVar_79 rfl hi_k0 hi_l1 (fun c43 => ?_) (fun c43 => ?_)
  · exact hE0 (Or.inl c43)
  · have h41 := i32_w32 (x := k0 - l1)
    refine wm_iload_n d_TR_settleVar_82 rfl rfl ?_
    refine wm_iload_n d_TR_settleVar_83 rfl rfl ?_
    refine wm_isub d_TR_settleVar_84 ?_
    refine wm_w ?_
    refine wm_sipush d_TR_settleVar_85 (by decide) ?_
    refine wm_icmp_lt (tgt := 106) d_TR_settleVar_88 rfl h41 ⟨by decide, by decide⟩ (fun c42 => ?_) (fun c42 => ?_)
    · exact hE1 (fun z55 => Or.elim z55 c43 (fun z56 => z56 c42))
    · exact hE0 (Or.inr c42)
theorem k_Ga_enter_4w {G : mG} {d : Nat} {a0 : Nat} {l1 : Int} {l2 : Int} {M : mM} {Q : Int → mM → Prop} (hO : mOk M) (hi_l1 : i32 l1) (hi_l2 : i32 l2)
    (h : mK M a0 = 7 ∧ mK M (mR M a0 14) = 6 ∧ ((mI M (mR M a0 14) 3 ≤ l2) → (h_Ga_enter_51 G d a0 (andI (xorI l1 (ushrI l1 15)) 1023) 0 M Q)) ∧ (¬ (mI M (mR M a0 14) 3 ≤ l2) → (mK M (mR M a0 15) = 5 ∧ mK M (mR M (mR M a0 15) 5) = 30 ∧ ((0 : Int) ≤ l2 ∧ l2 < (mN M (mR M (mR M a0 15) 5) : Int)) ∧ h_Ga_enter_4 G d a0 (w32 ((l1 * 31) + (mI M (mR M (mR M a0 15) 5) (Int.toNat l2)))) (l2 + 1) M Q))) :
    h_Ga_enter_4 G d a0 l1 l2 M Q := by
  unfold h_Ga_enter_4
  obtain ⟨h1, h⟩ := h
  obtain ⟨h2, h⟩ := h
  refine wm_iload_n d_Ga_enter_4 rfl rfl ?_
  refine wm_aload_n d_Ga_enter_5 rfl rfl ?_
  refine gf_Ga_72 rfl d_Ga_enter_6 h1 ?_
  refine gf_Ga_91 rfl d_Ga_enter_9 h2 ?_
  refine wm_icmp_ge (tgt := 36) d_Ga_enter_12 rfl hi_l2 (hO _ _).1 (fun c7 => ?_) (fun c7 => ?_)
  · replace h := h.1 c7
    refine wm_iload_n d_Ga_enter_36 rfl rfl ?_
    refine wm_iload_n d_Ga_enter_37 rfl rfl ?_
    refine wm_bipush d_Ga_enter_38 (by decide) ?_
    refine wm_iushr d_Ga_enter_40 ?_
    refine wm_ixor d_Ga_enter_41 ?_
    refine wm_istore_n d_Ga_enter_42 rfl (by decide) (L' := [vr a0, vi (xorI l1 (ushrI l1 15)), vi l2, vd]) rfl ?_
    refine wm_iload_n d_Ga_enter_43 rfl rfl ?_
    refine wm_sipush d_Ga_enter_44 (by decide) ?_
    refine wm_iand d_Ga_enter_47 ?_
    refine wm_istore_n d_Ga_enter_48 rfl (by decide) (L' := [vr a0, vi (xorI l1 (ushrI l1 15)), vi (andI (xorI l1 (ushrI l1 15)) 1023), vd]) rfl ?_
    refine wm_iconst d_Ga_enter_49 ?_
    refine wm_istore_n d_Ga_enter_50 rfl (by decide) (L' := [vr a0, vi (xorI l1 (ushrI l1 15)), vi (andI (xorI l1 (ushrI l1 15)) 1023), vi 0]) rfl ?_
    refine wm_less (L' := [vr a0, vd, vi (andI (xorI l1 (ushrI l1 15)) 1023), vi 0]) ⟨Or.inr rfl, Or.inl rfl, Or.inr rfl, Or.inr rfl, trivial⟩ ?_
    exact h
  · replace h := h.2 c7
    obtain ⟨h8, h⟩ := h
    obtain ⟨h9, h⟩ := h
    obtain ⟨h10, h⟩ := h
    refine wm_iload_n d_Ga_enter_15 rfl rfl ?_
    refine wm_bipush d_Ga_enter_16 (by decide) ?_
    refine wm_imul d_Ga_enter_18 ?_
    refine wm_aload_n d_Ga_enter_19 rfl rfl ?_
    refine gf_Ga_42 rfl d_Ga_enter_20 h1 ?_
    refine gf_Ga_83 rfl d_Ga_enter_23 h8 ?_
    refine wm_iload_n d_Ga_enter_26 rfl rfl ?_
    refine wm_iald d_Ga_enter_27 h9 h10 ?_
    refine wm_iadd d_Ga_enter_28 ?_
    refine wm_w ?_
    refine wm_istore_n d_Ga_enter_29 rfl (by decide) (L' := [vr a0, vi (w32 ((l1 * 31) + (mI M (mR M (mR M a0 15) 5) (Int.toNat l2)))), vi l2, vd]) rfl ?_
    refine wm_iinc d_Ga_enter_30 (by decide) rfl (L' := [vr a0, vi (w32 ((l1 * 31) + (mI M (mR M (mR M a0 15) 5) (Int.toNat l2)))), vi (l2 + 1), vd]) rfl ?_
    refine wm_goto (tgt := 4) d_Ga_enter_33 rfl ?_
    exact h
