section
theorem d_MU_multiply_0 : decode y_MU_multiply.2.1 0 = .ok (.aload_n 0, 1) := dc9_42 (by decide +kernel)
theorem d_MU_multiply_1 : decode y_MU_multiply.2.1 1 = .ok (.getfield 24, 3) := dc9_180 (by decide +kernel)
theorem d_MU_multiply_4 : decode y_MU_multiply.2.1 4 = .ok (.aload_n 1, 1) := dc9_43 (by decide +kernel)
theorem d_MU_multiply_5 : decode y_MU_multiply.2.1 5 = .ok (.getfield 81, 3) := dc9_180 (by decide +kernel)
theorem d_MU_multiply_8 : decode y_MU_multiply.2.1 8 = .ok (.aload_n 2, 1) := dc9_44 (by decide +kernel)
theorem d_MU_multiply_9 : decode y_MU_multiply.2.1 9 = .ok (.getfield 81, 3) := dc9_180 (by decide +kernel)
theorem d_MU_multiply_12 : decode y_MU_multiply.2.1 12 = .ok (.invokevirtual 101, 3) := dc9_182 (by decide +kernel)
theorem d_MU_multiply_15 : decode y_MU_multiply.2.1 15 = .ok (.aload_n 0, 1) := dc9_42 (by decide +kernel)
theorem d_MU_multiply_16 : decode y_MU_multiply.2.1 16 = .ok (.getfield 28, 3) := dc9_180 (by decide +kernel)
theorem d_MU_multiply_19 : decode y_MU_multiply.2.1 19 = .ok (.aload_n 1, 1) := dc9_43 (by decide +kernel)
theorem d_MU_multiply_20 : decode y_MU_multiply.2.1 20 = .ok (.getfield 88, 3) := dc9_180 (by decide +kernel)
theorem d_MU_multiply_23 : decode y_MU_multiply.2.1 23 = .ok (.aload_n 2, 1) := dc9_44 (by decide +kernel)
theorem d_MU_multiply_24 : decode y_MU_multiply.2.1 24 = .ok (.getfield 88, 3) := dc9_180 (by decide +kernel)
theorem d_MU_multiply_27 : decode y_MU_multiply.2.1 27 = .ok (.invokevirtual 101, 3) := dc9_182 (by decide +kernel)
theorem d_MU_multiply_30 : decode y_MU_multiply.2.1 30 = .ok (.aload_n 0, 1) := dc9_42 (by decide +kernel)
theorem d_MU_multiply_31 : decode y_MU_multiply.2.1 31 = .ok (.getfield 14, 3) := dc9_180 (by decide +kernel)
theorem d_MU_multiply_34 : decode y_MU_multiply.2.1 34 = .ok (.aload_n 1, 1) := dc9_43 (by decide +kernel)
theorem d_MU_multiply_35 : decode y_MU_multiply.2.1 35 = .ok (.getfield 84, 3) := dc9_180 (by decide +kernel)
theorem d_MU_multiply_38 : decode y_MU_multiply.2.1 38 = .ok (.aload_n 2, 1) := dc9_44 (by decide +kernel)
theorem d_MU_multiply_39 : decode y_MU_multiply.2.1 39 = .ok (.getfield 84, 3) := dc9_180 (by decide +kernel)
theorem d_MU_multiply_42 : decode y_MU_multiply.2.1 42 = .ok (.if_icmp .eq 7, 3) := dc9_159 (by decide +kernel)
theorem d_MU_multiply_49 : decode y_MU_multiply.2.1 49 = .ok (.iconst 0, 1) := dc9_3 (by decide +kernel)
theorem d_MU_multiply_45 : decode y_MU_multiply.2.1 45 = .ok (.iconst 1, 1) := dc9_4 (by decide +kernel)
theorem d_MU_multiply_46 : decode y_MU_multiply.2.1 46 = .ok (.goto 4, 3) := dc9_167 (by decide +kernel)
theorem d_MU_multiply_50 : decode y_MU_multiply.2.1 50 = .ok (.putfield 84, 3) := dc9_181 (by decide +kernel)
theorem d_MU_multiply_53 : decode y_MU_multiply.2.1 53 = .ok (.aload_n 0, 1) := dc9_42 (by decide +kernel)
theorem d_MU_multiply_54 : decode y_MU_multiply.2.1 54 = .ok (.getfield 14, 3) := dc9_180 (by decide +kernel)
theorem d_MU_multiply_57 : decode y_MU_multiply.2.1 57 = .ok (.getfield 81, 3) := dc9_180 (by decide +kernel)
theorem d_MU_multiply_60 : decode y_MU_multiply.2.1 60 = .ok (.aload_n 0, 1) := dc9_42 (by decide +kernel)
theorem d_MU_multiply_61 : decode y_MU_multiply.2.1 61 = .ok (.getfield 24, 3) := dc9_180 (by decide +kernel)
theorem d_MU_multiply_64 : decode y_MU_multiply.2.1 64 = .ok (.invokevirtual 78, 3) := dc9_182 (by decide +kernel)
theorem d_MU_multiply_67 : decode y_MU_multiply.2.1 67 = .ok (.aload_n 0, 1) := dc9_42 (by decide +kernel)
theorem d_MU_multiply_68 : decode y_MU_multiply.2.1 68 = .ok (.getfield 14, 3) := dc9_180 (by decide +kernel)
theorem d_MU_multiply_71 : decode y_MU_multiply.2.1 71 = .ok (.getfield 88, 3) := dc9_180 (by decide +kernel)
theorem d_MU_multiply_74 : decode y_MU_multiply.2.1 74 = .ok (.aload_n 0, 1) := dc9_42 (by decide +kernel)
theorem d_MU_multiply_75 : decode y_MU_multiply.2.1 75 = .ok (.getfield 28, 3) := dc9_180 (by decide +kernel)
theorem d_MU_multiply_78 : decode y_MU_multiply.2.1 78 = .ok (.invokevirtual 78, 3) := dc9_182 (by decide +kernel)
theorem d_MU_multiply_81 : decode y_MU_multiply.2.1 81 = .ok (.aload_n 0, 1) := dc9_42 (by decide +kernel)
theorem d_MU_multiply_82 : decode y_MU_multiply.2.1 82 = .ok (.invokevirtual 107, 3) := dc9_182 (by decide +kernel)
theorem d_MU_multiply_85 : decode y_MU_multiply.2.1 85 = .ok (.return_, 1) := dc9_177 (by decide +kernel)
theorem k_MU_multiply {G : mG} {d : Nat} {a0 : Nat} {a1 : Nat} {a2 : Nat} {M : mM} {Q : mM → Prop} (hO : mOk M)
    (h : mK M a0 = 18 ∧ mK M a1 = 19 ∧ mK M a2 = 19 ∧ mK M (mR M a0 2) = 20 ∧ Cv G y_MW_product d [vr (mR M a0 2), vr (mR M a1 0), vr (mR M a2 0)] M (fun M5 => mOk M5 ∧ (mK M5 a0 = 18 ∧ mK M5 a1 = 19 ∧ mK M5 a2 = 19 ∧ mK M5 (mR M5 a0 3) = 20 ∧ Cv G y_MW_product d [vr (mR M5 a0 3), vr (mR M5 a1 1), vr (mR M5 a2 1)] M5 (fun M12 => mOk M12 ∧ (mK M12 a0 = 18 ∧ mK M12 a1 = 19 ∧ mK M12 a2 = 19 ∧ ∀ v19 : Int, v19 = (if (mI M12 a1 2 = mI M12 a2 2) then 0 else 1) → mK M12 (mR M12 a0 0) = 19 ∧ ∀ M25, M25 = mUI M12 (mR M12 a0 0) 2 v19 → mK M25 (mR M25 a0 0) = 19 ∧ mK M25 (mR M25 (mR M25 a0 0) 0) = 20 ∧ Cv G y_MW_copy d [vr (mR M25 (mR M25 a0 0) 0), vr (mR M25 a0 2)] M25 (fun M29 => mOk M29 ∧ (mK M29 a0 = 18 ∧ mK M29 (mR M29 a0 0) = 19 ∧ mK M29 (mR M29 (mR M29 a0 0) 1) = 20 ∧ Cv G y_MW_copy d [vr (mR M29 (mR M29 a0 0) 1), vr (mR M29 a0 3)] M29 (fun M35 => mOk M35 ∧ (mK M35 a0 = 18 ∧ Cv G y_MU_settle d [vr a0] M35 (fun M39 => mOk M39 ∧ (Q M39))))))))))) :
    Cv G y_MU_multiply (d + 1) [vr a0, vr a1, vr a2] M Q := by
  refine wm_open (y := y_MU_multiply) rfl (Nat.le_of_ble_eq_true rfl) (L := [vr a0, vr a1, vr a2]) rfl ?_
  obtain ⟨h1, h⟩ := h
  obtain ⟨h2, h⟩ := h
  obtain ⟨h3, h⟩ := h
  obtain ⟨h4, h⟩ := h
  refine wm_aload_n d_MU_multiply_0 rfl rfl ?_
  refine gf_MU_24 rfl d_MU_multiply_1 h1 ?_
  refine wm_aload_n d_MU_multiply_4 rfl rfl ?_
  refine gf_MU_81 rfl d_MU_multiply_5 h2 ?_
  refine wm_aload_n d_MU_multiply_8 rfl rfl ?_
  refine gf_MU_81 rfl d_MU_multiply_9 h3 ?_
  refine cf_MU_101 rfl d_MU_multiply_12 h4 (Nat.le_of_ble_eq_true rfl) (Cv.mono h (fun M5 h => ?_))
  obtain ⟨hOM5, h⟩ := h
  obtain ⟨h8, h⟩ := h
  obtain ⟨h9, h⟩ := h
  obtain ⟨h10, h⟩ := h
  obtain ⟨h11, h⟩ := h
  refine wm_aload_n d_MU_multiply_15 rfl rfl ?_
  refine gf_MU_28 rfl d_MU_multiply_16 h8 ?_
  refine wm_aload_n d_MU_multiply_19 rfl rfl ?_
  refine gf_MU_88 rfl d_MU_multiply_20 h9 ?_
  refine wm_aload_n d_MU_multiply_23 rfl rfl ?_
  refine gf_MU_88 rfl d_MU_multiply_24 h10 ?_
  refine cf_MU_101 rfl d_MU_multiply_27 h11 (Nat.le_of_ble_eq_true rfl) (Cv.mono h (fun M12 h => ?_))
  obtain ⟨hOM12, h⟩ := h
  obtain ⟨h15, h⟩ := h
  obtain ⟨h16, h⟩ := h
  obtain ⟨h17, h⟩ := h
  refine wm_aload_n d_MU_multiply_30 rfl rfl ?_
  refine gf_MU_14 rfl d_MU_multiply_31 h15 ?_
  refine wm_aload_n d_MU_multiply_34 rfl rfl ?_
  refine gf_MU_84 rfl d_MU_multiply_35 h16 ?_
  refine wm_aload_n d_MU_multiply_38 rfl rfl ?_
  refine gf_MU_84 rfl d_MU_multiply_39 h17 ?_
  have hJ : ∀ v19 : Int, v19 = (if (mI M12 a1 2 = mI M12 a2 2) then 0 else 1) → mWm G y_MU_multiply (d + 1) 50 [vr a0, vd, vd] [vi v19, vr (mR M12 a0 0)] M12 (fun r9 M9 => r9 = none ∧ Q M9) := by
    intro v19 e21
    have h := h v19 e21
    have h22 : i32 v19 := by rw [e21]; (repeat' split) <;> first | exact ⟨by decide, by decide⟩ | exact ⟨by decide, by decide⟩
    have h23 : (v19 = 0 ∨ v19 = 1) := by rw [e21]; (repeat' split) <;> decide
    obtain ⟨h24, h⟩ := h
    obtain ⟨M25, e26⟩ : ∃ M25, M25 = mUI M12 (mR M12 a0 0) 2 v19 := ⟨_, rfl⟩
    replace h := h M25 e26
    obtain ⟨h27, h⟩ := h
    obtain ⟨h28, h⟩ := h
    have hOM25 : mOk M25 := by rw [e26]; exact mOk_UI hOM12 (m_b32 h23)
    refine pf_MU_84 rfl d_MU_multiply_50 h24 h23 e26 ?_
    refine wm_aload_n d_MU_multiply_53 rfl rfl ?_
    refine gf_MU_14 rfl d_MU_multiply_54 (by rw [e26]; exact h15) ?_
    refine gf_MU_81 rfl d_MU_multiply_57 h27 ?_
    refine wm_aload_n d_MU_multiply_60 rfl rfl ?_
    refine gf_MU_24 rfl d_MU_multiply_61 (by rw [e26]; exact h15) ?_
    refine cf_MU_78 rfl d_MU_multiply_64 h28 (Nat.le_of_ble_eq_true rfl) (Cv.mono h (fun M29 h => ?_))
    obtain ⟨hOM29, h⟩ := h
    obtain ⟨h32, h⟩ := h
    obtain ⟨h33, h⟩ := h
    obtain ⟨h34, h⟩ := h
    refine wm_aload_n d_MU_multiply_67 rfl rfl ?_
    refine gf_MU_14 rfl d_MU_multiply_68 h32 ?_
    refine gf_MU_88 rfl d_MU_multiply_71 h33 ?_
    refine wm_aload_n d_MU_multiply_74 rfl rfl ?_
    refine gf_MU_28 rfl d_MU_multiply_75 h32 ?_
    refine cf_MU_78 rfl d_MU_multiply_78 h34 (Nat.le_of_ble_eq_true rfl) (Cv.mono h (fun M35 h => ?_))
    obtain ⟨hOM35, h⟩ := h
    obtain ⟨h38, h⟩ := h
    refine wm_aload_n d_MU_multiply_81 rfl rfl ?_
    refine cf_MU_107 rfl d_MU_multiply_82 h38 (Nat.le_of_ble_eq_true rfl) (Cv.mono h (fun M39 h => ?_))
    obtain ⟨hOM39, h⟩ := h
    refine wm_return d_MU_multiply_85 rfl ?_
    exact ⟨rfl, h⟩
  clear h
  refine wm_icmp_eq (tgt := 49) d_MU_multiply_42 rfl (hOM12 _ _).1 (hOM12 _ _).1 (fun c18 => ?_) (fun c18 => ?_)
  · refine wm_iconst d_MU_multiply_49 ?_
    refine wm_less (L' := [vr a0, vd, vd]) ⟨Or.inr rfl, Or.inl rfl, Or.inl rfl, trivial⟩ ?_
    exact hJ 0 (if_pos c18).symm
  · refine wm_iconst d_MU_multiply_45 ?_
    refine wm_goto (tgt := 50) d_MU_multiply_46 rfl ?_
    refine wm_less (L' := [vr a0, vd, vd]) ⟨Or.inr rfl, Or.inl rfl, Or.inl rfl, trivial⟩ ?_
    exact hJ 1 (if_neg c18).symm
theorem d_MU_divide1_0 : decode y_MU_divide1.2.1 0 = .ok (.aload_n 0, 1) := dc9_42 (by decide +kernel)
theorem d_MU_divide1_1 : decode y_MU_divide1.2.1 1 = .ok (.getfield 24, 3) := dc9_180 (by decide +kernel)
theorem d_MU_divide1_4 : decode y_MU_divide1.2.1 4 = .ok (.aload_n 1, 1) := dc9_43 (by decide +kernel)
theorem d_MU_divide1_5 : decode y_MU_divide1.2.1 5 = .ok (.getfield 81, 3) := dc9_180 (by decide +kernel)
theorem d_MU_divide1_8 : decode y_MU_divide1.2.1 8 = .ok (.aload_n 2, 1) := dc9_44 (by decide +kernel)
theorem d_MU_divide1_9 : decode y_MU_divide1.2.1 9 = .ok (.getfield 88, 3) := dc9_180 (by decide +kernel)
theorem d_MU_divide1_12 : decode y_MU_divide1.2.1 12 = .ok (.invokevirtual 101, 3) := dc9_182 (by decide +kernel)
theorem d_MU_divide1_15 : decode y_MU_divide1.2.1 15 = .ok (.aload_n 0, 1) := dc9_42 (by decide +kernel)
theorem d_MU_divide1_16 : decode y_MU_divide1.2.1 16 = .ok (.getfield 28, 3) := dc9_180 (by decide +kernel)
theorem d_MU_divide1_19 : decode y_MU_divide1.2.1 19 = .ok (.aload_n 1, 1) := dc9_43 (by decide +kernel)
theorem d_MU_divide1_20 : decode y_MU_divide1.2.1 20 = .ok (.getfield 88, 3) := dc9_180 (by decide +kernel)
theorem d_MU_divide1_23 : decode y_MU_divide1.2.1 23 = .ok (.aload_n 2, 1) := dc9_44 (by decide +kernel)
theorem d_MU_divide1_24 : decode y_MU_divide1.2.1 24 = .ok (.getfield 81, 3) := dc9_180 (by decide +kernel)
theorem d_MU_divide1_27 : decode y_MU_divide1.2.1 27 = .ok (.invokevirtual 101, 3) := dc9_182 (by decide +kernel)
theorem d_MU_divide1_30 : decode y_MU_divide1.2.1 30 = .ok (.aload_n 0, 1) := dc9_42 (by decide +kernel)
theorem d_MU_divide1_31 : decode y_MU_divide1.2.1 31 = .ok (.getfield 14, 3) := dc9_180 (by decide +kernel)
theorem d_MU_divide1_34 : decode y_MU_divide1.2.1 34 = .ok (.aload_n 1, 1) := dc9_43 (by decide +kernel)
theorem d_MU_divide1_35 : decode y_MU_divide1.2.1 35 = .ok (.getfield 84, 3) := dc9_180 (by decide +kernel)
theorem d_MU_divide1_38 : decode y_MU_divide1.2.1 38 = .ok (.aload_n 2, 1) := dc9_44 (by decide +kernel)
theorem d_MU_divide1_39 : decode y_MU_divide1.2.1 39 = .ok (.getfield 84, 3) := dc9_180 (by decide +kernel)
theorem d_MU_divide1_42 : decode y_MU_divide1.2.1 42 = .ok (.if_icmp .eq 7, 3) := dc9_159 (by decide +kernel)
theorem d_MU_divide1_49 : decode y_MU_divide1.2.1 49 = .ok (.iconst 0, 1) := dc9_3 (by decide +kernel)
theorem d_MU_divide1_45 : decode y_MU_divide1.2.1 45 = .ok (.iconst 1, 1) := dc9_4 (by decide +kernel)
theorem d_MU_divide1_46 : decode y_MU_divide1.2.1 46 = .ok (.goto 4, 3) := dc9_167 (by decide +kernel)
theorem d_MU_divide1_50 : decode y_MU_divide1.2.1 50 = .ok (.putfield 84, 3) := dc9_181 (by decide +kernel)
theorem d_MU_divide1_53 : decode y_MU_divide1.2.1 53 = .ok (.aload_n 0, 1) := dc9_42 (by decide +kernel)
theorem d_MU_divide1_54 : decode y_MU_divide1.2.1 54 = .ok (.getfield 14, 3) := dc9_180 (by decide +kernel)
theorem d_MU_divide1_57 : decode y_MU_divide1.2.1 57 = .ok (.getfield 81, 3) := dc9_180 (by decide +kernel)
theorem d_MU_divide1_60 : decode y_MU_divide1.2.1 60 = .ok (.aload_n 0, 1) := dc9_42 (by decide +kernel)
theorem d_MU_divide1_61 : decode y_MU_divide1.2.1 61 = .ok (.getfield 24, 3) := dc9_180 (by decide +kernel)
theorem d_MU_divide1_64 : decode y_MU_divide1.2.1 64 = .ok (.invokevirtual 78, 3) := dc9_182 (by decide +kernel)
theorem d_MU_divide1_67 : decode y_MU_divide1.2.1 67 = .ok (.aload_n 0, 1) := dc9_42 (by decide +kernel)
theorem d_MU_divide1_68 : decode y_MU_divide1.2.1 68 = .ok (.getfield 14, 3) := dc9_180 (by decide +kernel)
theorem d_MU_divide1_71 : decode y_MU_divide1.2.1 71 = .ok (.getfield 88, 3) := dc9_180 (by decide +kernel)
theorem d_MU_divide1_74 : decode y_MU_divide1.2.1 74 = .ok (.aload_n 0, 1) := dc9_42 (by decide +kernel)
theorem d_MU_divide1_75 : decode y_MU_divide1.2.1 75 = .ok (.getfield 28, 3) := dc9_180 (by decide +kernel)
theorem d_MU_divide1_78 : decode y_MU_divide1.2.1 78 = .ok (.invokevirtual 78, 3) := dc9_182 (by decide +kernel)
theorem d_MU_divide1_81 : decode y_MU_divide1.2.1 81 = .ok (.aload_n 0, 1) := dc9_42 (by decide +kernel)
theorem d_MU_divide1_82 : decode y_MU_divide1.2.1 82 = .ok (.invokevirtual 107, 3) := dc9_182 (by decide +kernel)
theorem d_MU_divide1_85 : decode y_MU_divide1.2.1 85 = .ok (.return_, 1) := dc9_177 (by decide +kernel)
theorem k_MU_divide1 {G : mG} {d : Nat} {a0 : Nat} {a1 : Nat} {a2 : Nat} {M : mM} {Q : mM → Prop} (hO : mOk M)
    (h : mK M a0 = 18 ∧ mK M a1 = 19 ∧ mK M a2 = 19 ∧ mK M (mR M a0 2) = 20 ∧ Cv G y_MW_product d [vr (mR M a0 2), vr (mR M a1 0), vr (mR M a2 1)] M (fun M5 => mOk M5 ∧ (mK M5 a0 = 18 ∧ mK M5 a1 = 19 ∧ mK M5 a2 = 19 ∧ mK M5 (mR M5 a0 3) = 20 ∧ Cv G y_MW_product d [vr (mR M5 a0 3), vr (mR M5 a1 1), vr (mR M5 a2 0)] M5 (fun M12 => mOk M12 ∧ (mK M12 a0 = 18 ∧ mK M12 a1 = 19 ∧ mK M12 a2 = 19 ∧ ∀ v19 : Int, v19 = (if (mI M12 a1 2 = mI M12 a2 2) then 0 else 1) → mK M12 (mR M12 a0 0) = 19 ∧ ∀ M25, M25 = mUI M12 (mR M12 a0 0) 2 v19 → mK M25 (mR M25 a0 0) = 19 ∧ mK M25 (mR M25 (mR M25 a0 0) 0) = 20 ∧ Cv G y_MW_copy d [vr (mR M25 (mR M25 a0 0) 0), vr (mR M25 a0 2)] M25 (fun M29 => mOk M29 ∧ (mK M29 a0 = 18 ∧ mK M29 (mR M29 a0 0) = 19 ∧ mK M29 (mR M29 (mR M29 a0 0) 1) = 20 ∧ Cv G y_MW_copy d [vr (mR M29 (mR M29 a0 0) 1), vr (mR M29 a0 3)] M29 (fun M35 => mOk M35 ∧ (mK M35 a0 = 18 ∧ Cv G y_MU_settle d [vr a0] M35 (fun M39 => mOk M39 ∧ (Q M39))))))))))) :
    Cv G y_MU_divide1 (d + 1) [vr a0, vr a1, vr a2] M Q := by
  refine wm_open (y := y_MU_divide1) rfl (Nat.le_of_ble_eq_true rfl) (L := [vr a0, vr a1, vr a2]) rfl ?_
  obtain ⟨h1, h⟩ := h
  obtain ⟨h2, h⟩ := h
  obtain ⟨h3, h⟩ := h
  obtain ⟨h4, h⟩ := h
  refine wm_aload_n d_MU_divide1_0 rfl rfl ?_
  refine gf_MU_24 rfl d_MU_divide1_1 h1 ?_
  refine wm_aload_n d_MU_divide1_4 rfl rfl ?_
  refine gf_MU_81 rfl d_MU_divide1_5 h2 ?_
  refine wm_aload_n d_MU_divide1_8 rfl rfl ?_
  refine gf_MU_88 rfl d_MU_divide1_9 h3 ?_
  refine cf_MU_101 rfl d_MU_divide1_12 h4 (Nat.le_of_ble_eq_true rfl) (Cv.mono h (fun M5 h => ?_))
  obtain ⟨hOM5, h⟩ := h
  obtain ⟨h8, h⟩ := h
  obtain ⟨h9, h⟩ := h
  obtain ⟨h10, h⟩ := h
  obtain ⟨h11, h⟩ := h
  refine wm_aload_n d_MU_divide1_15 rfl rfl ?_
  refine gf_MU_28 rfl d_MU_divide1_16 h8 ?_
  refine wm_aload_n d_MU_divide1_19 rfl rfl ?_
  refine gf_MU_88 rfl d_MU_divide1_20 h9 ?_
  refine wm_aload_n d_MU_divide1_23 rfl rfl ?_
  refine gf_MU_81 rfl d_MU_divide1_24 h10 ?_
  refine cf_MU_101 rfl d_MU_divide1_27 h11 (Nat.le_of_ble_eq_true rfl) (Cv.mono h (fun M12 h => ?_))
  obtain ⟨hOM12, h⟩ := h
  obtain ⟨h15, h⟩ := h
  obtain ⟨h16, h⟩ := h
  obtain ⟨h17, h⟩ := h
  refine wm_aload_n d_MU_divide1_30 rfl rfl ?_
  refine gf_MU_14 rfl d_MU_divide1_31 h15 ?_
  refine wm_aload_n d_MU_divide1_34 rfl rfl ?_
  refine gf_MU_84 rfl d_MU_divide1_35 h16 ?_
  refine wm_aload_n d_MU_divide1_38 rfl rfl ?_
  refine gf_MU_84 rfl d_MU_divide1_39 h17 ?_
  have hJ : ∀ v19 : Int, v19 = (if (mI M12 a1 2 = mI M12 a2 2) then 0 else 1) → mWm G y_MU_divide1 (d + 1) 50 [vr a0, vd, vd] [vi v19, vr (mR M12 a0 0)] M12 (fun r9 M9 => r9 = none ∧ Q M9) := by
    intro v19 e21
    have h := h v19 e21
    have h22 : i32 v19 := by rw [e21]; (repeat' split) <;> first | exact ⟨by decide, by decide⟩ | exact ⟨by decide, by decide⟩
    have h23 : (v19 = 0 ∨ v19 = 1) := by rw [e21]; (repeat' split) <;> decide
    obtain ⟨h24, h⟩ := h
    obtain ⟨M25, e26⟩ : ∃ M25, M25 = mUI M12 (mR M12 a0 0) 2 v19 := ⟨_, rfl⟩
    replace h := h M25 e26
    obtain ⟨h27, h⟩ := h
    obtain ⟨h28, h⟩ := h
    have hOM25 : mOk M25 := by rw [e26]; exact mOk_UI hOM12 (m_b32 h23)
    refine pf_MU_84 rfl d_MU_divide1_50 h24 h23 e26 ?_
    refine wm_aload_n d_MU_divide1_53 rfl rfl ?_
    refine gf_MU_14 rfl d_MU_divide1_54 (by rw [e26]; exact h15) ?_
    refine gf_MU_81 rfl d_MU_divide1_57 h27 ?_
    refine wm_aload_n d_MU_divide1_60 rfl rfl ?_
    refine gf_MU_24 rfl d_MU_divide1_61 (by rw [e26]; exact h15) ?_
    refine cf_MU_78 rfl d_MU_divide1_64 h28 (Nat.le_of_ble_eq_true rfl) (Cv.mono h (fun M29 h => ?_))
    obtain ⟨hOM29, h⟩ := h
    obtain ⟨h32, h⟩ := h
    obtain ⟨h33, h⟩ := h
    obtain ⟨h34, h⟩ := h
    refine wm_aload_n d_MU_divide1_67 rfl rfl ?_
    refine gf_MU_14 rfl d_MU_divide1_68 h32 ?_
    refine gf_MU_88 rfl d_MU_divide1_71 h33 ?_
    refine wm_aload_n d_MU_divide1_74 rfl rfl ?_
    refine gf_MU_28 rfl d_MU_divide1_75 h32 ?_
    refine cf_MU_78 rfl d_MU_divide1_78 h34 (Nat.le_of_ble_eq_true rfl) (Cv.mono h (fun M35 h => ?_))
    obtain ⟨hOM35, h⟩ := h
    obtain ⟨h38, h⟩ := h
    refine wm_aload_n d_MU_divide1_81 rfl rfl ?_
    refine cf_MU_107 rfl d_MU_divide1_82 h38 (Nat.le_of_ble_eq_true rfl) (Cv.mono h (fun M39 h => ?_))
    obtain ⟨hOM39, h⟩ := h
    refine wm_return d_MU_divide1_85 rfl ?_
    exact ⟨rfl, h⟩
  clear h
  refine wm_icmp_eq (tgt := 49) d_MU_divide1_42 rfl (hOM12 _ _).1 (hOM12 _ _).1 (fun c18 => ?_) (fun c18 => ?_)
  · refine wm_iconst d_MU_divide1_49 ?_
    refine wm_less (L' := [vr a0, vd, vd]) ⟨Or.inr rfl, Or.inl rfl, Or.inl rfl, trivial⟩ ?_
    exact hJ 0 (if_pos c18).symm
  · refine wm_iconst d_MU_divide1_45 ?_
    refine wm_goto (tgt := 50) d_MU_divide1_46 rfl ?_
    refine wm_less (L' := [vr a0, vd, vd]) ⟨Or.inr rfl, Or.inl rfl, Or.inl rfl, trivial⟩ ?_
    exact hJ 1 (if_neg c18).symm
theorem d_MU_compare_0 : decode y_MU_compare.2.1 0 = .ok (.aload_n 0, 1) := dc9_42 (by decide +kernel)
theorem d_MU_compare_1 : decode y_MU_compare.2.1 1 = .ok (.getfield 24, 3) := dc9_180 (by decide +kernel)
theorem d_MU_compare_4 : decode y_MU_compare.2.1 4 = .ok (.aload_n 1, 1) := dc9_43 (by decide +kernel)
theorem d_MU_compare_5 : decode y_MU_compare.2.1 5 = .ok (.getfield 81, 3) := dc9_180 (by decide +kernel)
theorem d_MU_compare_8 : decode y_MU_compare.2.1 8 = .ok (.aload_n 2, 1) := dc9_44 (by decide +kernel)
theorem d_MU_compare_9 : decode y_MU_compare.2.1 9 = .ok (.getfield 88, 3) := dc9_180 (by decide +kernel)
theorem d_MU_compare_12 : decode y_MU_compare.2.1 12 = .ok (.invokevirtual 101, 3) := dc9_182 (by decide +kernel)
theorem d_MU_compare_15 : decode y_MU_compare.2.1 15 = .ok (.aload_n 0, 1) := dc9_42 (by decide +kernel)
theorem d_MU_compare_16 : decode y_MU_compare.2.1 16 = .ok (.getfield 28, 3) := dc9_180 (by decide +kernel)
theorem d_MU_compare_19 : decode y_MU_compare.2.1 19 = .ok (.aload_n 2, 1) := dc9_44 (by decide +kernel)
theorem d_MU_compare_20 : decode y_MU_compare.2.1 20 = .ok (.getfield 81, 3) := dc9_180 (by decide +kernel)
theorem d_MU_compare_23 : decode y_MU_compare.2.1 23 = .ok (.aload_n 1, 1) := dc9_43 (by decide +kernel)
theorem d_MU_compare_24 : decode y_MU_compare.2.1 24 = .ok (.getfield 88, 3) := dc9_180 (by decide +kernel)
theorem d_MU_compare_27 : decode y_MU_compare.2.1 27 = .ok (.invokevirtual 101, 3) := dc9_182 (by decide +kernel)
theorem d_MU_compare_30 : decode y_MU_compare.2.1 30 = .ok (.aload_n 0, 1) := dc9_42 (by decide +kernel)
theorem d_MU_compare_31 : decode y_MU_compare.2.1 31 = .ok (.getfield 24, 3) := dc9_180 (by decide +kernel)
theorem d_MU_compare_34 : decode y_MU_compare.2.1 34 = .ok (.aload_n 0, 1) := dc9_42 (by decide +kernel)
theorem d_MU_compare_35 : decode y_MU_compare.2.1 35 = .ok (.getfield 28, 3) := dc9_180 (by decide +kernel)
theorem d_MU_compare_38 : decode y_MU_compare.2.1 38 = .ok (.invokevirtual 64, 3) := dc9_182 (by decide +kernel)
theorem d_MU_compare_41 : decode y_MU_compare.2.1 41 = .ok (.ireturn, 1) := dc9_172 (by decide +kernel)
theorem k_MU_compare {G : mG} {d : Nat} {a0 : Nat} {a1 : Nat} {a2 : Nat} {M : mM} {Q : Int → mM → Prop} (hO : mOk M)
    (h : mK M a0 = 18 ∧ mK M a1 = 19 ∧ mK M a2 = 19 ∧ mK M (mR M a0 2) = 20 ∧ Cv G y_MW_product d [vr (mR M a0 2), vr (mR M a1 0), vr (mR M a2 1)] M (fun M5 => mOk M5 ∧ (mK M5 a0 = 18 ∧ mK M5 a2 = 19 ∧ mK M5 a1 = 19 ∧ mK M5 (mR M5 a0 3) = 20 ∧ Cv G y_MW_product d [vr (mR M5 a0 3), vr (mR M5 a2 0), vr (mR M5 a1 1)] M5 (fun M12 => mOk M12 ∧ (mK M12 a0 = 18 ∧ mK M12 (mR M12 a0 2) = 20 ∧ Ci G y_MW_compare d [vr (mR M12 a0 2), vr (mR M12 a0 3)] M12 (fun x18 M17 => i32 x18 ∧ mOk M17 ∧ (Q x18 M17))))))) :
    Ci G y_MU_compare (d + 1) [vr a0, vr a1, vr a2] M Q := by
  refine wm_open (y := y_MU_compare) rfl (Nat.le_of_ble_eq_true rfl) (L := [vr a0, vr a1, vr a2]) rfl ?_
  obtain ⟨h1, h⟩ := h
  obtain ⟨h2, h⟩ := h
  obtain ⟨h3, h⟩ := h
  obtain ⟨h4, h⟩ := h
  refine wm_aload_n d_MU_compare_0 rfl rfl ?_
  refine gf_MU_24 rfl d_MU_compare_1 h1 ?_
  refine wm_aload_n d_MU_compare_4 rfl rfl ?_
  refine gf_MU_81 rfl d_MU_compare_5 h2 ?_
  refine wm_aload_n d_MU_compare_8 rfl rfl ?_
  refine gf_MU_88 rfl d_MU_compare_9 h3 ?_
  refine cf_MU_101 rfl d_MU_compare_12 h4 (Nat.le_of_ble_eq_true rfl) (Cv.mono h (fun M5 h => ?_))
  obtain ⟨hOM5, h⟩ := h
  obtain ⟨h8, h⟩ := h
  obtain ⟨h9, h⟩ := h
  obtain ⟨h10, h⟩ := h
  obtain ⟨h11, h⟩ := h
  refine wm_aload_n d_MU_compare_15 rfl rfl ?_
  refine gf_MU_28 rfl d_MU_compare_16 h8 ?_
  refine wm_aload_n d_MU_compare_19 rfl rfl ?_
  refine gf_MU_81 rfl d_MU_compare_20 h9 ?_
  refine wm_aload_n d_MU_compare_23 rfl rfl ?_
  refine gf_MU_88 rfl d_MU_compare_24 h10 ?_
  refine cf_MU_101 rfl d_MU_compare_27 h11 (Nat.le_of_ble_eq_true rfl) (Cv.mono h (fun M12 h => ?_))
  obtain ⟨hOM12, h⟩ := h
  obtain ⟨h15, h⟩ := h
  obtain ⟨h16, h⟩ := h
  refine wm_aload_n d_MU_compare_30 rfl rfl ?_
  refine gf_MU_24 rfl d_MU_compare_31 h15 ?_
  refine wm_aload_n d_MU_compare_34 rfl rfl ?_
  refine gf_MU_28 rfl d_MU_compare_35 h15 ?_
  refine cf_MU_64 rfl d_MU_compare_38 h16 (Nat.le_of_ble_eq_true rfl) (Ci.mono h (fun x18 M17 h => ?_))
  obtain ⟨h19, hOM17, h⟩ := h
  refine wm_ireturn d_MU_compare_41 rfl rfl ?_
  exact ⟨_, rfl, h⟩
theorem d_MU_billionths_0 : decode y_MU_billionths.2.1 0 = .ok (.aload_n 0, 1) := dc9_42 (by decide +kernel)
theorem d_MU_billionths_1 : decode y_MU_billionths.2.1 1 = .ok (.getfield 28, 3) := dc9_180 (by decide +kernel)
theorem d_MU_billionths_4 : decode y_MU_billionths.2.1 4 = .ok (.ldc2_w 110, 3) := dc9_20 (by decide +kernel)
theorem d_MU_billionths_7 : decode y_MU_billionths.2.1 7 = .ok (.invokevirtual 44, 3) := dc9_182 (by decide +kernel)
theorem d_MU_billionths_10 : decode y_MU_billionths.2.1 10 = .ok (.aload_n 0, 1) := dc9_42 (by decide +kernel)
theorem d_MU_billionths_11 : decode y_MU_billionths.2.1 11 = .ok (.getfield 24, 3) := dc9_180 (by decide +kernel)
theorem d_MU_billionths_14 : decode y_MU_billionths.2.1 14 = .ok (.aload_n 1, 1) := dc9_43 (by decide +kernel)
theorem d_MU_billionths_15 : decode y_MU_billionths.2.1 15 = .ok (.getfield 81, 3) := dc9_180 (by decide +kernel)
theorem d_MU_billionths_18 : decode y_MU_billionths.2.1 18 = .ok (.aload_n 0, 1) := dc9_42 (by decide +kernel)
theorem d_MU_billionths_19 : decode y_MU_billionths.2.1 19 = .ok (.getfield 28, 3) := dc9_180 (by decide +kernel)
theorem d_MU_billionths_22 : decode y_MU_billionths.2.1 22 = .ok (.invokevirtual 101, 3) := dc9_182 (by decide +kernel)
theorem d_MU_billionths_25 : decode y_MU_billionths.2.1 25 = .ok (.aload_n 0, 1) := dc9_42 (by decide +kernel)
theorem d_MU_billionths_26 : decode y_MU_billionths.2.1 26 = .ok (.aload_n 0, 1) := dc9_42 (by decide +kernel)
theorem d_MU_billionths_27 : decode y_MU_billionths.2.1 27 = .ok (.getfield 24, 3) := dc9_180 (by decide +kernel)
theorem d_MU_billionths_30 : decode y_MU_billionths.2.1 30 = .ok (.aload_n 1, 1) := dc9_43 (by decide +kernel)
theorem d_MU_billionths_31 : decode y_MU_billionths.2.1 31 = .ok (.getfield 88, 3) := dc9_180 (by decide +kernel)
theorem d_MU_billionths_34 : decode y_MU_billionths.2.1 34 = .ok (.invokevirtual 97, 3) := dc9_182 (by decide +kernel)
theorem d_MU_billionths_37 : decode y_MU_billionths.2.1 37 = .ok (.lconst 0, 1) := dc9_9 (by decide +kernel)
theorem d_MU_billionths_38 : decode y_MU_billionths.2.1 38 = .ok (.lstore_n 2, 1) := dc9_65 (by decide +kernel)
theorem d_MU_billionths_39 : decode y_MU_billionths.2.1 39 = .ok (.aload_n 0, 1) := dc9_42 (by decide +kernel)
theorem d_MU_billionths_40 : decode y_MU_billionths.2.1 40 = .ok (.getfield 34, 3) := dc9_180 (by decide +kernel)
theorem d_MU_billionths_43 : decode y_MU_billionths.2.1 43 = .ok (.invokevirtual 52, 3) := dc9_182 (by decide +kernel)
theorem d_MU_billionths_46 : decode y_MU_billionths.2.1 46 = .ok (.iconst 1, 1) := dc9_4 (by decide +kernel)
theorem d_MU_billionths_47 : decode y_MU_billionths.2.1 47 = .ok (.isub, 1) := dc9_100 (by decide +kernel)
theorem d_MU_billionths_48 : decode y_MU_billionths.2.1 48 = .ok (.istore 4, 2) := dc9_54 (by decide +kernel)
theorem d_MU_billionths_50 : decode y_MU_billionths.2.1 50 = .ok (.iload 4, 2) := dc9_21 (by decide +kernel)
theorem d_MU_billionths_52 : decode y_MU_billionths.2.1 52 = .ok (.ifCond .lt 33, 3) := dc9_155 (by decide +kernel)
theorem d_MU_billionths_85 : decode y_MU_billionths.2.1 85 = .ok (.lload_n 2, 1) := dc9_32 (by decide +kernel)
theorem d_MU_billionths_86 : decode y_MU_billionths.2.1 86 = .ok (.l2i, 1) := dc9_136 (by decide +kernel)
theorem d_MU_billionths_87 : decode y_MU_billionths.2.1 87 = .ok (.ireturn, 1) := dc9_172 (by decide +kernel)
theorem d_MU_billionths_55 : decode y_MU_billionths.2.1 55 = .ok (.ldc2_w 112, 3) := dc9_20 (by decide +kernel)
theorem d_MU_billionths_58 : decode y_MU_billionths.2.1 58 = .ok (.lload_n 2, 1) := dc9_32 (by decide +kernel)
theorem d_MU_billionths_59 : decode y_MU_billionths.2.1 59 = .ok (.lmul, 1) := dc9_105 (by decide +kernel)
theorem d_MU_billionths_60 : decode y_MU_billionths.2.1 60 = .ok (.aload_n 0, 1) := dc9_42 (by decide +kernel)
theorem d_MU_billionths_61 : decode y_MU_billionths.2.1 61 = .ok (.getfield 34, 3) := dc9_180 (by decide +kernel)
theorem d_MU_billionths_64 : decode y_MU_billionths.2.1 64 = .ok (.iload 4, 2) := dc9_21 (by decide +kernel)
theorem d_MU_billionths_66 : decode y_MU_billionths.2.1 66 = .ok (.invokevirtual 56, 3) := dc9_182 (by decide +kernel)
theorem d_MU_billionths_69 : decode y_MU_billionths.2.1 69 = .ok (.ifCond .eq 7, 3) := dc9_153 (by decide +kernel)
theorem d_MU_billionths_76 : decode y_MU_billionths.2.1 76 = .ok (.lconst 0, 1) := dc9_9 (by decide +kernel)
theorem d_MU_billionths_72 : decode y_MU_billionths.2.1 72 = .ok (.lconst 1, 1) := dc9_10 (by decide +kernel)
theorem d_MU_billionths_73 : decode y_MU_billionths.2.1 73 = .ok (.goto 4, 3) := dc9_167 (by decide +kernel)
theorem d_MU_billionths_77 : decode y_MU_billionths.2.1 77 = .ok (.ladd, 1) := dc9_97 (by decide +kernel)
theorem d_MU_billionths_78 : decode y_MU_billionths.2.1 78 = .ok (.lstore_n 2, 1) := dc9_65 (by decide +kernel)
theorem d_MU_billionths_79 : decode y_MU_billionths.2.1 79 = .ok (.iinc 4 (-1), 3) := by decide +kernel
theorem d_MU_billionths_82 : decode y_MU_billionths.2.1 82 = .ok (.goto (-32), 3) := dc9_167 (by decide +kernel)
def h_MU_billionths_50 (G : mG) (d : Nat) (a0 : Nat) (j2 : Int) (l4 : Int) (M : mM) (Q : Int → mM → Prop) : Prop := mWm G y_MU_billionths (d + 1) 50 [vr a0, vd, vl j2, vd, vi l4] [] M (fun r9 M9 => ∃ x9, r9 = some (vi x9) ∧ Q x9 M9)
theorem k_MU_billionths {G : mG} {d : Nat} {a0 : Nat} {a1 : Nat} {M : mM} {Q : Int → mM → Prop} (hO : mOk M)
    (h : mK M a0 = 18 ∧ mK M (mR M a0 3) = 20 ∧ Cv G y_MW_set d [vr (mR M a0 3), vl 1000000000] M (fun M3 => mOk M3 ∧ (mK M3 a0 = 18 ∧ mK M3 a1 = 19 ∧ mK M3 (mR M3 a0 2) = 20 ∧ Cv G y_MW_product d [vr (mR M3 a0 2), vr (mR M3 a1 0), vr (mR M3 a0 3)] M3 (fun M9 => mOk M9 ∧ (mK M9 a0 = 18 ∧ mK M9 a1 = 19 ∧ Cv G y_MU_divide0 d [vr a0, vr (mR M9 a0 2), vr (mR M9 a1 1)] M9 (fun M14 => mOk M14 ∧ (mK M14 a0 = 18 ∧ mK M14 (mR M14 a0 5) = 20 ∧ Ci G y_MW_places d [vr (mR M14 a0 5)] M14 (fun x20 M19 => i32 x20 ∧ mOk M19 ∧ (h_MU_billionths_50 G d a0 0 (x20 - 1) M19 Q))))))))) :
    Ci G y_MU_billionths (d + 1) [vr a0, vr a1] M Q := by
  refine wm_open (y := y_MU_billionths) rfl (Nat.le_of_ble_eq_true rfl) (L := [vr a0, vr a1, vd, vd, vd]) rfl ?_
  obtain ⟨h1, h⟩ := h
  obtain ⟨h2, h⟩ := h
  refine wm_aload_n d_MU_billionths_0 rfl rfl ?_
  refine gf_MU_28 rfl d_MU_billionths_1 h1 ?_
  refine wm_ldc2 (x := 1000000000) d_MU_billionths_4 k13_236 (by decide) ?_
  refine cf_MU_44 rfl d_MU_billionths_7 h2 (Nat.le_of_ble_eq_true rfl) (Cv.mono h (fun M3 h => ?_))
  obtain ⟨hOM3, h⟩ := h
  obtain ⟨h6, h⟩ := h
  obtain ⟨h7, h⟩ := h
  obtain ⟨h8, h⟩ := h
  refine wm_aload_n d_MU_billionths_10 rfl rfl ?_
  refine gf_MU_24 rfl d_MU_billionths_11 h6 ?_
  refine wm_aload_n d_MU_billionths_14 rfl rfl ?_
  refine gf_MU_81 rfl d_MU_billionths_15 h7 ?_
  refine wm_aload_n d_MU_billionths_18 rfl rfl ?_
  refine gf_MU_28 rfl d_MU_billionths_19 h6 ?_
  refine cf_MU_101 rfl d_MU_billionths_22 h8 (Nat.le_of_ble_eq_true rfl) (Cv.mono h (fun M9 h => ?_))
  obtain ⟨hOM9, h⟩ := h
  obtain ⟨h12, h⟩ := h
  obtain ⟨h13, h⟩ := h
  refine wm_aload_n d_MU_billionths_25 rfl rfl ?_
  refine wm_aload_n d_MU_billionths_26 rfl rfl ?_
  refine gf_MU_24 rfl d_MU_billionths_27 h12 ?_
  refine wm_aload_n d_MU_billionths_30 rfl rfl ?_
  refine gf_MU_88 rfl d_MU_billionths_31 h13 ?_
  refine cf_MU_97 rfl d_MU_billionths_34 h12 (Nat.le_of_ble_eq_true rfl) (Cv.mono h (fun M14 h => ?_))
  obtain ⟨hOM14, h⟩ := h
  obtain ⟨h17, h⟩ := h
  obtain ⟨h18, h⟩ := h
  refine wm_lconst (x := 0) d_MU_billionths_37 rfl ?_
  refine wm_lstore_n d_MU_billionths_38 rfl (by decide) (L' := [vr a0, vr a1, vl 0, vd, vd]) rfl ?_
  refine wm_aload_n d_MU_billionths_39 rfl rfl ?_
  refine gf_MU_34 rfl d_MU_billionths_40 h17 ?_
  refine cf_MU_52 rfl d_MU_billionths_43 h18 (Nat.le_of_ble_eq_true rfl) (Ci.mono h (fun x20 M19 h => ?_))
  obtain ⟨h21, hOM19, h⟩ := h
  refine wm_iconst d_MU_billionths_46 ?_
  refine wm_isub d_MU_billionths_47 ?_
  refine wm_istore d_MU_billionths_48 (by decide) (L' := [vr a0, vr a1, vl 0, vd, vi (x20 - 1)]) rfl ?_
  refine wm_less (L' := [vr a0, vd, vl 0, vd, vi (x20 - 1)]) ⟨Or.inr rfl, Or.inl rfl, Or.inr rfl, Or.inl rfl, Or.inr rfl, trivial⟩ ?_
  exact h
theorem k_MU_billionths_50 {G : mG} {d : Nat} {a0 : Nat} {j2 : Int} {l4 : Int} {M : mM} {Q : Int → mM → Prop} (hO : mOk M) (hi_j2 : i64 j2) (hi_l4 : i32 l4)
    (h : ((l4 < 0) → (Q j2 M)) ∧ (¬ (l4 < 0) → (mK M a0 = 18 ∧ mK M (mR M a0 5) = 20 ∧ Ci G y_MW_bit d [vr (mR M a0 5), vi l4] M (fun x27 M26 => i32 x27 ∧ mOk M26 ∧ (∀ v30 : Int, v30 = (if (x27 = 0) then 0 else 1) → h_MU_billionths_50 G d a0 ((2 * j2) + v30) (l4 + (-1)) M26 Q))))) :
    h_MU_billionths_50 G d a0 j2 l4 M Q := by
  unfold h_MU_billionths_50
  refine wm_iload d_MU_billionths_50 rfl ?_
  refine wm_if_lt (tgt := 85) d_MU_billionths_52 rfl hi_l4 (fun c23 => ?_) (fun c23 => ?_)
  · replace h := h.1 c23
    refine wm_lload_n d_MU_billionths_85 rfl rfl ?_
    refine wm_l2i d_MU_billionths_86 ?_
    refine wm_ireturn d_MU_billionths_87 rfl rfl ?_
    exact ⟨_, rfl, h⟩
  · replace h := h.2 c23
    obtain ⟨h24, h⟩ := h
    obtain ⟨h25, h⟩ := h
    refine wm_ldc2 (x := 2) d_MU_billionths_55 k13_237 (by decide) ?_
    refine wm_lload_n d_MU_billionths_58 rfl rfl ?_
    refine wm_lmul d_MU_billionths_59 ?_
    refine wm_aload_n d_MU_billionths_60 rfl rfl ?_
    refine gf_MU_34 rfl d_MU_billionths_61 h24 ?_
    refine wm_iload d_MU_billionths_64 rfl ?_
    refine cf_MU_56 rfl d_MU_billionths_66 h25 (Nat.le_of_ble_eq_true rfl) (Ci.mono h (fun x27 M26 h => ?_))
    obtain ⟨h28, hOM26, h⟩ := h
    have hJ : ∀ v30 : Int, v30 = (if (x27 = 0) then 0 else 1) → mWm G y_MU_billionths (d + 1) 77 [vr a0, vd, vd, vd, vi l4] [vl v30, vl (2 * j2)] M26 (fun r9 M9 => ∃ x9, r9 = some (vi x9) ∧ Q x9 M9) := by
      intro v30 e32
      have h := h v30 e32
      have h33 : (v30 = 0 ∨ v30 = 1) := by rw [e32]; (repeat' split) <;> decide
      refine wm_ladd d_MU_billionths_77 ?_
      refine wm_lstore_n d_MU_billionths_78 rfl (by decide) (L' := [vr a0, vd, vl ((2 * j2) + v30), vd, vi l4]) rfl ?_
      refine wm_iinc d_MU_billionths_79 (by decide) rfl (L' := [vr a0, vd, vl ((2 * j2) + v30), vd, vi (l4 + (-1))]) rfl ?_
      refine wm_goto (tgt := 50) d_MU_billionths_82 rfl ?_
      exact h
    clear h
    refine wm_if_eq (tgt := 76) d_MU_billionths_69 rfl h28 (fun c29 => ?_) (fun c29 => ?_)
    · refine wm_lconst (x := 0) d_MU_billionths_76 rfl ?_
      refine wm_less (L' := [vr a0, vd, vd, vd, vi l4]) ⟨Or.inr rfl, Or.inl rfl, Or.inl rfl, Or.inl rfl, Or.inr rfl, trivial⟩ ?_
      exact hJ 0 (if_pos c29).symm
    · refine wm_lconst (x := 1) d_MU_billionths_72 rfl ?_
      refine wm_goto (tgt := 77) d_MU_billionths_73 rfl ?_
      refine wm_less (L' := [vr a0, vd, vd, vd, vi l4]) ⟨Or.inr rfl, Or.inl rfl, Or.inl rfl, Or.inl rfl, Or.inr rfl, trivial⟩ ?_
      exact hJ 1 (if_neg c29).symm
theorem d_MU_digits_0 : decode y_MU_digits.2.1 0 = .ok (.aload_n 0, 1) := dc9_42 (by decide +kernel)
theorem d_MU_digits_1 : decode y_MU_digits.2.1 1 = .ok (.getfield 24, 3) := dc9_180 (by decide +kernel)
theorem d_MU_digits_4 : decode y_MU_digits.2.1 4 = .ok (.aload_n 1, 1) := dc9_43 (by decide +kernel)
theorem d_MU_digits_5 : decode y_MU_digits.2.1 5 = .ok (.invokevirtual 78, 3) := dc9_182 (by decide +kernel)
theorem d_MU_digits_8 : decode y_MU_digits.2.1 8 = .ok (.iconst 0, 1) := dc9_3 (by decide +kernel)
theorem d_MU_digits_9 : decode y_MU_digits.2.1 9 = .ok (.istore_n 3, 1) := dc9_62 (by decide +kernel)
theorem d_MU_digits_10 : decode y_MU_digits.2.1 10 = .ok (.aload_n 2, 1) := dc9_44 (by decide +kernel)
theorem d_MU_digits_11 : decode y_MU_digits.2.1 11 = .ok (.iload_n 3, 1) := dc9_29 (by decide +kernel)
theorem d_MU_digits_12 : decode y_MU_digits.2.1 12 = .ok (.aload_n 0, 1) := dc9_42 (by decide +kernel)
theorem d_MU_digits_13 : decode y_MU_digits.2.1 13 = .ok (.getfield 24, 3) := dc9_180 (by decide +kernel)
theorem d_MU_digits_16 : decode y_MU_digits.2.1 16 = .ok (.invokevirtual 114, 3) := dc9_182 (by decide +kernel)
theorem d_MU_digits_19 : decode y_MU_digits.2.1 19 = .ok (.iastore, 1) := dc9_79 (by decide +kernel)
theorem d_MU_digits_20 : decode y_MU_digits.2.1 20 = .ok (.iinc 3 1, 3) := by decide +kernel
theorem d_MU_digits_23 : decode y_MU_digits.2.1 23 = .ok (.aload_n 0, 1) := dc9_42 (by decide +kernel)
theorem d_MU_digits_24 : decode y_MU_digits.2.1 24 = .ok (.getfield 24, 3) := dc9_180 (by decide +kernel)
theorem d_MU_digits_27 : decode y_MU_digits.2.1 27 = .ok (.invokevirtual 40, 3) := dc9_182 (by decide +kernel)
theorem d_MU_digits_30 : decode y_MU_digits.2.1 30 = .ok (.ifCond .eq (-20), 3) := dc9_153 (by decide +kernel)
theorem d_MU_digits_33 : decode y_MU_digits.2.1 33 = .ok (.iload_n 3, 1) := dc9_29 (by decide +kernel)
theorem d_MU_digits_34 : decode y_MU_digits.2.1 34 = .ok (.ireturn, 1) := dc9_172 (by decide +kernel)
def h_MU_digits_10 (G : mG) (d : Nat) (a0 : Nat) (a2 : Nat) (l3 : Int) (M : mM) (Q : Int → mM → Prop) : Prop := mWm G y_MU_digits (d + 1) 10 [vr a0, vd, vr a2, vi l3] [] M (fun r9 M9 => ∃ x9, r9 = some (vi x9) ∧ Q x9 M9)
theorem k_MU_digits {G : mG} {d : Nat} {a0 : Nat} {a1 : Nat} {a2 : Nat} {M : mM} {Q : Int → mM → Prop} (hO : mOk M)
    (h : mK M a0 = 18 ∧ mK M (mR M a0 2) = 20 ∧ Cv G y_MW_copy d [vr (mR M a0 2), vr a1] M (fun M3 => mOk M3 ∧ (h_MU_digits_10 G d a0 a2 0 M3 Q))) :
    Ci G y_MU_digits (d + 1) [vr a0, vr a1, vr a2] M Q := by
  refine wm_open (y := y_MU_digits) rfl (Nat.le_of_ble_eq_true rfl) (L := [vr a0, vr a1, vr a2, vd]) rfl ?_
  obtain ⟨h1, h⟩ := h
  obtain ⟨h2, h⟩ := h
  refine wm_aload_n d_MU_digits_0 rfl rfl ?_
  refine gf_MU_24 rfl d_MU_digits_1 h1 ?_
  refine wm_aload_n d_MU_digits_4 rfl rfl ?_
  refine cf_MU_78 rfl d_MU_digits_5 h2 (Nat.le_of_ble_eq_true rfl) (Cv.mono h (fun M3 h => ?_))
  obtain ⟨hOM3, h⟩ := h
  refine wm_iconst d_MU_digits_8 ?_
  refine wm_istore_n d_MU_digits_9 rfl (by decide) (L' := [vr a0, vr a1, vr a2, vi 0]) rfl ?_
  refine wm_less (L' := [vr a0, vd, vr a2, vi 0]) ⟨Or.inr rfl, Or.inl rfl, Or.inr rfl, Or.inr rfl, trivial⟩ ?_
  exact h
theorem k_MU_digits_10 {G : mG} {d : Nat} {a0 : Nat} {a2 : Nat} {l3 : Int} {M : mM} {Q : Int → mM → Prop} (hO : mOk M) (hi_l3 : i32 l3)
    (h : mK M a0 = 18 ∧ mK M (mR M a0 2) = 20 ∧ Ci G y_MW_tenth d [vr (mR M a0 2)] M (fun x9 M8 => i32 x9 ∧ mOk M8 ∧ (mK M8 a2 = 30 ∧ ((0 : Int) ≤ l3 ∧ l3 < (mN M8 a2 : Int)) ∧ ∀ M13, M13 = mUI M8 a2 (Int.toNat l3) x9 → mK M13 a0 = 18 ∧ mK M13 (mR M13 a0 2) = 20 ∧ Ci G y_MW_isZero d [vr (mR M13 a0 2)] M13 (fun x18 M17 => i32 x18 ∧ mOk M17 ∧ (((x18 = 0) → (h_MU_digits_10 G d a0 a2 (l3 + 1) M17 Q)) ∧ (¬ (x18 = 0) → (Q (l3 + 1) M17))))))) :
    h_MU_digits_10 G d a0 a2 l3 M Q := by
  unfold h_MU_digits_10
  obtain ⟨h6, h⟩ := h
  obtain ⟨h7, h⟩ := h
  refine wm_aload_n d_MU_digits_10 rfl rfl ?_
  refine wm_iload_n d_MU_digits_11 rfl rfl ?_
  refine wm_aload_n d_MU_digits_12 rfl rfl ?_
  refine gf_MU_24 rfl d_MU_digits_13 h6 ?_
  refine cf_MU_114 rfl d_MU_digits_16 h7 (Nat.le_of_ble_eq_true rfl) (Ci.mono h (fun x9 M8 h => ?_))
  obtain ⟨h10, hOM8, h⟩ := h
  obtain ⟨h11, h⟩ := h
  obtain ⟨h12, h⟩ := h
  obtain ⟨M13, e14⟩ : ∃ M13, M13 = mUI M8 a2 (Int.toNat l3) x9 := ⟨_, rfl⟩
  replace h := h M13 e14
  obtain ⟨h15, h⟩ := h
  obtain ⟨h16, h⟩ := h
  have hOM13 : mOk M13 := by rw [e14]; exact mOk_UI hOM8 h10
  refine wm_iastE d_MU_digits_19 h11 h12 h10 e14 ?_
  refine wm_iinc d_MU_digits_20 (by decide) rfl (L' := [vr a0, vd, vr a2, vi (l3 + 1)]) rfl ?_
  refine wm_aload_n d_MU_digits_23 rfl rfl ?_
  refine gf_MU_24 rfl d_MU_digits_24 h15 ?_
  refine cf_MU_40 rfl d_MU_digits_27 h16 (Nat.le_of_ble_eq_true rfl) (Ci.mono h (fun x18 M17 h => ?_))
  obtain ⟨h19, hOM17, h⟩ := h
  refine wm_if_eq (tgt := 10) d_MU_digits_30 rfl h19 (fun c21 => ?_) (fun c21 => ?_)
  · replace h := h.1 c21
    exact h
  · replace h := h.2 c21
    refine wm_iload_n d_MU_digits_33 rfl rfl ?_
    refine wm_ireturn d_MU_digits_34 rfl rfl ?_
    exact ⟨_, rfl, h⟩
theorem d_MW_init_0 : decode y_MW_init.2.1 0 = .ok (.aload_n 0, 1) := dc9_42 (by decide +kernel)
theorem d_MW_init_1 : decode y_MW_init.2.1 1 = .ok (.invokespecial 1, 3) := dc9_183 (by decide +kernel)
theorem d_MW_init_4 : decode y_MW_init.2.1 4 = .ok (.aload_n 0, 1) := dc9_42 (by decide +kernel)
theorem d_MW_init_5 : decode y_MW_init.2.1 5 = .ok (.iload_n 1, 1) := dc9_27 (by decide +kernel)
theorem d_MW_init_6 : decode y_MW_init.2.1 6 = .ok (.newarray .int, 2) := by decide +kernel
theorem d_MW_init_8 : decode y_MW_init.2.1 8 = .ok (.putfield 7, 3) := dc9_181 (by decide +kernel)
theorem d_MW_init_11 : decode y_MW_init.2.1 11 = .ok (.return_, 1) := dc9_177 (by decide +kernel)
theorem k_MW_init {G : mG} {d : Nat} {a0 : Nat} {l1 : Int} {M : mM} {Q : mM → Prop} (hO : mOk M) (hi_l1 : i32 l1)
    (h : 0 < a0 ∧ ((0 : Int) ≤ l1 ∧ l1 ≤ 16777216) ∧ ∀ M3, M3 = mNew M 30 (Int.toNat l1) (Int.toNat l1) → mK M3 a0 = 20 ∧ ∀ M6, M6 = mUR M3 a0 0 (mZ M) → Q M6) :
    Cv G y_MW_init (d + 1) [vr a0, vi l1] M Q := by
  refine wm_open (y := y_MW_init) rfl (Nat.le_of_ble_eq_true rfl) (L := [vr a0, vi l1]) rfl ?_
  obtain ⟨h1, h⟩ := h
  obtain ⟨h2, h⟩ := h
  obtain ⟨M3, e4⟩ : ∃ M3, M3 = mNew M 30 (Int.toNat l1) (Int.toNat l1) := ⟨_, rfl⟩
  replace h := h M3 e4
  obtain ⟨h5, h⟩ := h
  obtain ⟨M6, e7⟩ : ∃ M6, M6 = mUR M3 a0 0 (mZ M) := ⟨_, rfl⟩
  replace h := h M6 e7
  refine wm_aload_n d_MW_init_0 rfl rfl ?_
  refine wm_objInit trivial k9_168 kO_inst kO_code (Nat.le_of_ble_eq_true rfl) d_MW_init_1 h1 ?_
  refine wm_aload_n d_MW_init_4 rfl rfl ?_
  refine wm_iload_n d_MW_init_5 rfl rfl ?_
  have hOM3 : mOk M3 := by rw [e4]; exact mOk_New hO
  refine wm_newarrE 0 (atype := .int) (ty := .int) rfl rfl (fun _ => rfl) rfl rfl (by decide) k1_82 h2 d_MW_init_6 e4 ?_
  have hOM6 : mOk M6 := by rw [e7]; exact mOk_UR hOM3
  refine pf_MW_7 rfl rfl d_MW_init_8 h5 e7 ?_
  refine wm_return d_MW_init_11 rfl ?_
  exact ⟨rfl, h⟩
theorem d_MW_set_0 : decode y_MW_set.2.1 0 = .ok (.aload_n 0, 1) := dc9_42 (by decide +kernel)
theorem d_MW_set_1 : decode y_MW_set.2.1 1 = .ok (.iconst 0, 1) := dc9_3 (by decide +kernel)
theorem d_MW_set_2 : decode y_MW_set.2.1 2 = .ok (.putfield 13, 3) := dc9_181 (by decide +kernel)
theorem d_MW_set_5 : decode y_MW_set.2.1 5 = .ok (.lload_n 1, 1) := dc9_31 (by decide +kernel)
theorem d_MW_set_6 : decode y_MW_set.2.1 6 = .ok (.lstore_n 3, 1) := dc9_66 (by decide +kernel)
theorem d_MW_set_7 : decode y_MW_set.2.1 7 = .ok (.lload_n 3, 1) := dc9_33 (by decide +kernel)
theorem d_MW_set_8 : decode y_MW_set.2.1 8 = .ok (.lconst 0, 1) := dc9_9 (by decide +kernel)
theorem d_MW_set_9 : decode y_MW_set.2.1 9 = .ok (.lcmp, 1) := dc9_148 (by decide +kernel)
theorem d_MW_set_10 : decode y_MW_set.2.1 10 = .ok (.ifCond .le 36, 3) := dc9_158 (by decide +kernel)
theorem d_MW_set_46 : decode y_MW_set.2.1 46 = .ok (.return_, 1) := dc9_177 (by decide +kernel)
theorem d_MW_set_13 : decode y_MW_set.2.1 13 = .ok (.aload_n 0, 1) := dc9_42 (by decide +kernel)
theorem d_MW_set_14 : decode y_MW_set.2.1 14 = .ok (.getfield 7, 3) := dc9_180 (by decide +kernel)
theorem d_MW_set_17 : decode y_MW_set.2.1 17 = .ok (.aload_n 0, 1) := dc9_42 (by decide +kernel)
theorem d_MW_set_18 : decode y_MW_set.2.1 18 = .ok (.getfield 13, 3) := dc9_180 (by decide +kernel)
theorem d_MW_set_21 : decode y_MW_set.2.1 21 = .ok (.lload_n 3, 1) := dc9_33 (by decide +kernel)
theorem d_MW_set_22 : decode y_MW_set.2.1 22 = .ok (.ldc2_w 17, 3) := dc9_20 (by decide +kernel)
theorem d_MW_set_25 : decode y_MW_set.2.1 25 = .ok (.land, 1) := dc9_127 (by decide +kernel)
theorem d_MW_set_26 : decode y_MW_set.2.1 26 = .ok (.l2i, 1) := dc9_136 (by decide +kernel)
theorem d_MW_set_27 : decode y_MW_set.2.1 27 = .ok (.iastore, 1) := dc9_79 (by decide +kernel)
theorem d_MW_set_28 : decode y_MW_set.2.1 28 = .ok (.aload_n 0, 1) := dc9_42 (by decide +kernel)
theorem d_MW_set_29 : decode y_MW_set.2.1 29 = .ok (.dup, 1) := dc9_89 (by decide +kernel)
theorem d_MW_set_30 : decode y_MW_set.2.1 30 = .ok (.getfield 13, 3) := dc9_180 (by decide +kernel)
theorem d_MW_set_33 : decode y_MW_set.2.1 33 = .ok (.iconst 1, 1) := dc9_4 (by decide +kernel)
theorem d_MW_set_34 : decode y_MW_set.2.1 34 = .ok (.iadd, 1) := dc9_96 (by decide +kernel)
theorem d_MW_set_35 : decode y_MW_set.2.1 35 = .ok (.putfield 13, 3) := dc9_181 (by decide +kernel)
theorem d_MW_set_38 : decode y_MW_set.2.1 38 = .ok (.lload_n 3, 1) := dc9_33 (by decide +kernel)
theorem d_MW_set_39 : decode y_MW_set.2.1 39 = .ok (.bipush 24, 2) := dc9_16 (by decide +kernel)
theorem d_MW_set_41 : decode y_MW_set.2.1 41 = .ok (.lshr, 1) := dc9_123 (by decide +kernel)
theorem d_MW_set_42 : decode y_MW_set.2.1 42 = .ok (.lstore_n 3, 1) := dc9_66 (by decide +kernel)
theorem d_MW_set_43 : decode y_MW_set.2.1 43 = .ok (.goto (-36), 3) := dc9_167 (by decide +kernel)
def h_MW_set_7 (G : mG) (d : Nat) (a0 : Nat) (j3 : Int) (M : mM) (Q : mM → Prop) : Prop := mWm G y_MW_set d 7 [vr a0, vd, vd, vl j3, vd] [] M (fun r9 M9 => r9 = none ∧ Q M9)
theorem k_MW_set {G : mG} {d : Nat} {a0 : Nat} {j1 : Int} {M : mM} {Q : mM → Prop} (hO : mOk M) (hi_j1 : i64 j1)
    (h : mK M a0 = 20 ∧ ∀ M2, M2 = mUI M a0 1 0 → h_MW_set_7 G d a0 j1 M2 Q) :
    Cv G y_MW_set d [vr a0, vl j1] M Q := by
  refine wm_open (y := y_MW_set) rfl (Nat.le_of_ble_eq_true rfl) (L := [vr a0, vl j1, vd, vd, vd]) rfl ?_
  obtain ⟨h1, h⟩ := h
  obtain ⟨M2, e3⟩ : ∃ M2, M2 = mUI M a0 1 0 := ⟨_, rfl⟩
  replace h := h M2 e3
  refine wm_aload_n d_MW_set_0 rfl rfl ?_
  refine wm_iconst d_MW_set_1 ?_
  have hOM2 : mOk M2 := by rw [e3]; exact mOk_UI hO ⟨by decide, by decide⟩
  refine pf_MW_13 rfl d_MW_set_2 h1 ⟨by decide, by decide⟩ e3 ?_
  refine wm_lload_n d_MW_set_5 rfl rfl ?_
  refine wm_lstore_n d_MW_set_6 rfl (by decide) (L' := [vr a0, vl j1, vd, vl j1, vd]) rfl ?_
  refine wm_less (L' := [vr a0, vd, vd, vl j1, vd]) ⟨Or.inr rfl, Or.inl rfl, Or.inl rfl, Or.inr rfl, Or.inl rfl, trivial⟩ ?_
  exact h
theorem k_MW_set_7 {G : mG} {d : Nat} {a0 : Nat} {j3 : Int} {M : mM} {Q : mM → Prop} (hO : mOk M) (hi_j3 : i64 j3)
    (h : ((cmpL j3 0 ≤ 0) → (Q M)) ∧ (¬ (cmpL j3 0 ≤ 0) → (mK M a0 = 20 ∧ mK M (mR M a0 0) = 30 ∧ ((0 : Int) ≤ mI M a0 1 ∧ mI M a0 1 < (mN M (mR M a0 0) : Int)) ∧ i32 (andL j3 16777215) ∧ ∀ M10, M10 = mUI M (mR M a0 0) (Int.toNat (mI M a0 1)) (andL j3 16777215) → i32 ((mI M10 a0 1) + 1) ∧ ∀ M13, M13 = mUI M10 a0 1 ((mI M10 a0 1) + 1) → h_MW_set_7 G d a0 (shrL j3 24) M13 Q))) :
    h_MW_set_7 G d a0 j3 M Q := by
  unfold h_MW_set_7
  refine wm_lload_n d_MW_set_7 rfl rfl ?_
  refine wm_lconst (x := 0) d_MW_set_8 rfl ?_
  refine wm_lcmp d_MW_set_9 hi_j3 ⟨by decide, by decide⟩ ?_
  refine wm_if_le (tgt := 46) d_MW_set_10 rfl (m_cmp32 _ _) (fun c5 => ?_) (fun c5 => ?_)
  · replace h := h.1 c5
    refine wm_return d_MW_set_46 rfl ?_
    exact ⟨rfl, h⟩
  · replace h := h.2 c5
    obtain ⟨h6, h⟩ := h
    obtain ⟨h7, h⟩ := h
    obtain ⟨h8, h⟩ := h
    obtain ⟨h9, h⟩ := h
    obtain ⟨M10, e11⟩ : ∃ M10, M10 = mUI M (mR M a0 0) (Int.toNat (mI M a0 1)) (andL j3 16777215) := ⟨_, rfl⟩
    replace h := h M10 e11
    obtain ⟨h12, h⟩ := h
    obtain ⟨M13, e14⟩ : ∃ M13, M13 = mUI M10 a0 1 ((mI M10 a0 1) + 1) := ⟨_, rfl⟩
    replace h := h M13 e14
    refine wm_aload_n d_MW_set_13 rfl rfl ?_
    refine gf_MW_7 rfl d_MW_set_14 h6 ?_
    refine wm_aload_n d_MW_set_17 rfl rfl ?_
    refine gf_MW_13 rfl d_MW_set_18 h6 ?_
    refine wm_lload_n d_MW_set_21 rfl rfl ?_
    refine wm_ldc2 (x := 16777215) d_MW_set_22 k9_180 (by decide) ?_
    refine wm_land d_MW_set_25 ?_
    refine wm_l2i d_MW_set_26 ?_
    have hOM10 : mOk M10 := by rw [e11]; exact mOk_UI hO h9
    refine wm_iastE d_MW_set_27 h7 h8 h9 e11 ?_
    refine wm_aload_n d_MW_set_28 rfl rfl ?_
    refine wm_dup d_MW_set_29 rfl ?_
    refine gf_MW_13 rfl d_MW_set_30 (by rw [e11]; exact h6) ?_
    refine wm_iconst d_MW_set_33 ?_
    refine wm_iadd d_MW_set_34 ?_
    have hOM13 : mOk M13 := by rw [e14]; exact mOk_UI hOM10 h12
    refine pf_MW_13 rfl d_MW_set_35 (by rw [e11]; exact h6) h12 e14 ?_
    refine wm_lload_n d_MW_set_38 rfl rfl ?_
    refine wm_bipush d_MW_set_39 (by decide) ?_
    refine wm_lshr d_MW_set_41 ?_
    refine wm_lstore_n d_MW_set_42 rfl (by decide) (L' := [vr a0, vd, vd, vl (shrL j3 24), vd]) rfl ?_
    refine wm_goto (tgt := 7) d_MW_set_43 rfl ?_
    exact h
theorem d_MW_copy_0 : decode y_MW_copy.2.1 0 = .ok (.aload_n 0, 1) := dc9_42 (by decide +kernel)
theorem d_MW_copy_1 : decode y_MW_copy.2.1 1 = .ok (.aload_n 1, 1) := dc9_43 (by decide +kernel)
theorem d_MW_copy_2 : decode y_MW_copy.2.1 2 = .ok (.getfield 13, 3) := dc9_180 (by decide +kernel)
theorem d_MW_copy_5 : decode y_MW_copy.2.1 5 = .ok (.putfield 13, 3) := dc9_181 (by decide +kernel)
theorem d_MW_copy_8 : decode y_MW_copy.2.1 8 = .ok (.iconst 0, 1) := dc9_3 (by decide +kernel)
theorem d_MW_copy_9 : decode y_MW_copy.2.1 9 = .ok (.istore_n 2, 1) := dc9_61 (by decide +kernel)
theorem d_MW_copy_10 : decode y_MW_copy.2.1 10 = .ok (.iload_n 2, 1) := dc9_28 (by decide +kernel)
theorem d_MW_copy_11 : decode y_MW_copy.2.1 11 = .ok (.aload_n 0, 1) := dc9_42 (by decide +kernel)
theorem d_MW_copy_12 : decode y_MW_copy.2.1 12 = .ok (.getfield 13, 3) := dc9_180 (by decide +kernel)
theorem d_MW_copy_15 : decode y_MW_copy.2.1 15 = .ok (.if_icmp .ge 21, 3) := dc9_162 (by decide +kernel)
theorem d_MW_copy_36 : decode y_MW_copy.2.1 36 = .ok (.return_, 1) := dc9_177 (by decide +kernel)
theorem d_MW_copy_18 : decode y_MW_copy.2.1 18 = .ok (.aload_n 0, 1) := dc9_42 (by decide +kernel)
theorem d_MW_copy_19 : decode y_MW_copy.2.1 19 = .ok (.getfield 7, 3) := dc9_180 (by decide +kernel)
theorem d_MW_copy_22 : decode y_MW_copy.2.1 22 = .ok (.iload_n 2, 1) := dc9_28 (by decide +kernel)
theorem d_MW_copy_23 : decode y_MW_copy.2.1 23 = .ok (.aload_n 1, 1) := dc9_43 (by decide +kernel)
theorem d_MW_copy_24 : decode y_MW_copy.2.1 24 = .ok (.getfield 7, 3) := dc9_180 (by decide +kernel)
theorem d_MW_copy_27 : decode y_MW_copy.2.1 27 = .ok (.iload_n 2, 1) := dc9_28 (by decide +kernel)
theorem d_MW_copy_28 : decode y_MW_copy.2.1 28 = .ok (.iaload, 1) := dc9_46 (by decide +kernel)
theorem d_MW_copy_29 : decode y_MW_copy.2.1 29 = .ok (.iastore, 1) := dc9_79 (by decide +kernel)
theorem d_MW_copy_30 : decode y_MW_copy.2.1 30 = .ok (.iinc 2 1, 3) := by decide +kernel
theorem d_MW_copy_33 : decode y_MW_copy.2.1 33 = .ok (.goto (-23), 3) := dc9_167 (by decide +kernel)
def h_MW_copy_10 (G : mG) (d : Nat) (a0 : Nat) (a1 : Nat) (l2 : Int) (M : mM) (Q : mM → Prop) : Prop := mWm G y_MW_copy d 10 [vr a0, vr a1, vi l2] [] M (fun r9 M9 => r9 = none ∧ Q M9)
theorem k_MW_copy {G : mG} {d : Nat} {a0 : Nat} {a1 : Nat} {M : mM} {Q : mM → Prop} (hO : mOk M)
    (h : mK M a1 = 20 ∧ mK M a0 = 20 ∧ ∀ M3, M3 = mUI M a0 1 (mI M a1 1) → h_MW_copy_10 G d a0 a1 0 M3 Q) :
    Cv G y_MW_copy d [vr a0, vr a1] M Q := by
  refine wm_open (y := y_MW_copy) rfl (Nat.le_of_ble_eq_true rfl) (L := [vr a0, vr a1, vd]) rfl ?_
  obtain ⟨h1, h⟩ := h
  obtain ⟨h2, h⟩ := h
  obtain ⟨M3, e4⟩ : ∃ M3, M3 = mUI M a0 1 (mI M a1 1) := ⟨_, rfl⟩
  replace h := h M3 e4
  refine wm_aload_n d_MW_copy_0 rfl rfl ?_
  refine wm_aload_n d_MW_copy_1 rfl rfl ?_
  refine gf_MW_13 rfl d_MW_copy_2 h1 ?_
  have hOM3 : mOk M3 := by rw [e4]; exact mOk_UI hO (hO _ _).1
  refine pf_MW_13 rfl d_MW_copy_5 h2 (hO _ _).1 e4 ?_
  refine wm_iconst d_MW_copy_8 ?_
  refine wm_istore_n d_MW_copy_9 rfl (by decide) (L' := [vr a0, vr a1, vi 0]) rfl ?_
  exact h
theorem k_MW_copy_10 {G : mG} {d : Nat} {a0 : Nat} {a1 : Nat} {l2 : Int} {M : mM} {Q : mM → Prop} (hO : mOk M) (hi_l2 : i32 l2)
    (h : mK M a0 = 20 ∧ ((mI M a0 1 ≤ l2) → (Q M)) ∧ (¬ (mI M a0 1 ≤ l2) → (mK M a1 = 20 ∧ mK M (mR M a1 0) = 30 ∧ ((0 : Int) ≤ l2 ∧ l2 < (mN M (mR M a1 0) : Int)) ∧ mK M (mR M a0 0) = 30 ∧ ((0 : Int) ≤ l2 ∧ l2 < (mN M (mR M a0 0) : Int)) ∧ ∀ M18, M18 = mUI M (mR M a0 0) (Int.toNat l2) (mI M (mR M a1 0) (Int.toNat l2)) → h_MW_copy_10 G d a0 a1 (l2 + 1) M18 Q))) :
    h_MW_copy_10 G d a0 a1 l2 M Q := by
  unfold h_MW_copy_10
  obtain ⟨h5, h⟩ := h
  refine wm_iload_n d_MW_copy_10 rfl rfl ?_
  refine wm_aload_n d_MW_copy_11 rfl rfl ?_
  refine gf_MW_13 rfl d_MW_copy_12 h5 ?_
  refine wm_icmp_ge (tgt := 36) d_MW_copy_15 rfl hi_l2 (hO _ _).1 (fun c12 => ?_) (fun c12 => ?_)
  · replace h := h.1 c12
    refine wm_return d_MW_copy_36 rfl ?_
    exact ⟨rfl, h⟩
  · replace h := h.2 c12
    obtain ⟨h13, h⟩ := h
    obtain ⟨h14, h⟩ := h
    obtain ⟨h15, h⟩ := h
    obtain ⟨h16, h⟩ := h
    obtain ⟨h17, h⟩ := h
    obtain ⟨M18, e19⟩ : ∃ M18, M18 = mUI M (mR M a0 0) (Int.toNat l2) (mI M (mR M a1 0) (Int.toNat l2)) := ⟨_, rfl⟩
    replace h := h M18 e19
    refine wm_aload_n d_MW_copy_18 rfl rfl ?_
    refine gf_MW_7 rfl d_MW_copy_19 h5 ?_
    refine wm_iload_n d_MW_copy_22 rfl rfl ?_
    refine wm_aload_n d_MW_copy_23 rfl rfl ?_
    refine gf_MW_7 rfl d_MW_copy_24 h13 ?_
    refine wm_iload_n d_MW_copy_27 rfl rfl ?_
    refine wm_iald d_MW_copy_28 h14 h15 ?_
    have hOM18 : mOk M18 := by rw [e19]; exact mOk_UI hO (hO _ _).1
    refine wm_iastE d_MW_copy_29 h16 h17 (hO _ _).1 e19 ?_
    refine wm_iinc d_MW_copy_30 (by decide) rfl (L' := [vr a0, vr a1, vi (l2 + 1)]) rfl ?_
    refine wm_goto (tgt := 10) d_MW_copy_33 rfl ?_
    exact h
theorem d_MW_isZero_0 : decode y_MW_isZero.2.1 0 = .ok (.aload_n 0, 1) := dc9_42 (by decide +kernel)
theorem d_MW_isZero_1 : decode y_MW_isZero.2.1 1 = .ok (.getfield 13, 3) := dc9_180 (by decide +kernel)
theorem d_MW_isZero_4 : decode y_MW_isZero.2.1 4 = .ok (.ifCond .ne 7, 3) := dc9_154 (by decide +kernel)
theorem d_MW_isZero_7 : decode y_MW_isZero.2.1 7 = .ok (.iconst 1, 1) := dc9_4 (by decide +kernel)
theorem d_MW_isZero_8 : decode y_MW_isZero.2.1 8 = .ok (.goto 4, 3) := dc9_167 (by decide +kernel)
theorem d_MW_isZero_11 : decode y_MW_isZero.2.1 11 = .ok (.iconst 0, 1) := dc9_3 (by decide +kernel)
theorem d_MW_isZero_12 : decode y_MW_isZero.2.1 12 = .ok (.ireturn, 1) := dc9_172 (by decide +kernel)
theorem k_MW_isZero {G : mG} {d : Nat} {a0 : Nat} {M : mM} {Q : Int → mM → Prop} (hO : mOk M)
    (h : mK M a0 = 20 ∧ ∀ v3 : Int, v3 = (if (mI M a0 1 = 0) then 1 else 0) → Q v3 M) :
    Ci G y_MW_isZero d [vr a0] M Q := by
  refine wm_open (y := y_MW_isZero) rfl (Nat.le_of_ble_eq_true rfl) (L := [vr a0]) rfl ?_
  obtain ⟨h1, h⟩ := h
  refine wm_aload_n d_MW_isZero_0 rfl rfl ?_
  refine gf_MW_13 rfl d_MW_isZero_1 h1 ?_
  have hJ : ∀ v3 : Int, v3 = (if (mI M a0 1 = 0) then 1 else 0) → mWm G y_MW_isZero d 12 [vd] [vi v3] M (fun r9 M9 => ∃ x9, r9 = some (vi x9) ∧ Q x9 M9) := by
    intro v3 e5
    have h := h v3 e5
    have h6 : i32 v3 := by rw [e5]; (repeat' split) <;> first | exact ⟨by decide, by decide⟩ | exact ⟨by decide, by decide⟩
    have h7 : (v3 = 0 ∨ v3 = 1) := by rw [e5]; (repeat' split) <;> decide
    refine wm_ireturn d_MW_isZero_12 rfl (m_nb h7) ?_
    exact ⟨_, rfl, h⟩
  clear h
  refine wm_if_ne (tgt := 11) d_MW_isZero_4 rfl (hO _ _).1 (fun c2 => ?_) (fun c2 => ?_)
  · refine wm_iconst d_MW_isZero_11 ?_
    refine wm_less (L' := [vd]) ⟨Or.inl rfl, trivial⟩ ?_
    exact hJ 0 (if_neg c2).symm
  · replace c2 := Classical.not_not.mp c2
    refine wm_iconst d_MW_isZero_7 ?_
    refine wm_goto (tgt := 12) d_MW_isZero_8 rfl ?_
    refine wm_less (L' := [vd]) ⟨Or.inl rfl, trivial⟩ ?_
    exact hJ 1 (if_pos c2).symm
theorem d_MW_isOne_0 : decode y_MW_isOne.2.1 0 = .ok (.aload_n 0, 1) := dc9_42 (by decide +kernel)
theorem d_MW_isOne_1 : decode y_MW_isOne.2.1 1 = .ok (.getfield 13, 3) := dc9_180 (by decide +kernel)
theorem d_MW_isOne_4 : decode y_MW_isOne.2.1 4 = .ok (.iconst 1, 1) := dc9_4 (by decide +kernel)
theorem d_MW_isOne_5 : decode y_MW_isOne.2.1 5 = .ok (.if_icmp .ne 17, 3) := dc9_160 (by decide +kernel)
theorem d_MW_isOne_8 : decode y_MW_isOne.2.1 8 = .ok (.aload_n 0, 1) := dc9_42 (by decide +kernel)
theorem d_MW_isOne_9 : decode y_MW_isOne.2.1 9 = .ok (.getfield 7, 3) := dc9_180 (by decide +kernel)
theorem d_MW_isOne_12 : decode y_MW_isOne.2.1 12 = .ok (.iconst 0, 1) := dc9_3 (by decide +kernel)
theorem d_MW_isOne_13 : decode y_MW_isOne.2.1 13 = .ok (.iaload, 1) := dc9_46 (by decide +kernel)
theorem d_MW_isOne_14 : decode y_MW_isOne.2.1 14 = .ok (.iconst 1, 1) := dc9_4 (by decide +kernel)
theorem d_MW_isOne_15 : decode y_MW_isOne.2.1 15 = .ok (.if_icmp .ne 7, 3) := dc9_160 (by decide +kernel)
theorem d_MW_isOne_18 : decode y_MW_isOne.2.1 18 = .ok (.iconst 1, 1) := dc9_4 (by decide +kernel)
theorem d_MW_isOne_19 : decode y_MW_isOne.2.1 19 = .ok (.goto 4, 3) := dc9_167 (by decide +kernel)
theorem d_MW_isOne_22 : decode y_MW_isOne.2.1 22 = .ok (.iconst 0, 1) := dc9_3 (by decide +kernel)
theorem d_MW_isOne_23 : decode y_MW_isOne.2.1 23 = .ok (.ireturn, 1) := dc9_172 (by decide +kernel)
theorem k_MW_isOne {G : mG} {d : Nat} {a0 : Nat} {M : mM} {Q : Int → mM → Prop} (hO : mOk M)
    (h : mK M a0 = 20 ∧ ((mI M a0 1 = 1) → (mK M (mR M a0 0) = 30 ∧ ((0 : Int) ≤ 0 ∧ 0 < (mN M (mR M a0 0) : Int)))) ∧ ∀ v6 : Int, v6 = (if ((mI M a0 1 = 1) ∧ (mI M (mR M a0 0) 0 = 1)) then 1 else 0) → Q v6 M) :
    Ci G y_MW_isOne d [vr a0] M Q := by
  refine wm_open (y := y_MW_isOne) rfl (Nat.le_of_ble_eq_true rfl) (L := [vr a0]) rfl ?_
  obtain ⟨h1, h⟩ := h
  refine wm_aload_n d_MW_isOne_0 rfl rfl ?_
  refine gf_MW_13 rfl d_MW_isOne_1 h1 ?_
  refine wm_iconst d_MW_isOne_4 ?_
  obtain ⟨s7, h⟩ := h
  have hJ : ∀ v6 : Int, v6 = (if ((mI M a0 1 = 1) ∧ (mI M (mR M a0 0) 0 = 1)) then 1 else 0) → mWm G y_MW_isOne d 23 [vd] [vi v6] M (fun r9 M9 => ∃ x9, r9 = some (vi x9) ∧ Q x9 M9) := by
    intro v6 e8
    have h := h v6 e8
    have h9 : i32 v6 := by rw [e8]; (repeat' split) <;> first | exact ⟨by decide, by decide⟩ | exact ⟨by decide, by decide⟩
    have h10 : (v6 = 0 ∨ v6 = 1) := by rw [e8]; (repeat' split) <;> decide
    refine wm_ireturn d_MW_isOne_23 rfl (m_nb h10) ?_
    exact ⟨_, rfl, h⟩
  clear h
  have s11 := s7
  refine wm_icmp_ne (tgt := 22) d_MW_isOne_5 rfl (hO _ _).1 ⟨by decide, by decide⟩ (fun c2 => ?_) (fun c2 => ?_)
  · refine wm_iconst d_MW_isOne_22 ?_
    refine wm_less (L' := [vd]) ⟨Or.inl rfl, trivial⟩ ?_
    exact hJ 0 (if_neg (fun z14 => c2 z14.1)).symm
  · replace c2 := Classical.not_not.mp c2
    have s11 := s11 c2
    obtain ⟨h3, h4⟩ := s11
    refine wm_aload_n d_MW_isOne_8 rfl rfl ?_
    refine gf_MW_7 rfl d_MW_isOne_9 h1 ?_
    refine wm_iconst d_MW_isOne_12 ?_
    refine wm_iald d_MW_isOne_13 h3 h4 ?_
    refine wm_iconst d_MW_isOne_14 ?_
    refine wm_icmp_ne (tgt := 22) d_MW_isOne_15 rfl (hO _ _).1 ⟨by decide, by decide⟩ (fun c5 => ?_) (fun c5 => ?_)
    · refine wm_iconst d_MW_isOne_22 ?_
      refine wm_less (L' := [vd]) ⟨Or.inl rfl, trivial⟩ ?_
      exact hJ 0 (if_neg (fun z12 => c5 z12.2)).symm
    · replace c5 := Classical.not_not.mp c5
      refine wm_iconst d_MW_isOne_18 ?_
      refine wm_goto (tgt := 23) d_MW_isOne_19 rfl ?_
      refine wm_less (L' := [vd]) ⟨Or.inl rfl, trivial⟩ ?_
      exact hJ 1 (if_pos ⟨c2, c5⟩).symm
theorem d_MW_trim_0 : decode y_MW_trim.2.1 0 = .ok (.aload_n 0, 1) := dc9_42 (by decide +kernel)
theorem d_MW_trim_1 : decode y_MW_trim.2.1 1 = .ok (.getfield 13, 3) := dc9_180 (by decide +kernel)
theorem d_MW_trim_4 : decode y_MW_trim.2.1 4 = .ok (.ifCond .le 30, 3) := dc9_158 (by decide +kernel)
theorem d_MW_trim_7 : decode y_MW_trim.2.1 7 = .ok (.aload_n 0, 1) := dc9_42 (by decide +kernel)
theorem d_MW_trim_8 : decode y_MW_trim.2.1 8 = .ok (.getfield 7, 3) := dc9_180 (by decide +kernel)
theorem d_MW_trim_11 : decode y_MW_trim.2.1 11 = .ok (.aload_n 0, 1) := dc9_42 (by decide +kernel)
theorem d_MW_trim_12 : decode y_MW_trim.2.1 12 = .ok (.getfield 13, 3) := dc9_180 (by decide +kernel)
theorem d_MW_trim_15 : decode y_MW_trim.2.1 15 = .ok (.iconst 1, 1) := dc9_4 (by decide +kernel)
theorem d_MW_trim_16 : decode y_MW_trim.2.1 16 = .ok (.isub, 1) := dc9_100 (by decide +kernel)
theorem d_MW_trim_17 : decode y_MW_trim.2.1 17 = .ok (.iaload, 1) := dc9_46 (by decide +kernel)
theorem d_MW_trim_18 : decode y_MW_trim.2.1 18 = .ok (.ifCond .ne 16, 3) := dc9_154 (by decide +kernel)
theorem d_MW_trim_21 : decode y_MW_trim.2.1 21 = .ok (.aload_n 0, 1) := dc9_42 (by decide +kernel)
theorem d_MW_trim_22 : decode y_MW_trim.2.1 22 = .ok (.dup, 1) := dc9_89 (by decide +kernel)
theorem d_MW_trim_23 : decode y_MW_trim.2.1 23 = .ok (.getfield 13, 3) := dc9_180 (by decide +kernel)
theorem d_MW_trim_26 : decode y_MW_trim.2.1 26 = .ok (.iconst 1, 1) := dc9_4 (by decide +kernel)
theorem d_MW_trim_27 : decode y_MW_trim.2.1 27 = .ok (.isub, 1) := dc9_100 (by decide +kernel)
theorem d_MW_trim_28 : decode y_MW_trim.2.1 28 = .ok (.putfield 13, 3) := dc9_181 (by decide +kernel)
theorem d_MW_trim_31 : decode y_MW_trim.2.1 31 = .ok (.goto (-31), 3) := dc9_167 (by decide +kernel)
theorem d_MW_trim_34 : decode y_MW_trim.2.1 34 = .ok (.return_, 1) := dc9_177 (by decide +kernel)
def h_MW_trim_0 (G : mG) (d : Nat) (a0 : Nat) (M : mM) (Q : mM → Prop) : Prop := mWm G y_MW_trim d 0 [vr a0] [] M (fun r9 M9 => r9 = none ∧ Q M9)
theorem k_MW_trim {G : mG} {d : Nat} {a0 : Nat} {M : mM} {Q : mM → Prop} (hO : mOk M)
    (h : h_MW_trim_0 G d a0 M Q) :
    Cv G y_MW_trim d [vr a0] M Q := by
  refine wm_open (y := y_MW_trim) rfl (Nat.le_of_ble_eq_true rfl) (L := [vr a0]) rfl ?_
  exact h
theorem k_MW_trim_0 {G : mG} {d : Nat} {a0 : Nat} {M : mM} {Q : mM → Prop} (hO : mOk M)
    (h : mK M a0 = 20 ∧ (¬ (mI M a0 1 ≤ 0) → (mK M (mR M a0 0) = 30 ∧ ((0 : Int) ≤ (mI M a0 1) - 1 ∧ (mI M a0 1) - 1 < (mN M (mR M a0 0) : Int)))) ∧ (((mI M a0 1 ≤ 0) ∨ (¬ (mI M (mR M a0 0) (Int.toNat ((mI M a0 1) - 1)) = 0))) → (Q M)) ∧ (¬ ((mI M a0 1 ≤ 0) ∨ (¬ (mI M (mR M a0 0) (Int.toNat ((mI M a0 1) - 1)) = 0))) → (i32 ((mI M a0 1) - 1) ∧ ∀ M11, M11 = mUI M a0 1 ((mI M a0 1) - 1) → h_MW_trim_0 G d a0 M11 Q))) :
    h_MW_trim_0 G d a0 M Q := by
  unfold h_MW_trim_0
  obtain ⟨h1, h⟩ := h
  refine wm_aload_n d_MW_trim_0 rfl rfl ?_
  refine gf_MW_13 rfl d_MW_trim_1 h1 ?_
  obtain ⟨s7, h⟩ := h
  have hE0 : ((mI M a0 1 ≤ 0) ∨ (¬ (mI M (mR M a0 0) (Int.toNat ((mI M a0 1) - 1)) = 0))) → mWm G y_MW_trim d 34 [vr a0] [] M (fun r9 M9 => r9 = none ∧ Q M9) := by
    intro q8
    have h := h.1 q8
    refine wm_return d_MW_trim_34 rfl ?_
    exact ⟨rfl, h⟩
  have hE1 : ¬ ((mI M a0 1 ≤ 0) ∨ (¬ (mI M (mR M a0 0) (Int.toNat ((mI M a0 1) - 1)) = 0))) → mWm G y_MW_trim d 21 [vr a0] [] M (fun r9 M9 => r9 = none ∧ Q M9) := by
    intro q9
    have h := h.2 q9
    obtain ⟨h10, h⟩ := h
    obtain ⟨M11, e12⟩ : ∃ M11, M11 = mUI M a0 1 ((mI M a0 1) - 1) := ⟨_, rfl⟩
    replace h := h M11 e12
    refine wm_aload_n d_MW_trim_21 rfl rfl ?_
    refine wm_dup d_MW_trim_22 rfl ?_
    refine gf_MW_13 rfl d_MW_trim_23 h1 ?_
    refine wm_iconst d_MW_trim_26 ?_
    refine wm_isub d_MW_trim_27 ?_
    have hOM11 : mOk M11 := by rw [e12]; exact mOk_UI hO h10
    refine pf_MW_13 rfl d_MW_trim_28 h1 h10 e12 ?_
    refine wm_goto (tgt := 0) d_MW_trim_31 rfl ?_
    exact h
  clear h
  have s13 := s7
  refine wm_if_le (tgt := 34) d_MW_trim_4 rfl (hO _ _).1 (fun c6 => ?_) (fun c6 => ?_)
  · exact hE0 (Or.inl c6)
  · have s13 := s13 c6
    obtain ⟨h2, h3⟩ := s13
    refine wm_aload_n d_MW_trim_7 rfl rfl ?_
    refine gf_MW_7 rfl d_MW_trim_8 h1 ?_
    refine wm_aload_n d_MW_trim_11 rfl rfl ?_
    refine gf_MW_13 rfl d_MW_trim_12 h1 ?_
    refine wm_iconst d_MW_trim_15 ?_
    refine wm_isub d_MW_trim_16 ?_
    refine wm_iald d_MW_trim_17 h2 h3 ?_
    refine wm_if_ne (tgt := 34) d_MW_trim_18 rfl (hO _ _).1 (fun c5 => ?_) (fun c5 => ?_)
    · exact hE0 (Or.inr c5)
    · replace c5 := Classical.not_not.mp c5
      exact hE1 (fun z14 => Or.elim z14 c6 (fun z15 => z15 c5))
theorem d_MW_compare_0 : decode y_MW_compare.2.1 0 = .ok (.aload_n 0, 1) := dc9_42 (by decide +kernel)
theorem d_MW_compare_1 : decode y_MW_compare.2.1 1 = .ok (.getfield 13, 3) := dc9_180 (by decide +kernel)
theorem d_MW_compare_4 : decode y_MW_compare.2.1 4 = .ok (.aload_n 1, 1) := dc9_43 (by decide +kernel)
theorem d_MW_compare_5 : decode y_MW_compare.2.1 5 = .ok (.getfield 13, 3) := dc9_180 (by decide +kernel)
theorem d_MW_compare_8 : decode y_MW_compare.2.1 8 = .ok (.if_icmp .eq 20, 3) := dc9_159 (by decide +kernel)
theorem d_MW_compare_28 : decode y_MW_compare.2.1 28 = .ok (.aload_n 0, 1) := dc9_42 (by decide +kernel)
theorem d_MW_compare_29 : decode y_MW_compare.2.1 29 = .ok (.getfield 13, 3) := dc9_180 (by decide +kernel)
theorem d_MW_compare_32 : decode y_MW_compare.2.1 32 = .ok (.iconst 1, 1) := dc9_4 (by decide +kernel)
theorem d_MW_compare_33 : decode y_MW_compare.2.1 33 = .ok (.isub, 1) := dc9_100 (by decide +kernel)
theorem d_MW_compare_34 : decode y_MW_compare.2.1 34 = .ok (.istore_n 2, 1) := dc9_61 (by decide +kernel)
theorem d_MW_compare_11 : decode y_MW_compare.2.1 11 = .ok (.aload_n 0, 1) := dc9_42 (by decide +kernel)
theorem d_MW_compare_12 : decode y_MW_compare.2.1 12 = .ok (.getfield 13, 3) := dc9_180 (by decide +kernel)
theorem d_MW_compare_15 : decode y_MW_compare.2.1 15 = .ok (.aload_n 1, 1) := dc9_43 (by decide +kernel)
theorem d_MW_compare_16 : decode y_MW_compare.2.1 16 = .ok (.getfield 13, 3) := dc9_180 (by decide +kernel)
theorem d_MW_compare_19 : decode y_MW_compare.2.1 19 = .ok (.if_icmp .ge 7, 3) := dc9_162 (by decide +kernel)
theorem d_MW_compare_26 : decode y_MW_compare.2.1 26 = .ok (.iconst 1, 1) := dc9_4 (by decide +kernel)
theorem d_MW_compare_27 : decode y_MW_compare.2.1 27 = .ok (.ireturn, 1) := dc9_172 (by decide +kernel)
theorem d_MW_compare_22 : decode y_MW_compare.2.1 22 = .ok (.iconst (-1), 1) := dc9_2 (by decide +kernel)
theorem d_MW_compare_23 : decode y_MW_compare.2.1 23 = .ok (.goto 4, 3) := dc9_167 (by decide +kernel)
theorem d_MW_compare_35 : decode y_MW_compare.2.1 35 = .ok (.iload_n 2, 1) := dc9_28 (by decide +kernel)
theorem d_MW_compare_36 : decode y_MW_compare.2.1 36 = .ok (.ifCond .lt 24, 3) := dc9_155 (by decide +kernel)
theorem d_MW_compare_39 : decode y_MW_compare.2.1 39 = .ok (.aload_n 0, 1) := dc9_42 (by decide +kernel)
theorem d_MW_compare_40 : decode y_MW_compare.2.1 40 = .ok (.getfield 7, 3) := dc9_180 (by decide +kernel)
theorem d_MW_compare_43 : decode y_MW_compare.2.1 43 = .ok (.iload_n 2, 1) := dc9_28 (by decide +kernel)
theorem d_MW_compare_44 : decode y_MW_compare.2.1 44 = .ok (.iaload, 1) := dc9_46 (by decide +kernel)
theorem d_MW_compare_45 : decode y_MW_compare.2.1 45 = .ok (.aload_n 1, 1) := dc9_43 (by decide +kernel)
theorem d_MW_compare_46 : decode y_MW_compare.2.1 46 = .ok (.getfield 7, 3) := dc9_180 (by decide +kernel)
theorem d_MW_compare_49 : decode y_MW_compare.2.1 49 = .ok (.iload_n 2, 1) := dc9_28 (by decide +kernel)
theorem d_MW_compare_50 : decode y_MW_compare.2.1 50 = .ok (.iaload, 1) := dc9_46 (by decide +kernel)
theorem d_MW_compare_51 : decode y_MW_compare.2.1 51 = .ok (.if_icmp .ne 9, 3) := dc9_160 (by decide +kernel)
theorem d_MW_compare_54 : decode y_MW_compare.2.1 54 = .ok (.iinc 2 (-1), 3) := by decide +kernel
theorem d_MW_compare_57 : decode y_MW_compare.2.1 57 = .ok (.goto (-22), 3) := dc9_167 (by decide +kernel)
theorem d_MW_compare_60 : decode y_MW_compare.2.1 60 = .ok (.iload_n 2, 1) := dc9_28 (by decide +kernel)
theorem d_MW_compare_61 : decode y_MW_compare.2.1 61 = .ok (.ifCond .ge 7, 3) := dc9_156 (by decide +kernel)
theorem d_MW_compare_68 : decode y_MW_compare.2.1 68 = .ok (.aload_n 0, 1) := dc9_42 (by decide +kernel)
theorem d_MW_compare_69 : decode y_MW_compare.2.1 69 = .ok (.getfield 7, 3) := dc9_180 (by decide +kernel)
theorem d_MW_compare_72 : decode y_MW_compare.2.1 72 = .ok (.iload_n 2, 1) := dc9_28 (by decide +kernel)
theorem d_MW_compare_73 : decode y_MW_compare.2.1 73 = .ok (.iaload, 1) := dc9_46 (by decide +kernel)
theorem d_MW_compare_74 : decode y_MW_compare.2.1 74 = .ok (.aload_n 1, 1) := dc9_43 (by decide +kernel)
theorem d_MW_compare_75 : decode y_MW_compare.2.1 75 = .ok (.getfield 7, 3) := dc9_180 (by decide +kernel)
theorem d_MW_compare_78 : decode y_MW_compare.2.1 78 = .ok (.iload_n 2, 1) := dc9_28 (by decide +kernel)
theorem d_MW_compare_79 : decode y_MW_compare.2.1 79 = .ok (.iaload, 1) := dc9_46 (by decide +kernel)
theorem d_MW_compare_80 : decode y_MW_compare.2.1 80 = .ok (.if_icmp .ge 7, 3) := dc9_162 (by decide +kernel)
theorem d_MW_compare_87 : decode y_MW_compare.2.1 87 = .ok (.iconst 1, 1) := dc9_4 (by decide +kernel)
theorem d_MW_compare_83 : decode y_MW_compare.2.1 83 = .ok (.iconst (-1), 1) := dc9_2 (by decide +kernel)
theorem d_MW_compare_84 : decode y_MW_compare.2.1 84 = .ok (.goto 4, 3) := dc9_167 (by decide +kernel)
theorem d_MW_compare_64 : decode y_MW_compare.2.1 64 = .ok (.iconst 0, 1) := dc9_3 (by decide +kernel)
theorem d_MW_compare_65 : decode y_MW_compare.2.1 65 = .ok (.goto 23, 3) := dc9_167 (by decide +kernel)
theorem d_MW_compare_88 : decode y_MW_compare.2.1 88 = .ok (.ireturn, 1) := dc9_172 (by decide +kernel)
def h_MW_compare_35 (G : mG) (d : Nat) (a0 : Nat) (a1 : Nat) (l2 : Int) (M : mM) (Q : Int → mM → Prop) : Prop := mWm G y_MW_compare d 35 [vr a0, vr a1, vi l2] [] M (fun r9 M9 => ∃ x9, r9 = some (vi x9) ∧ Q x9 M9)
theorem k_MW_compare {G : mG} {d : Nat} {a0 : Nat} {a1 : Nat} {M : mM} {Q : Int → mM → Prop} (hO : mOk M)
    (h : mK M a0 = 20 ∧ mK M a1 = 20 ∧ ((mI M a0 1 = mI M a1 1) → (h_MW_compare_35 G d a0 a1 ((mI M a0 1) - 1) M Q)) ∧ (¬ (mI M a0 1 = mI M a1 1) → (∀ v7 : Int, v7 = (if (mI M a1 1 ≤ mI M a0 1) then 1 else (-1)) → Q v7 M))) :
    Ci G y_MW_compare d [vr a0, vr a1] M Q := by
  refine wm_open (y := y_MW_compare) rfl (Nat.le_of_ble_eq_true rfl) (L := [vr a0, vr a1, vd]) rfl ?_
  obtain ⟨h1, h⟩ := h
  obtain ⟨h2, h⟩ := h
  refine wm_aload_n d_MW_compare_0 rfl rfl ?_
  refine gf_MW_13 rfl d_MW_compare_1 h1 ?_
  refine wm_aload_n d_MW_compare_4 rfl rfl ?_
  refine gf_MW_13 rfl d_MW_compare_5 h2 ?_
  refine wm_icmp_eq (tgt := 28) d_MW_compare_8 rfl (hO _ _).1 (hO _ _).1 (fun c5 => ?_) (fun c5 => ?_)
  · replace h := h.1 c5
    refine wm_aload_n d_MW_compare_28 rfl rfl ?_
    refine gf_MW_13 rfl d_MW_compare_29 h1 ?_
    refine wm_iconst d_MW_compare_32 ?_
    refine wm_isub d_MW_compare_33 ?_
    refine wm_istore_n d_MW_compare_34 rfl (by decide) (L' := [vr a0, vr a1, vi ((mI M a0 1) - 1)]) rfl ?_
    exact h
  · replace h := h.2 c5
    refine wm_aload_n d_MW_compare_11 rfl rfl ?_
    refine gf_MW_13 rfl d_MW_compare_12 h1 ?_
    refine wm_aload_n d_MW_compare_15 rfl rfl ?_
    refine gf_MW_13 rfl d_MW_compare_16 h2 ?_
    have hJ : ∀ v7 : Int, v7 = (if (mI M a1 1 ≤ mI M a0 1) then 1 else (-1)) → mWm G y_MW_compare d 27 [vd, vd, vd] [vi v7] M (fun r9 M9 => ∃ x9, r9 = some (vi x9) ∧ Q x9 M9) := by
      intro v7 e9
      have h := h v7 e9
      have h10 : i32 v7 := by rw [e9]; (repeat' split) <;> first | exact ⟨by decide, by decide⟩ | exact ⟨by decide, by decide⟩
      refine wm_ireturn d_MW_compare_27 rfl rfl ?_
      exact ⟨_, rfl, h⟩
    clear h
    refine wm_icmp_ge (tgt := 26) d_MW_compare_19 rfl (hO _ _).1 (hO _ _).1 (fun c6 => ?_) (fun c6 => ?_)
    · refine wm_iconst d_MW_compare_26 ?_
      refine wm_less (L' := [vd, vd, vd]) ⟨Or.inl rfl, Or.inl rfl, Or.inl rfl, trivial⟩ ?_
      exact hJ 1 (if_pos c6).symm
    · refine wm_iconst d_MW_compare_22 ?_
      refine wm_goto (tgt := 27) d_MW_compare_23 rfl ?_
      refine wm_less (L' := [vd, vd, vd]) ⟨Or.inl rfl, Or.inl rfl, Or.inl rfl, trivial⟩ ?_
      exact hJ (-1) (if_neg c6).symm
theorem k_MW_compare_35 {G : mG} {d : Nat} {a0 : Nat} {a1 : Nat} {l2 : Int} {M : mM} {Q : Int → mM → Prop} (hO : mOk M) (hi_l2 : i32 l2)
    (h : (¬ (l2 < 0) → (mK M a0 = 20 ∧ mK M (mR M a0 0) = 30 ∧ ((0 : Int) ≤ l2 ∧ l2 < (mN M (mR M a0 0) : Int)) ∧ mK M a1 = 20 ∧ mK M (mR M a1 0) = 30 ∧ ((0 : Int) ≤ l2 ∧ l2 < (mN M (mR M a1 0) : Int)))) ∧ (((l2 < 0) ∨ (¬ (mI M (mR M a0 0) (Int.toNat l2) = mI M (mR M a1 0) (Int.toNat l2)))) → (((0 ≤ l2) → (mK M a0 = 20 ∧ mK M (mR M a0 0) = 30 ∧ ((0 : Int) ≤ l2 ∧ l2 < (mN M (mR M a0 0) : Int)) ∧ mK M a1 = 20 ∧ mK M (mR M a1 0) = 30 ∧ ((0 : Int) ≤ l2 ∧ l2 < (mN M (mR M a1 0) : Int)))) ∧ ∀ v30 : Int, v30 = (if 0 ≤ l2 then (if mI M (mR M a1 0) (Int.toNat l2) ≤ mI M (mR M a0 0) (Int.toNat l2) then 1 else (-1)) else 0) → Q v30 M)) ∧ (¬ ((l2 < 0) ∨ (¬ (mI M (mR M a0 0) (Int.toNat l2) = mI M (mR M a1 0) (Int.toNat l2)))) → (h_MW_compare_35 G d a0 a1 (l2 + (-1)) M Q))) :
    h_MW_compare_35 G d a0 a1 l2 M Q := by
  unfold h_MW_compare_35
  refine wm_iload_n d_MW_compare_35 rfl rfl ?_
  obtain ⟨s20, h⟩ := h
  have hE0 : ((l2 < 0) ∨ (¬ (mI M (mR M a0 0) (Int.toNat l2) = mI M (mR M a1 0) (Int.toNat l2)))) → mWm G y_MW_compare d 60 [vr a0, vr a1, vi l2] [] M (fun r9 M9 => ∃ x9, r9 = some (vi x9) ∧ Q x9 M9) := by
    intro q21
    have h := h.1 q21
    refine wm_iload_n d_MW_compare_60 rfl rfl ?_
    obtain ⟨s31, h⟩ := h
    have hJ : ∀ v30 : Int, v30 = (if 0 ≤ l2 then (if mI M (mR M a1 0) (Int.toNat l2) ≤ mI M (mR M a0 0) (Int.toNat l2) then 1 else (-1)) else 0) → mWm G y_MW_compare d 88 [vd, vd, vd] [vi v30] M (fun r9 M9 => ∃ x9, r9 = some (vi x9) ∧ Q x9 M9) := by
      intro v30 e32
      have h := h v30 e32
      have h33 : i32 v30 := by rw [e32]; (repeat' split) <;> first | exact ⟨by decide, by decide⟩ | exact ⟨by decide, by decide⟩ | exact ⟨by decide, by decide⟩
      refine wm_ireturn d_MW_compare_88 rfl rfl ?_
      exact ⟨_, rfl, h⟩
    clear h
    have s34 := s31
    refine wm_if_ge (tgt := 68) d_MW_compare_61 rfl hi_l2 (fun c22 => ?_) (fun c22 => ?_)
    · have s34 := s34 c22
      obtain ⟨h23, h24, h25, h26, h27, h28⟩ := s34
      refine wm_aload_n d_MW_compare_68 rfl rfl ?_
      refine gf_MW_7 rfl d_MW_compare_69 h23 ?_
      refine wm_iload_n d_MW_compare_72 rfl rfl ?_
      refine wm_iald d_MW_compare_73 h24 h25 ?_
      refine wm_aload_n d_MW_compare_74 rfl rfl ?_
      refine gf_MW_7 rfl d_MW_compare_75 h26 ?_
      refine wm_iload_n d_MW_compare_78 rfl rfl ?_
      refine wm_iald d_MW_compare_79 h27 h28 ?_
      refine wm_icmp_ge (tgt := 87) d_MW_compare_80 rfl (hO _ _).1 (hO _ _).1 (fun c29 => ?_) (fun c29 => ?_)
      · refine wm_iconst d_MW_compare_87 ?_
        refine wm_less (L' := [vd, vd, vd]) ⟨Or.inl rfl, Or.inl rfl, Or.inl rfl, trivial⟩ ?_
        exact hJ 1 (by rw [if_pos c22, if_pos c29])
      · refine wm_iconst d_MW_compare_83 ?_
        refine wm_goto (tgt := 88) d_MW_compare_84 rfl ?_
        refine wm_less (L' := [vd, vd, vd]) ⟨Or.inl rfl, Or.inl rfl, Or.inl rfl, trivial⟩ ?_
        exact hJ (-1) (by rw [if_pos c22, if_neg c29])
    · refine wm_iconst d_MW_compare_64 ?_
      refine wm_goto (tgt := 88) d_MW_compare_65 rfl ?_
      refine wm_less (L' := [vd, vd, vd]) ⟨Or.inl rfl, Or.inl rfl, Or.inl rfl, trivial⟩ ?_
      exact hJ 0 (by rw [if_neg c22])
  have hE1 : ¬ ((l2 < 0) ∨ (¬ (mI M (mR M a0 0) (Int.toNat l2) = mI M (mR M a1 0) (Int.toNat l2)))) → mWm G y_MW_compare d 54 [vr a0, vr a1, vi l2] [] M (fun r9 M9 => ∃ x9, r9 = some (vi x9) ∧ Q x9 M9) := by
    intro q35
    have h := h.2 q35
    refine wm_iinc d_MW_compare_54 (by decide) rfl (L' := [vr a0, vr a1, vi (l2 + (-1))]) rfl ?_
    refine wm_goto (tgt := 35) d_MW_compare_57 rfl ?_
    exact h
  clear h
  have s36 := s20
  refine wm_if_lt (tgt := 60) d_MW_compare_36 rfl hi_l2 (fun c19 => ?_) (fun c19 => ?_)
  · exact hE0 (Or.inl c19)
  · have s36 := s36 c19
    obtain ⟨h12, h13, h14, h15, h16, h17⟩ := s36
    refine wm_aload_n d_MW_compare_39 rfl rfl ?_
    refine gf_MW_7 rfl d_MW_compare_40 h12 ?_
    refine wm_iload_n d_MW_compare_43 rfl rfl ?_
    refine wm_iald d_MW_compare_44 h13 h14 ?_
    refine wm_aload_n d_MW_compare_45 rfl rfl ?_
    refine gf_MW_7 rfl d_MW_compare_46 h15 ?_
    refine wm_iload_n d_MW_compare_49 rfl rfl ?_
    refine wm_iald d_MW_compare_50 h16 h17 ?_
    refine wm_icmp_ne (tgt := 60) d_MW_compare_51 rfl (hO _ _).1 (hO _ _).1 (fun c18 => ?_) (fun c18 => ?_)
    · exact hE0 (Or.inr c18)
    · replace c18 := Classical.not_not.mp c18
      exact hE1 (fun z37 => Or.elim z37 c19 (fun z38 => z38 c18))
theorem d_MW_at_0 : decode y_MW_at.2.1 0 = .ok (.iload_n 1, 1) := dc9_27 (by decide +kernel)
theorem d_MW_at_1 : decode y_MW_at.2.1 1 = .ok (.aload_n 0, 1) := dc9_42 (by decide +kernel)
theorem d_MW_at_2 : decode y_MW_at.2.1 2 = .ok (.getfield 13, 3) := dc9_180 (by decide +kernel)
theorem d_MW_at_5 : decode y_MW_at.2.1 5 = .ok (.if_icmp .ge 12, 3) := dc9_162 (by decide +kernel)
theorem d_MW_at_17 : decode y_MW_at.2.1 17 = .ok (.iconst 0, 1) := dc9_3 (by decide +kernel)
theorem d_MW_at_8 : decode y_MW_at.2.1 8 = .ok (.aload_n 0, 1) := dc9_42 (by decide +kernel)
theorem d_MW_at_9 : decode y_MW_at.2.1 9 = .ok (.getfield 7, 3) := dc9_180 (by decide +kernel)
theorem d_MW_at_12 : decode y_MW_at.2.1 12 = .ok (.iload_n 1, 1) := dc9_27 (by decide +kernel)
theorem d_MW_at_13 : decode y_MW_at.2.1 13 = .ok (.iaload, 1) := dc9_46 (by decide +kernel)
theorem d_MW_at_14 : decode y_MW_at.2.1 14 = .ok (.goto 4, 3) := dc9_167 (by decide +kernel)
theorem d_MW_at_18 : decode y_MW_at.2.1 18 = .ok (.ireturn, 1) := dc9_172 (by decide +kernel)
theorem k_MW_at {G : mG} {d : Nat} {a0 : Nat} {l1 : Int} {M : mM} {Q : Int → mM → Prop} (hO : mOk M) (hi_l1 : i32 l1)
    (h : mK M a0 = 20 ∧ (¬ (mI M a0 1 ≤ l1) → (mK M (mR M a0 0) = 30 ∧ ((0 : Int) ≤ l1 ∧ l1 < (mN M (mR M a0 0) : Int)))) ∧ ∀ v5 : Int, v5 = (if (mI M a0 1 ≤ l1) then 0 else mI M (mR M a0 0) (Int.toNat l1)) → Q v5 M) :
    Ci G y_MW_at d [vr a0, vi l1] M Q := by
  refine wm_open (y := y_MW_at) rfl (Nat.le_of_ble_eq_true rfl) (L := [vr a0, vi l1]) rfl ?_
  obtain ⟨h1, h⟩ := h
  refine wm_iload_n d_MW_at_0 rfl rfl ?_
  refine wm_aload_n d_MW_at_1 rfl rfl ?_
  refine gf_MW_13 rfl d_MW_at_2 h1 ?_
  obtain ⟨s6, h⟩ := h
  have hJ : ∀ v5 : Int, v5 = (if (mI M a0 1 ≤ l1) then 0 else mI M (mR M a0 0) (Int.toNat l1)) → mWm G y_MW_at d 18 [vd, vd] [vi v5] M (fun r9 M9 => ∃ x9, r9 = some (vi x9) ∧ Q x9 M9) := by
    intro v5 e7
    have h := h v5 e7
    refine wm_ireturn d_MW_at_18 rfl rfl ?_
    exact ⟨_, rfl, h⟩
  clear h
  have s8 := s6
  refine wm_icmp_ge (tgt := 17) d_MW_at_5 rfl hi_l1 (hO _ _).1 (fun c2 => ?_) (fun c2 => ?_)
  · refine wm_iconst d_MW_at_17 ?_
    refine wm_less (L' := [vd, vd]) ⟨Or.inl rfl, Or.inl rfl, trivial⟩ ?_
    exact hJ 0 (if_pos c2).symm
  · have s8 := s8 c2
    obtain ⟨h3, h4⟩ := s8
    refine wm_aload_n d_MW_at_8 rfl rfl ?_
    refine gf_MW_7 rfl d_MW_at_9 h1 ?_
    refine wm_iload_n d_MW_at_12 rfl rfl ?_
    refine wm_iald d_MW_at_13 h3 h4 ?_
    refine wm_goto (tgt := 18) d_MW_at_14 rfl ?_
    refine wm_less (L' := [vd, vd]) ⟨Or.inl rfl, Or.inl rfl, trivial⟩ ?_
    exact hJ (mI M (mR M a0 0) (Int.toNat l1)) (if_neg c2).symm
theorem d_MW_add_0 : decode y_MW_add.2.1 0 = .ok (.aload_n 0, 1) := dc9_42 (by decide +kernel)
theorem d_MW_add_1 : decode y_MW_add.2.1 1 = .ok (.getfield 13, 3) := dc9_180 (by decide +kernel)
theorem d_MW_add_4 : decode y_MW_add.2.1 4 = .ok (.aload_n 1, 1) := dc9_43 (by decide +kernel)
theorem d_MW_add_5 : decode y_MW_add.2.1 5 = .ok (.getfield 13, 3) := dc9_180 (by decide +kernel)
theorem d_MW_add_8 : decode y_MW_add.2.1 8 = .ok (.if_icmp .le 10, 3) := dc9_164 (by decide +kernel)
theorem d_MW_add_18 : decode y_MW_add.2.1 18 = .ok (.aload_n 1, 1) := dc9_43 (by decide +kernel)
theorem d_MW_add_19 : decode y_MW_add.2.1 19 = .ok (.getfield 13, 3) := dc9_180 (by decide +kernel)
theorem d_MW_add_11 : decode y_MW_add.2.1 11 = .ok (.aload_n 0, 1) := dc9_42 (by decide +kernel)
theorem d_MW_add_12 : decode y_MW_add.2.1 12 = .ok (.getfield 13, 3) := dc9_180 (by decide +kernel)
theorem d_MW_add_15 : decode y_MW_add.2.1 15 = .ok (.goto 7, 3) := dc9_167 (by decide +kernel)
theorem d_MW_add_22 : decode y_MW_add.2.1 22 = .ok (.istore_n 2, 1) := dc9_61 (by decide +kernel)
theorem d_MW_add_23 : decode y_MW_add.2.1 23 = .ok (.iconst 0, 1) := dc9_3 (by decide +kernel)
theorem d_MW_add_24 : decode y_MW_add.2.1 24 = .ok (.istore_n 3, 1) := dc9_62 (by decide +kernel)
theorem d_MW_add_25 : decode y_MW_add.2.1 25 = .ok (.iconst 0, 1) := dc9_3 (by decide +kernel)
theorem d_MW_add_26 : decode y_MW_add.2.1 26 = .ok (.istore 4, 2) := dc9_54 (by decide +kernel)
theorem d_MW_add_28 : decode y_MW_add.2.1 28 = .ok (.iload 4, 2) := dc9_21 (by decide +kernel)
theorem d_MW_add_30 : decode y_MW_add.2.1 30 = .ok (.iload_n 2, 1) := dc9_28 (by decide +kernel)
theorem d_MW_add_31 : decode y_MW_add.2.1 31 = .ok (.if_icmp .ge 44, 3) := dc9_162 (by decide +kernel)
theorem d_MW_add_75 : decode y_MW_add.2.1 75 = .ok (.aload_n 0, 1) := dc9_42 (by decide +kernel)
theorem d_MW_add_76 : decode y_MW_add.2.1 76 = .ok (.iload_n 2, 1) := dc9_28 (by decide +kernel)
theorem d_MW_add_77 : decode y_MW_add.2.1 77 = .ok (.putfield 13, 3) := dc9_181 (by decide +kernel)
theorem d_MW_add_80 : decode y_MW_add.2.1 80 = .ok (.iload_n 3, 1) := dc9_29 (by decide +kernel)
theorem d_MW_add_34 : decode y_MW_add.2.1 34 = .ok (.aload_n 0, 1) := dc9_42 (by decide +kernel)
theorem d_MW_add_35 : decode y_MW_add.2.1 35 = .ok (.iload 4, 2) := dc9_21 (by decide +kernel)
theorem d_MW_add_81 : decode y_MW_add.2.1 81 = .ok (.ifCond .le 23, 3) := dc9_158 (by decide +kernel)
theorem d_MW_add_84 : decode y_MW_add.2.1 84 = .ok (.aload_n 0, 1) := dc9_42 (by decide +kernel)
theorem d_MW_add_85 : decode y_MW_add.2.1 85 = .ok (.getfield 7, 3) := dc9_180 (by decide +kernel)
theorem d_MW_add_88 : decode y_MW_add.2.1 88 = .ok (.aload_n 0, 1) := dc9_42 (by decide +kernel)
theorem d_MW_add_89 : decode y_MW_add.2.1 89 = .ok (.getfield 13, 3) := dc9_180 (by decide +kernel)
theorem d_MW_add_92 : decode y_MW_add.2.1 92 = .ok (.iload_n 3, 1) := dc9_29 (by decide +kernel)
theorem d_MW_add_93 : decode y_MW_add.2.1 93 = .ok (.iastore, 1) := dc9_79 (by decide +kernel)
theorem d_MW_add_94 : decode y_MW_add.2.1 94 = .ok (.aload_n 0, 1) := dc9_42 (by decide +kernel)
theorem d_MW_add_95 : decode y_MW_add.2.1 95 = .ok (.dup, 1) := dc9_89 (by decide +kernel)
theorem d_MW_add_96 : decode y_MW_add.2.1 96 = .ok (.getfield 13, 3) := dc9_180 (by decide +kernel)
theorem d_MW_add_99 : decode y_MW_add.2.1 99 = .ok (.iconst 1, 1) := dc9_4 (by decide +kernel)
theorem d_MW_add_100 : decode y_MW_add.2.1 100 = .ok (.iadd, 1) := dc9_96 (by decide +kernel)
theorem d_MW_add_101 : decode y_MW_add.2.1 101 = .ok (.putfield 13, 3) := dc9_181 (by decide +kernel)
theorem d_MW_add_104 : decode y_MW_add.2.1 104 = .ok (.return_, 1) := dc9_177 (by decide +kernel)
theorem d_MW_add_37 : decode y_MW_add.2.1 37 = .ok (.invokevirtual 19, 3) := dc9_182 (by decide +kernel)
theorem d_MW_add_40 : decode y_MW_add.2.1 40 = .ok (.aload_n 1, 1) := dc9_43 (by decide +kernel)
theorem d_MW_add_41 : decode y_MW_add.2.1 41 = .ok (.iload 4, 2) := dc9_21 (by decide +kernel)
theorem d_MW_add_43 : decode y_MW_add.2.1 43 = .ok (.invokevirtual 19, 3) := dc9_182 (by decide +kernel)
theorem d_MW_add_46 : decode y_MW_add.2.1 46 = .ok (.iadd, 1) := dc9_96 (by decide +kernel)
theorem d_MW_add_47 : decode y_MW_add.2.1 47 = .ok (.iload_n 3, 1) := dc9_29 (by decide +kernel)
theorem d_MW_add_48 : decode y_MW_add.2.1 48 = .ok (.iadd, 1) := dc9_96 (by decide +kernel)
theorem d_MW_add_49 : decode y_MW_add.2.1 49 = .ok (.istore 5, 2) := dc9_54 (by decide +kernel)
theorem d_MW_add_51 : decode y_MW_add.2.1 51 = .ok (.aload_n 0, 1) := dc9_42 (by decide +kernel)
theorem d_MW_add_52 : decode y_MW_add.2.1 52 = .ok (.getfield 7, 3) := dc9_180 (by decide +kernel)
theorem d_MW_add_55 : decode y_MW_add.2.1 55 = .ok (.iload 4, 2) := dc9_21 (by decide +kernel)
theorem d_MW_add_57 : decode y_MW_add.2.1 57 = .ok (.iload 5, 2) := dc9_21 (by decide +kernel)
theorem d_MW_add_59 : decode y_MW_add.2.1 59 = .ok (.ldc 23, 2) := dc9_18 (by decide +kernel)
theorem d_MW_add_61 : decode y_MW_add.2.1 61 = .ok (.irem, 1) := dc9_112 (by decide +kernel)
theorem d_MW_add_62 : decode y_MW_add.2.1 62 = .ok (.iastore, 1) := dc9_79 (by decide +kernel)
theorem d_MW_add_63 : decode y_MW_add.2.1 63 = .ok (.iload 5, 2) := dc9_21 (by decide +kernel)
theorem d_MW_add_65 : decode y_MW_add.2.1 65 = .ok (.ldc 23, 2) := dc9_18 (by decide +kernel)
theorem d_MW_add_67 : decode y_MW_add.2.1 67 = .ok (.idiv, 1) := dc9_108 (by decide +kernel)
theorem d_MW_add_68 : decode y_MW_add.2.1 68 = .ok (.istore_n 3, 1) := dc9_62 (by decide +kernel)
theorem d_MW_add_69 : decode y_MW_add.2.1 69 = .ok (.iinc 4 1, 3) := by decide +kernel
theorem d_MW_add_72 : decode y_MW_add.2.1 72 = .ok (.goto (-44), 3) := dc9_167 (by decide +kernel)
def h_MW_add_28 (G : mG) (d : Nat) (a0 : Nat) (a1 : Nat) (l2 : Int) (l3 : Int) (l4 : Int) (M : mM) (Q : mM → Prop) : Prop := mWm G y_MW_add (d + 1) 28 [vr a0, vr a1, vi l2, vi l3, vi l4, vd] [] M (fun r9 M9 => r9 = none ∧ Q M9)
theorem k_MW_add {G : mG} {d : Nat} {a0 : Nat} {a1 : Nat} {M : mM} {Q : mM → Prop} (hO : mOk M)
    (h : mK M a0 = 20 ∧ mK M a1 = 20 ∧ ∀ v4 : Int, v4 = (if (mI M a0 1 ≤ mI M a1 1) then mI M a1 1 else mI M a0 1) → h_MW_add_28 G d a0 a1 v4 0 0 M Q) :
    Cv G y_MW_add (d + 1) [vr a0, vr a1] M Q := by
  refine wm_open (y := y_MW_add) rfl (Nat.le_of_ble_eq_true rfl) (L := [vr a0, vr a1, vd, vd, vd, vd]) rfl ?_
  obtain ⟨h1, h⟩ := h
  obtain ⟨h2, h⟩ := h
  refine wm_aload_n d_MW_add_0 rfl rfl ?_
  refine gf_MW_13 rfl d_MW_add_1 h1 ?_
  refine wm_aload_n d_MW_add_4 rfl rfl ?_
  refine gf_MW_13 rfl d_MW_add_5 h2 ?_
  have hJ : ∀ v4 : Int, v4 = (if (mI M a0 1 ≤ mI M a1 1) then mI M a1 1 else mI M a0 1) → mWm G y_MW_add (d + 1) 22 [vr a0, vr a1, vd, vd, vd, vd] [vi v4] M (fun r9 M9 => r9 = none ∧ Q M9) := by
    intro v4 e6
    have h := h v4 e6
    have h7 : i32 v4 := by rw [e6]; (repeat' split) <;> first | exact (hO _ _).1 | exact (hO _ _).1
    refine wm_istore_n d_MW_add_22 rfl (by decide) (L' := [vr a0, vr a1, vi v4, vd, vd, vd]) rfl ?_
    refine wm_iconst d_MW_add_23 ?_
    refine wm_istore_n d_MW_add_24 rfl (by decide) (L' := [vr a0, vr a1, vi v4, vi 0, vd, vd]) rfl ?_
    refine wm_iconst d_MW_add_25 ?_
    refine wm_istore d_MW_add_26 (by decide) (L' := [vr a0, vr a1, vi v4, vi 0, vi 0, vd]) rfl ?_
    exact h
  clear h
  refine wm_icmp_le (tgt := 18) d_MW_add_8 rfl (hO _ _).1 (hO _ _).1 (fun c3 => ?_) (fun c3 => ?_)
  · refine wm_aload_n d_MW_add_18 rfl rfl ?_
    refine gf_MW_13 rfl d_MW_add_19 h2 ?_
    exact hJ (mI M a1 1) (if_pos c3).symm
  · refine wm_aload_n d_MW_add_11 rfl rfl ?_
    refine gf_MW_13 rfl d_MW_add_12 h1 ?_
    refine wm_goto (tgt := 22) d_MW_add_15 rfl ?_
    exact hJ (mI M a0 1) (if_neg c3).symm
theorem k_MW_add_28 {G : mG} {d : Nat} {a0 : Nat} {a1 : Nat} {l2 : Int} {l3 : Int} {l4 : Int} {M : mM} {Q : mM → Prop} (hO : mOk M) (hi_l2 : i32 l2) (hi_l3 : i32 l3) (hi_l4 : i32 l4)
    (h : ((l2 ≤ l4) → (mK M a0 = 20 ∧ ∀ M13, M13 = mUI M a0 1 l2 → ((l3 ≤ 0) → (Q M13)) ∧ (¬ (l3 ≤ 0) → (mK M13 (mR M13 a0 0) = 30 ∧ ((0 : Int) ≤ mI M13 a0 1 ∧ mI M13 a0 1 < (mN M13 (mR M13 a0 0) : Int)) ∧ ∀ M23, M23 = mUI M13 (mR M13 a0 0) (Int.toNat (mI M13 a0 1)) l3 → i32 ((mI M23 a0 1) + 1) ∧ ∀ M26, M26 = mUI M23 a0 1 ((mI M23 a0 1) + 1) → Q M26)))) ∧ (¬ (l2 ≤ l4) → (mK M a0 = 20 ∧ Ci G y_MW_at d [vr a0, vi l4] M (fun x30 M29 => i32 x30 ∧ mOk M29 ∧ (mK M29 a1 = 20 ∧ Ci G y_MW_at d [vr a1, vi l4] M29 (fun x34 M33 => i32 x34 ∧ mOk M33 ∧ (mK M33 a0 = 20 ∧ i32 ((x30 + x34) + l3) ∧ mK M33 (mR M33 a0 0) = 30 ∧ ((0 : Int) ≤ l4 ∧ l4 < (mN M33 (mR M33 a0 0) : Int)) ∧ ∀ M40, M40 = mUI M33 (mR M33 a0 0) (Int.toNat l4) (Int.tmod ((x30 + x34) + l3) 16777216) → h_MW_add_28 G d a0 a1 l2 (Int.tdiv ((x30 + x34) + l3) 16777216) (l4 + 1) M40 Q))))))) :
    h_MW_add_28 G d a0 a1 l2 l3 l4 M Q := by
  unfold h_MW_add_28
  refine wm_iload d_MW_add_28 rfl ?_
  refine wm_iload_n d_MW_add_30 rfl rfl ?_
  refine wm_icmp_ge (tgt := 75) d_MW_add_31 rfl hi_l4 hi_l2 (fun c11 => ?_) (fun c11 => ?_)
  · replace h := h.1 c11
    obtain ⟨h12, h⟩ := h
    obtain ⟨M13, e14⟩ : ∃ M13, M13 = mUI M a0 1 l2 := ⟨_, rfl⟩
    replace h := h M13 e14
    refine wm_aload_n d_MW_add_75 rfl rfl ?_
    refine wm_iload_n d_MW_add_76 rfl rfl ?_
    have hOM13 : mOk M13 := by rw [e14]; exact mOk_UI hO hi_l2
    refine pf_MW_13 rfl d_MW_add_77 h12 hi_l2 e14 ?_
    refine wm_iload_n d_MW_add_80 rfl rfl ?_
    refine wm_if_le (tgt := 104) d_MW_add_81 rfl hi_l3 (fun c20 => ?_) (fun c20 => ?_)
    · replace h := h.1 c20
      refine wm_return d_MW_add_104 rfl ?_
      exact ⟨rfl, h⟩
    · replace h := h.2 c20
      obtain ⟨h21, h⟩ := h
      obtain ⟨h22, h⟩ := h
      obtain ⟨M23, e24⟩ : ∃ M23, M23 = mUI M13 (mR M13 a0 0) (Int.toNat (mI M13 a0 1)) l3 := ⟨_, rfl⟩
      replace h := h M23 e24
      obtain ⟨h25, h⟩ := h
      obtain ⟨M26, e27⟩ : ∃ M26, M26 = mUI M23 a0 1 ((mI M23 a0 1) + 1) := ⟨_, rfl⟩
      replace h := h M26 e27
      refine wm_aload_n d_MW_add_84 rfl rfl ?_
      refine gf_MW_7 rfl d_MW_add_85 (by rw [e14]; exact h12) ?_
      refine wm_aload_n d_MW_add_88 rfl rfl ?_
      refine gf_MW_13 rfl d_MW_add_89 (by rw [e14]; exact h12) ?_
      refine wm_iload_n d_MW_add_92 rfl rfl ?_
      have hOM23 : mOk M23 := by rw [e24]; exact mOk_UI hOM13 hi_l3
      refine wm_iastE d_MW_add_93 h21 h22 hi_l3 e24 ?_
      refine wm_aload_n d_MW_add_94 rfl rfl ?_
      refine wm_dup d_MW_add_95 rfl ?_
      refine gf_MW_13 rfl d_MW_add_96 (by rw [e24, e14]; exact h12) ?_
      refine wm_iconst d_MW_add_99 ?_
      refine wm_iadd d_MW_add_100 ?_
      have hOM26 : mOk M26 := by rw [e27]; exact mOk_UI hOM23 h25
      refine pf_MW_13 rfl d_MW_add_101 (by rw [e24, e14]; exact h12) h25 e27 ?_
      refine wm_return d_MW_add_104 rfl ?_
      exact ⟨rfl, h⟩
  · replace h := h.2 c11
    obtain ⟨h28, h⟩ := h
    refine wm_aload_n d_MW_add_34 rfl rfl ?_
    refine wm_iload d_MW_add_35 rfl ?_
    refine cf_MW_19 rfl d_MW_add_37 h28 (Nat.le_of_ble_eq_true rfl) (Ci.mono h (fun x30 M29 h => ?_))
    obtain ⟨h31, hOM29, h⟩ := h
    obtain ⟨h32, h⟩ := h
    refine wm_aload_n d_MW_add_40 rfl rfl ?_
    refine wm_iload d_MW_add_41 rfl ?_
    refine cf_MW_19 rfl d_MW_add_43 h32 (Nat.le_of_ble_eq_true rfl) (Ci.mono h (fun x34 M33 h => ?_))
    obtain ⟨h35, hOM33, h⟩ := h
    obtain ⟨h36, h⟩ := h
    obtain ⟨h37, h⟩ := h
    obtain ⟨h38, h⟩ := h
    obtain ⟨h39, h⟩ := h
    obtain ⟨M40, e41⟩ : ∃ M40, M40 = mUI M33 (mR M33 a0 0) (Int.toNat l4) (Int.tmod ((x30 + x34) + l3) 16777216) := ⟨_, rfl⟩
    replace h := h M40 e41
    refine wm_iadd d_MW_add_46 ?_
    refine wm_iload_n d_MW_add_47 rfl rfl ?_
    refine wm_iadd d_MW_add_48 ?_
    refine wm_istore d_MW_add_49 (by decide) (L' := [vr a0, vr a1, vi l2, vi l3, vi l4, vi ((x30 + x34) + l3)]) rfl ?_
    refine wm_aload_n d_MW_add_51 rfl rfl ?_
    refine gf_MW_7 rfl d_MW_add_52 h36 ?_
    refine wm_iload d_MW_add_55 rfl ?_
    refine wm_iload d_MW_add_57 rfl ?_
    refine wm_ldc (x := 16777216) d_MW_add_59 k13_26 (by decide) ?_
    refine wm_irem d_MW_add_61 h37 ⟨by decide, by decide⟩ (by decide) ?_
    have hOM40 : mOk M40 := by rw [e41]; exact mOk_UI hOM33 (m_tmod32 h37 ⟨by decide, by decide⟩)
    refine wm_iastE d_MW_add_62 h38 h39 (m_tmod32 h37 ⟨by decide, by decide⟩) e41 ?_
    refine wm_iload d_MW_add_63 rfl ?_
    refine wm_ldc (x := 16777216) d_MW_add_65 k13_26 (by decide) ?_
    refine wm_idiv d_MW_add_67 h37 ⟨by decide, by decide⟩ (by decide) ?_
    refine wm_istore_n d_MW_add_68 rfl (by decide) (L' := [vr a0, vr a1, vi l2, vi (Int.tdiv ((x30 + x34) + l3) 16777216), vi l4, vi ((x30 + x34) + l3)]) rfl ?_
    refine wm_iinc d_MW_add_69 (by decide) rfl (L' := [vr a0, vr a1, vi l2, vi (Int.tdiv ((x30 + x34) + l3) 16777216), vi (l4 + 1), vi ((x30 + x34) + l3)]) rfl ?_
    refine wm_goto (tgt := 28) d_MW_add_72 rfl ?_
    refine wm_less (L' := [vr a0, vr a1, vi l2, vi (Int.tdiv ((x30 + x34) + l3) 16777216), vi (l4 + 1), vd]) ⟨Or.inr rfl, Or.inr rfl, Or.inr rfl, Or.inr rfl, Or.inr rfl, Or.inl rfl, trivial⟩ ?_
    exact h
theorem d_MW_less_0 : decode y_MW_less.2.1 0 = .ok (.iconst 0, 1) := dc9_3 (by decide +kernel)
theorem d_MW_less_1 : decode y_MW_less.2.1 1 = .ok (.istore_n 2, 1) := dc9_61 (by decide +kernel)
theorem d_MW_less_2 : decode y_MW_less.2.1 2 = .ok (.iconst 0, 1) := dc9_3 (by decide +kernel)
theorem d_MW_less_3 : decode y_MW_less.2.1 3 = .ok (.istore_n 3, 1) := dc9_62 (by decide +kernel)
theorem d_MW_less_4 : decode y_MW_less.2.1 4 = .ok (.iload_n 3, 1) := dc9_29 (by decide +kernel)
theorem d_MW_less_5 : decode y_MW_less.2.1 5 = .ok (.aload_n 0, 1) := dc9_42 (by decide +kernel)
theorem d_MW_less_6 : decode y_MW_less.2.1 6 = .ok (.getfield 13, 3) := dc9_180 (by decide +kernel)
theorem d_MW_less_9 : decode y_MW_less.2.1 9 = .ok (.if_icmp .ge 57, 3) := dc9_162 (by decide +kernel)
theorem d_MW_less_66 : decode y_MW_less.2.1 66 = .ok (.aload_n 0, 1) := dc9_42 (by decide +kernel)
theorem d_MW_less_12 : decode y_MW_less.2.1 12 = .ok (.aload_n 0, 1) := dc9_42 (by decide +kernel)
theorem d_MW_less_13 : decode y_MW_less.2.1 13 = .ok (.getfield 7, 3) := dc9_180 (by decide +kernel)
theorem d_MW_less_16 : decode y_MW_less.2.1 16 = .ok (.iload_n 3, 1) := dc9_29 (by decide +kernel)
theorem d_MW_less_17 : decode y_MW_less.2.1 17 = .ok (.iaload, 1) := dc9_46 (by decide +kernel)
theorem d_MW_less_18 : decode y_MW_less.2.1 18 = .ok (.aload_n 1, 1) := dc9_43 (by decide +kernel)
theorem d_MW_less_19 : decode y_MW_less.2.1 19 = .ok (.iload_n 3, 1) := dc9_29 (by decide +kernel)
theorem d_MW_less_67 : decode y_MW_less.2.1 67 = .ok (.invokevirtual 24, 3) := dc9_182 (by decide +kernel)
theorem d_MW_less_70 : decode y_MW_less.2.1 70 = .ok (.return_, 1) := dc9_177 (by decide +kernel)
theorem d_MW_less_20 : decode y_MW_less.2.1 20 = .ok (.invokevirtual 19, 3) := dc9_182 (by decide +kernel)
theorem d_MW_less_23 : decode y_MW_less.2.1 23 = .ok (.isub, 1) := dc9_100 (by decide +kernel)
theorem d_MW_less_24 : decode y_MW_less.2.1 24 = .ok (.iload_n 2, 1) := dc9_28 (by decide +kernel)
theorem d_MW_less_25 : decode y_MW_less.2.1 25 = .ok (.isub, 1) := dc9_100 (by decide +kernel)
theorem d_MW_less_26 : decode y_MW_less.2.1 26 = .ok (.istore 4, 2) := dc9_54 (by decide +kernel)
theorem d_MW_less_28 : decode y_MW_less.2.1 28 = .ok (.iload 4, 2) := dc9_21 (by decide +kernel)
theorem d_MW_less_30 : decode y_MW_less.2.1 30 = .ok (.ifCond .ge 7, 3) := dc9_156 (by decide +kernel)
theorem d_MW_less_37 : decode y_MW_less.2.1 37 = .ok (.iconst 0, 1) := dc9_3 (by decide +kernel)
theorem d_MW_less_33 : decode y_MW_less.2.1 33 = .ok (.iconst 1, 1) := dc9_4 (by decide +kernel)
theorem d_MW_less_34 : decode y_MW_less.2.1 34 = .ok (.goto 4, 3) := dc9_167 (by decide +kernel)
theorem d_MW_less_38 : decode y_MW_less.2.1 38 = .ok (.istore_n 2, 1) := dc9_61 (by decide +kernel)
theorem d_MW_less_39 : decode y_MW_less.2.1 39 = .ok (.aload_n 0, 1) := dc9_42 (by decide +kernel)
theorem d_MW_less_40 : decode y_MW_less.2.1 40 = .ok (.getfield 7, 3) := dc9_180 (by decide +kernel)
theorem d_MW_less_43 : decode y_MW_less.2.1 43 = .ok (.iload_n 3, 1) := dc9_29 (by decide +kernel)
theorem d_MW_less_44 : decode y_MW_less.2.1 44 = .ok (.iload 4, 2) := dc9_21 (by decide +kernel)
theorem d_MW_less_46 : decode y_MW_less.2.1 46 = .ok (.ifCond .ge 11, 3) := dc9_156 (by decide +kernel)
theorem d_MW_less_57 : decode y_MW_less.2.1 57 = .ok (.iload 4, 2) := dc9_21 (by decide +kernel)
theorem d_MW_less_49 : decode y_MW_less.2.1 49 = .ok (.iload 4, 2) := dc9_21 (by decide +kernel)
theorem d_MW_less_51 : decode y_MW_less.2.1 51 = .ok (.ldc 23, 2) := dc9_18 (by decide +kernel)
theorem d_MW_less_53 : decode y_MW_less.2.1 53 = .ok (.iadd, 1) := dc9_96 (by decide +kernel)
theorem d_MW_less_54 : decode y_MW_less.2.1 54 = .ok (.goto 5, 3) := dc9_167 (by decide +kernel)
theorem d_MW_less_59 : decode y_MW_less.2.1 59 = .ok (.iastore, 1) := dc9_79 (by decide +kernel)
theorem d_MW_less_60 : decode y_MW_less.2.1 60 = .ok (.iinc 3 1, 3) := by decide +kernel
theorem d_MW_less_63 : decode y_MW_less.2.1 63 = .ok (.goto (-59), 3) := dc9_167 (by decide +kernel)
def h_MW_less_4 (G : mG) (d : Nat) (a0 : Nat) (a1 : Nat) (l2 : Int) (l3 : Int) (M : mM) (Q : mM → Prop) : Prop := mWm G y_MW_less (d + 1) 4 [vr a0, vr a1, vi l2, vi l3, vd] [] M (fun r9 M9 => r9 = none ∧ Q M9)
theorem k_MW_less {G : mG} {d : Nat} {a0 : Nat} {a1 : Nat} {M : mM} {Q : mM → Prop} (hO : mOk M)
    (h : h_MW_less_4 G d a0 a1 0 0 M Q) :
    Cv G y_MW_less (d + 1) [vr a0, vr a1] M Q := by
  refine wm_open (y := y_MW_less) rfl (Nat.le_of_ble_eq_true rfl) (L := [vr a0, vr a1, vd, vd, vd]) rfl ?_
  refine wm_iconst d_MW_less_0 ?_
  refine wm_istore_n d_MW_less_1 rfl (by decide) (L' := [vr a0, vr a1, vi 0, vd, vd]) rfl ?_
  refine wm_iconst d_MW_less_2 ?_
  refine wm_istore_n d_MW_less_3 rfl (by decide) (L' := [vr a0, vr a1, vi 0, vi 0, vd]) rfl ?_
  exact h
theorem k_MW_less_4 {G : mG} {d : Nat} {a0 : Nat} {a1 : Nat} {l2 : Int} {l3 : Int} {M : mM} {Q : mM → Prop} (hO : mOk M) (hi_l2 : i32 l2) (hi_l3 : i32 l3)
    (h : mK M a0 = 20 ∧ ((mI M a0 1 ≤ l3) → (Cv G y_MW_trim d [vr a0] M (fun M4 => mOk M4 ∧ (Q M4)))) ∧ (¬ (mI M a0 1 ≤ l3) → (mK M (mR M a0 0) = 30 ∧ ((0 : Int) ≤ l3 ∧ l3 < (mN M (mR M a0 0) : Int)) ∧ mK M a1 = 20 ∧ Ci G y_MW_at d [vr a1, vi l3] M (fun x11 M10 => i32 x11 ∧ mOk M10 ∧ (i32 (((mI M (mR M a0 0) (Int.toNat l3)) - x11) - l2) ∧ ∀ v15 : Int, v15 = (if (0 ≤ ((mI M (mR M a0 0) (Int.toNat l3)) - x11) - l2) then 0 else 1) → mK M10 a0 = 20 ∧ ∀ v22 : Int, v22 = (if (0 ≤ ((mI M (mR M a0 0) (Int.toNat l3)) - x11) - l2) then ((mI M (mR M a0 0) (Int.toNat l3)) - x11) - l2 else (((mI M (mR M a0 0) (Int.toNat l3)) - x11) - l2) + 16777216) → mK M10 (mR M10 a0 0) = 30 ∧ ((0 : Int) ≤ l3 ∧ l3 < (mN M10 (mR M10 a0 0) : Int)) ∧ i32 v22 ∧ ∀ M28, M28 = mUI M10 (mR M10 a0 0) (Int.toNat l3) v22 → h_MW_less_4 G d a0 a1 v15 (l3 + 1) M28 Q))))) :
    h_MW_less_4 G d a0 a1 l2 l3 M Q := by
  unfold h_MW_less_4
  obtain ⟨h1, h⟩ := h
  refine wm_iload_n d_MW_less_4 rfl rfl ?_
  refine wm_aload_n d_MW_less_5 rfl rfl ?_
  refine gf_MW_13 rfl d_MW_less_6 h1 ?_
  refine wm_icmp_ge (tgt := 66) d_MW_less_9 rfl hi_l3 (hO _ _).1 (fun c3 => ?_) (fun c3 => ?_)
  · replace h := h.1 c3
    refine wm_aload_n d_MW_less_66 rfl rfl ?_
    refine cf_MW_24 rfl d_MW_less_67 h1 (Nat.le_of_ble_eq_true rfl) (Cv.mono h (fun M4 h => ?_))
    obtain ⟨hOM4, h⟩ := h
    refine wm_return d_MW_less_70 rfl ?_
    exact ⟨rfl, h⟩
  · replace h := h.2 c3
    obtain ⟨h7, h⟩ := h
    obtain ⟨h8, h⟩ := h
    obtain ⟨h9, h⟩ := h
    refine wm_aload_n d_MW_less_12 rfl rfl ?_
    refine gf_MW_7 rfl d_MW_less_13 h1 ?_
    refine wm_iload_n d_MW_less_16 rfl rfl ?_
    refine wm_iald d_MW_less_17 h7 h8 ?_
    refine wm_aload_n d_MW_less_18 rfl rfl ?_
    refine wm_iload_n d_MW_less_19 rfl rfl ?_
    refine cf_MW_19 rfl d_MW_less_20 h9 (Nat.le_of_ble_eq_true rfl) (Ci.mono h (fun x11 M10 h => ?_))
    obtain ⟨h12, hOM10, h⟩ := h
    obtain ⟨h13, h⟩ := h
    refine wm_isub d_MW_less_23 ?_
    refine wm_iload_n d_MW_less_24 rfl rfl ?_
    refine wm_isub d_MW_less_25 ?_
    refine wm_istore d_MW_less_26 (by decide) (L' := [vr a0, vr a1, vi l2, vi l3, vi (((mI M (mR M a0 0) (Int.toNat l3)) - x11) - l2)]) rfl ?_
    refine wm_iload d_MW_less_28 rfl ?_
    have hJ : ∀ v15 : Int, v15 = (if (0 ≤ ((mI M (mR M a0 0) (Int.toNat l3)) - x11) - l2) then 0 else 1) → mWm G y_MW_less (d + 1) 38 [vr a0, vr a1, vd, vi l3, vi (((mI M (mR M a0 0) (Int.toNat l3)) - x11) - l2)] [vi v15] M10 (fun r9 M9 => r9 = none ∧ Q M9) := by
      intro v15 e17
      have h := h v15 e17
      have h18 : i32 v15 := by rw [e17]; (repeat' split) <;> first | exact ⟨by decide, by decide⟩ | exact ⟨by decide, by decide⟩
      have h19 : (v15 = 0 ∨ v15 = 1) := by rw [e17]; (repeat' split) <;> decide
      obtain ⟨h20, h⟩ := h
      refine wm_istore_n d_MW_less_38 rfl (by decide) (L' := [vr a0, vr a1, vi v15, vi l3, vi (((mI M (mR M a0 0) (Int.toNat l3)) - x11) - l2)]) rfl ?_
      refine wm_aload_n d_MW_less_39 rfl rfl ?_
      refine gf_MW_7 rfl d_MW_less_40 h20 ?_
      refine wm_iload_n d_MW_less_43 rfl rfl ?_
      refine wm_iload d_MW_less_44 rfl ?_
      have hJ : ∀ v22 : Int, v22 = (if (0 ≤ ((mI M (mR M a0 0) (Int.toNat l3)) - x11) - l2) then ((mI M (mR M a0 0) (Int.toNat l3)) - x11) - l2 else (((mI M (mR M a0 0) (Int.toNat l3)) - x11) - l2) + 16777216) → mWm G y_MW_less (d + 1) 59 [vr a0, vr a1, vi v15, vi l3, vd] [vi v22, vi l3, vr (mR M10 a0 0)] M10 (fun r9 M9 => r9 = none ∧ Q M9) := by
        intro v22 e24
        have h := h v22 e24
        obtain ⟨h25, h⟩ := h
        obtain ⟨h26, h⟩ := h
        obtain ⟨h27, h⟩ := h
        obtain ⟨M28, e29⟩ : ∃ M28, M28 = mUI M10 (mR M10 a0 0) (Int.toNat l3) v22 := ⟨_, rfl⟩
        replace h := h M28 e29
        have hOM28 : mOk M28 := by rw [e29]; exact mOk_UI hOM10 h27
        refine wm_iastE d_MW_less_59 h25 h26 h27 e29 ?_
        refine wm_iinc d_MW_less_60 (by decide) rfl (L' := [vr a0, vr a1, vi v15, vi (l3 + 1), vd]) rfl ?_
        refine wm_goto (tgt := 4) d_MW_less_63 rfl ?_
        exact h
      clear h
      refine wm_if_ge (tgt := 57) d_MW_less_46 rfl h13 (fun c21 => ?_) (fun c21 => ?_)
      · refine wm_iload d_MW_less_57 rfl ?_
        refine wm_less (L' := [vr a0, vr a1, vi v15, vi l3, vd]) ⟨Or.inr rfl, Or.inr rfl, Or.inr rfl, Or.inr rfl, Or.inl rfl, trivial⟩ ?_
        exact hJ (((mI M (mR M a0 0) (Int.toNat l3)) - x11) - l2) (if_pos c21).symm
      · refine wm_iload d_MW_less_49 rfl ?_
        refine wm_ldc (x := 16777216) d_MW_less_51 k13_26 (by decide) ?_
        refine wm_iadd d_MW_less_53 ?_
        refine wm_goto (tgt := 59) d_MW_less_54 rfl ?_
        refine wm_less (L' := [vr a0, vr a1, vi v15, vi l3, vd]) ⟨Or.inr rfl, Or.inr rfl, Or.inr rfl, Or.inr rfl, Or.inl rfl, trivial⟩ ?_
        exact hJ ((((mI M (mR M a0 0) (Int.toNat l3)) - x11) - l2) + 16777216) (if_neg c21).symm
    clear h
    refine wm_if_ge (tgt := 37) d_MW_less_30 rfl h13 (fun c14 => ?_) (fun c14 => ?_)
    · refine wm_iconst d_MW_less_37 ?_
      refine wm_less (L' := [vr a0, vr a1, vd, vi l3, vi (((mI M (mR M a0 0) (Int.toNat l3)) - x11) - l2)]) ⟨Or.inr rfl, Or.inr rfl, Or.inl rfl, Or.inr rfl, Or.inr rfl, trivial⟩ ?_
      exact hJ 0 (if_pos c14).symm
    · refine wm_iconst d_MW_less_33 ?_
      refine wm_goto (tgt := 38) d_MW_less_34 rfl ?_
      refine wm_less (L' := [vr a0, vr a1, vd, vi l3, vi (((mI M (mR M a0 0) (Int.toNat l3)) - x11) - l2)]) ⟨Or.inr rfl, Or.inr rfl, Or.inl rfl, Or.inr rfl, Or.inr rfl, trivial⟩ ?_
      exact hJ 1 (if_neg c14).symm
theorem d_MW_product_0 : decode y_MW_product.2.1 0 = .ok (.aload_n 0, 1) := dc9_42 (by decide +kernel)
theorem d_MW_product_1 : decode y_MW_product.2.1 1 = .ok (.aload_n 1, 1) := dc9_43 (by decide +kernel)
theorem d_MW_product_2 : decode y_MW_product.2.1 2 = .ok (.getfield 13, 3) := dc9_180 (by decide +kernel)
theorem d_MW_product_5 : decode y_MW_product.2.1 5 = .ok (.aload_n 2, 1) := dc9_44 (by decide +kernel)
theorem d_MW_product_6 : decode y_MW_product.2.1 6 = .ok (.getfield 13, 3) := dc9_180 (by decide +kernel)
theorem d_MW_product_9 : decode y_MW_product.2.1 9 = .ok (.iadd, 1) := dc9_96 (by decide +kernel)
theorem d_MW_product_10 : decode y_MW_product.2.1 10 = .ok (.putfield 13, 3) := dc9_181 (by decide +kernel)
theorem d_MW_product_13 : decode y_MW_product.2.1 13 = .ok (.iconst 0, 1) := dc9_3 (by decide +kernel)
theorem d_MW_product_14 : decode y_MW_product.2.1 14 = .ok (.istore_n 3, 1) := dc9_62 (by decide +kernel)
theorem d_MW_product_15 : decode y_MW_product.2.1 15 = .ok (.iload_n 3, 1) := dc9_29 (by decide +kernel)
theorem d_MW_product_16 : decode y_MW_product.2.1 16 = .ok (.aload_n 0, 1) := dc9_42 (by decide +kernel)
theorem d_MW_product_17 : decode y_MW_product.2.1 17 = .ok (.getfield 13, 3) := dc9_180 (by decide +kernel)
theorem d_MW_product_20 : decode y_MW_product.2.1 20 = .ok (.if_icmp .ge 16, 3) := dc9_162 (by decide +kernel)
theorem d_MW_product_36 : decode y_MW_product.2.1 36 = .ok (.iconst 0, 1) := dc9_3 (by decide +kernel)
theorem d_MW_product_37 : decode y_MW_product.2.1 37 = .ok (.istore_n 3, 1) := dc9_62 (by decide +kernel)
theorem d_MW_product_23 : decode y_MW_product.2.1 23 = .ok (.aload_n 0, 1) := dc9_42 (by decide +kernel)
theorem d_MW_product_24 : decode y_MW_product.2.1 24 = .ok (.getfield 7, 3) := dc9_180 (by decide +kernel)
theorem d_MW_product_27 : decode y_MW_product.2.1 27 = .ok (.iload_n 3, 1) := dc9_29 (by decide +kernel)
theorem d_MW_product_28 : decode y_MW_product.2.1 28 = .ok (.iconst 0, 1) := dc9_3 (by decide +kernel)
theorem d_MW_product_29 : decode y_MW_product.2.1 29 = .ok (.iastore, 1) := dc9_79 (by decide +kernel)
theorem d_MW_product_30 : decode y_MW_product.2.1 30 = .ok (.iinc 3 1, 3) := by decide +kernel
theorem d_MW_product_33 : decode y_MW_product.2.1 33 = .ok (.goto (-18), 3) := dc9_167 (by decide +kernel)
theorem d_MW_product_38 : decode y_MW_product.2.1 38 = .ok (.iload_n 3, 1) := dc9_29 (by decide +kernel)
theorem d_MW_product_39 : decode y_MW_product.2.1 39 = .ok (.aload_n 1, 1) := dc9_43 (by decide +kernel)
theorem d_MW_product_40 : decode y_MW_product.2.1 40 = .ok (.getfield 13, 3) := dc9_180 (by decide +kernel)
theorem d_MW_product_43 : decode y_MW_product.2.1 43 = .ok (.if_icmp .ge 100, 3) := dc9_162 (by decide +kernel)
theorem d_MW_product_143 : decode y_MW_product.2.1 143 = .ok (.aload_n 0, 1) := dc9_42 (by decide +kernel)
theorem d_MW_product_46 : decode y_MW_product.2.1 46 = .ok (.lconst 0, 1) := dc9_9 (by decide +kernel)
theorem d_MW_product_47 : decode y_MW_product.2.1 47 = .ok (.lstore 4, 2) := dc9_55 (by decide +kernel)
theorem d_MW_product_49 : decode y_MW_product.2.1 49 = .ok (.iconst 0, 1) := dc9_3 (by decide +kernel)
theorem d_MW_product_50 : decode y_MW_product.2.1 50 = .ok (.istore 6, 2) := dc9_54 (by decide +kernel)
theorem d_MW_product_144 : decode y_MW_product.2.1 144 = .ok (.invokevirtual 24, 3) := dc9_182 (by decide +kernel)
theorem d_MW_product_147 : decode y_MW_product.2.1 147 = .ok (.return_, 1) := dc9_177 (by decide +kernel)
theorem d_MW_product_52 : decode y_MW_product.2.1 52 = .ok (.iload 6, 2) := dc9_21 (by decide +kernel)
theorem d_MW_product_54 : decode y_MW_product.2.1 54 = .ok (.aload_n 2, 1) := dc9_44 (by decide +kernel)
theorem d_MW_product_55 : decode y_MW_product.2.1 55 = .ok (.getfield 13, 3) := dc9_180 (by decide +kernel)
theorem d_MW_product_58 : decode y_MW_product.2.1 58 = .ok (.if_icmp .ge 65, 3) := dc9_162 (by decide +kernel)
theorem d_MW_product_123 : decode y_MW_product.2.1 123 = .ok (.aload_n 0, 1) := dc9_42 (by decide +kernel)
theorem d_MW_product_124 : decode y_MW_product.2.1 124 = .ok (.getfield 7, 3) := dc9_180 (by decide +kernel)
theorem d_MW_product_127 : decode y_MW_product.2.1 127 = .ok (.iload_n 3, 1) := dc9_29 (by decide +kernel)
theorem d_MW_product_128 : decode y_MW_product.2.1 128 = .ok (.aload_n 2, 1) := dc9_44 (by decide +kernel)
theorem d_MW_product_129 : decode y_MW_product.2.1 129 = .ok (.getfield 13, 3) := dc9_180 (by decide +kernel)
theorem d_MW_product_132 : decode y_MW_product.2.1 132 = .ok (.iadd, 1) := dc9_96 (by decide +kernel)
theorem d_MW_product_133 : decode y_MW_product.2.1 133 = .ok (.lload 4, 2) := dc9_22 (by decide +kernel)
theorem d_MW_product_135 : decode y_MW_product.2.1 135 = .ok (.l2i, 1) := dc9_136 (by decide +kernel)
theorem d_MW_product_136 : decode y_MW_product.2.1 136 = .ok (.iastore, 1) := dc9_79 (by decide +kernel)
theorem d_MW_product_137 : decode y_MW_product.2.1 137 = .ok (.iinc 3 1, 3) := by decide +kernel
theorem d_MW_product_140 : decode y_MW_product.2.1 140 = .ok (.goto (-102), 3) := dc9_167 (by decide +kernel)
theorem d_MW_product_61 : decode y_MW_product.2.1 61 = .ok (.lload 4, 2) := dc9_22 (by decide +kernel)
theorem d_MW_product_63 : decode y_MW_product.2.1 63 = .ok (.aload_n 0, 1) := dc9_42 (by decide +kernel)
theorem d_MW_product_64 : decode y_MW_product.2.1 64 = .ok (.getfield 7, 3) := dc9_180 (by decide +kernel)
theorem d_MW_product_67 : decode y_MW_product.2.1 67 = .ok (.iload_n 3, 1) := dc9_29 (by decide +kernel)
theorem d_MW_product_68 : decode y_MW_product.2.1 68 = .ok (.iload 6, 2) := dc9_21 (by decide +kernel)
theorem d_MW_product_70 : decode y_MW_product.2.1 70 = .ok (.iadd, 1) := dc9_96 (by decide +kernel)
theorem d_MW_product_71 : decode y_MW_product.2.1 71 = .ok (.iaload, 1) := dc9_46 (by decide +kernel)
theorem d_MW_product_72 : decode y_MW_product.2.1 72 = .ok (.i2l, 1) := dc9_133 (by decide +kernel)
theorem d_MW_product_73 : decode y_MW_product.2.1 73 = .ok (.ladd, 1) := dc9_97 (by decide +kernel)
theorem d_MW_product_74 : decode y_MW_product.2.1 74 = .ok (.aload_n 1, 1) := dc9_43 (by decide +kernel)
theorem d_MW_product_75 : decode y_MW_product.2.1 75 = .ok (.getfield 7, 3) := dc9_180 (by decide +kernel)
theorem d_MW_product_78 : decode y_MW_product.2.1 78 = .ok (.iload_n 3, 1) := dc9_29 (by decide +kernel)
theorem d_MW_product_79 : decode y_MW_product.2.1 79 = .ok (.iaload, 1) := dc9_46 (by decide +kernel)
theorem d_MW_product_80 : decode y_MW_product.2.1 80 = .ok (.i2l, 1) := dc9_133 (by decide +kernel)
theorem d_MW_product_81 : decode y_MW_product.2.1 81 = .ok (.aload_n 2, 1) := dc9_44 (by decide +kernel)
theorem d_MW_product_82 : decode y_MW_product.2.1 82 = .ok (.getfield 7, 3) := dc9_180 (by decide +kernel)
theorem d_MW_product_85 : decode y_MW_product.2.1 85 = .ok (.iload 6, 2) := dc9_21 (by decide +kernel)
theorem d_MW_product_87 : decode y_MW_product.2.1 87 = .ok (.iaload, 1) := dc9_46 (by decide +kernel)
theorem d_MW_product_88 : decode y_MW_product.2.1 88 = .ok (.i2l, 1) := dc9_133 (by decide +kernel)
theorem d_MW_product_89 : decode y_MW_product.2.1 89 = .ok (.lmul, 1) := dc9_105 (by decide +kernel)
theorem d_MW_product_90 : decode y_MW_product.2.1 90 = .ok (.ladd, 1) := dc9_97 (by decide +kernel)
theorem d_MW_product_91 : decode y_MW_product.2.1 91 = .ok (.lstore 4, 2) := dc9_55 (by decide +kernel)
theorem d_MW_product_93 : decode y_MW_product.2.1 93 = .ok (.aload_n 0, 1) := dc9_42 (by decide +kernel)
theorem d_MW_product_94 : decode y_MW_product.2.1 94 = .ok (.getfield 7, 3) := dc9_180 (by decide +kernel)
theorem d_MW_product_97 : decode y_MW_product.2.1 97 = .ok (.iload_n 3, 1) := dc9_29 (by decide +kernel)
theorem d_MW_product_98 : decode y_MW_product.2.1 98 = .ok (.iload 6, 2) := dc9_21 (by decide +kernel)
theorem d_MW_product_100 : decode y_MW_product.2.1 100 = .ok (.iadd, 1) := dc9_96 (by decide +kernel)
theorem d_MW_product_101 : decode y_MW_product.2.1 101 = .ok (.lload 4, 2) := dc9_22 (by decide +kernel)
theorem d_MW_product_103 : decode y_MW_product.2.1 103 = .ok (.ldc2_w 27, 3) := dc9_20 (by decide +kernel)
theorem d_MW_product_106 : decode y_MW_product.2.1 106 = .ok (.lrem, 1) := dc9_113 (by decide +kernel)
theorem d_MW_product_107 : decode y_MW_product.2.1 107 = .ok (.l2i, 1) := dc9_136 (by decide +kernel)
theorem d_MW_product_108 : decode y_MW_product.2.1 108 = .ok (.iastore, 1) := dc9_79 (by decide +kernel)
theorem d_MW_product_109 : decode y_MW_product.2.1 109 = .ok (.lload 4, 2) := dc9_22 (by decide +kernel)
theorem d_MW_product_111 : decode y_MW_product.2.1 111 = .ok (.ldc2_w 27, 3) := dc9_20 (by decide +kernel)
theorem d_MW_product_114 : decode y_MW_product.2.1 114 = .ok (.ldiv, 1) := dc9_109 (by decide +kernel)
theorem d_MW_product_115 : decode y_MW_product.2.1 115 = .ok (.lstore 4, 2) := dc9_55 (by decide +kernel)
theorem d_MW_product_117 : decode y_MW_product.2.1 117 = .ok (.iinc 6 1, 3) := by decide +kernel
theorem d_MW_product_120 : decode y_MW_product.2.1 120 = .ok (.goto (-68), 3) := dc9_167 (by decide +kernel)
def h_MW_product_15 (G : mG) (d : Nat) (a0 : Nat) (a1 : Nat) (a2 : Nat) (l3 : Int) (M : mM) (Q : mM → Prop) : Prop := mWm G y_MW_product (d + 1) 15 [vr a0, vr a1, vr a2, vi l3, vd, vd, vd] [] M (fun r9 M9 => r9 = none ∧ Q M9)
def h_MW_product_38 (G : mG) (d : Nat) (a0 : Nat) (a1 : Nat) (a2 : Nat) (l3 : Int) (M : mM) (Q : mM → Prop) : Prop := mWm G y_MW_product (d + 1) 38 [vr a0, vr a1, vr a2, vi l3, vd, vd, vd] [] M (fun r9 M9 => r9 = none ∧ Q M9)
def h_MW_product_52 (G : mG) (d : Nat) (a0 : Nat) (a1 : Nat) (a2 : Nat) (l3 : Int) (j4 : Int) (l6 : Int) (M : mM) (Q : mM → Prop) : Prop := mWm G y_MW_product (d + 1) 52 [vr a0, vr a1, vr a2, vi l3, vl j4, vd, vi l6] [] M (fun r9 M9 => r9 = none ∧ Q M9)
theorem k_MW_product {G : mG} {d : Nat} {a0 : Nat} {a1 : Nat} {a2 : Nat} {M : mM} {Q : mM → Prop} (hO : mOk M)
    (h : mK M a1 = 20 ∧ mK M a2 = 20 ∧ mK M a0 = 20 ∧ i32 ((mI M a1 1) + (mI M a2 1)) ∧ ∀ M5, M5 = mUI M a0 1 ((mI M a1 1) + (mI M a2 1)) → h_MW_product_15 G d a0 a1 a2 0 M5 Q) :
    Cv G y_MW_product (d + 1) [vr a0, vr a1, vr a2] M Q := by
  refine wm_open (y := y_MW_product) rfl (Nat.le_of_ble_eq_true rfl) (L := [vr a0, vr a1, vr a2, vd, vd, vd, vd]) rfl ?_
  obtain ⟨h1, h⟩ := h
  obtain ⟨h2, h⟩ := h
  obtain ⟨h3, h⟩ := h
  obtain ⟨h4, h⟩ := h
  obtain ⟨M5, e6⟩ : ∃ M5, M5 = mUI M a0 1 ((mI M a1 1) + (mI M a2 1)) := ⟨_, rfl⟩
  replace h := h M5 e6
  refine wm_aload_n d_MW_product_0 rfl rfl ?_
  refine wm_aload_n d_MW_product_1 rfl rfl ?_
  refine gf_MW_13 rfl d_MW_product_2 h1 ?_
  refine wm_aload_n d_MW_product_5 rfl rfl ?_
  refine gf_MW_13 rfl d_MW_product_6 h2 ?_
  refine wm_iadd d_MW_product_9 ?_
  have hOM5 : mOk M5 := by rw [e6]; exact mOk_UI hO h4
  refine pf_MW_13 rfl d_MW_product_10 h3 h4 e6 ?_
  refine wm_iconst d_MW_product_13 ?_
  refine wm_istore_n d_MW_product_14 rfl (by decide) (L' := [vr a0, vr a1, vr a2, vi 0, vd, vd, vd]) rfl ?_
  exact h
theorem k_MW_product_15 {G : mG} {d : Nat} {a0 : Nat} {a1 : Nat} {a2 : Nat} {l3 : Int} {M : mM} {Q : mM → Prop} (hO : mOk M) (hi_l3 : i32 l3)
    (h : mK M a0 = 20 ∧ ((mI M a0 1 ≤ l3) → (h_MW_product_38 G d a0 a1 a2 0 M Q)) ∧ (¬ (mI M a0 1 ≤ l3) → (mK M (mR M a0 0) = 30 ∧ ((0 : Int) ≤ l3 ∧ l3 < (mN M (mR M a0 0) : Int)) ∧ ∀ M14, M14 = mUI M (mR M a0 0) (Int.toNat l3) 0 → h_MW_product_15 G d a0 a1 a2 (l3 + 1) M14 Q))) :
    h_MW_product_15 G d a0 a1 a2 l3 M Q := by
  unfold h_MW_product_15
  obtain ⟨h7, h⟩ := h
  refine wm_iload_n d_MW_product_15 rfl rfl ?_
  refine wm_aload_n d_MW_product_16 rfl rfl ?_
  refine gf_MW_13 rfl d_MW_product_17 h7 ?_
  refine wm_icmp_ge (tgt := 36) d_MW_product_20 rfl hi_l3 (hO _ _).1 (fun c11 => ?_) (fun c11 => ?_)
  · replace h := h.1 c11
    refine wm_iconst d_MW_product_36 ?_
    refine wm_istore_n d_MW_product_37 rfl (by decide) (L' := [vr a0, vr a1, vr a2, vi 0, vd, vd, vd]) rfl ?_
    exact h
  · replace h := h.2 c11
    obtain ⟨h12, h⟩ := h
    obtain ⟨h13, h⟩ := h
    obtain ⟨M14, e15⟩ : ∃ M14, M14 = mUI M (mR M a0 0) (Int.toNat l3) 0 := ⟨_, rfl⟩
    replace h := h M14 e15
    refine wm_aload_n d_MW_product_23 rfl rfl ?_
    refine gf_MW_7 rfl d_MW_product_24 h7 ?_
    refine wm_iload_n d_MW_product_27 rfl rfl ?_
    refine wm_iconst d_MW_product_28 ?_
    have hOM14 : mOk M14 := by rw [e15]; exact mOk_UI hO ⟨by decide, by decide⟩
    refine wm_iastE d_MW_product_29 h12 h13 ⟨by decide, by decide⟩ e15 ?_
    refine wm_iinc d_MW_product_30 (by decide) rfl (L' := [vr a0, vr a1, vr a2, vi (l3 + 1), vd, vd, vd]) rfl ?_
    refine wm_goto (tgt := 15) d_MW_product_33 rfl ?_
    exact h
theorem k_MW_product_38 {G : mG} {d : Nat} {a0 : Nat} {a1 : Nat} {a2 : Nat} {l3 : Int} {M : mM} {Q : mM → Prop} (hO : mOk M) (hi_l3 : i32 l3)
    (h : mK M a1 = 20 ∧ ((mI M a1 1 ≤ l3) → (mK M a0 = 20 ∧ Cv G y_MW_trim d [vr a0] M (fun M20 => mOk M20 ∧ (Q M20)))) ∧ (¬ (mI M a1 1 ≤ l3) → (h_MW_product_52 G d a0 a1 a2 l3 0 0 M Q))) :
    h_MW_product_38 G d a0 a1 a2 l3 M Q := by
  unfold h_MW_product_38
  obtain ⟨h16, h⟩ := h
  refine wm_iload_n d_MW_product_38 rfl rfl ?_
  refine wm_aload_n d_MW_product_39 rfl rfl ?_
  refine gf_MW_13 rfl d_MW_product_40 h16 ?_
  refine wm_icmp_ge (tgt := 143) d_MW_product_43 rfl hi_l3 (hO _ _).1 (fun c18 => ?_) (fun c18 => ?_)
  · replace h := h.1 c18
    obtain ⟨h19, h⟩ := h
    refine wm_aload_n d_MW_product_143 rfl rfl ?_
    refine cf_MW_24 rfl d_MW_product_144 h19 (Nat.le_of_ble_eq_true rfl) (Cv.mono h (fun M20 h => ?_))
    obtain ⟨hOM20, h⟩ := h
    refine wm_return d_MW_product_147 rfl ?_
    exact ⟨rfl, h⟩
  · replace h := h.2 c18
    refine wm_lconst (x := 0) d_MW_product_46 rfl ?_
    refine wm_lstore d_MW_product_47 (by decide) (L' := [vr a0, vr a1, vr a2, vi l3, vl 0, vd, vd]) rfl ?_
    refine wm_iconst d_MW_product_49 ?_
    refine wm_istore d_MW_product_50 (by decide) (L' := [vr a0, vr a1, vr a2, vi l3, vl 0, vd, vi 0]) rfl ?_
    exact h
theorem k_MW_product_52 {G : mG} {d : Nat} {a0 : Nat} {a1 : Nat} {a2 : Nat} {l3 : Int} {j4 : Int} {l6 : Int} {M : mM} {Q : mM → Prop} (hO : mOk M) (hi_l3 : i32 l3) (hi_j4 : i64 j4) (hi_l6 : i32 l6)
    (h : mK M a2 = 20 ∧ ((mI M a2 1 ≤ l6) → (mK M a0 = 20 ∧ mK M (mR M a0 0) = 30 ∧ ((0 : Int) ≤ l3 + (mI M a2 1) ∧ l3 + (mI M a2 1) < (mN M (mR M a0 0) : Int)) ∧ i32 j4 ∧ ∀ M45, M45 = mUI M (mR M a0 0) (Int.toNat (l3 + (mI M a2 1))) j4 → h_MW_product_38 G d a0 a1 a2 (l3 + 1) M45 Q)) ∧ (¬ (mI M a2 1 ≤ l6) → (mK M a0 = 20 ∧ mK M (mR M a0 0) = 30 ∧ ((0 : Int) ≤ l3 + l6 ∧ l3 + l6 < (mN M (mR M a0 0) : Int)) ∧ mK M a1 = 20 ∧ mK M (mR M a1 0) = 30 ∧ ((0 : Int) ≤ l3 ∧ l3 < (mN M (mR M a1 0) : Int)) ∧ mK M (mR M a2 0) = 30 ∧ ((0 : Int) ≤ l6 ∧ l6 < (mN M (mR M a2 0) : Int)) ∧ i64 ((j4 + (mI M (mR M a0 0) (Int.toNat (l3 + l6)))) + ((mI M (mR M a1 0) (Int.toNat l3)) * (mI M (mR M a2 0) (Int.toNat l6)))) ∧ ((0 : Int) ≤ l3 + l6 ∧ l3 + l6 < (mN M (mR M a0 0) : Int)) ∧ i32 (Int.tmod ((j4 + (mI M (mR M a0 0) (Int.toNat (l3 + l6)))) + ((mI M (mR M a1 0) (Int.toNat l3)) * (mI M (mR M a2 0) (Int.toNat l6)))) 16777216) ∧ ∀ M58, M58 = mUI M (mR M a0 0) (Int.toNat (l3 + l6)) (Int.tmod ((j4 + (mI M (mR M a0 0) (Int.toNat (l3 + l6)))) + ((mI M (mR M a1 0) (Int.toNat l3)) * (mI M (mR M a2 0) (Int.toNat l6)))) 16777216) → h_MW_product_52 G d a0 a1 a2 l3 (Int.tdiv ((j4 + (mI M (mR M a0 0) (Int.toNat (l3 + l6)))) + ((mI M (mR M a1 0) (Int.toNat l3)) * (mI M (mR M a2 0) (Int.toNat l6)))) 16777216) (l6 + 1) M58 Q))) :
    h_MW_product_52 G d a0 a1 a2 l3 j4 l6 M Q := by
  unfold h_MW_product_52
  obtain ⟨h23, h⟩ := h
  refine wm_iload d_MW_product_52 rfl ?_
  refine wm_aload_n d_MW_product_54 rfl rfl ?_
  refine gf_MW_13 rfl d_MW_product_55 h23 ?_
  refine wm_icmp_ge (tgt := 123) d_MW_product_58 rfl hi_l6 (hO _ _).1 (fun c40 => ?_) (fun c40 => ?_)
  · replace h := h.1 c40
    obtain ⟨h41, h⟩ := h
    obtain ⟨h42, h⟩ := h
    obtain ⟨h43, h⟩ := h
    obtain ⟨h44, h⟩ := h
    obtain ⟨M45, e46⟩ : ∃ M45, M45 = mUI M (mR M a0 0) (Int.toNat (l3 + (mI M a2 1))) j4 := ⟨_, rfl⟩
    replace h := h M45 e46
    refine wm_aload_n d_MW_product_123 rfl rfl ?_
    refine gf_MW_7 rfl d_MW_product_124 h41 ?_
    refine wm_iload_n d_MW_product_127 rfl rfl ?_
    refine wm_aload_n d_MW_product_128 rfl rfl ?_
    refine gf_MW_13 rfl d_MW_product_129 h23 ?_
    refine wm_iadd d_MW_product_132 ?_
    refine wm_lload d_MW_product_133 rfl ?_
    refine wm_l2i d_MW_product_135 ?_
    have hOM45 : mOk M45 := by rw [e46]; exact mOk_UI hO h44
    refine wm_iastE d_MW_product_136 h42 h43 h44 e46 ?_
    refine wm_iinc d_MW_product_137 (by decide) rfl (L' := [vr a0, vr a1, vr a2, vi (l3 + 1), vl j4, vd, vi l6]) rfl ?_
    refine wm_goto (tgt := 38) d_MW_product_140 rfl ?_
    refine wm_less (L' := [vr a0, vr a1, vr a2, vi (l3 + 1), vd, vd, vd]) ⟨Or.inr rfl, Or.inr rfl, Or.inr rfl, Or.inr rfl, Or.inl rfl, Or.inl rfl, Or.inl rfl, trivial⟩ ?_
    exact h
  · replace h := h.2 c40
    obtain ⟨h47, h⟩ := h
    obtain ⟨h48, h⟩ := h
    obtain ⟨h49, h⟩ := h
    obtain ⟨h50, h⟩ := h
    obtain ⟨h51, h⟩ := h
    obtain ⟨h52, h⟩ := h
    obtain ⟨h53, h⟩ := h
    obtain ⟨h54, h⟩ := h
    obtain ⟨h55, h⟩ := h
    obtain ⟨h56, h⟩ := h
    obtain ⟨h57, h⟩ := h
    obtain ⟨M58, e59⟩ : ∃ M58, M58 = mUI M (mR M a0 0) (Int.toNat (l3 + l6)) (Int.tmod ((j4 + (mI M (mR M a0 0) (Int.toNat (l3 + l6)))) + ((mI M (mR M a1 0) (Int.toNat l3)) * (mI M (mR M a2 0) (Int.toNat l6)))) 16777216) := ⟨_, rfl⟩
    replace h := h M58 e59
    refine wm_lload d_MW_product_61 rfl ?_
    refine wm_aload_n d_MW_product_63 rfl rfl ?_
    refine gf_MW_7 rfl d_MW_product_64 h47 ?_
    refine wm_iload_n d_MW_product_67 rfl rfl ?_
    refine wm_iload d_MW_product_68 rfl ?_
    refine wm_iadd d_MW_product_70 ?_
    refine wm_iald d_MW_product_71 h48 h49 ?_
    refine wm_i2l d_MW_product_72 (hO _ _).1 ?_
    refine wm_ladd d_MW_product_73 ?_
    refine wm_aload_n d_MW_product_74 rfl rfl ?_
    refine gf_MW_7 rfl d_MW_product_75 h50 ?_
    refine wm_iload_n d_MW_product_78 rfl rfl ?_
    refine wm_iald d_MW_product_79 h51 h52 ?_
    refine wm_i2l d_MW_product_80 (hO _ _).1 ?_
    refine wm_aload_n d_MW_product_81 rfl rfl ?_
    refine gf_MW_7 rfl d_MW_product_82 h23 ?_
    refine wm_iload d_MW_product_85 rfl ?_
    refine wm_iald d_MW_product_87 h53 h54 ?_
    refine wm_i2l d_MW_product_88 (hO _ _).1 ?_
    refine wm_lmul d_MW_product_89 ?_
    refine wm_ladd d_MW_product_90 ?_
    refine wm_lstore d_MW_product_91 (by decide) (L' := [vr a0, vr a1, vr a2, vi l3, vl ((j4 + (mI M (mR M a0 0) (Int.toNat (l3 + l6)))) + ((mI M (mR M a1 0) (Int.toNat l3)) * (mI M (mR M a2 0) (Int.toNat l6)))), vd, vi l6]) rfl ?_
    refine wm_aload_n d_MW_product_93 rfl rfl ?_
    refine gf_MW_7 rfl d_MW_product_94 h47 ?_
    refine wm_iload_n d_MW_product_97 rfl rfl ?_
    refine wm_iload d_MW_product_98 rfl ?_
    refine wm_iadd d_MW_product_100 ?_
    refine wm_lload d_MW_product_101 rfl ?_
    refine wm_ldc2 (x := 16777216) d_MW_product_103 k13_13 (by decide) ?_
    refine wm_lrem d_MW_product_106 h55 ⟨by decide, by decide⟩ (by decide) ?_
    refine wm_l2i d_MW_product_107 ?_
    have hOM58 : mOk M58 := by rw [e59]; exact mOk_UI hO h57
    refine wm_iastE d_MW_product_108 h48 h56 h57 e59 ?_
    refine wm_lload d_MW_product_109 rfl ?_
    refine wm_ldc2 (x := 16777216) d_MW_product_111 k13_13 (by decide) ?_
    refine wm_ldiv d_MW_product_114 h55 ⟨by decide, by decide⟩ (by decide) ?_
    refine wm_lstore d_MW_product_115 (by decide) (L' := [vr a0, vr a1, vr a2, vi l3, vl (Int.tdiv ((j4 + (mI M (mR M a0 0) (Int.toNat (l3 + l6)))) + ((mI M (mR M a1 0) (Int.toNat l3)) * (mI M (mR M a2 0) (Int.toNat l6)))) 16777216), vd, vi l6]) rfl ?_
    refine wm_iinc d_MW_product_117 (by decide) rfl (L' := [vr a0, vr a1, vr a2, vi l3, vl (Int.tdiv ((j4 + (mI M (mR M a0 0) (Int.toNat (l3 + l6)))) + ((mI M (mR M a1 0) (Int.toNat l3)) * (mI M (mR M a2 0) (Int.toNat l6)))) 16777216), vd, vi (l6 + 1)]) rfl ?_
    refine wm_goto (tgt := 52) d_MW_product_120 rfl ?_
    exact h
theorem d_MW_twice_0 : decode y_MW_twice.2.1 0 = .ok (.iload_n 1, 1) := dc9_27 (by decide +kernel)
theorem d_MW_twice_1 : decode y_MW_twice.2.1 1 = .ok (.ifCond .eq 7, 3) := dc9_153 (by decide +kernel)
theorem d_MW_twice_8 : decode y_MW_twice.2.1 8 = .ok (.iconst 0, 1) := dc9_3 (by decide +kernel)
theorem d_MW_twice_4 : decode y_MW_twice.2.1 4 = .ok (.iconst 1, 1) := dc9_4 (by decide +kernel)
theorem d_MW_twice_5 : decode y_MW_twice.2.1 5 = .ok (.goto 4, 3) := dc9_167 (by decide +kernel)
theorem d_MW_twice_9 : decode y_MW_twice.2.1 9 = .ok (.istore_n 2, 1) := dc9_61 (by decide +kernel)
theorem d_MW_twice_10 : decode y_MW_twice.2.1 10 = .ok (.iconst 0, 1) := dc9_3 (by decide +kernel)
theorem d_MW_twice_11 : decode y_MW_twice.2.1 11 = .ok (.istore_n 3, 1) := dc9_62 (by decide +kernel)
theorem d_MW_twice_12 : decode y_MW_twice.2.1 12 = .ok (.iload_n 3, 1) := dc9_29 (by decide +kernel)
theorem d_MW_twice_13 : decode y_MW_twice.2.1 13 = .ok (.aload_n 0, 1) := dc9_42 (by decide +kernel)
theorem d_MW_twice_14 : decode y_MW_twice.2.1 14 = .ok (.getfield 13, 3) := dc9_180 (by decide +kernel)
theorem d_MW_twice_17 : decode y_MW_twice.2.1 17 = .ok (.if_icmp .ge 38, 3) := dc9_162 (by decide +kernel)
theorem d_MW_twice_55 : decode y_MW_twice.2.1 55 = .ok (.iload_n 2, 1) := dc9_28 (by decide +kernel)
theorem d_MW_twice_20 : decode y_MW_twice.2.1 20 = .ok (.iconst 2, 1) := dc9_5 (by decide +kernel)
theorem d_MW_twice_21 : decode y_MW_twice.2.1 21 = .ok (.aload_n 0, 1) := dc9_42 (by decide +kernel)
theorem d_MW_twice_22 : decode y_MW_twice.2.1 22 = .ok (.getfield 7, 3) := dc9_180 (by decide +kernel)
theorem d_MW_twice_25 : decode y_MW_twice.2.1 25 = .ok (.iload_n 3, 1) := dc9_29 (by decide +kernel)
theorem d_MW_twice_26 : decode y_MW_twice.2.1 26 = .ok (.iaload, 1) := dc9_46 (by decide +kernel)
theorem d_MW_twice_27 : decode y_MW_twice.2.1 27 = .ok (.imul, 1) := dc9_104 (by decide +kernel)
theorem d_MW_twice_28 : decode y_MW_twice.2.1 28 = .ok (.iload_n 2, 1) := dc9_28 (by decide +kernel)
theorem d_MW_twice_29 : decode y_MW_twice.2.1 29 = .ok (.iadd, 1) := dc9_96 (by decide +kernel)
theorem d_MW_twice_30 : decode y_MW_twice.2.1 30 = .ok (.istore 4, 2) := dc9_54 (by decide +kernel)
theorem d_MW_twice_32 : decode y_MW_twice.2.1 32 = .ok (.aload_n 0, 1) := dc9_42 (by decide +kernel)
theorem d_MW_twice_33 : decode y_MW_twice.2.1 33 = .ok (.getfield 7, 3) := dc9_180 (by decide +kernel)
theorem d_MW_twice_36 : decode y_MW_twice.2.1 36 = .ok (.iload_n 3, 1) := dc9_29 (by decide +kernel)
theorem d_MW_twice_37 : decode y_MW_twice.2.1 37 = .ok (.iload 4, 2) := dc9_21 (by decide +kernel)
theorem d_MW_twice_39 : decode y_MW_twice.2.1 39 = .ok (.ldc 23, 2) := dc9_18 (by decide +kernel)
theorem d_MW_twice_41 : decode y_MW_twice.2.1 41 = .ok (.irem, 1) := dc9_112 (by decide +kernel)
theorem d_MW_twice_42 : decode y_MW_twice.2.1 42 = .ok (.iastore, 1) := dc9_79 (by decide +kernel)
theorem d_MW_twice_43 : decode y_MW_twice.2.1 43 = .ok (.iload 4, 2) := dc9_21 (by decide +kernel)
theorem d_MW_twice_45 : decode y_MW_twice.2.1 45 = .ok (.ldc 23, 2) := dc9_18 (by decide +kernel)
theorem d_MW_twice_47 : decode y_MW_twice.2.1 47 = .ok (.idiv, 1) := dc9_108 (by decide +kernel)
theorem d_MW_twice_48 : decode y_MW_twice.2.1 48 = .ok (.istore_n 2, 1) := dc9_61 (by decide +kernel)
theorem d_MW_twice_49 : decode y_MW_twice.2.1 49 = .ok (.iinc 3 1, 3) := by decide +kernel
theorem d_MW_twice_52 : decode y_MW_twice.2.1 52 = .ok (.goto (-40), 3) := dc9_167 (by decide +kernel)
theorem d_MW_twice_56 : decode y_MW_twice.2.1 56 = .ok (.ifCond .le 23, 3) := dc9_158 (by decide +kernel)
theorem d_MW_twice_59 : decode y_MW_twice.2.1 59 = .ok (.aload_n 0, 1) := dc9_42 (by decide +kernel)
theorem d_MW_twice_60 : decode y_MW_twice.2.1 60 = .ok (.getfield 7, 3) := dc9_180 (by decide +kernel)
theorem d_MW_twice_63 : decode y_MW_twice.2.1 63 = .ok (.aload_n 0, 1) := dc9_42 (by decide +kernel)
theorem d_MW_twice_64 : decode y_MW_twice.2.1 64 = .ok (.getfield 13, 3) := dc9_180 (by decide +kernel)
theorem d_MW_twice_67 : decode y_MW_twice.2.1 67 = .ok (.iload_n 2, 1) := dc9_28 (by decide +kernel)
theorem d_MW_twice_68 : decode y_MW_twice.2.1 68 = .ok (.iastore, 1) := dc9_79 (by decide +kernel)
theorem d_MW_twice_69 : decode y_MW_twice.2.1 69 = .ok (.aload_n 0, 1) := dc9_42 (by decide +kernel)
theorem d_MW_twice_70 : decode y_MW_twice.2.1 70 = .ok (.dup, 1) := dc9_89 (by decide +kernel)
theorem d_MW_twice_71 : decode y_MW_twice.2.1 71 = .ok (.getfield 13, 3) := dc9_180 (by decide +kernel)
theorem d_MW_twice_74 : decode y_MW_twice.2.1 74 = .ok (.iconst 1, 1) := dc9_4 (by decide +kernel)
theorem d_MW_twice_75 : decode y_MW_twice.2.1 75 = .ok (.iadd, 1) := dc9_96 (by decide +kernel)
theorem d_MW_twice_76 : decode y_MW_twice.2.1 76 = .ok (.putfield 13, 3) := dc9_181 (by decide +kernel)
theorem d_MW_twice_79 : decode y_MW_twice.2.1 79 = .ok (.return_, 1) := dc9_177 (by decide +kernel)
def h_MW_twice_12 (G : mG) (d : Nat) (a0 : Nat) (l2 : Int) (l3 : Int) (M : mM) (Q : mM → Prop) : Prop := mWm G y_MW_twice d 12 [vr a0, vd, vi l2, vi l3, vd] [] M (fun r9 M9 => r9 = none ∧ Q M9)
theorem k_MW_twice {G : mG} {d : Nat} {a0 : Nat} {l1 : Int} {M : mM} {Q : mM → Prop} (hO : mOk M) (hi_l1 : i32 l1)
    (h : ∀ v2 : Int, v2 = (if (l1 = 0) then 0 else 1) → h_MW_twice_12 G d a0 v2 0 M Q) :
    Cv G y_MW_twice d [vr a0, vi l1] M Q := by
  refine wm_open (y := y_MW_twice) rfl (Nat.le_of_ble_eq_true rfl) (L := [vr a0, vi l1, vd, vd, vd]) rfl ?_
  refine wm_iload_n d_MW_twice_0 rfl rfl ?_
  have hJ : ∀ v2 : Int, v2 = (if (l1 = 0) then 0 else 1) → mWm G y_MW_twice d 9 [vr a0, vd, vd, vd, vd] [vi v2] M (fun r9 M9 => r9 = none ∧ Q M9) := by
    intro v2 e4
    have h := h v2 e4
    have h5 : i32 v2 := by rw [e4]; (repeat' split) <;> first | exact ⟨by decide, by decide⟩ | exact ⟨by decide, by decide⟩
    have h6 : (v2 = 0 ∨ v2 = 1) := by rw [e4]; (repeat' split) <;> decide
    refine wm_istore_n d_MW_twice_9 rfl (by decide) (L' := [vr a0, vd, vi v2, vd, vd]) rfl ?_
    refine wm_iconst d_MW_twice_10 ?_
    refine wm_istore_n d_MW_twice_11 rfl (by decide) (L' := [vr a0, vd, vi v2, vi 0, vd]) rfl ?_
    exact h
  clear h
  refine wm_if_eq (tgt := 8) d_MW_twice_1 rfl hi_l1 (fun c1 => ?_) (fun c1 => ?_)
  · refine wm_iconst d_MW_twice_8 ?_
    refine wm_less (L' := [vr a0, vd, vd, vd, vd]) ⟨Or.inr rfl, Or.inl rfl, Or.inl rfl, Or.inl rfl, Or.inl rfl, trivial⟩ ?_
    exact hJ 0 (if_pos c1).symm
  · refine wm_iconst d_MW_twice_4 ?_
    refine wm_goto (tgt := 9) d_MW_twice_5 rfl ?_
    refine wm_less (L' := [vr a0, vd, vd, vd, vd]) ⟨Or.inr rfl, Or.inl rfl, Or.inl rfl, Or.inl rfl, Or.inl rfl, trivial⟩ ?_
    exact hJ 1 (if_neg c1).symm
theorem k_MW_twice_12 {G : mG} {d : Nat} {a0 : Nat} {l2 : Int} {l3 : Int} {M : mM} {Q : mM → Prop} (hO : mOk M) (hi_l2 : i32 l2) (hi_l3 : i32 l3)
    (h : mK M a0 = 20 ∧ ((mI M a0 1 ≤ l3) → (((l2 ≤ 0) → (Q M)) ∧ (¬ (l2 ≤ 0) → (mK M (mR M a0 0) = 30 ∧ ((0 : Int) ≤ mI M a0 1 ∧ mI M a0 1 < (mN M (mR M a0 0) : Int)) ∧ ∀ M24, M24 = mUI M (mR M a0 0) (Int.toNat (mI M a0 1)) l2 → i32 ((mI M24 a0 1) + 1) ∧ ∀ M27, M27 = mUI M24 a0 1 ((mI M24 a0 1) + 1) → Q M27)))) ∧ (¬ (mI M a0 1 ≤ l3) → (mK M (mR M a0 0) = 30 ∧ ((0 : Int) ≤ l3 ∧ l3 < (mN M (mR M a0 0) : Int)) ∧ i32 ((2 * (mI M (mR M a0 0) (Int.toNat l3))) + l2) ∧ ((0 : Int) ≤ l3 ∧ l3 < (mN M (mR M a0 0) : Int)) ∧ ∀ M33, M33 = mUI M (mR M a0 0) (Int.toNat l3) (Int.tmod ((2 * (mI M (mR M a0 0) (Int.toNat l3))) + l2) 16777216) → h_MW_twice_12 G d a0 (Int.tdiv ((2 * (mI M (mR M a0 0) (Int.toNat l3))) + l2) 16777216) (l3 + 1) M33 Q))) :
    h_MW_twice_12 G d a0 l2 l3 M Q := by
  unfold h_MW_twice_12
  obtain ⟨h8, h⟩ := h
  refine wm_iload_n d_MW_twice_12 rfl rfl ?_
  refine wm_aload_n d_MW_twice_13 rfl rfl ?_
  refine gf_MW_13 rfl d_MW_twice_14 h8 ?_
  refine wm_icmp_ge (tgt := 55) d_MW_twice_17 rfl hi_l3 (hO _ _).1 (fun c15 => ?_) (fun c15 => ?_)
  · replace h := h.1 c15
    refine wm_iload_n d_MW_twice_55 rfl rfl ?_
    refine wm_if_le (tgt := 79) d_MW_twice_56 rfl hi_l2 (fun c21 => ?_) (fun c21 => ?_)
    · replace h := h.1 c21
      refine wm_return d_MW_twice_79 rfl ?_
      exact ⟨rfl, h⟩
    · replace h := h.2 c21
      obtain ⟨h22, h⟩ := h
      obtain ⟨h23, h⟩ := h
      obtain ⟨M24, e25⟩ : ∃ M24, M24 = mUI M (mR M a0 0) (Int.toNat (mI M a0 1)) l2 := ⟨_, rfl⟩
      replace h := h M24 e25
      obtain ⟨h26, h⟩ := h
      obtain ⟨M27, e28⟩ : ∃ M27, M27 = mUI M24 a0 1 ((mI M24 a0 1) + 1) := ⟨_, rfl⟩
      replace h := h M27 e28
      refine wm_aload_n d_MW_twice_59 rfl rfl ?_
      refine gf_MW_7 rfl d_MW_twice_60 h8 ?_
      refine wm_aload_n d_MW_twice_63 rfl rfl ?_
      refine gf_MW_13 rfl d_MW_twice_64 h8 ?_
      refine wm_iload_n d_MW_twice_67 rfl rfl ?_
      have hOM24 : mOk M24 := by rw [e25]; exact mOk_UI hO hi_l2
      refine wm_iastE d_MW_twice_68 h22 h23 hi_l2 e25 ?_
      refine wm_aload_n d_MW_twice_69 rfl rfl ?_
      refine wm_dup d_MW_twice_70 rfl ?_
      refine gf_MW_13 rfl d_MW_twice_71 (by rw [e25]; exact h8) ?_
      refine wm_iconst d_MW_twice_74 ?_
      refine wm_iadd d_MW_twice_75 ?_
      have hOM27 : mOk M27 := by rw [e28]; exact mOk_UI hOM24 h26
      refine pf_MW_13 rfl d_MW_twice_76 (by rw [e25]; exact h8) h26 e28 ?_
      refine wm_return d_MW_twice_79 rfl ?_
      exact ⟨rfl, h⟩
  · replace h := h.2 c15
    obtain ⟨h29, h⟩ := h
    obtain ⟨h30, h⟩ := h
    obtain ⟨h31, h⟩ := h
    obtain ⟨h32, h⟩ := h
    obtain ⟨M33, e34⟩ : ∃ M33, M33 = mUI M (mR M a0 0) (Int.toNat l3) (Int.tmod ((2 * (mI M (mR M a0 0) (Int.toNat l3))) + l2) 16777216) := ⟨_, rfl⟩
    replace h := h M33 e34
    refine wm_iconst d_MW_twice_20 ?_
    refine wm_aload_n d_MW_twice_21 rfl rfl ?_
    refine gf_MW_7 rfl d_MW_twice_22 h8 ?_
    refine wm_iload_n d_MW_twice_25 rfl rfl ?_
    refine wm_iald d_MW_twice_26 h29 h30 ?_
    refine wm_imul d_MW_twice_27 ?_
    refine wm_iload_n d_MW_twice_28 rfl rfl ?_
    refine wm_iadd d_MW_twice_29 ?_
    refine wm_istore d_MW_twice_30 (by decide) (L' := [vr a0, vd, vi l2, vi l3, vi ((2 * (mI M (mR M a0 0) (Int.toNat l3))) + l2)]) rfl ?_
    refine wm_aload_n d_MW_twice_32 rfl rfl ?_
    refine gf_MW_7 rfl d_MW_twice_33 h8 ?_
    refine wm_iload_n d_MW_twice_36 rfl rfl ?_
    refine wm_iload d_MW_twice_37 rfl ?_
    refine wm_ldc (x := 16777216) d_MW_twice_39 k13_26 (by decide) ?_
    refine wm_irem d_MW_twice_41 h31 ⟨by decide, by decide⟩ (by decide) ?_
    have hOM33 : mOk M33 := by rw [e34]; exact mOk_UI hO (m_tmod32 h31 ⟨by decide, by decide⟩)
    refine wm_iastE d_MW_twice_42 h29 h32 (m_tmod32 h31 ⟨by decide, by decide⟩) e34 ?_
    refine wm_iload d_MW_twice_43 rfl ?_
    refine wm_ldc (x := 16777216) d_MW_twice_45 k13_26 (by decide) ?_
    refine wm_idiv d_MW_twice_47 h31 ⟨by decide, by decide⟩ (by decide) ?_
    refine wm_istore_n d_MW_twice_48 rfl (by decide) (L' := [vr a0, vd, vi (Int.tdiv ((2 * (mI M (mR M a0 0) (Int.toNat l3))) + l2) 16777216), vi l3, vi ((2 * (mI M (mR M a0 0) (Int.toNat l3))) + l2)]) rfl ?_
    refine wm_iinc d_MW_twice_49 (by decide) rfl (L' := [vr a0, vd, vi (Int.tdiv ((2 * (mI M (mR M a0 0) (Int.toNat l3))) + l2) 16777216), vi (l3 + 1), vi ((2 * (mI M (mR M a0 0) (Int.toNat l3))) + l2)]) rfl ?_
    refine wm_goto (tgt := 12) d_MW_twice_52 rfl ?_
    refine wm_less (L' := [vr a0, vd, vi (Int.tdiv ((2 * (mI M (mR M a0 0) (Int.toNat l3))) + l2) 16777216), vi (l3 + 1), vd]) ⟨Or.inr rfl, Or.inl rfl, Or.inr rfl, Or.inr rfl, Or.inl rfl, trivial⟩ ?_
    exact h
theorem d_MW_halve_0 : decode y_MW_halve.2.1 0 = .ok (.iconst 0, 1) := dc9_3 (by decide +kernel)
theorem d_MW_halve_1 : decode y_MW_halve.2.1 1 = .ok (.istore_n 1, 1) := dc9_60 (by decide +kernel)
theorem d_MW_halve_2 : decode y_MW_halve.2.1 2 = .ok (.iload_n 1, 1) := dc9_27 (by decide +kernel)
theorem d_MW_halve_3 : decode y_MW_halve.2.1 3 = .ok (.aload_n 0, 1) := dc9_42 (by decide +kernel)
theorem d_MW_halve_4 : decode y_MW_halve.2.1 4 = .ok (.getfield 13, 3) := dc9_180 (by decide +kernel)
theorem d_MW_halve_7 : decode y_MW_halve.2.1 7 = .ok (.if_icmp .ge 51, 3) := dc9_162 (by decide +kernel)
theorem d_MW_halve_58 : decode y_MW_halve.2.1 58 = .ok (.aload_n 0, 1) := dc9_42 (by decide +kernel)
theorem d_MW_halve_10 : decode y_MW_halve.2.1 10 = .ok (.aload_n 0, 1) := dc9_42 (by decide +kernel)
theorem d_MW_halve_11 : decode y_MW_halve.2.1 11 = .ok (.getfield 7, 3) := dc9_180 (by decide +kernel)
theorem d_MW_halve_14 : decode y_MW_halve.2.1 14 = .ok (.iload_n 1, 1) := dc9_27 (by decide +kernel)
theorem d_MW_halve_15 : decode y_MW_halve.2.1 15 = .ok (.aload_n 0, 1) := dc9_42 (by decide +kernel)
theorem d_MW_halve_16 : decode y_MW_halve.2.1 16 = .ok (.getfield 7, 3) := dc9_180 (by decide +kernel)
theorem d_MW_halve_19 : decode y_MW_halve.2.1 19 = .ok (.iload_n 1, 1) := dc9_27 (by decide +kernel)
theorem d_MW_halve_20 : decode y_MW_halve.2.1 20 = .ok (.iaload, 1) := dc9_46 (by decide +kernel)
theorem d_MW_halve_21 : decode y_MW_halve.2.1 21 = .ok (.iconst 2, 1) := dc9_5 (by decide +kernel)
theorem d_MW_halve_22 : decode y_MW_halve.2.1 22 = .ok (.idiv, 1) := dc9_108 (by decide +kernel)
theorem d_MW_halve_23 : decode y_MW_halve.2.1 23 = .ok (.iload_n 1, 1) := dc9_27 (by decide +kernel)
theorem d_MW_halve_24 : decode y_MW_halve.2.1 24 = .ok (.iconst 1, 1) := dc9_4 (by decide +kernel)
theorem d_MW_halve_25 : decode y_MW_halve.2.1 25 = .ok (.iadd, 1) := dc9_96 (by decide +kernel)
theorem d_MW_halve_26 : decode y_MW_halve.2.1 26 = .ok (.aload_n 0, 1) := dc9_42 (by decide +kernel)
theorem d_MW_halve_27 : decode y_MW_halve.2.1 27 = .ok (.getfield 13, 3) := dc9_180 (by decide +kernel)
theorem d_MW_halve_59 : decode y_MW_halve.2.1 59 = .ok (.invokevirtual 24, 3) := dc9_182 (by decide +kernel)
theorem d_MW_halve_62 : decode y_MW_halve.2.1 62 = .ok (.return_, 1) := dc9_177 (by decide +kernel)
theorem d_MW_halve_30 : decode y_MW_halve.2.1 30 = .ok (.if_icmp .ge 19, 3) := dc9_162 (by decide +kernel)
theorem d_MW_halve_49 : decode y_MW_halve.2.1 49 = .ok (.iconst 0, 1) := dc9_3 (by decide +kernel)
theorem d_MW_halve_33 : decode y_MW_halve.2.1 33 = .ok (.aload_n 0, 1) := dc9_42 (by decide +kernel)
theorem d_MW_halve_34 : decode y_MW_halve.2.1 34 = .ok (.getfield 7, 3) := dc9_180 (by decide +kernel)
theorem d_MW_halve_37 : decode y_MW_halve.2.1 37 = .ok (.iload_n 1, 1) := dc9_27 (by decide +kernel)
theorem d_MW_halve_38 : decode y_MW_halve.2.1 38 = .ok (.iconst 1, 1) := dc9_4 (by decide +kernel)
theorem d_MW_halve_39 : decode y_MW_halve.2.1 39 = .ok (.iadd, 1) := dc9_96 (by decide +kernel)
theorem d_MW_halve_40 : decode y_MW_halve.2.1 40 = .ok (.iaload, 1) := dc9_46 (by decide +kernel)
theorem d_MW_halve_41 : decode y_MW_halve.2.1 41 = .ok (.iconst 2, 1) := dc9_5 (by decide +kernel)
theorem d_MW_halve_42 : decode y_MW_halve.2.1 42 = .ok (.irem, 1) := dc9_112 (by decide +kernel)
theorem d_MW_halve_43 : decode y_MW_halve.2.1 43 = .ok (.ldc 29, 2) := dc9_18 (by decide +kernel)
theorem d_MW_halve_45 : decode y_MW_halve.2.1 45 = .ok (.imul, 1) := dc9_104 (by decide +kernel)
theorem d_MW_halve_46 : decode y_MW_halve.2.1 46 = .ok (.goto 4, 3) := dc9_167 (by decide +kernel)
theorem d_MW_halve_50 : decode y_MW_halve.2.1 50 = .ok (.iadd, 1) := dc9_96 (by decide +kernel)
theorem d_MW_halve_51 : decode y_MW_halve.2.1 51 = .ok (.iastore, 1) := dc9_79 (by decide +kernel)
theorem d_MW_halve_52 : decode y_MW_halve.2.1 52 = .ok (.iinc 1 1, 3) := by decide +kernel
theorem d_MW_halve_55 : decode y_MW_halve.2.1 55 = .ok (.goto (-53), 3) := dc9_167 (by decide +kernel)
def h_MW_halve_2 (G : mG) (d : Nat) (a0 : Nat) (l1 : Int) (M : mM) (Q : mM → Prop) : Prop := mWm G y_MW_halve (d + 1) 2 [vr a0, vi l1] [] M (fun r9 M9 => r9 = none ∧ Q M9)
theorem k_MW_halve {G : mG} {d : Nat} {a0 : Nat} {M : mM} {Q : mM → Prop} (hO : mOk M)
    (h : h_MW_halve_2 G d a0 0 M Q) :
    Cv G y_MW_halve (d + 1) [vr a0] M Q := by
  refine wm_open (y := y_MW_halve) rfl (Nat.le_of_ble_eq_true rfl) (L := [vr a0, vd]) rfl ?_
  refine wm_iconst d_MW_halve_0 ?_
  refine wm_istore_n d_MW_halve_1 rfl (by decide) (L' := [vr a0, vi 0]) rfl ?_
  exact h
theorem k_MW_halve_2 {G : mG} {d : Nat} {a0 : Nat} {l1 : Int} {M : mM} {Q : mM → Prop} (hO : mOk M) (hi_l1 : i32 l1)
    (h : mK M a0 = 20 ∧ ((mI M a0 1 ≤ l1) → (Cv G y_MW_trim d [vr a0] M (fun M6 => mOk M6 ∧ (Q M6)))) ∧ (¬ (mI M a0 1 ≤ l1) → (mK M (mR M a0 0) = 30 ∧ ((0 : Int) ≤ l1 ∧ l1 < (mN M (mR M a0 0) : Int)) ∧ i32 (l1 + 1) ∧ (¬ (mI M a0 1 ≤ l1 + 1) → ((0 : Int) ≤ l1 + 1 ∧ l1 + 1 < (mN M (mR M a0 0) : Int))) ∧ ∀ v14 : Int, v14 = (if (mI M a0 1 ≤ l1 + 1) then 0 else (Int.tmod (mI M (mR M a0 0) (Int.toNat (l1 + 1))) 2) * 8388608) → ((0 : Int) ≤ l1 ∧ l1 < (mN M (mR M a0 0) : Int)) ∧ i32 ((Int.tdiv (mI M (mR M a0 0) (Int.toNat l1)) 2) + v14) ∧ ∀ M19, M19 = mUI M (mR M a0 0) (Int.toNat l1) ((Int.tdiv (mI M (mR M a0 0) (Int.toNat l1)) 2) + v14) → h_MW_halve_2 G d a0 (l1 + 1) M19 Q))) :
    h_MW_halve_2 G d a0 l1 M Q := by
  unfold h_MW_halve_2
  obtain ⟨h1, h⟩ := h
  refine wm_iload_n d_MW_halve_2 rfl rfl ?_
  refine wm_aload_n d_MW_halve_3 rfl rfl ?_
  refine gf_MW_13 rfl d_MW_halve_4 h1 ?_
  refine wm_icmp_ge (tgt := 58) d_MW_halve_7 rfl hi_l1 (hO _ _).1 (fun c5 => ?_) (fun c5 => ?_)
  · replace h := h.1 c5
    refine wm_aload_n d_MW_halve_58 rfl rfl ?_
    refine cf_MW_24 rfl d_MW_halve_59 h1 (Nat.le_of_ble_eq_true rfl) (Cv.mono h (fun M6 h => ?_))
    obtain ⟨hOM6, h⟩ := h
    refine wm_return d_MW_halve_62 rfl ?_
    exact ⟨rfl, h⟩
  · replace h := h.2 c5
    obtain ⟨h9, h⟩ := h
    obtain ⟨h10, h⟩ := h
    obtain ⟨h11, h⟩ := h
    refine wm_aload_n d_MW_halve_10 rfl rfl ?_
    refine gf_MW_7 rfl d_MW_halve_11 h1 ?_
    refine wm_iload_n d_MW_halve_14 rfl rfl ?_
    refine wm_aload_n d_MW_halve_15 rfl rfl ?_
    refine gf_MW_7 rfl d_MW_halve_16 h1 ?_
    refine wm_iload_n d_MW_halve_19 rfl rfl ?_
    refine wm_iald d_MW_halve_20 h9 h10 ?_
    refine wm_iconst d_MW_halve_21 ?_
    refine wm_idiv d_MW_halve_22 (hO _ _).1 ⟨by decide, by decide⟩ (by decide) ?_
    refine wm_iload_n d_MW_halve_23 rfl rfl ?_
    refine wm_iconst d_MW_halve_24 ?_
    refine wm_iadd d_MW_halve_25 ?_
    refine wm_aload_n d_MW_halve_26 rfl rfl ?_
    refine gf_MW_13 rfl d_MW_halve_27 h1 ?_
    obtain ⟨s15, h⟩ := h
    have hJ : ∀ v14 : Int, v14 = (if (mI M a0 1 ≤ l1 + 1) then 0 else (Int.tmod (mI M (mR M a0 0) (Int.toNat (l1 + 1))) 2) * 8388608) → mWm G y_MW_halve (d + 1) 50 [vr a0, vi l1] [vi v14, vi (Int.tdiv (mI M (mR M a0 0) (Int.toNat l1)) 2), vi l1, vr (mR M a0 0)] M (fun r9 M9 => r9 = none ∧ Q M9) := by
      intro v14 e16
      have h := h v14 e16
      obtain ⟨h17, h⟩ := h
      obtain ⟨h18, h⟩ := h
      obtain ⟨M19, e20⟩ : ∃ M19, M19 = mUI M (mR M a0 0) (Int.toNat l1) ((Int.tdiv (mI M (mR M a0 0) (Int.toNat l1)) 2) + v14) := ⟨_, rfl⟩
      replace h := h M19 e20
      refine wm_iadd d_MW_halve_50 ?_
      have hOM19 : mOk M19 := by rw [e20]; exact mOk_UI hO h18
      refine wm_iastE d_MW_halve_51 h9 h17 h18 e20 ?_
      refine wm_iinc d_MW_halve_52 (by decide) rfl (L' := [vr a0, vi (l1 + 1)]) rfl ?_
      refine wm_goto (tgt := 2) d_MW_halve_55 rfl ?_
      exact h
    clear h
    have s21 := s15
    refine wm_icmp_ge (tgt := 49) d_MW_halve_30 rfl h11 (hO _ _).1 (fun c12 => ?_) (fun c12 => ?_)
    · refine wm_iconst d_MW_halve_49 ?_
      exact hJ 0 (if_pos c12).symm
    · have s21 := s21 c12
      have h13 := s21
      refine wm_aload_n d_MW_halve_33 rfl rfl ?_
      refine gf_MW_7 rfl d_MW_halve_34 h1 ?_
      refine wm_iload_n d_MW_halve_37 rfl rfl ?_
      refine wm_iconst d_MW_halve_38 ?_
      refine wm_iadd d_MW_halve_39 ?_
      refine wm_iald d_MW_halve_40 h9 h13 ?_
      refine wm_iconst d_MW_halve_41 ?_
      refine wm_irem d_MW_halve_42 (hO _ _).1 ⟨by decide, by decide⟩ (by decide) ?_
      refine wm_ldc (x := 8388608) d_MW_halve_43 k13_60 (by decide) ?_
      refine wm_imul d_MW_halve_45 ?_
      refine wm_goto (tgt := 50) d_MW_halve_46 rfl ?_
      exact hJ ((Int.tmod (mI M (mR M a0 0) (Int.toNat (l1 + 1))) 2) * 8388608) (if_neg c12).symm
theorem d_MW_isOdd_0 : decode y_MW_isOdd.2.1 0 = .ok (.aload_n 0, 1) := dc9_42 (by decide +kernel)
theorem d_MW_isOdd_1 : decode y_MW_isOdd.2.1 1 = .ok (.getfield 13, 3) := dc9_180 (by decide +kernel)
theorem d_MW_isOdd_4 : decode y_MW_isOdd.2.1 4 = .ok (.ifCond .le 19, 3) := dc9_158 (by decide +kernel)
theorem d_MW_isOdd_23 : decode y_MW_isOdd.2.1 23 = .ok (.iconst 0, 1) := dc9_3 (by decide +kernel)
theorem d_MW_isOdd_7 : decode y_MW_isOdd.2.1 7 = .ok (.aload_n 0, 1) := dc9_42 (by decide +kernel)
theorem d_MW_isOdd_8 : decode y_MW_isOdd.2.1 8 = .ok (.getfield 7, 3) := dc9_180 (by decide +kernel)
theorem d_MW_isOdd_11 : decode y_MW_isOdd.2.1 11 = .ok (.iconst 0, 1) := dc9_3 (by decide +kernel)
theorem d_MW_isOdd_12 : decode y_MW_isOdd.2.1 12 = .ok (.iaload, 1) := dc9_46 (by decide +kernel)
theorem d_MW_isOdd_13 : decode y_MW_isOdd.2.1 13 = .ok (.iconst 2, 1) := dc9_5 (by decide +kernel)
theorem d_MW_isOdd_14 : decode y_MW_isOdd.2.1 14 = .ok (.irem, 1) := dc9_112 (by decide +kernel)
theorem d_MW_isOdd_15 : decode y_MW_isOdd.2.1 15 = .ok (.iconst 1, 1) := dc9_4 (by decide +kernel)
theorem d_MW_isOdd_16 : decode y_MW_isOdd.2.1 16 = .ok (.if_icmp .ne 7, 3) := dc9_160 (by decide +kernel)
theorem d_MW_isOdd_19 : decode y_MW_isOdd.2.1 19 = .ok (.iconst 1, 1) := dc9_4 (by decide +kernel)
theorem d_MW_isOdd_20 : decode y_MW_isOdd.2.1 20 = .ok (.goto 4, 3) := dc9_167 (by decide +kernel)
theorem d_MW_isOdd_24 : decode y_MW_isOdd.2.1 24 = .ok (.ireturn, 1) := dc9_172 (by decide +kernel)
theorem k_MW_isOdd {G : mG} {d : Nat} {a0 : Nat} {M : mM} {Q : Int → mM → Prop} (hO : mOk M)
    (h : mK M a0 = 20 ∧ (¬ (mI M a0 1 ≤ 0) → (mK M (mR M a0 0) = 30 ∧ ((0 : Int) ≤ 0 ∧ 0 < (mN M (mR M a0 0) : Int)))) ∧ ∀ v6 : Int, v6 = (if ((mI M a0 1 ≤ 0) ∨ (¬ (Int.tmod (mI M (mR M a0 0) 0) 2 = 1))) then 0 else 1) → Q v6 M) :
    Ci G y_MW_isOdd d [vr a0] M Q := by
  refine wm_open (y := y_MW_isOdd) rfl (Nat.le_of_ble_eq_true rfl) (L := [vr a0]) rfl ?_
  obtain ⟨h1, h⟩ := h
  refine wm_aload_n d_MW_isOdd_0 rfl rfl ?_
  refine gf_MW_13 rfl d_MW_isOdd_1 h1 ?_
  obtain ⟨s7, h⟩ := h
  have hJ : ∀ v6 : Int, v6 = (if ((mI M a0 1 ≤ 0) ∨ (¬ (Int.tmod (mI M (mR M a0 0) 0) 2 = 1))) then 0 else 1) → mWm G y_MW_isOdd d 24 [vd] [vi v6] M (fun r9 M9 => ∃ x9, r9 = some (vi x9) ∧ Q x9 M9) := by
    intro v6 e8
    have h := h v6 e8
    have h9 : i32 v6 := by rw [e8]; (repeat' split) <;> first | exact ⟨by decide, by decide⟩ | exact ⟨by decide, by decide⟩
    have h10 : (v6 = 0 ∨ v6 = 1) := by rw [e8]; (repeat' split) <;> decide
    refine wm_ireturn d_MW_isOdd_24 rfl (m_nb h10) ?_
    exact ⟨_, rfl, h⟩
  clear h
  have s11 := s7
  refine wm_if_le (tgt := 23) d_MW_isOdd_4 rfl (hO _ _).1 (fun c2 => ?_) (fun c2 => ?_)
  · refine wm_iconst d_MW_isOdd_23 ?_
    refine wm_less (L' := [vd]) ⟨Or.inl rfl, trivial⟩ ?_
    exact hJ 0 (if_pos (Or.inl c2)).symm
  · have s11 := s11 c2
    obtain ⟨h3, h4⟩ := s11
    refine wm_aload_n d_MW_isOdd_7 rfl rfl ?_
    refine gf_MW_7 rfl d_MW_isOdd_8 h1 ?_
    refine wm_iconst d_MW_isOdd_11 ?_
    refine wm_iald d_MW_isOdd_12 h3 h4 ?_
    refine wm_iconst d_MW_isOdd_13 ?_
    refine wm_irem d_MW_isOdd_14 (hO _ _).1 ⟨by decide, by decide⟩ (by decide) ?_
    refine wm_iconst d_MW_isOdd_15 ?_
    refine wm_icmp_ne (tgt := 23) d_MW_isOdd_16 rfl (m_tmod32 (hO _ _).1 ⟨by decide, by decide⟩) ⟨by decide, by decide⟩ (fun c5 => ?_) (fun c5 => ?_)
    · refine wm_iconst d_MW_isOdd_23 ?_
      refine wm_less (L' := [vd]) ⟨Or.inl rfl, trivial⟩ ?_
      exact hJ 0 (if_pos (Or.inr c5)).symm
    · replace c5 := Classical.not_not.mp c5
      refine wm_iconst d_MW_isOdd_19 ?_
      refine wm_goto (tgt := 24) d_MW_isOdd_20 rfl ?_
      refine wm_less (L' := [vd]) ⟨Or.inl rfl, trivial⟩ ?_
      exact hJ 1 (if_neg (fun z12 => Or.elim z12 c2 (fun z13 => z13 c5))).symm
theorem d_MW_places_0 : decode y_MW_places.2.1 0 = .ok (.bipush 24, 2) := dc9_16 (by decide +kernel)
theorem d_MW_places_2 : decode y_MW_places.2.1 2 = .ok (.aload_n 0, 1) := dc9_42 (by decide +kernel)
theorem d_MW_places_3 : decode y_MW_places.2.1 3 = .ok (.getfield 13, 3) := dc9_180 (by decide +kernel)
theorem d_MW_places_6 : decode y_MW_places.2.1 6 = .ok (.iconst 1, 1) := dc9_4 (by decide +kernel)
theorem d_MW_places_7 : decode y_MW_places.2.1 7 = .ok (.isub, 1) := dc9_100 (by decide +kernel)
theorem d_MW_places_8 : decode y_MW_places.2.1 8 = .ok (.imul, 1) := dc9_104 (by decide +kernel)
theorem d_MW_places_9 : decode y_MW_places.2.1 9 = .ok (.istore_n 1, 1) := dc9_60 (by decide +kernel)
theorem d_MW_places_10 : decode y_MW_places.2.1 10 = .ok (.aload_n 0, 1) := dc9_42 (by decide +kernel)
theorem d_MW_places_11 : decode y_MW_places.2.1 11 = .ok (.getfield 13, 3) := dc9_180 (by decide +kernel)
theorem d_MW_places_14 : decode y_MW_places.2.1 14 = .ok (.ifCond .ne 7, 3) := dc9_154 (by decide +kernel)
theorem d_MW_places_17 : decode y_MW_places.2.1 17 = .ok (.iconst 0, 1) := dc9_3 (by decide +kernel)
theorem d_MW_places_18 : decode y_MW_places.2.1 18 = .ok (.goto 14, 3) := dc9_167 (by decide +kernel)
theorem d_MW_places_21 : decode y_MW_places.2.1 21 = .ok (.aload_n 0, 1) := dc9_42 (by decide +kernel)
theorem d_MW_places_22 : decode y_MW_places.2.1 22 = .ok (.getfield 7, 3) := dc9_180 (by decide +kernel)
theorem d_MW_places_25 : decode y_MW_places.2.1 25 = .ok (.aload_n 0, 1) := dc9_42 (by decide +kernel)
theorem d_MW_places_26 : decode y_MW_places.2.1 26 = .ok (.getfield 13, 3) := dc9_180 (by decide +kernel)
theorem d_MW_places_29 : decode y_MW_places.2.1 29 = .ok (.iconst 1, 1) := dc9_4 (by decide +kernel)
theorem d_MW_places_30 : decode y_MW_places.2.1 30 = .ok (.isub, 1) := dc9_100 (by decide +kernel)
theorem d_MW_places_31 : decode y_MW_places.2.1 31 = .ok (.iaload, 1) := dc9_46 (by decide +kernel)
theorem d_MW_places_32 : decode y_MW_places.2.1 32 = .ok (.istore_n 2, 1) := dc9_61 (by decide +kernel)
theorem d_MW_places_33 : decode y_MW_places.2.1 33 = .ok (.iload_n 2, 1) := dc9_28 (by decide +kernel)
theorem d_MW_places_34 : decode y_MW_places.2.1 34 = .ok (.ifCond .le 13, 3) := dc9_158 (by decide +kernel)
theorem d_MW_places_47 : decode y_MW_places.2.1 47 = .ok (.aload_n 0, 1) := dc9_42 (by decide +kernel)
theorem d_MW_places_48 : decode y_MW_places.2.1 48 = .ok (.getfield 13, 3) := dc9_180 (by decide +kernel)
theorem d_MW_places_37 : decode y_MW_places.2.1 37 = .ok (.iinc 1 1, 3) := by decide +kernel
theorem d_MW_places_40 : decode y_MW_places.2.1 40 = .ok (.iload_n 2, 1) := dc9_28 (by decide +kernel)
theorem d_MW_places_41 : decode y_MW_places.2.1 41 = .ok (.iconst 2, 1) := dc9_5 (by decide +kernel)
theorem d_MW_places_42 : decode y_MW_places.2.1 42 = .ok (.idiv, 1) := dc9_108 (by decide +kernel)
theorem d_MW_places_43 : decode y_MW_places.2.1 43 = .ok (.istore_n 2, 1) := dc9_61 (by decide +kernel)
theorem d_MW_places_44 : decode y_MW_places.2.1 44 = .ok (.goto (-11), 3) := dc9_167 (by decide +kernel)
theorem d_MW_places_51 : decode y_MW_places.2.1 51 = .ok (.ifCond .ne 7, 3) := dc9_154 (by decide +kernel)
theorem d_MW_places_54 : decode y_MW_places.2.1 54 = .ok (.iconst 0, 1) := dc9_3 (by decide +kernel)
theorem d_MW_places_55 : decode y_MW_places.2.1 55 = .ok (.goto 4, 3) := dc9_167 (by decide +kernel)
theorem d_MW_places_59 : decode y_MW_places.2.1 59 = .ok (.ireturn, 1) := dc9_172 (by decide +kernel)
theorem d_MW_places_58 : decode y_MW_places.2.1 58 = .ok (.iload_n 1, 1) := dc9_27 (by decide +kernel)
def h_MW_places_33 (G : mG) (d : Nat) (a0 : Nat) (l1 : Int) (l2 : Int) (M : mM) (Q : Int → mM → Prop) : Prop := mWm G y_MW_places d 33 [vr a0, vi l1, vi l2] [] M (fun r9 M9 => ∃ x9, r9 = some (vi x9) ∧ Q x9 M9)
theorem k_MW_places {G : mG} {d : Nat} {a0 : Nat} {M : mM} {Q : Int → mM → Prop} (hO : mOk M)
    (h : mK M a0 = 20 ∧ (¬ (mI M a0 1 = 0) → (mK M (mR M a0 0) = 30 ∧ ((0 : Int) ≤ (mI M a0 1) - 1 ∧ (mI M a0 1) - 1 < (mN M (mR M a0 0) : Int)))) ∧ ∀ v5 : Int, v5 = (if (mI M a0 1 = 0) then 0 else mI M (mR M a0 0) (Int.toNat ((mI M a0 1) - 1))) → h_MW_places_33 G d a0 (24 * ((mI M a0 1) - 1)) v5 M Q) :
    Ci G y_MW_places d [vr a0] M Q := by
  refine wm_open (y := y_MW_places) rfl (Nat.le_of_ble_eq_true rfl) (L := [vr a0, vd, vd]) rfl ?_
  obtain ⟨h1, h⟩ := h
  refine wm_bipush d_MW_places_0 (by decide) ?_
  refine wm_aload_n d_MW_places_2 rfl rfl ?_
  refine gf_MW_13 rfl d_MW_places_3 h1 ?_
  refine wm_iconst d_MW_places_6 ?_
  refine wm_isub d_MW_places_7 ?_
  refine wm_imul d_MW_places_8 ?_
  refine wm_istore_n d_MW_places_9 rfl (by decide) (L' := [vr a0, vi (24 * ((mI M a0 1) - 1)), vd]) rfl ?_
  refine wm_aload_n d_MW_places_10 rfl rfl ?_
  refine gf_MW_13 rfl d_MW_places_11 h1 ?_
  obtain ⟨s6, h⟩ := h
  have hJ : ∀ v5 : Int, v5 = (if (mI M a0 1 = 0) then 0 else mI M (mR M a0 0) (Int.toNat ((mI M a0 1) - 1))) → mWm G y_MW_places d 32 [vr a0, vi (24 * ((mI M a0 1) - 1)), vd] [vi v5] M (fun r9 M9 => ∃ x9, r9 = some (vi x9) ∧ Q x9 M9) := by
    intro v5 e7
    have h := h v5 e7
    refine wm_istore_n d_MW_places_32 rfl (by decide) (L' := [vr a0, vi (24 * ((mI M a0 1) - 1)), vi v5]) rfl ?_
    exact h
  clear h
  have s8 := s6
  refine wm_if_ne (tgt := 21) d_MW_places_14 rfl (hO _ _).1 (fun c2 => ?_) (fun c2 => ?_)
  · have s8 := s8 c2
    obtain ⟨h3, h4⟩ := s8
    refine wm_aload_n d_MW_places_21 rfl rfl ?_
    refine gf_MW_7 rfl d_MW_places_22 h1 ?_
    refine wm_aload_n d_MW_places_25 rfl rfl ?_
    refine gf_MW_13 rfl d_MW_places_26 h1 ?_
    refine wm_iconst d_MW_places_29 ?_
    refine wm_isub d_MW_places_30 ?_
    refine wm_iald d_MW_places_31 h3 h4 ?_
    exact hJ (mI M (mR M a0 0) (Int.toNat ((mI M a0 1) - 1))) (if_neg c2).symm
  · replace c2 := Classical.not_not.mp c2
    refine wm_iconst d_MW_places_17 ?_
    refine wm_goto (tgt := 32) d_MW_places_18 rfl ?_
    exact hJ 0 (if_pos c2).symm
theorem k_MW_places_33 {G : mG} {d : Nat} {a0 : Nat} {l1 : Int} {l2 : Int} {M : mM} {Q : Int → mM → Prop} (hO : mOk M) (hi_l1 : i32 l1) (hi_l2 : i32 l2)
    (h : ((l2 ≤ 0) → (mK M a0 = 20 ∧ ∀ v16 : Int, v16 = (if (mI M a0 1 = 0) then 0 else l1) → Q v16 M)) ∧ (¬ (l2 ≤ 0) → (h_MW_places_33 G d a0 (l1 + 1) (Int.tdiv l2 2) M Q))) :
    h_MW_places_33 G d a0 l1 l2 M Q := by
  unfold h_MW_places_33
  refine wm_iload_n d_MW_places_33 rfl rfl ?_
  refine wm_if_le (tgt := 47) d_MW_places_34 rfl hi_l2 (fun c13 => ?_) (fun c13 => ?_)
  · replace h := h.1 c13
    obtain ⟨h14, h⟩ := h
    refine wm_aload_n d_MW_places_47 rfl rfl ?_
    refine gf_MW_13 rfl d_MW_places_48 h14 ?_
    have hJ : ∀ v16 : Int, v16 = (if (mI M a0 1 = 0) then 0 else l1) → mWm G y_MW_places d 59 [vd, vd, vd] [vi v16] M (fun r9 M9 => ∃ x9, r9 = some (vi x9) ∧ Q x9 M9) := by
      intro v16 e18
      have h := h v16 e18
      have h19 : i32 v16 := by rw [e18]; (repeat' split) <;> first | exact ⟨by decide, by decide⟩ | exact hi_l1
      refine wm_ireturn d_MW_places_59 rfl rfl ?_
      exact ⟨_, rfl, h⟩
    clear h
    refine wm_if_ne (tgt := 58) d_MW_places_51 rfl (hO _ _).1 (fun c15 => ?_) (fun c15 => ?_)
    · refine wm_iload_n d_MW_places_58 rfl rfl ?_
      refine wm_less (L' := [vd, vd, vd]) ⟨Or.inl rfl, Or.inl rfl, Or.inl rfl, trivial⟩ ?_
      exact hJ l1 (if_neg c15).symm
    · replace c15 := Classical.not_not.mp c15
      refine wm_iconst d_MW_places_54 ?_
      refine wm_goto (tgt := 59) d_MW_places_55 rfl ?_
      refine wm_less (L' := [vd, vd, vd]) ⟨Or.inl rfl, Or.inl rfl, Or.inl rfl, trivial⟩ ?_
      exact hJ 0 (if_pos c15).symm
  · replace h := h.2 c13
    refine wm_iinc d_MW_places_37 (by decide) rfl (L' := [vr a0, vi (l1 + 1), vi l2]) rfl ?_
    refine wm_iload_n d_MW_places_40 rfl rfl ?_
    refine wm_iconst d_MW_places_41 ?_
    refine wm_idiv d_MW_places_42 hi_l2 ⟨by decide, by decide⟩ (by decide) ?_
    refine wm_istore_n d_MW_places_43 rfl (by decide) (L' := [vr a0, vi (l1 + 1), vi (Int.tdiv l2 2)]) rfl ?_
    refine wm_goto (tgt := 33) d_MW_places_44 rfl ?_
    exact h
end
section
theorem d_MW_bit_0 : decode y_MW_bit.2.1 0 = .ok (.iload_n 1, 1) := dc9_27 (by decide +kernel)
theorem d_MW_bit_1 : decode y_MW_bit.2.1 1 = .ok (.bipush 24, 2) := dc9_16 (by decide +kernel)
theorem d_MW_bit_3 : decode y_MW_bit.2.1 3 = .ok (.idiv, 1) := dc9_108 (by decide +kernel)
theorem d_MW_bit_4 : decode y_MW_bit.2.1 4 = .ok (.aload_n 0, 1) := dc9_42 (by decide +kernel)
theorem d_MW_bit_5 : decode y_MW_bit.2.1 5 = .ok (.getfield 13, 3) := dc9_180 (by decide +kernel)
theorem d_MW_bit_8 : decode y_MW_bit.2.1 8 = .ok (.if_icmp .ge 27, 3) := dc9_162 (by decide +kernel)
theorem d_MW_bit_35 : decode y_MW_bit.2.1 35 = .ok (.iconst 0, 1) := dc9_3 (by decide +kernel)
theorem d_MW_bit_11 : decode y_MW_bit.2.1 11 = .ok (.aload_n 0, 1) := dc9_42 (by decide +kernel)
theorem d_MW_bit_12 : decode y_MW_bit.2.1 12 = .ok (.getfield 7, 3) := dc9_180 (by decide +kernel)
theorem d_MW_bit_15 : decode y_MW_bit.2.1 15 = .ok (.iload_n 1, 1) := dc9_27 (by decide +kernel)
theorem d_MW_bit_16 : decode y_MW_bit.2.1 16 = .ok (.bipush 24, 2) := dc9_16 (by decide +kernel)
theorem d_MW_bit_18 : decode y_MW_bit.2.1 18 = .ok (.idiv, 1) := dc9_108 (by decide +kernel)
theorem d_MW_bit_19 : decode y_MW_bit.2.1 19 = .ok (.iaload, 1) := dc9_46 (by decide +kernel)
theorem d_MW_bit_20 : decode y_MW_bit.2.1 20 = .ok (.iload_n 1, 1) := dc9_27 (by decide +kernel)
theorem d_MW_bit_21 : decode y_MW_bit.2.1 21 = .ok (.bipush 24, 2) := dc9_16 (by decide +kernel)
theorem d_MW_bit_23 : decode y_MW_bit.2.1 23 = .ok (.irem, 1) := dc9_112 (by decide +kernel)
theorem d_MW_bit_24 : decode y_MW_bit.2.1 24 = .ok (.ishr, 1) := dc9_122 (by decide +kernel)
theorem d_MW_bit_25 : decode y_MW_bit.2.1 25 = .ok (.iconst 1, 1) := dc9_4 (by decide +kernel)
theorem d_MW_bit_26 : decode y_MW_bit.2.1 26 = .ok (.iand, 1) := dc9_126 (by decide +kernel)
theorem d_MW_bit_27 : decode y_MW_bit.2.1 27 = .ok (.iconst 1, 1) := dc9_4 (by decide +kernel)
theorem d_MW_bit_28 : decode y_MW_bit.2.1 28 = .ok (.if_icmp .ne 7, 3) := dc9_160 (by decide +kernel)
theorem d_MW_bit_31 : decode y_MW_bit.2.1 31 = .ok (.iconst 1, 1) := dc9_4 (by decide +kernel)
theorem d_MW_bit_32 : decode y_MW_bit.2.1 32 = .ok (.goto 4, 3) := dc9_167 (by decide +kernel)
theorem d_MW_bit_36 : decode y_MW_bit.2.1 36 = .ok (.ireturn, 1) := dc9_172 (by decide +kernel)
theorem k_MW_bit {G : mG} {d : Nat} {a0 : Nat} {l1 : Int} {M : mM} {Q : Int → mM → Prop} (hO : mOk M) (hi_l1 : i32 l1)
    (h : mK M a0 = 20 ∧ (¬ (mI M a0 1 ≤ Int.tdiv l1 24) → (mK M (mR M a0 0) = 30 ∧ ((0 : Int) ≤ Int.tdiv l1 24 ∧ Int.tdiv l1 24 < (mN M (mR M a0 0) : Int)))) ∧ ∀ v6 : Int, v6 = (if ((mI M a0 1 ≤ Int.tdiv l1 24) ∨ (¬ (andI (shrI (mI M (mR M a0 0) (Int.toNat (Int.tdiv l1 24))) (Int.tmod l1 24)) 1 = 1))) then 0 else 1) → Q v6 M) :
    Ci G y_MW_bit d [vr a0, vi l1] M Q := by
  refine wm_open (y := y_MW_bit) rfl (Nat.le_of_ble_eq_true rfl) (L := [vr a0, vi l1]) rfl ?_
  obtain ⟨h1, h⟩ := h
  refine wm_iload_n d_MW_bit_0 rfl rfl ?_
  refine wm_bipush d_MW_bit_1 (by decide) ?_
  refine wm_idiv d_MW_bit_3 hi_l1 ⟨by decide, by decide⟩ (by decide) ?_
  refine wm_aload_n d_MW_bit_4 rfl rfl ?_
  refine gf_MW_13 rfl d_MW_bit_5 h1 ?_
  obtain ⟨s7, h⟩ := h
  have hJ : ∀ v6 : Int, v6 = (if ((mI M a0 1 ≤ Int.tdiv l1 24) ∨ (¬ (andI (shrI (mI M (mR M a0 0) (Int.toNat (Int.tdiv l1 24))) (Int.tmod l1 24)) 1 = 1))) then 0 else 1) → mWm G y_MW_bit d 36 [vd, vd] [vi v6] M (fun r9 M9 => ∃ x9, r9 = some (vi x9) ∧ Q x9 M9) := by
    intro v6 e8
    have h := h v6 e8
    have h9 : i32 v6 := by rw [e8]; (repeat' split) <;> first | exact ⟨by decide, by decide⟩ | exact ⟨by decide, by decide⟩
    have h10 : (v6 = 0 ∨ v6 = 1) := by rw [e8]; (repeat' split) <;> decide
    refine wm_ireturn d_MW_bit_36 rfl (m_nb h10) ?_
    exact ⟨_, rfl, h⟩
  clear h
  have s11 := s7
  refine wm_icmp_ge (tgt := 35) d_MW_bit_8 rfl (m_tdiv32 hi_l1 (by decide)) (hO _ _).1 (fun c2 => ?_) (fun c2 => ?_)
  · refine wm_iconst d_MW_bit_35 ?_
    refine wm_less (L' := [vd, vd]) ⟨Or.inl rfl, Or.inl rfl, trivial⟩ ?_
    exact hJ 0 (if_pos (Or.inl c2)).symm
  · have s11 := s11 c2
    obtain ⟨h3, h4⟩ := s11
    refine wm_aload_n d_MW_bit_11 rfl rfl ?_
    refine gf_MW_7 rfl d_MW_bit_12 h1 ?_
    refine wm_iload_n d_MW_bit_15 rfl rfl ?_
    refine wm_bipush d_MW_bit_16 (by decide) ?_
    refine wm_idiv d_MW_bit_18 hi_l1 ⟨by decide, by decide⟩ (by decide) ?_
    refine wm_iald d_MW_bit_19 h3 h4 ?_
    refine wm_iload_n d_MW_bit_20 rfl rfl ?_
    refine wm_bipush d_MW_bit_21 (by decide) ?_
    refine wm_irem d_MW_bit_23 hi_l1 ⟨by decide, by decide⟩ (by decide) ?_
    refine wm_ishr d_MW_bit_24 ?_
    refine wm_iconst d_MW_bit_25 ?_
    refine wm_iand d_MW_bit_26 ?_
    refine wm_iconst d_MW_bit_27 ?_
    refine wm_icmp_ne (tgt := 35) d_MW_bit_28 rfl (m_i32 _) ⟨by decide, by decide⟩ (fun c5 => ?_) (fun c5 => ?_)
    · refine wm_iconst d_MW_bit_35 ?_
      refine wm_less (L' := [vd, vd]) ⟨Or.inl rfl, Or.inl rfl, trivial⟩ ?_
      exact hJ 0 (if_pos (Or.inr c5)).symm
    · replace c5 := Classical.not_not.mp c5
      refine wm_iconst d_MW_bit_31 ?_
      refine wm_goto (tgt := 36) d_MW_bit_32 rfl ?_
      refine wm_less (L' := [vd, vd]) ⟨Or.inl rfl, Or.inl rfl, trivial⟩ ?_
      exact hJ 1 (if_neg (fun z12 => Or.elim z12 c2 (fun z13 => z13 c5))).symm
theorem d_MW_tenth_0 : decode y_MW_tenth.2.1 0 = .ok (.iconst 0, 1) := dc9_3 (by decide +kernel)
theorem d_MW_tenth_1 : decode y_MW_tenth.2.1 1 = .ok (.istore_n 1, 1) := dc9_60 (by decide +kernel)
theorem d_MW_tenth_2 : decode y_MW_tenth.2.1 2 = .ok (.aload_n 0, 1) := dc9_42 (by decide +kernel)
theorem d_MW_tenth_3 : decode y_MW_tenth.2.1 3 = .ok (.getfield 13, 3) := dc9_180 (by decide +kernel)
theorem d_MW_tenth_6 : decode y_MW_tenth.2.1 6 = .ok (.iconst 1, 1) := dc9_4 (by decide +kernel)
theorem d_MW_tenth_7 : decode y_MW_tenth.2.1 7 = .ok (.isub, 1) := dc9_100 (by decide +kernel)
theorem d_MW_tenth_8 : decode y_MW_tenth.2.1 8 = .ok (.istore_n 2, 1) := dc9_61 (by decide +kernel)
theorem d_MW_tenth_9 : decode y_MW_tenth.2.1 9 = .ok (.iload_n 2, 1) := dc9_28 (by decide +kernel)
theorem d_MW_tenth_10 : decode y_MW_tenth.2.1 10 = .ok (.ifCond .lt 36, 3) := dc9_155 (by decide +kernel)
theorem d_MW_tenth_46 : decode y_MW_tenth.2.1 46 = .ok (.aload_n 0, 1) := dc9_42 (by decide +kernel)
theorem d_MW_tenth_13 : decode y_MW_tenth.2.1 13 = .ok (.iload_n 1, 1) := dc9_27 (by decide +kernel)
theorem d_MW_tenth_14 : decode y_MW_tenth.2.1 14 = .ok (.ldc 23, 2) := dc9_18 (by decide +kernel)
theorem d_MW_tenth_16 : decode y_MW_tenth.2.1 16 = .ok (.imul, 1) := dc9_104 (by decide +kernel)
theorem d_MW_tenth_17 : decode y_MW_tenth.2.1 17 = .ok (.aload_n 0, 1) := dc9_42 (by decide +kernel)
theorem d_MW_tenth_18 : decode y_MW_tenth.2.1 18 = .ok (.getfield 7, 3) := dc9_180 (by decide +kernel)
theorem d_MW_tenth_21 : decode y_MW_tenth.2.1 21 = .ok (.iload_n 2, 1) := dc9_28 (by decide +kernel)
theorem d_MW_tenth_22 : decode y_MW_tenth.2.1 22 = .ok (.iaload, 1) := dc9_46 (by decide +kernel)
theorem d_MW_tenth_23 : decode y_MW_tenth.2.1 23 = .ok (.iadd, 1) := dc9_96 (by decide +kernel)
theorem d_MW_tenth_24 : decode y_MW_tenth.2.1 24 = .ok (.istore_n 3, 1) := dc9_62 (by decide +kernel)
theorem d_MW_tenth_25 : decode y_MW_tenth.2.1 25 = .ok (.aload_n 0, 1) := dc9_42 (by decide +kernel)
theorem d_MW_tenth_26 : decode y_MW_tenth.2.1 26 = .ok (.getfield 7, 3) := dc9_180 (by decide +kernel)
theorem d_MW_tenth_29 : decode y_MW_tenth.2.1 29 = .ok (.iload_n 2, 1) := dc9_28 (by decide +kernel)
theorem d_MW_tenth_30 : decode y_MW_tenth.2.1 30 = .ok (.iload_n 3, 1) := dc9_29 (by decide +kernel)
theorem d_MW_tenth_31 : decode y_MW_tenth.2.1 31 = .ok (.bipush 10, 2) := dc9_16 (by decide +kernel)
theorem d_MW_tenth_33 : decode y_MW_tenth.2.1 33 = .ok (.idiv, 1) := dc9_108 (by decide +kernel)
theorem d_MW_tenth_34 : decode y_MW_tenth.2.1 34 = .ok (.iastore, 1) := dc9_79 (by decide +kernel)
theorem d_MW_tenth_35 : decode y_MW_tenth.2.1 35 = .ok (.iload_n 3, 1) := dc9_29 (by decide +kernel)
theorem d_MW_tenth_36 : decode y_MW_tenth.2.1 36 = .ok (.bipush 10, 2) := dc9_16 (by decide +kernel)
theorem d_MW_tenth_38 : decode y_MW_tenth.2.1 38 = .ok (.irem, 1) := dc9_112 (by decide +kernel)
theorem d_MW_tenth_39 : decode y_MW_tenth.2.1 39 = .ok (.istore_n 1, 1) := dc9_60 (by decide +kernel)
theorem d_MW_tenth_40 : decode y_MW_tenth.2.1 40 = .ok (.iinc 2 (-1), 3) := by decide +kernel
theorem d_MW_tenth_43 : decode y_MW_tenth.2.1 43 = .ok (.goto (-34), 3) := dc9_167 (by decide +kernel)
theorem d_MW_tenth_47 : decode y_MW_tenth.2.1 47 = .ok (.invokevirtual 24, 3) := dc9_182 (by decide +kernel)
theorem d_MW_tenth_50 : decode y_MW_tenth.2.1 50 = .ok (.iload_n 1, 1) := dc9_27 (by decide +kernel)
theorem d_MW_tenth_51 : decode y_MW_tenth.2.1 51 = .ok (.ireturn, 1) := dc9_172 (by decide +kernel)
def h_MW_tenth_9 (G : mG) (d : Nat) (a0 : Nat) (l1 : Int) (l2 : Int) (M : mM) (Q : Int → mM → Prop) : Prop := mWm G y_MW_tenth (d + 1) 9 [vr a0, vi l1, vi l2, vd] [] M (fun r9 M9 => ∃ x9, r9 = some (vi x9) ∧ Q x9 M9)
theorem k_MW_tenth {G : mG} {d : Nat} {a0 : Nat} {M : mM} {Q : Int → mM → Prop} (hO : mOk M)
    (h : mK M a0 = 20 ∧ h_MW_tenth_9 G d a0 0 ((mI M a0 1) - 1) M Q) :
    Ci G y_MW_tenth (d + 1) [vr a0] M Q := by
  refine wm_open (y := y_MW_tenth) rfl (Nat.le_of_ble_eq_true rfl) (L := [vr a0, vd, vd, vd]) rfl ?_
  obtain ⟨h1, h⟩ := h
  refine wm_iconst d_MW_tenth_0 ?_
  refine wm_istore_n d_MW_tenth_1 rfl (by decide) (L' := [vr a0, vi 0, vd, vd]) rfl ?_
  refine wm_aload_n d_MW_tenth_2 rfl rfl ?_
  refine gf_MW_13 rfl d_MW_tenth_3 h1 ?_
  refine wm_iconst d_MW_tenth_6 ?_
  refine wm_isub d_MW_tenth_7 ?_
  refine wm_istore_n d_MW_tenth_8 rfl (by decide) (L' := [vr a0, vi 0, vi ((mI M a0 1) - 1), vd]) rfl ?_
  exact h
theorem k_MW_tenth_9 {G : mG} {d : Nat} {a0 : Nat} {l1 : Int} {l2 : Int} {M : mM} {Q : Int → mM → Prop} (hO : mOk M) (hi_l1 : i32 l1) (hi_l2 : i32 l2)
    (h : ((l2 < 0) → (mK M a0 = 20 ∧ Cv G y_MW_trim d [vr a0] M (fun M10 => mOk M10 ∧ (Q l1 M10)))) ∧ (¬ (l2 < 0) → (mK M a0 = 20 ∧ mK M (mR M a0 0) = 30 ∧ ((0 : Int) ≤ l2 ∧ l2 < (mN M (mR M a0 0) : Int)) ∧ i32 ((l1 * 16777216) + (mI M (mR M a0 0) (Int.toNat l2))) ∧ ((0 : Int) ≤ l2 ∧ l2 < (mN M (mR M a0 0) : Int)) ∧ ∀ M18, M18 = mUI M (mR M a0 0) (Int.toNat l2) (Int.tdiv ((l1 * 16777216) + (mI M (mR M a0 0) (Int.toNat l2))) 10) → h_MW_tenth_9 G d a0 (Int.tmod ((l1 * 16777216) + (mI M (mR M a0 0) (Int.toNat l2))) 10) (l2 + (-1)) M18 Q))) :
    h_MW_tenth_9 G d a0 l1 l2 M Q := by
  unfold h_MW_tenth_9
  refine wm_iload_n d_MW_tenth_9 rfl rfl ?_
  refine wm_if_lt (tgt := 46) d_MW_tenth_10 rfl hi_l2 (fun c8 => ?_) (fun c8 => ?_)
  · replace h := h.1 c8
    obtain ⟨h9, h⟩ := h
    refine wm_aload_n d_MW_tenth_46 rfl rfl ?_
    refine cf_MW_24 rfl d_MW_tenth_47 h9 (Nat.le_of_ble_eq_true rfl) (Cv.mono h (fun M10 h => ?_))
    obtain ⟨hOM10, h⟩ := h
    refine wm_iload_n d_MW_tenth_50 rfl rfl ?_
    refine wm_ireturn d_MW_tenth_51 rfl rfl ?_
    exact ⟨_, rfl, h⟩
  · replace h := h.2 c8
    obtain ⟨h13, h⟩ := h
    obtain ⟨h14, h⟩ := h
    obtain ⟨h15, h⟩ := h
    obtain ⟨h16, h⟩ := h
    obtain ⟨h17, h⟩ := h
    obtain ⟨M18, e19⟩ : ∃ M18, M18 = mUI M (mR M a0 0) (Int.toNat l2) (Int.tdiv ((l1 * 16777216) + (mI M (mR M a0 0) (Int.toNat l2))) 10) := ⟨_, rfl⟩
    replace h := h M18 e19
    refine wm_iload_n d_MW_tenth_13 rfl rfl ?_
    refine wm_ldc (x := 16777216) d_MW_tenth_14 k13_26 (by decide) ?_
    refine wm_imul d_MW_tenth_16 ?_
    refine wm_aload_n d_MW_tenth_17 rfl rfl ?_
    refine gf_MW_7 rfl d_MW_tenth_18 h13 ?_
    refine wm_iload_n d_MW_tenth_21 rfl rfl ?_
    refine wm_iald d_MW_tenth_22 h14 h15 ?_
    refine wm_iadd d_MW_tenth_23 ?_
    refine wm_istore_n d_MW_tenth_24 rfl (by decide) (L' := [vr a0, vi l1, vi l2, vi ((l1 * 16777216) + (mI M (mR M a0 0) (Int.toNat l2)))]) rfl ?_
    refine wm_aload_n d_MW_tenth_25 rfl rfl ?_
    refine gf_MW_7 rfl d_MW_tenth_26 h13 ?_
    refine wm_iload_n d_MW_tenth_29 rfl rfl ?_
    refine wm_iload_n d_MW_tenth_30 rfl rfl ?_
    refine wm_bipush d_MW_tenth_31 (by decide) ?_
    refine wm_idiv d_MW_tenth_33 h16 ⟨by decide, by decide⟩ (by decide) ?_
    have hOM18 : mOk M18 := by rw [e19]; exact mOk_UI hO (m_tdiv32 h16 (by decide))
    refine wm_iastE d_MW_tenth_34 h14 h17 (m_tdiv32 h16 (by decide)) e19 ?_
    refine wm_iload_n d_MW_tenth_35 rfl rfl ?_
    refine wm_bipush d_MW_tenth_36 (by decide) ?_
    refine wm_irem d_MW_tenth_38 h16 ⟨by decide, by decide⟩ (by decide) ?_
    refine wm_istore_n d_MW_tenth_39 rfl (by decide) (L' := [vr a0, vi (Int.tmod ((l1 * 16777216) + (mI M (mR M a0 0) (Int.toNat l2))) 10), vi l2, vi ((l1 * 16777216) + (mI M (mR M a0 0) (Int.toNat l2)))]) rfl ?_
    refine wm_iinc d_MW_tenth_40 (by decide) rfl (L' := [vr a0, vi (Int.tmod ((l1 * 16777216) + (mI M (mR M a0 0) (Int.toNat l2))) 10), vi (l2 + (-1)), vi ((l1 * 16777216) + (mI M (mR M a0 0) (Int.toNat l2)))]) rfl ?_
    refine wm_goto (tgt := 9) d_MW_tenth_43 rfl ?_
    refine wm_less (L' := [vr a0, vi (Int.tmod ((l1 * 16777216) + (mI M (mR M a0 0) (Int.toNat l2))) 10), vi (l2 + (-1)), vd]) ⟨Or.inr rfl, Or.inr rfl, Or.inr rfl, Or.inl rfl, trivial⟩ ?_
    exact h
theorem d_JA_copyOf_0 : decode y_JA_copyOf.2.1 0 = .ok (.iload_n 1, 1) := dc9_27 (by decide +kernel)
theorem d_JA_copyOf_1 : decode y_JA_copyOf.2.1 1 = .ok (.aload_n 0, 1) := dc9_42 (by decide +kernel)
theorem d_JA_copyOf_2 : decode y_JA_copyOf.2.1 2 = .ok (.arraylength, 1) := dc9_190 (by decide +kernel)
theorem d_JA_copyOf_3 : decode y_JA_copyOf.2.1 3 = .ok (.if_icmp .ne 11, 3) := dc9_160 (by decide +kernel)
theorem d_JA_copyOf_6 : decode y_JA_copyOf.2.1 6 = .ok (.aload_n 0, 1) := dc9_42 (by decide +kernel)
theorem d_JA_copyOf_14 : decode y_JA_copyOf.2.1 14 = .ok (.iload_n 1, 1) := dc9_27 (by decide +kernel)
theorem d_JA_copyOf_15 : decode y_JA_copyOf.2.1 15 = .ok (.newarray .int, 2) := by decide +kernel
theorem d_JA_copyOf_17 : decode y_JA_copyOf.2.1 17 = .ok (.astore_n 2, 1) := dc9_77 (by decide +kernel)
theorem d_JA_copyOf_18 : decode y_JA_copyOf.2.1 18 = .ok (.aload_n 0, 1) := dc9_42 (by decide +kernel)
theorem d_JA_copyOf_19 : decode y_JA_copyOf.2.1 19 = .ok (.iconst 0, 1) := dc9_3 (by decide +kernel)
theorem d_JA_copyOf_20 : decode y_JA_copyOf.2.1 20 = .ok (.aload_n 2, 1) := dc9_44 (by decide +kernel)
theorem d_JA_copyOf_21 : decode y_JA_copyOf.2.1 21 = .ok (.iconst 0, 1) := dc9_3 (by decide +kernel)
theorem d_JA_copyOf_22 : decode y_JA_copyOf.2.1 22 = .ok (.aload_n 0, 1) := dc9_42 (by decide +kernel)
theorem d_JA_copyOf_23 : decode y_JA_copyOf.2.1 23 = .ok (.arraylength, 1) := dc9_190 (by decide +kernel)
theorem d_JA_copyOf_24 : decode y_JA_copyOf.2.1 24 = .ok (.iload_n 1, 1) := dc9_27 (by decide +kernel)
theorem d_JA_copyOf_25 : decode y_JA_copyOf.2.1 25 = .ok (.invokestatic 304, 3) := dc9_184 (by decide +kernel)
theorem d_JA_copyOf_28 : decode y_JA_copyOf.2.1 28 = .ok (.invokestatic 150, 3) := dc9_184 (by decide +kernel)
theorem d_JA_copyOf_31 : decode y_JA_copyOf.2.1 31 = .ok (.aload_n 2, 1) := dc9_44 (by decide +kernel)
theorem d_JA_copyOf_32 : decode y_JA_copyOf.2.1 32 = .ok (.areturn, 1) := dc9_176 (by decide +kernel)
theorem k_JA_copyOf {G : mG} {d : Nat} {a0 : Nat} {l1 : Int} {M : mM} {Q : Nat → mM → Prop} (hO : mOk M) (hi_l1 : i32 l1)
    (h : mK M a0 = 30 ∧ i32 (mN M a0 : Int) ∧ ((l1 = (mN M a0 : Int)) → (False)) ∧ (¬ (l1 = (mN M a0 : Int)) → (((0 : Int) ≤ l1 ∧ l1 ≤ 16777216) ∧ ∀ M7, M7 = mNew M 30 (Int.toNat l1) (Int.toNat l1) → mK M7 a0 = 30 ∧ i32 (mN M7 a0 : Int) ∧ ((0 : Int) ≤ 0 ∧ (0 : Int) ≤ 0 ∧ (0 : Int) ≤ (if l1 < (mN M7 a0 : Int) then l1 else (mN M7 a0 : Int)) ∧ 0 + (if l1 < (mN M7 a0 : Int) then l1 else (mN M7 a0 : Int)) ≤ (mN M7 a0 : Int) ∧ 0 + (if l1 < (mN M7 a0 : Int) then l1 else (mN M7 a0 : Int)) ≤ (mN M7 (mZ M) : Int)) ∧ ∀ M12, M12 = mCpy M7 a0 (mZ M) 0 0 (Int.toNat (if l1 < (mN M7 a0 : Int) then l1 else (mN M7 a0 : Int))) → Q (mZ M) M12))) :
    Cr G y_JA_copyOf (d + 1) [vr a0, vi l1] M Q := by
  refine wm_open (y := y_JA_copyOf) rfl (Nat.le_of_ble_eq_true rfl) (L := [vr a0, vi l1, vd]) rfl ?_
  obtain ⟨h1, h⟩ := h
  obtain ⟨h4, h⟩ := h
  refine wm_iload_n d_JA_copyOf_0 rfl rfl ?_
  refine wm_aload_n d_JA_copyOf_1 rfl rfl ?_
  refine wm_alen 0 rfl (fun _ => rfl) d_JA_copyOf_2 h1 ?_
  refine wm_icmp_ne (tgt := 14) d_JA_copyOf_3 rfl hi_l1 h4 (fun c5 => ?_) (fun c5 => ?_)
  · replace h := h.2 c5
    obtain ⟨h6, h⟩ := h
    obtain ⟨M7, e8⟩ : ∃ M7, M7 = mNew M 30 (Int.toNat l1) (Int.toNat l1) := ⟨_, rfl⟩
    replace h := h M7 e8
    obtain ⟨h9, h⟩ := h
    obtain ⟨h10, h⟩ := h
    obtain ⟨h11, h⟩ := h
    obtain ⟨M12, e13⟩ : ∃ M12, M12 = mCpy M7 a0 (mZ M) 0 0 (Int.toNat (if l1 < (mN M7 a0 : Int) then l1 else (mN M7 a0 : Int))) := ⟨_, rfl⟩
    replace h := h M12 e13
    refine wm_iload_n d_JA_copyOf_14 rfl rfl ?_
    have hOM7 : mOk M7 := by rw [e8]; exact mOk_New hO
    refine wm_newarrE 0 (atype := .int) (ty := .int) rfl rfl (fun _ => rfl) rfl rfl (by decide) k1_82 h6 d_JA_copyOf_15 e8 ?_
    refine wm_astore_n d_JA_copyOf_17 rfl (by decide) (L' := [vr a0, vi l1, vr (mZ M)]) rfl ?_
    refine wm_aload_n d_JA_copyOf_18 rfl rfl ?_
    refine wm_iconst d_JA_copyOf_19 ?_
    refine wm_aload_n d_JA_copyOf_20 rfl rfl ?_
    refine wm_iconst d_JA_copyOf_21 ?_
    refine wm_aload_n d_JA_copyOf_22 rfl rfl ?_
    refine wm_alen 0 rfl (fun _ => rfl) d_JA_copyOf_23 h9 ?_
    refine wm_iload_n d_JA_copyOf_24 rfl rfl ?_
    refine wm_mmin k5_67 (Nat.le_of_ble_eq_true rfl) h10 hi_l1 d_JA_copyOf_25 ?_
    have hOM12 : mOk M12 := by rw [e13]; exact mOk_Cpy hOM7
    refine wm_copyi k5_68 (Nat.le_of_ble_eq_true rfl) h9 (by rw [e8]; exact if_pos rfl) h11 d_JA_copyOf_28 e13 ?_
    refine wm_aload_n d_JA_copyOf_31 rfl rfl ?_
    refine wm_areturn d_JA_copyOf_32 rfl (Or.inr ⟨_, rfl⟩) ?_
    exact ⟨_, rfl, h⟩
  · replace c5 := Classical.not_not.mp c5
    replace h := h.1 c5
    refine wm_aload_n d_JA_copyOf_6 rfl rfl ?_
    exact h.elim
theorem d_JA_fillR_0 : decode y_JA_fillR.2.1 0 = .ok (.aload_n 0, 1) := dc9_42 (by decide +kernel)
theorem d_JA_fillR_1 : decode y_JA_fillR.2.1 1 = .ok (.arraylength, 1) := dc9_190 (by decide +kernel)
theorem d_JA_fillR_2 : decode y_JA_fillR.2.1 2 = .ok (.iload_n 1, 1) := dc9_27 (by decide +kernel)
theorem d_JA_fillR_3 : decode y_JA_fillR.2.1 3 = .ok (.iload_n 2, 1) := dc9_28 (by decide +kernel)
theorem d_JA_fillR_4 : decode y_JA_fillR.2.1 4 = .ok (.invokestatic 13, 3) := dc9_184 (by decide +kernel)
theorem d_JA_fillR_7 : decode y_JA_fillR.2.1 7 = .ok (.iload_n 1, 1) := dc9_27 (by decide +kernel)
theorem d_JA_fillR_8 : decode y_JA_fillR.2.1 8 = .ok (.istore 4, 2) := dc9_54 (by decide +kernel)
theorem d_JA_fillR_10 : decode y_JA_fillR.2.1 10 = .ok (.iload 4, 2) := dc9_21 (by decide +kernel)
theorem d_JA_fillR_12 : decode y_JA_fillR.2.1 12 = .ok (.iload_n 2, 1) := dc9_28 (by decide +kernel)
theorem d_JA_fillR_13 : decode y_JA_fillR.2.1 13 = .ok (.if_icmp .ge 14, 3) := dc9_162 (by decide +kernel)
theorem d_JA_fillR_27 : decode y_JA_fillR.2.1 27 = .ok (.return_, 1) := dc9_177 (by decide +kernel)
theorem d_JA_fillR_16 : decode y_JA_fillR.2.1 16 = .ok (.aload_n 0, 1) := dc9_42 (by decide +kernel)
theorem d_JA_fillR_17 : decode y_JA_fillR.2.1 17 = .ok (.iload 4, 2) := dc9_21 (by decide +kernel)
theorem d_JA_fillR_19 : decode y_JA_fillR.2.1 19 = .ok (.iload_n 3, 1) := dc9_29 (by decide +kernel)
theorem d_JA_fillR_20 : decode y_JA_fillR.2.1 20 = .ok (.iastore, 1) := dc9_79 (by decide +kernel)
theorem d_JA_fillR_21 : decode y_JA_fillR.2.1 21 = .ok (.iinc 4 1, 3) := by decide +kernel
theorem d_JA_fillR_24 : decode y_JA_fillR.2.1 24 = .ok (.goto (-14), 3) := dc9_167 (by decide +kernel)
def h_JA_fillR_10 (G : mG) (d : Nat) (a0 : Nat) (l2 : Int) (l3 : Int) (l4 : Int) (M : mM) (Q : mM → Prop) : Prop := mWm G y_JA_fillR (d + 1) 10 [vr a0, vd, vi l2, vi l3, vi l4] [] M (fun r9 M9 => r9 = none ∧ Q M9)
theorem k_JA_fillR {G : mG} {d : Nat} {a0 : Nat} {l1 : Int} {l2 : Int} {l3 : Int} {M : mM} {Q : mM → Prop} (hO : mOk M) (hi_l1 : i32 l1) (hi_l2 : i32 l2) (hi_l3 : i32 l3)
    (h : mK M a0 = 30 ∧ Cv G y_JA_rangeCheck d [vi (mN M a0 : Int), vi l1, vi l2] M (fun M2 => mOk M2 ∧ (h_JA_fillR_10 G d a0 l2 l3 l1 M2 Q))) :
    Cv G y_JA_fillR (d + 1) [vr a0, vi l1, vi l2, vi l3] M Q := by
  refine wm_open (y := y_JA_fillR) rfl (Nat.le_of_ble_eq_true rfl) (L := [vr a0, vi l1, vi l2, vi l3, vd]) rfl ?_
  obtain ⟨h1, h⟩ := h
  refine wm_aload_n d_JA_fillR_0 rfl rfl ?_
  refine wm_alen 0 rfl (fun _ => rfl) d_JA_fillR_1 h1 ?_
  refine wm_iload_n d_JA_fillR_2 rfl rfl ?_
  refine wm_iload_n d_JA_fillR_3 rfl rfl ?_
  refine cf_JA_13 rfl d_JA_fillR_4 (Nat.le_of_ble_eq_true rfl) (Cv.mono h (fun M2 h => ?_))
  obtain ⟨hOM2, h⟩ := h
  refine wm_iload_n d_JA_fillR_7 rfl rfl ?_
  refine wm_istore d_JA_fillR_8 (by decide) (L' := [vr a0, vi l1, vi l2, vi l3, vi l1]) rfl ?_
  refine wm_less (L' := [vr a0, vd, vi l2, vi l3, vi l1]) ⟨Or.inr rfl, Or.inl rfl, Or.inr rfl, Or.inr rfl, Or.inr rfl, trivial⟩ ?_
  exact h
theorem k_JA_fillR_10 {G : mG} {d : Nat} {a0 : Nat} {l2 : Int} {l3 : Int} {l4 : Int} {M : mM} {Q : mM → Prop} (hO : mOk M) (hi_l2 : i32 l2) (hi_l3 : i32 l3) (hi_l4 : i32 l4)
    (h : ((l2 ≤ l4) → (Q M)) ∧ (¬ (l2 ≤ l4) → (mK M a0 = 30 ∧ ((0 : Int) ≤ l4 ∧ l4 < (mN M a0 : Int)) ∧ ∀ M11, M11 = mUI M a0 (Int.toNat l4) l3 → h_JA_fillR_10 G d a0 l2 l3 (l4 + 1) M11 Q))) :
    h_JA_fillR_10 G d a0 l2 l3 l4 M Q := by
  unfold h_JA_fillR_10
  refine wm_iload d_JA_fillR_10 rfl ?_
  refine wm_iload_n d_JA_fillR_12 rfl rfl ?_
  refine wm_icmp_ge (tgt := 27) d_JA_fillR_13 rfl hi_l4 hi_l2 (fun c8 => ?_) (fun c8 => ?_)
  · replace h := h.1 c8
    refine wm_return d_JA_fillR_27 rfl ?_
    exact ⟨rfl, h⟩
  · replace h := h.2 c8
    obtain ⟨h9, h⟩ := h
    obtain ⟨h10, h⟩ := h
    obtain ⟨M11, e12⟩ : ∃ M11, M11 = mUI M a0 (Int.toNat l4) l3 := ⟨_, rfl⟩
    replace h := h M11 e12
    refine wm_aload_n d_JA_fillR_16 rfl rfl ?_
    refine wm_iload d_JA_fillR_17 rfl ?_
    refine wm_iload_n d_JA_fillR_19 rfl rfl ?_
    have hOM11 : mOk M11 := by rw [e12]; exact mOk_UI hO hi_l3
    refine wm_iastE d_JA_fillR_20 h9 h10 hi_l3 e12 ?_
    refine wm_iinc d_JA_fillR_21 (by decide) rfl (L' := [vr a0, vd, vi l2, vi l3, vi (l4 + 1)]) rfl ?_
    refine wm_goto (tgt := 10) d_JA_fillR_24 rfl ?_
    exact h
theorem d_JA_fill_0 : decode y_JA_fill.2.1 0 = .ok (.iconst 0, 1) := dc9_3 (by decide +kernel)
theorem d_JA_fill_1 : decode y_JA_fill.2.1 1 = .ok (.istore_n 2, 1) := dc9_61 (by decide +kernel)
theorem d_JA_fill_2 : decode y_JA_fill.2.1 2 = .ok (.aload_n 0, 1) := dc9_42 (by decide +kernel)
theorem d_JA_fill_3 : decode y_JA_fill.2.1 3 = .ok (.arraylength, 1) := dc9_190 (by decide +kernel)
theorem d_JA_fill_4 : decode y_JA_fill.2.1 4 = .ok (.istore_n 3, 1) := dc9_62 (by decide +kernel)
theorem d_JA_fill_5 : decode y_JA_fill.2.1 5 = .ok (.iload_n 2, 1) := dc9_28 (by decide +kernel)
theorem d_JA_fill_6 : decode y_JA_fill.2.1 6 = .ok (.iload_n 3, 1) := dc9_29 (by decide +kernel)
theorem d_JA_fill_7 : decode y_JA_fill.2.1 7 = .ok (.if_icmp .ge 13, 3) := dc9_162 (by decide +kernel)
theorem d_JA_fill_20 : decode y_JA_fill.2.1 20 = .ok (.return_, 1) := dc9_177 (by decide +kernel)
theorem d_JA_fill_10 : decode y_JA_fill.2.1 10 = .ok (.aload_n 0, 1) := dc9_42 (by decide +kernel)
theorem d_JA_fill_11 : decode y_JA_fill.2.1 11 = .ok (.iload_n 2, 1) := dc9_28 (by decide +kernel)
theorem d_JA_fill_12 : decode y_JA_fill.2.1 12 = .ok (.iload_n 1, 1) := dc9_27 (by decide +kernel)
theorem d_JA_fill_13 : decode y_JA_fill.2.1 13 = .ok (.iastore, 1) := dc9_79 (by decide +kernel)
theorem d_JA_fill_14 : decode y_JA_fill.2.1 14 = .ok (.iinc 2 1, 3) := by decide +kernel
theorem d_JA_fill_17 : decode y_JA_fill.2.1 17 = .ok (.goto (-12), 3) := dc9_167 (by decide +kernel)
def h_JA_fill_5 (G : mG) (d : Nat) (a0 : Nat) (l1 : Int) (l2 : Int) (l3 : Int) (M : mM) (Q : mM → Prop) : Prop := mWm G y_JA_fill d 5 [vr a0, vi l1, vi l2, vi l3] [] M (fun r9 M9 => r9 = none ∧ Q M9)
theorem k_JA_fill {G : mG} {d : Nat} {a0 : Nat} {l1 : Int} {M : mM} {Q : mM → Prop} (hO : mOk M) (hi_l1 : i32 l1)
    (h : mK M a0 = 30 ∧ h_JA_fill_5 G d a0 l1 0 (mN M a0 : Int) M Q) :
    Cv G y_JA_fill d [vr a0, vi l1] M Q := by
  refine wm_open (y := y_JA_fill) rfl (Nat.le_of_ble_eq_true rfl) (L := [vr a0, vi l1, vd, vd]) rfl ?_
  obtain ⟨h1, h⟩ := h
  refine wm_iconst d_JA_fill_0 ?_
  refine wm_istore_n d_JA_fill_1 rfl (by decide) (L' := [vr a0, vi l1, vi 0, vd]) rfl ?_
  refine wm_aload_n d_JA_fill_2 rfl rfl ?_
  refine wm_alen 0 rfl (fun _ => rfl) d_JA_fill_3 h1 ?_
  refine wm_istore_n d_JA_fill_4 rfl (by decide) (L' := [vr a0, vi l1, vi 0, vi (mN M a0 : Int)]) rfl ?_
  exact h
theorem k_JA_fill_5 {G : mG} {d : Nat} {a0 : Nat} {l1 : Int} {l2 : Int} {l3 : Int} {M : mM} {Q : mM → Prop} (hO : mOk M) (hi_l1 : i32 l1) (hi_l2 : i32 l2) (hi_l3 : i32 l3)
    (h : ((l3 ≤ l2) → (Q M)) ∧ (¬ (l3 ≤ l2) → (mK M a0 = 30 ∧ ((0 : Int) ≤ l2 ∧ l2 < (mN M a0 : Int)) ∧ ∀ M8, M8 = mUI M a0 (Int.toNat l2) l1 → h_JA_fill_5 G d a0 l1 (l2 + 1) l3 M8 Q))) :
    h_JA_fill_5 G d a0 l1 l2 l3 M Q := by
  unfold h_JA_fill_5
  refine wm_iload_n d_JA_fill_5 rfl rfl ?_
  refine wm_iload_n d_JA_fill_6 rfl rfl ?_
  refine wm_icmp_ge (tgt := 20) d_JA_fill_7 rfl hi_l2 hi_l3 (fun c5 => ?_) (fun c5 => ?_)
  · replace h := h.1 c5
    refine wm_return d_JA_fill_20 rfl ?_
    exact ⟨rfl, h⟩
  · replace h := h.2 c5
    obtain ⟨h6, h⟩ := h
    obtain ⟨h7, h⟩ := h
    obtain ⟨M8, e9⟩ : ∃ M8, M8 = mUI M a0 (Int.toNat l2) l1 := ⟨_, rfl⟩
    replace h := h M8 e9
    refine wm_aload_n d_JA_fill_10 rfl rfl ?_
    refine wm_iload_n d_JA_fill_11 rfl rfl ?_
    refine wm_iload_n d_JA_fill_12 rfl rfl ?_
    have hOM8 : mOk M8 := by rw [e9]; exact mOk_UI hO hi_l1
    refine wm_iastE d_JA_fill_13 h6 h7 hi_l1 e9 ?_
    refine wm_iinc d_JA_fill_14 (by decide) rfl (L' := [vr a0, vi l1, vi (l2 + 1), vi l3]) rfl ?_
    refine wm_goto (tgt := 5) d_JA_fill_17 rfl ?_
    exact h
theorem d_JA_rangeCheck_0 : decode y_JA_rangeCheck.2.1 0 = .ok (.iload_n 1, 1) := dc9_27 (by decide +kernel)
theorem d_JA_rangeCheck_1 : decode y_JA_rangeCheck.2.1 1 = .ok (.iload_n 2, 1) := dc9_28 (by decide +kernel)
theorem d_JA_rangeCheck_2 : decode y_JA_rangeCheck.2.1 2 = .ok (.if_icmp .le 44, 3) := dc9_164 (by decide +kernel)
theorem d_JA_rangeCheck_46 : decode y_JA_rangeCheck.2.1 46 = .ok (.iload_n 1, 1) := dc9_27 (by decide +kernel)
theorem d_JA_rangeCheck_47 : decode y_JA_rangeCheck.2.1 47 = .ok (.ifCond .ge 12, 3) := dc9_156 (by decide +kernel)
theorem d_JA_rangeCheck_59 : decode y_JA_rangeCheck.2.1 59 = .ok (.iload_n 2, 1) := dc9_28 (by decide +kernel)
theorem d_JA_rangeCheck_60 : decode y_JA_rangeCheck.2.1 60 = .ok (.iload_n 0, 1) := dc9_26 (by decide +kernel)
theorem d_JA_rangeCheck_61 : decode y_JA_rangeCheck.2.1 61 = .ok (.if_icmp .le 12, 3) := dc9_164 (by decide +kernel)
theorem d_JA_rangeCheck_73 : decode y_JA_rangeCheck.2.1 73 = .ok (.return_, 1) := dc9_177 (by decide +kernel)
theorem k_JA_rangeCheck {G : mG} {d : Nat} {l0 : Int} {l1 : Int} {l2 : Int} {M : mM} {Q : mM → Prop} (hO : mOk M) (hi_l0 : i32 l0) (hi_l1 : i32 l1) (hi_l2 : i32 l2)
    (h : ((l1 ≤ l2) → (((0 ≤ l1) → (((l2 ≤ l0) → (Q M)) ∧ (¬ (l2 ≤ l0) → (False)))) ∧ (¬ (0 ≤ l1) → (False)))) ∧ (¬ (l1 ≤ l2) → (False))) :
    Cv G y_JA_rangeCheck (d + 1) [vi l0, vi l1, vi l2] M Q := by
  refine wm_open (y := y_JA_rangeCheck) rfl (Nat.le_of_ble_eq_true rfl) (L := [vi l0, vi l1, vi l2]) rfl ?_
  refine wm_iload_n d_JA_rangeCheck_0 rfl rfl ?_
  refine wm_iload_n d_JA_rangeCheck_1 rfl rfl ?_
  refine wm_icmp_le (tgt := 46) d_JA_rangeCheck_2 rfl hi_l1 hi_l2 (fun c4 => ?_) (fun c4 => ?_)
  · replace h := h.1 c4
    refine wm_iload_n d_JA_rangeCheck_46 rfl rfl ?_
    refine wm_if_ge (tgt := 59) d_JA_rangeCheck_47 rfl hi_l1 (fun c7 => ?_) (fun c7 => ?_)
    · replace h := h.1 c7
      refine wm_iload_n d_JA_rangeCheck_59 rfl rfl ?_
      refine wm_iload_n d_JA_rangeCheck_60 rfl rfl ?_
      refine wm_icmp_le (tgt := 73) d_JA_rangeCheck_61 rfl hi_l2 hi_l0 (fun c9 => ?_) (fun c9 => ?_)
      · replace h := h.1 c9
        refine wm_return d_JA_rangeCheck_73 rfl ?_
        exact ⟨rfl, h⟩
      · replace h := h.2 c9
        exact h.elim
    · replace h := h.2 c7
      exact h.elim
  · replace h := h.2 c4
    exact h.elim
theorem d_JI_nlz_0 : decode y_JI_nlz.2.1 0 = .ok (.iload_n 0, 1) := dc9_26 (by decide +kernel)
theorem d_JI_nlz_1 : decode y_JI_nlz.2.1 1 = .ok (.ifCond .gt 14, 3) := dc9_157 (by decide +kernel)
theorem d_JI_nlz_15 : decode y_JI_nlz.2.1 15 = .ok (.bipush 31, 2) := dc9_16 (by decide +kernel)
theorem d_JI_nlz_17 : decode y_JI_nlz.2.1 17 = .ok (.istore_n 1, 1) := dc9_60 (by decide +kernel)
theorem d_JI_nlz_18 : decode y_JI_nlz.2.1 18 = .ok (.iload_n 0, 1) := dc9_26 (by decide +kernel)
theorem d_JI_nlz_19 : decode y_JI_nlz.2.1 19 = .ok (.ldc_w 264, 3) := dc9_19 (by decide +kernel)
theorem d_JI_nlz_4 : decode y_JI_nlz.2.1 4 = .ok (.iload_n 0, 1) := dc9_26 (by decide +kernel)
theorem d_JI_nlz_5 : decode y_JI_nlz.2.1 5 = .ok (.ifCond .ne 8, 3) := dc9_154 (by decide +kernel)
theorem d_JI_nlz_8 : decode y_JI_nlz.2.1 8 = .ok (.bipush 32, 2) := dc9_16 (by decide +kernel)
theorem d_JI_nlz_10 : decode y_JI_nlz.2.1 10 = .ok (.goto 4, 3) := dc9_167 (by decide +kernel)
theorem d_JI_nlz_14 : decode y_JI_nlz.2.1 14 = .ok (.ireturn, 1) := dc9_172 (by decide +kernel)
theorem d_JI_nlz_13 : decode y_JI_nlz.2.1 13 = .ok (.iconst 0, 1) := dc9_3 (by decide +kernel)
theorem d_JI_nlz_22 : decode y_JI_nlz.2.1 22 = .ok (.if_icmp .lt 11, 3) := dc9_161 (by decide +kernel)
theorem d_JI_nlz_25 : decode y_JI_nlz.2.1 25 = .ok (.iinc 1 (-16), 3) := by decide +kernel
theorem d_JI_nlz_28 : decode y_JI_nlz.2.1 28 = .ok (.iload_n 0, 1) := dc9_26 (by decide +kernel)
theorem d_JI_nlz_29 : decode y_JI_nlz.2.1 29 = .ok (.bipush 16, 2) := dc9_16 (by decide +kernel)
theorem d_JI_nlz_31 : decode y_JI_nlz.2.1 31 = .ok (.iushr, 1) := dc9_124 (by decide +kernel)
theorem d_JI_nlz_32 : decode y_JI_nlz.2.1 32 = .ok (.istore_n 0, 1) := dc9_59 (by decide +kernel)
theorem d_JI_nlz_33 : decode y_JI_nlz.2.1 33 = .ok (.iload_n 0, 1) := dc9_26 (by decide +kernel)
theorem d_JI_nlz_34 : decode y_JI_nlz.2.1 34 = .ok (.sipush 256, 3) := dc9_17 (by decide +kernel)
theorem d_JI_nlz_37 : decode y_JI_nlz.2.1 37 = .ok (.if_icmp .lt 11, 3) := dc9_161 (by decide +kernel)
theorem d_JI_nlz_40 : decode y_JI_nlz.2.1 40 = .ok (.iinc 1 (-8), 3) := by decide +kernel
theorem d_JI_nlz_43 : decode y_JI_nlz.2.1 43 = .ok (.iload_n 0, 1) := dc9_26 (by decide +kernel)
theorem d_JI_nlz_44 : decode y_JI_nlz.2.1 44 = .ok (.bipush 8, 2) := dc9_16 (by decide +kernel)
theorem d_JI_nlz_46 : decode y_JI_nlz.2.1 46 = .ok (.iushr, 1) := dc9_124 (by decide +kernel)
theorem d_JI_nlz_47 : decode y_JI_nlz.2.1 47 = .ok (.istore_n 0, 1) := dc9_59 (by decide +kernel)
theorem d_JI_nlz_48 : decode y_JI_nlz.2.1 48 = .ok (.iload_n 0, 1) := dc9_26 (by decide +kernel)
theorem d_JI_nlz_49 : decode y_JI_nlz.2.1 49 = .ok (.bipush 16, 2) := dc9_16 (by decide +kernel)
theorem d_JI_nlz_51 : decode y_JI_nlz.2.1 51 = .ok (.if_icmp .lt 10, 3) := dc9_161 (by decide +kernel)
theorem d_JI_nlz_54 : decode y_JI_nlz.2.1 54 = .ok (.iinc 1 (-4), 3) := by decide +kernel
theorem d_JI_nlz_57 : decode y_JI_nlz.2.1 57 = .ok (.iload_n 0, 1) := dc9_26 (by decide +kernel)
theorem d_JI_nlz_58 : decode y_JI_nlz.2.1 58 = .ok (.iconst 4, 1) := dc9_7 (by decide +kernel)
theorem d_JI_nlz_59 : decode y_JI_nlz.2.1 59 = .ok (.iushr, 1) := dc9_124 (by decide +kernel)
theorem d_JI_nlz_60 : decode y_JI_nlz.2.1 60 = .ok (.istore_n 0, 1) := dc9_59 (by decide +kernel)
theorem d_JI_nlz_61 : decode y_JI_nlz.2.1 61 = .ok (.iload_n 0, 1) := dc9_26 (by decide +kernel)
theorem d_JI_nlz_62 : decode y_JI_nlz.2.1 62 = .ok (.iconst 4, 1) := dc9_7 (by decide +kernel)
theorem d_JI_nlz_63 : decode y_JI_nlz.2.1 63 = .ok (.if_icmp .lt 10, 3) := dc9_161 (by decide +kernel)
theorem d_JI_nlz_66 : decode y_JI_nlz.2.1 66 = .ok (.iinc 1 (-2), 3) := by decide +kernel
theorem d_JI_nlz_69 : decode y_JI_nlz.2.1 69 = .ok (.iload_n 0, 1) := dc9_26 (by decide +kernel)
theorem d_JI_nlz_70 : decode y_JI_nlz.2.1 70 = .ok (.iconst 2, 1) := dc9_5 (by decide +kernel)
theorem d_JI_nlz_71 : decode y_JI_nlz.2.1 71 = .ok (.iushr, 1) := dc9_124 (by decide +kernel)
theorem d_JI_nlz_72 : decode y_JI_nlz.2.1 72 = .ok (.istore_n 0, 1) := dc9_59 (by decide +kernel)
theorem d_JI_nlz_73 : decode y_JI_nlz.2.1 73 = .ok (.iload_n 1, 1) := dc9_27 (by decide +kernel)
theorem d_JI_nlz_74 : decode y_JI_nlz.2.1 74 = .ok (.iload_n 0, 1) := dc9_26 (by decide +kernel)
theorem d_JI_nlz_75 : decode y_JI_nlz.2.1 75 = .ok (.iconst 1, 1) := dc9_4 (by decide +kernel)
theorem d_JI_nlz_76 : decode y_JI_nlz.2.1 76 = .ok (.iushr, 1) := dc9_124 (by decide +kernel)
theorem d_JI_nlz_77 : decode y_JI_nlz.2.1 77 = .ok (.isub, 1) := dc9_100 (by decide +kernel)
theorem d_JI_nlz_78 : decode y_JI_nlz.2.1 78 = .ok (.ireturn, 1) := dc9_172 (by decide +kernel)
theorem k_JI_nlz {G : mG} {d : Nat} {l0 : Int} {M : mM} {Q : Int → mM → Prop} (hO : mOk M) (hi_l0 : i32 l0)
    (h : ((0 < l0) → (∀ v5 : Int, v5 = (if (l0 < 65536) then l0 else ushrI l0 16) → ∀ v6 : Int, v6 = (if (l0 < 65536) then 31 else 31 + (-16)) → ∀ v12 : Int, v12 = (if (v5 < 256) then v5 else ushrI v5 8) → ∀ v13 : Int, v13 = (if (v5 < 256) then v6 else v6 + (-8)) → ∀ v19 : Int, v19 = (if (v12 < 16) then v12 else ushrI v12 4) → ∀ v20 : Int, v20 = (if (v12 < 16) then v13 else v13 + (-4)) → ∀ v26 : Int, v26 = (if (v19 < 4) then v19 else ushrI v19 2) → ∀ v27 : Int, v27 = (if (v19 < 4) then v20 else v20 + (-2)) → Q (v27 - (ushrI v26 1)) M)) ∧ (¬ (0 < l0) → (∀ v41 : Int, v41 = (if (l0 = 0) then 32 else 0) → Q v41 M))) :
    Ci G y_JI_nlz d [vi l0] M Q := by
  refine wm_open (y := y_JI_nlz) rfl (Nat.le_of_ble_eq_true rfl) (L := [vi l0, vd]) rfl ?_
  refine wm_iload_n d_JI_nlz_0 rfl rfl ?_
  refine wm_if_gt (tgt := 15) d_JI_nlz_1 rfl hi_l0 (fun c3 => ?_) (fun c3 => ?_)
  · replace h := h.1 c3
    refine wm_bipush d_JI_nlz_15 (by decide) ?_
    refine wm_istore_n d_JI_nlz_17 rfl (by decide) (L' := [vi l0, vi 31]) rfl ?_
    refine wm_iload_n d_JI_nlz_18 rfl rfl ?_
    refine wm_ldcw (x := 65536) d_JI_nlz_19 k5_236 (by decide) ?_
    have hJ : ∀ v5 : Int, v5 = (if (l0 < 65536) then l0 else ushrI l0 16) → ∀ v6 : Int, v6 = (if (l0 < 65536) then 31 else 31 + (-16)) → mWm G y_JI_nlz d 33 [vi v5, vi v6] [] M (fun r9 M9 => ∃ x9, r9 = some (vi x9) ∧ Q x9 M9) := by
      intro v5 e8
      intro v6 e9
      have h := h v5 e8 v6 e9
      have h10 : i32 v5 := by rw [e8]; (repeat' split) <;> first | exact hi_l0 | exact (m_i32 _)
      refine wm_iload_n d_JI_nlz_33 rfl rfl ?_
      refine wm_sipush d_JI_nlz_34 (by decide) ?_
      have hJ : ∀ v12 : Int, v12 = (if (v5 < 256) then v5 else ushrI v5 8) → ∀ v13 : Int, v13 = (if (v5 < 256) then v6 else v6 + (-8)) → mWm G y_JI_nlz d 48 [vi v12, vi v13] [] M (fun r9 M9 => ∃ x9, r9 = some (vi x9) ∧ Q x9 M9) := by
        intro v12 e15
        intro v13 e16
        have h := h v12 e15 v13 e16
        have h17 : i32 v12 := by rw [e15]; (repeat' split) <;> first | exact h10 | exact (m_i32 _)
        refine wm_iload_n d_JI_nlz_48 rfl rfl ?_
        refine wm_bipush d_JI_nlz_49 (by decide) ?_
        have hJ : ∀ v19 : Int, v19 = (if (v12 < 16) then v12 else ushrI v12 4) → ∀ v20 : Int, v20 = (if (v12 < 16) then v13 else v13 + (-4)) → mWm G y_JI_nlz d 61 [vi v19, vi v20] [] M (fun r9 M9 => ∃ x9, r9 = some (vi x9) ∧ Q x9 M9) := by
          intro v19 e22
          intro v20 e23
          have h := h v19 e22 v20 e23
          have h24 : i32 v19 := by rw [e22]; (repeat' split) <;> first | exact h17 | exact (m_i32 _)
          refine wm_iload_n d_JI_nlz_61 rfl rfl ?_
          refine wm_iconst d_JI_nlz_62 ?_
          have hJ : ∀ v26 : Int, v26 = (if (v19 < 4) then v19 else ushrI v19 2) → ∀ v27 : Int, v27 = (if (v19 < 4) then v20 else v20 + (-2)) → mWm G y_JI_nlz d 73 [vi v26, vi v27] [] M (fun r9 M9 => ∃ x9, r9 = some (vi x9) ∧ Q x9 M9) := by
            intro v26 e29
            intro v27 e30
            have h := h v26 e29 v27 e30
            have h31 : i32 v26 := by rw [e29]; (repeat' split) <;> first | exact h24 | exact (m_i32 _)
            refine wm_iload_n d_JI_nlz_73 rfl rfl ?_
            refine wm_iload_n d_JI_nlz_74 rfl rfl ?_
            refine wm_iconst d_JI_nlz_75 ?_
            refine wm_iushr d_JI_nlz_76 ?_
            refine wm_isub d_JI_nlz_77 ?_
            refine wm_ireturn d_JI_nlz_78 rfl rfl ?_
            exact ⟨_, rfl, h⟩
          clear h
          refine wm_icmp_lt (tgt := 73) d_JI_nlz_63 rfl h24 ⟨by decide, by decide⟩ (fun c25 => ?_) (fun c25 => ?_)
          · exact hJ v19 (if_pos c25).symm v20 (if_pos c25).symm
          · refine wm_iinc d_JI_nlz_66 (by decide) rfl (L' := [vi v19, vi (v20 + (-2))]) rfl ?_
            refine wm_iload_n d_JI_nlz_69 rfl rfl ?_
            refine wm_iconst d_JI_nlz_70 ?_
            refine wm_iushr d_JI_nlz_71 ?_
            refine wm_istore_n d_JI_nlz_72 rfl (by decide) (L' := [vi (ushrI v19 2), vi (v20 + (-2))]) rfl ?_
            exact hJ (ushrI v19 2) (if_neg c25).symm (v20 + (-2)) (if_neg c25).symm
        clear h
        refine wm_icmp_lt (tgt := 61) d_JI_nlz_51 rfl h17 ⟨by decide, by decide⟩ (fun c18 => ?_) (fun c18 => ?_)
        · exact hJ v12 (if_pos c18).symm v13 (if_pos c18).symm
        · refine wm_iinc d_JI_nlz_54 (by decide) rfl (L' := [vi v12, vi (v13 + (-4))]) rfl ?_
          refine wm_iload_n d_JI_nlz_57 rfl rfl ?_
          refine wm_iconst d_JI_nlz_58 ?_
          refine wm_iushr d_JI_nlz_59 ?_
          refine wm_istore_n d_JI_nlz_60 rfl (by decide) (L' := [vi (ushrI v12 4), vi (v13 + (-4))]) rfl ?_
          exact hJ (ushrI v12 4) (if_neg c18).symm (v13 + (-4)) (if_neg c18).symm
      clear h
      refine wm_icmp_lt (tgt := 48) d_JI_nlz_37 rfl h10 ⟨by decide, by decide⟩ (fun c11 => ?_) (fun c11 => ?_)
      · exact hJ v5 (if_pos c11).symm v6 (if_pos c11).symm
      · refine wm_iinc d_JI_nlz_40 (by decide) rfl (L' := [vi v5, vi (v6 + (-8))]) rfl ?_
        refine wm_iload_n d_JI_nlz_43 rfl rfl ?_
        refine wm_bipush d_JI_nlz_44 (by decide) ?_
        refine wm_iushr d_JI_nlz_46 ?_
        refine wm_istore_n d_JI_nlz_47 rfl (by decide) (L' := [vi (ushrI v5 8), vi (v6 + (-8))]) rfl ?_
        exact hJ (ushrI v5 8) (if_neg c11).symm (v6 + (-8)) (if_neg c11).symm
    clear h
    refine wm_icmp_lt (tgt := 33) d_JI_nlz_22 rfl hi_l0 ⟨by decide, by decide⟩ (fun c4 => ?_) (fun c4 => ?_)
    · exact hJ l0 (if_pos c4).symm 31 (if_pos c4).symm
    · refine wm_iinc d_JI_nlz_25 (by decide) rfl (L' := [vi l0, vi (31 + (-16))]) rfl ?_
      refine wm_iload_n d_JI_nlz_28 rfl rfl ?_
      refine wm_bipush d_JI_nlz_29 (by decide) ?_
      refine wm_iushr d_JI_nlz_31 ?_
      refine wm_istore_n d_JI_nlz_32 rfl (by decide) (L' := [vi (ushrI l0 16), vi (31 + (-16))]) rfl ?_
      exact hJ (ushrI l0 16) (if_neg c4).symm (31 + (-16)) (if_neg c4).symm
  · replace h := h.2 c3
    refine wm_iload_n d_JI_nlz_4 rfl rfl ?_
    have hJ : ∀ v41 : Int, v41 = (if (l0 = 0) then 32 else 0) → mWm G y_JI_nlz d 14 [vd, vd] [vi v41] M (fun r9 M9 => ∃ x9, r9 = some (vi x9) ∧ Q x9 M9) := by
      intro v41 e43
      have h := h v41 e43
      have h44 : i32 v41 := by rw [e43]; (repeat' split) <;> first | exact ⟨by decide, by decide⟩ | exact ⟨by decide, by decide⟩
      refine wm_ireturn d_JI_nlz_14 rfl rfl ?_
      exact ⟨_, rfl, h⟩
    clear h
    refine wm_if_ne (tgt := 13) d_JI_nlz_5 rfl hi_l0 (fun c40 => ?_) (fun c40 => ?_)
    · refine wm_iconst d_JI_nlz_13 ?_
      refine wm_less (L' := [vd, vd]) ⟨Or.inl rfl, Or.inl rfl, trivial⟩ ?_
      exact hJ 0 (if_neg c40).symm
    · replace c40 := Classical.not_not.mp c40
      refine wm_bipush d_JI_nlz_8 (by decide) ?_
      refine wm_goto (tgt := 14) d_JI_nlz_10 rfl ?_
      refine wm_less (L' := [vd, vd]) ⟨Or.inl rfl, Or.inl rfl, trivial⟩ ?_
      exact hJ 32 (if_pos c40).symm
theorem d_JL_compare_0 : decode y_JL_compare.2.1 0 = .ok (.lload_n 0, 1) := dc9_30 (by decide +kernel)
theorem d_JL_compare_1 : decode y_JL_compare.2.1 1 = .ok (.lload_n 2, 1) := dc9_32 (by decide +kernel)
theorem d_JL_compare_2 : decode y_JL_compare.2.1 2 = .ok (.lcmp, 1) := dc9_148 (by decide +kernel)
theorem d_JL_compare_3 : decode y_JL_compare.2.1 3 = .ok (.ifCond .ge 7, 3) := dc9_156 (by decide +kernel)
theorem d_JL_compare_10 : decode y_JL_compare.2.1 10 = .ok (.lload_n 0, 1) := dc9_30 (by decide +kernel)
theorem d_JL_compare_11 : decode y_JL_compare.2.1 11 = .ok (.lload_n 2, 1) := dc9_32 (by decide +kernel)
theorem d_JL_compare_12 : decode y_JL_compare.2.1 12 = .ok (.lcmp, 1) := dc9_148 (by decide +kernel)
theorem d_JL_compare_13 : decode y_JL_compare.2.1 13 = .ok (.ifCond .ne 7, 3) := dc9_154 (by decide +kernel)
theorem d_JL_compare_16 : decode y_JL_compare.2.1 16 = .ok (.iconst 0, 1) := dc9_3 (by decide +kernel)
theorem d_JL_compare_17 : decode y_JL_compare.2.1 17 = .ok (.goto 4, 3) := dc9_167 (by decide +kernel)
theorem d_JL_compare_20 : decode y_JL_compare.2.1 20 = .ok (.iconst 1, 1) := dc9_4 (by decide +kernel)
theorem d_JL_compare_6 : decode y_JL_compare.2.1 6 = .ok (.iconst (-1), 1) := dc9_2 (by decide +kernel)
theorem d_JL_compare_7 : decode y_JL_compare.2.1 7 = .ok (.goto 14, 3) := dc9_167 (by decide +kernel)
theorem d_JL_compare_21 : decode y_JL_compare.2.1 21 = .ok (.ireturn, 1) := dc9_172 (by decide +kernel)
theorem k_JL_compare {G : mG} {d : Nat} {j0 : Int} {j2 : Int} {M : mM} {Q : Int → mM → Prop} (hO : mOk M) (hi_j0 : i64 j0) (hi_j2 : i64 j2)
    (h : ∀ v3 : Int, v3 = (if 0 ≤ cmpL j0 j2 then (if cmpL j0 j2 = 0 then 0 else 1) else (-1)) → Q v3 M) :
    Ci G y_JL_compare d [vl j0, vl j2] M Q := by
  refine wm_open (y := y_JL_compare) rfl (Nat.le_of_ble_eq_true rfl) (L := [vl j0, vd, vl j2, vd]) rfl ?_
  refine wm_lload_n d_JL_compare_0 rfl rfl ?_
  refine wm_lload_n d_JL_compare_1 rfl rfl ?_
  refine wm_lcmp d_JL_compare_2 hi_j0 hi_j2 ?_
  have hJ : ∀ v3 : Int, v3 = (if 0 ≤ cmpL j0 j2 then (if cmpL j0 j2 = 0 then 0 else 1) else (-1)) → mWm G y_JL_compare d 21 [vd, vd, vd, vd] [vi v3] M (fun r9 M9 => ∃ x9, r9 = some (vi x9) ∧ Q x9 M9) := by
    intro v3 e5
    have h := h v3 e5
    have h6 : i32 v3 := by rw [e5]; (repeat' split) <;> first | exact ⟨by decide, by decide⟩ | exact ⟨by decide, by decide⟩ | exact ⟨by decide, by decide⟩
    refine wm_ireturn d_JL_compare_21 rfl rfl ?_
    exact ⟨_, rfl, h⟩
  clear h
  refine wm_if_ge (tgt := 10) d_JL_compare_3 rfl (m_cmp32 _ _) (fun c1 => ?_) (fun c1 => ?_)
  · refine wm_lload_n d_JL_compare_10 rfl rfl ?_
    refine wm_lload_n d_JL_compare_11 rfl rfl ?_
    refine wm_lcmp d_JL_compare_12 hi_j0 hi_j2 ?_
    refine wm_if_ne (tgt := 20) d_JL_compare_13 rfl (m_cmp32 _ _) (fun c2 => ?_) (fun c2 => ?_)
    · refine wm_iconst d_JL_compare_20 ?_
      refine wm_less (L' := [vd, vd, vd, vd]) ⟨Or.inl rfl, Or.inl rfl, Or.inl rfl, Or.inl rfl, trivial⟩ ?_
      exact hJ 1 (by rw [if_pos c1, if_neg c2])
    · replace c2 := Classical.not_not.mp c2
      refine wm_iconst d_JL_compare_16 ?_
      refine wm_goto (tgt := 21) d_JL_compare_17 rfl ?_
      refine wm_less (L' := [vd, vd, vd, vd]) ⟨Or.inl rfl, Or.inl rfl, Or.inl rfl, Or.inl rfl, trivial⟩ ?_
      exact hJ 0 (by rw [if_pos c1, if_pos c2])
  · refine wm_iconst d_JL_compare_6 ?_
    refine wm_goto (tgt := 21) d_JL_compare_7 rfl ?_
    refine wm_less (L' := [vd, vd, vd, vd]) ⟨Or.inl rfl, Or.inl rfl, Or.inl rfl, Or.inl rfl, trivial⟩ ?_
    exact hJ (-1) (by rw [if_neg c1])
end
