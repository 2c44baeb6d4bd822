theorem d_TR_readNamed_0 : decode y_TR_readNamed.2.1 0 = .ok (.aload_n 0, 1) := by decide +kernel
theorem d_TR_readNamed_1 : decode y_TR_readNamed.2.1 1 = .ok (.getfield 12, 3) := by decide +kernel
theorem d_TR_readNamed_4 : decode y_TR_readNamed.2.1 4 = .ok (.iload_n 1, 1) := by decide +kernel
theorem d_TR_readNamed_5 : decode y_TR_readNamed.2.1 5 = .ok (.iconst 4, 1) := by decide +kernel
theorem d_TR_readNamed_6 : decode y_TR_readNamed.2.1 6 = .ok (.if_icmp .ne 7, 3) := by decide +kernel
theorem d_TR_readNamed_9 : decode y_TR_readNamed.2.1 9 = .ok (.iconst 1, 1) := by decide +kernel
theorem d_TR_readNamed_10 : decode y_TR_readNamed.2.1 10 = .ok (.goto 4, 3) := by decide +kernel
theorem d_TR_readNamed_13 : decode y_TR_readNamed.2.1 13 = .ok (.iconst 0, 1) := by decide +kernel
theorem d_TR_readNamed_14 : decode y_TR_readNamed.2.1 14 = .ok (.putfield 125, 3) := by decide +kernel
theorem d_TR_readNamed_17 : decode y_TR_readNamed.2.1 17 = .ok (.aload_n 0, 1) := by decide +kernel
theorem d_TR_readNamed_18 : decode y_TR_readNamed.2.1 18 = .ok (.aload_n 0, 1) := by decide +kernel
theorem d_TR_readNamed_19 : decode y_TR_readNamed.2.1 19 = .ok (.getfield 36, 3) := by decide +kernel
theorem d_TR_readNamed_22 : decode y_TR_readNamed.2.1 22 = .ok (.getfield 129, 3) := by decide +kernel
theorem d_TR_readNamed_25 : decode y_TR_readNamed.2.1 25 = .ok (.bipush 60, 2) := by decide +kernel
theorem d_TR_readNamed_27 : decode y_TR_readNamed.2.1 27 = .ok (.if_icmp .lt 7, 3) := by decide +kernel
theorem d_TR_readNamed_34 : decode y_TR_readNamed.2.1 34 = .ok (.iconst 0, 1) := by decide +kernel
theorem d_TR_readNamed_30 : decode y_TR_readNamed.2.1 30 = .ok (.iconst 1, 1) := by decide +kernel
theorem d_TR_readNamed_31 : decode y_TR_readNamed.2.1 31 = .ok (.goto 4, 3) := by decide +kernel
theorem d_TR_readNamed_35 : decode y_TR_readNamed.2.1 35 = .ok (.invokevirtual 132, 3) := by decide +kernel
theorem d_TR_readNamed_38 : decode y_TR_readNamed.2.1 38 = .ok (.ifCond .eq 24, 3) := by decide +kernel
theorem d_TR_readNamed_41 : decode y_TR_readNamed.2.1 41 = .ok (.aload_n 0, 1) := by decide +kernel
theorem d_TR_readNamed_42 : decode y_TR_readNamed.2.1 42 = .ok (.getfield 12, 3) := by decide +kernel
theorem d_TR_readNamed_45 : decode y_TR_readNamed.2.1 45 = .ok (.bipush 24, 2) := by decide +kernel
theorem d_TR_readNamed_62 : decode y_TR_readNamed.2.1 62 = .ok (.iconst 0, 1) := by decide +kernel
theorem d_TR_readNamed_63 : decode y_TR_readNamed.2.1 63 = .ok (.ireturn, 1) := by decide +kernel
theorem d_TR_readNamed_47 : decode y_TR_readNamed.2.1 47 = .ok (.invokevirtual 102, 3) := by decide +kernel
theorem d_TR_readNamed_50 : decode y_TR_readNamed.2.1 50 = .ok (.ifCond .eq 12, 3) := by decide +kernel
theorem d_TR_readNamed_53 : decode y_TR_readNamed.2.1 53 = .ok (.aload_n 0, 1) := by decide +kernel
theorem d_TR_readNamed_54 : decode y_TR_readNamed.2.1 54 = .ok (.iconst 0, 1) := by decide +kernel
theorem d_TR_readNamed_55 : decode y_TR_readNamed.2.1 55 = .ok (.iconst 0, 1) := by decide +kernel
theorem d_TR_readNamed_56 : decode y_TR_readNamed.2.1 56 = .ok (.invokevirtual 136, 3) := by decide +kernel
theorem d_TR_readNamed_59 : decode y_TR_readNamed.2.1 59 = .ok (.ifCond .ne 5, 3) := by decide +kernel
theorem d_TR_readNamed_64 : decode y_TR_readNamed.2.1 64 = .ok (.aload_n 0, 1) := by decide +kernel
theorem d_TR_readNamed_65 : decode y_TR_readNamed.2.1 65 = .ok (.aload_n 0, 1) := by decide +kernel
theorem d_TR_readNamed_66 : decode y_TR_readNamed.2.1 66 = .ok (.getfield 12, 3) := by decide +kernel
theorem d_TR_readNamed_69 : decode y_TR_readNamed.2.1 69 = .ok (.invokevirtual 140, 3) := by decide +kernel
theorem d_TR_readNamed_72 : decode y_TR_readNamed.2.1 72 = .ok (.putfield 143, 3) := by decide +kernel
theorem d_TR_readNamed_75 : decode y_TR_readNamed.2.1 75 = .ok (.aload_n 0, 1) := by decide +kernel
theorem d_TR_readNamed_76 : decode y_TR_readNamed.2.1 76 = .ok (.getfield 12, 3) := by decide +kernel
theorem d_TR_readNamed_79 : decode y_TR_readNamed.2.1 79 = .ok (.bipush 35, 2) := by decide +kernel
theorem d_TR_readNamed_81 : decode y_TR_readNamed.2.1 81 = .ok (.invokevirtual 102, 3) := by decide +kernel
theorem d_TR_readNamed_84 : decode y_TR_readNamed.2.1 84 = .ok (.ireturn, 1) := by decide +kernel
theorem k_TR_readNamed {G : mG} {d : Nat} {a0 : Nat} {l1 : Int} {M : mM} {Q : Int → mM → Prop} (hO : mOk M) (hi_l1 : i32 l1)
    (h : mK M a0 = 3 ∧ ∀ v3 : Int, v3 = (if (l1 = 4) then 1 else 0) → mK M (mR M a0 0) = 4 ∧ ∀ M9, M9 = mUI M (mR M a0 0) 6 v3 → mK M9 (mR M9 a0 2) = 6 ∧ ∀ v13 : Int, v13 = (if (mI M9 (mR M9 a0 2) 7 < 60) then 0 else 1) → Ci G y_TR_readName d [vr a0, vi v13] M9 (fun x19 M18 => i32 x19 ∧ mOk M18 ∧ (((x19 = 0) → (Q 0 M18)) ∧ (¬ (x19 = 0) → (mK M18 a0 = 3 ∧ mK M18 (mR M18 a0 0) = 4 ∧ Ci G y_RR_accept d [vr (mR M18 a0 0), vi 24] M18 (fun x26 M25 => i32 x26 ∧ mOk M25 ∧ (((x26 = 0) → (Q 0 M25)) ∧ (¬ (x26 = 0) → (mK M25 a0 = 3 ∧ Ci G y_TR_readItemRule d [vr a0, vi 0, vi 0] M25 (fun x32 M31 => i32 x32 ∧ mOk M31 ∧ (((x32 = 0) → (Q 0 M31)) ∧ (¬ (x32 = 0) → (mK M31 a0 = 3 ∧ mK M31 (mR M31 a0 0) = 4 ∧ Ci G y_RR_isTruth d [vr (mR M31 a0 0)] M31 (fun x39 M38 => i32 x39 ∧ mOk M38 ∧ (mK M38 a0 = 3 ∧ (x39 = 0 ∨ x39 = 1) ∧ ∀ M43, M43 = mUI M38 a0 8 x39 → mK M43 (mR M43 a0 0) = 4 ∧ Ci G y_RR_accept d [vr (mR M43 a0 0), vi 35] M43 (fun x47 M46 => i32 x47 ∧ mOk M46 ∧ ((x47 = 0 ∨ x47 = 1) ∧ Q x47 M46))))))))))))))))) :
    Ci G y_TR_readNamed (d + 1) [vr a0, vi l1] M Q := by
  refine wm_open (y := y_TR_readNamed) rfl (Nat.le_of_ble_eq_true rfl) (L := [vr a0, vi l1]) rfl ?_
  obtain ⟨h1, h⟩ := h
  refine wm_aload_n d_TR_readNamed_0 rfl rfl ?_
  refine gf_TR_12 rfl d_TR_readNamed_1 h1 ?_
  refine wm_iload_n d_TR_readNamed_4 rfl rfl ?_
  refine wm_iconst d_TR_readNamed_5 ?_
  have hJ : ∀ v3 : Int, v3 = (if (l1 = 4) then 1 else 0) → mWm G y_TR_readNamed (d + 1) 14 [vr a0, vd] [vi v3, vr (mR M a0 0)] M (fun r9 M9 => ∃ x9, r9 = some (vi x9) ∧ Q x9 M9) := by
    intro v3 e5
    have h := h v3 e5
    have h6 : i32 v3 := by rw [e5]; (repeat' split) <;> first | exact ⟨by decide, by decide⟩ | exact ⟨by decide, by decide⟩
    have h7 : (v3 = 0 ∨ v3 = 1) := by rw [e5]; (repeat' split) <;> decide
    obtain ⟨h8, h⟩ := h
    obtain ⟨M9, e10⟩ : ∃ M9, M9 = mUI M (mR M a0 0) 6 v3 := ⟨_, rfl⟩
    replace h := h M9 e10
    obtain ⟨h11, h⟩ := h
    have hOM9 : mOk M9 := by rw [e10]; exact mOk_UI hO (m_b32 h7)
    refine pf_TR_125 rfl d_TR_readNamed_14 h8 h7 e10 ?_
    refine wm_aload_n d_TR_readNamed_17 rfl rfl ?_
    refine wm_aload_n d_TR_readNamed_18 rfl rfl ?_
    refine gf_TR_36 rfl d_TR_readNamed_19 (by rw [e10]; exact h1) ?_
    refine gf_TR_129 rfl d_TR_readNamed_22 h11 ?_
    refine wm_bipush d_TR_readNamed_25 (by decide) ?_
    have hJ : ∀ v13 : Int, v13 = (if (mI M9 (mR M9 a0 2) 7 < 60) then 0 else 1) → mWm G y_TR_readNamed (d + 1) 35 [vr a0, vd] [vi v13, vr a0] M9 (fun r9 M9 => ∃ x9, r9 = some (vi x9) ∧ Q x9 M9) := by
      intro v13 e15
      have h := h v13 e15
      have h16 : i32 v13 := by rw [e15]; (repeat' split) <;> first | exact ⟨by decide, by decide⟩ | exact ⟨by decide, by decide⟩
      have h17 : (v13 = 0 ∨ v13 = 1) := by rw [e15]; (repeat' split) <;> decide
      refine cf_TR_132 rfl d_TR_readNamed_35 (by rw [e10]; exact h1) (Nat.le_of_ble_eq_true rfl) (Ci.mono h (fun x19 M18 h => ?_))
      obtain ⟨h20, hOM18, h⟩ := h
      refine wm_if_eq (tgt := 62) d_TR_readNamed_38 rfl h20 (fun c22 => ?_) (fun c22 => ?_)
      · replace h := h.1 c22
        refine wm_iconst d_TR_readNamed_62 ?_
        refine wm_ireturn d_TR_readNamed_63 rfl (m_nb (by decide)) ?_
        exact ⟨_, rfl, h⟩
      · replace h := h.2 c22
        obtain ⟨h23, h⟩ := h
        obtain ⟨h24, h⟩ := h
        refine wm_aload_n d_TR_readNamed_41 rfl rfl ?_
        refine gf_TR_12 rfl d_TR_readNamed_42 h23 ?_
        refine wm_bipush d_TR_readNamed_45 (by decide) ?_
        refine cf_TR_102 rfl d_TR_readNamed_47 h24 (Nat.le_of_ble_eq_true rfl) (Ci.mono h (fun x26 M25 h => ?_))
        obtain ⟨h27, hOM25, h⟩ := h
        refine wm_if_eq (tgt := 62) d_TR_readNamed_50 rfl h27 (fun c29 => ?_) (fun c29 => ?_)
        · replace h := h.1 c29
          refine wm_iconst d_TR_readNamed_62 ?_
          refine wm_ireturn d_TR_readNamed_63 rfl (m_nb (by decide)) ?_
          exact ⟨_, rfl, h⟩
        · replace h := h.2 c29
          obtain ⟨h30, h⟩ := h
          refine wm_aload_n d_TR_readNamed_53 rfl rfl ?_
          refine wm_iconst d_TR_readNamed_54 ?_
          refine wm_iconst d_TR_readNamed_55 ?_
          refine cf_TR_136 rfl d_TR_readNamed_56 h30 (Nat.le_of_ble_eq_true rfl) (Ci.mono h (fun x32 M31 h => ?_))
          obtain ⟨h33, hOM31, h⟩ := h
          refine wm_if_ne (tgt := 64) d_TR_readNamed_59 rfl h33 (fun c35 => ?_) (fun c35 => ?_)
          · replace h := h.2 c35
            obtain ⟨h36, h⟩ := h
            obtain ⟨h37, h⟩ := h
            refine wm_aload_n d_TR_readNamed_64 rfl rfl ?_
            refine wm_aload_n d_TR_readNamed_65 rfl rfl ?_
            refine gf_TR_12 rfl d_TR_readNamed_66 h36 ?_
            refine cf_TR_140 rfl d_TR_readNamed_69 h37 (Nat.le_of_ble_eq_true rfl) (Ci.mono h (fun x39 M38 h => ?_))
            obtain ⟨h40, hOM38, h⟩ := h
            obtain ⟨h41, h⟩ := h
            obtain ⟨h42, h⟩ := h
            obtain ⟨M43, e44⟩ : ∃ M43, M43 = mUI M38 a0 8 x39 := ⟨_, rfl⟩
            replace h := h M43 e44
            obtain ⟨h45, h⟩ := h
            have hOM43 : mOk M43 := by rw [e44]; exact mOk_UI hOM38 (m_b32 h42)
            refine pf_TR_143 rfl d_TR_readNamed_72 h41 h42 e44 ?_
            refine wm_aload_n d_TR_readNamed_75 rfl rfl ?_
            refine gf_TR_12 rfl d_TR_readNamed_76 (by rw [e44]; exact h41) ?_
            refine wm_bipush d_TR_readNamed_79 (by decide) ?_
            refine cf_TR_102 rfl d_TR_readNamed_81 h45 (Nat.le_of_ble_eq_true rfl) (Ci.mono h (fun x47 M46 h => ?_))
            obtain ⟨h48, hOM46, h⟩ := h
            obtain ⟨h49, h⟩ := h
            refine wm_ireturn d_TR_readNamed_84 rfl (m_nb h49) ?_
            exact ⟨_, rfl, h⟩
          · replace c35 := Classical.not_not.mp c35
            replace h := h.1 c35
            refine wm_iconst d_TR_readNamed_62 ?_
            refine wm_ireturn d_TR_readNamed_63 rfl (m_nb (by decide)) ?_
            exact ⟨_, rfl, h⟩
    clear h
    refine wm_icmp_lt (tgt := 34) d_TR_readNamed_27 rfl (hOM9 _ _).1 ⟨by decide, by decide⟩ (fun c12 => ?_) (fun c12 => ?_)
    · refine wm_iconst d_TR_readNamed_34 ?_
      exact hJ 0 (if_pos c12).symm
    · refine wm_iconst d_TR_readNamed_30 ?_
      refine wm_goto (tgt := 35) d_TR_readNamed_31 rfl ?_
      exact hJ 1 (if_neg c12).symm
  clear h
  refine wm_icmp_ne (tgt := 13) d_TR_readNamed_6 rfl hi_l1 ⟨by decide, by decide⟩ (fun c2 => ?_) (fun c2 => ?_)
  · refine wm_iconst d_TR_readNamed_13 ?_
    refine wm_less (L' := [vr a0, vd]) ⟨Or.inr rfl, Or.inl rfl, trivial⟩ ?_
    exact hJ 0 (if_neg c2).symm
  · replace c2 := Classical.not_not.mp c2
    refine wm_iconst d_TR_readNamed_9 ?_
    refine wm_goto (tgt := 14) d_TR_readNamed_10 rfl ?_
    refine wm_less (L' := [vr a0, vd]) ⟨Or.inr rfl, Or.inl rfl, trivial⟩ ?_
    exact hJ 1 (if_pos c2).symm
theorem d_TR_settleNamed_0 : decode y_TR_settleNamed.2.1 0 = .ok (.aload_n 0, 1) := by decide +kernel
theorem d_TR_settleNamed_1 : decode y_TR_settleNamed.2.1 1 = .ok (.getfield 12, 3) := by decide +kernel
theorem d_TR_settleNamed_4 : decode y_TR_settleNamed.2.1 4 = .ok (.getfield 76, 3) := by decide +kernel
theorem d_TR_settleNamed_7 : decode y_TR_settleNamed.2.1 7 = .ok (.ifCond .ne 17, 3) := by decide +kernel
theorem d_TR_settleNamed_10 : decode y_TR_settleNamed.2.1 10 = .ok (.iload_n 1, 1) := by decide +kernel
theorem d_TR_settleNamed_11 : decode y_TR_settleNamed.2.1 11 = .ok (.iconst 4, 1) := by decide +kernel
theorem d_TR_settleNamed_12 : decode y_TR_settleNamed.2.1 12 = .ok (.if_icmp .ne 13, 3) := by decide +kernel
theorem d_TR_settleNamed_15 : decode y_TR_settleNamed.2.1 15 = .ok (.aload_n 0, 1) := by decide +kernel
theorem d_TR_settleNamed_16 : decode y_TR_settleNamed.2.1 16 = .ok (.iconst 0, 1) := by decide +kernel
theorem d_TR_settleNamed_17 : decode y_TR_settleNamed.2.1 17 = .ok (.iconst 0, 1) := by decide +kernel
theorem d_TR_settleNamed_18 : decode y_TR_settleNamed.2.1 18 = .ok (.invokevirtual 146, 3) := by decide +kernel
theorem d_TR_settleNamed_21 : decode y_TR_settleNamed.2.1 21 = .ok (.ifCond .ne 4, 3) := by decide +kernel
theorem d_TR_settleNamed_24 : decode y_TR_settleNamed.2.1 24 = .ok (.return_, 1) := by decide +kernel
theorem d_TR_settleNamed_25 : decode y_TR_settleNamed.2.1 25 = .ok (.aload_n 0, 1) := by decide +kernel
theorem d_TR_settleNamed_26 : decode y_TR_settleNamed.2.1 26 = .ok (.getfield 36, 3) := by decide +kernel
theorem d_TR_settleNamed_29 : decode y_TR_settleNamed.2.1 29 = .ok (.getfield 129, 3) := by decide +kernel
theorem d_TR_settleNamed_32 : decode y_TR_settleNamed.2.1 32 = .ok (.istore_n 2, 1) := by decide +kernel
theorem d_TR_settleNamed_33 : decode y_TR_settleNamed.2.1 33 = .ok (.aload_n 0, 1) := by decide +kernel
theorem d_TR_settleNamed_34 : decode y_TR_settleNamed.2.1 34 = .ok (.getfield 36, 3) := by decide +kernel
theorem d_TR_settleNamed_37 : decode y_TR_settleNamed.2.1 37 = .ok (.dup, 1) := by decide +kernel
theorem d_TR_settleNamed_38 : decode y_TR_settleNamed.2.1 38 = .ok (.getfield 129, 3) := by decide +kernel
theorem d_TR_settleNamed_41 : decode y_TR_settleNamed.2.1 41 = .ok (.iconst 1, 1) := by decide +kernel
theorem d_TR_settleNamed_42 : decode y_TR_settleNamed.2.1 42 = .ok (.iadd, 1) := by decide +kernel
theorem d_TR_settleNamed_43 : decode y_TR_settleNamed.2.1 43 = .ok (.putfield 129, 3) := by decide +kernel
theorem d_TR_settleNamed_46 : decode y_TR_settleNamed.2.1 46 = .ok (.aload_n 0, 1) := by decide +kernel
theorem d_TR_settleNamed_47 : decode y_TR_settleNamed.2.1 47 = .ok (.getfield 36, 3) := by decide +kernel
theorem d_TR_settleNamed_50 : decode y_TR_settleNamed.2.1 50 = .ok (.getfield 149, 3) := by decide +kernel
theorem d_TR_settleNamed_53 : decode y_TR_settleNamed.2.1 53 = .ok (.iload_n 2, 1) := by decide +kernel
theorem d_TR_settleNamed_54 : decode y_TR_settleNamed.2.1 54 = .ok (.aload_n 0, 1) := by decide +kernel
theorem d_TR_settleNamed_55 : decode y_TR_settleNamed.2.1 55 = .ok (.getfield 25, 3) := by decide +kernel
theorem d_TR_settleNamed_58 : decode y_TR_settleNamed.2.1 58 = .ok (.iconst 0, 1) := by decide +kernel
theorem d_TR_settleNamed_59 : decode y_TR_settleNamed.2.1 59 = .ok (.iaload, 1) := by decide +kernel
theorem d_TR_settleNamed_60 : decode y_TR_settleNamed.2.1 60 = .ok (.iastore, 1) := by decide +kernel
theorem d_TR_settleNamed_61 : decode y_TR_settleNamed.2.1 61 = .ok (.iload_n 1, 1) := by decide +kernel
theorem d_TR_settleNamed_62 : decode y_TR_settleNamed.2.1 62 = .ok (.iconst 4, 1) := by decide +kernel
theorem d_TR_settleNamed_63 : decode y_TR_settleNamed.2.1 63 = .ok (.if_icmp .ne 52, 3) := by decide +kernel
theorem d_TR_settleNamed_66 : decode y_TR_settleNamed.2.1 66 = .ok (.aload_n 0, 1) := by decide +kernel
theorem d_TR_settleNamed_67 : decode y_TR_settleNamed.2.1 67 = .ok (.getfield 36, 3) := by decide +kernel
theorem d_TR_settleNamed_70 : decode y_TR_settleNamed.2.1 70 = .ok (.getfield 152, 3) := by decide +kernel
theorem d_TR_settleNamed_73 : decode y_TR_settleNamed.2.1 73 = .ok (.iload_n 2, 1) := by decide +kernel
theorem d_TR_settleNamed_74 : decode y_TR_settleNamed.2.1 74 = .ok (.aload_n 0, 1) := by decide +kernel
theorem d_TR_settleNamed_75 : decode y_TR_settleNamed.2.1 75 = .ok (.getfield 21, 3) := by decide +kernel
theorem d_TR_settleNamed_78 : decode y_TR_settleNamed.2.1 78 = .ok (.getfield 155, 3) := by decide +kernel
theorem d_TR_settleNamed_81 : decode y_TR_settleNamed.2.1 81 = .ok (.iconst 0, 1) := by decide +kernel
theorem d_TR_settleNamed_82 : decode y_TR_settleNamed.2.1 82 = .ok (.iaload, 1) := by decide +kernel
theorem d_TR_settleNamed_83 : decode y_TR_settleNamed.2.1 83 = .ok (.iastore, 1) := by decide +kernel
theorem d_TR_settleNamed_84 : decode y_TR_settleNamed.2.1 84 = .ok (.aload_n 0, 1) := by decide +kernel
theorem d_TR_settleNamed_85 : decode y_TR_settleNamed.2.1 85 = .ok (.getfield 36, 3) := by decide +kernel
theorem d_TR_settleNamed_88 : decode y_TR_settleNamed.2.1 88 = .ok (.getfield 156, 3) := by decide +kernel
theorem d_TR_settleNamed_91 : decode y_TR_settleNamed.2.1 91 = .ok (.iload_n 2, 1) := by decide +kernel
theorem d_TR_settleNamed_92 : decode y_TR_settleNamed.2.1 92 = .ok (.aload_n 0, 1) := by decide +kernel
theorem d_TR_settleNamed_93 : decode y_TR_settleNamed.2.1 93 = .ok (.getfield 21, 3) := by decide +kernel
theorem d_TR_settleNamed_96 : decode y_TR_settleNamed.2.1 96 = .ok (.getfield 159, 3) := by decide +kernel
theorem d_TR_settleNamed_99 : decode y_TR_settleNamed.2.1 99 = .ok (.iconst 0, 1) := by decide +kernel
theorem d_TR_settleNamed_100 : decode y_TR_settleNamed.2.1 100 = .ok (.iaload, 1) := by decide +kernel
theorem d_TR_settleNamed_101 : decode y_TR_settleNamed.2.1 101 = .ok (.iastore, 1) := by decide +kernel
theorem d_TR_settleNamed_102 : decode y_TR_settleNamed.2.1 102 = .ok (.aload_n 0, 1) := by decide +kernel
theorem d_TR_settleNamed_103 : decode y_TR_settleNamed.2.1 103 = .ok (.getfield 36, 3) := by decide +kernel
theorem d_TR_settleNamed_106 : decode y_TR_settleNamed.2.1 106 = .ok (.aload_n 0, 1) := by decide +kernel
theorem d_TR_settleNamed_107 : decode y_TR_settleNamed.2.1 107 = .ok (.getfield 25, 3) := by decide +kernel
theorem d_TR_settleNamed_110 : decode y_TR_settleNamed.2.1 110 = .ok (.iconst 0, 1) := by decide +kernel
theorem d_TR_settleNamed_111 : decode y_TR_settleNamed.2.1 111 = .ok (.iaload, 1) := by decide +kernel
theorem d_TR_settleNamed_112 : decode y_TR_settleNamed.2.1 112 = .ok (.putfield 116, 3) := by decide +kernel
theorem d_TR_settleNamed_115 : decode y_TR_settleNamed.2.1 115 = .ok (.aload_n 0, 1) := by decide +kernel
theorem d_TR_settleNamed_116 : decode y_TR_settleNamed.2.1 116 = .ok (.getfield 12, 3) := by decide +kernel
theorem d_TR_settleNamed_119 : decode y_TR_settleNamed.2.1 119 = .ok (.aload_n 0, 1) := by decide +kernel
theorem d_TR_settleNamed_120 : decode y_TR_settleNamed.2.1 120 = .ok (.getfield 99, 3) := by decide +kernel
theorem d_TR_settleNamed_123 : decode y_TR_settleNamed.2.1 123 = .ok (.iload_n 1, 1) := by decide +kernel
theorem d_TR_settleNamed_124 : decode y_TR_settleNamed.2.1 124 = .ok (.iload_n 2, 1) := by decide +kernel
theorem d_TR_settleNamed_125 : decode y_TR_settleNamed.2.1 125 = .ok (.aload_n 0, 1) := by decide +kernel
theorem d_TR_settleNamed_126 : decode y_TR_settleNamed.2.1 126 = .ok (.getfield 143, 3) := by decide +kernel
theorem d_TR_settleNamed_129 : decode y_TR_settleNamed.2.1 129 = .ok (.invokevirtual 160, 3) := by decide +kernel
theorem d_TR_settleNamed_132 : decode y_TR_settleNamed.2.1 132 = .ok (.return_, 1) := by decide +kernel
theorem k_TR_settleNamed {G : mG} {d : Nat} {a0 : Nat} {l1 : Int} {M : mM} {Q : mM → Prop} (hO : mOk M) (hi_l1 : i32 l1)
    (h : mK M a0 = 3 ∧ mK M (mR M a0 0) = 4 ∧ ((mI M (mR M a0 0) 3 = 0) → (((l1 = 4) → (Ci G y_TR_worksOut d [vr a0, vi 0, vi 0] M (fun x9 M8 => i32 x9 ∧ mOk M8 ∧ (((x9 = 0) → (Q M8)) ∧ (¬ (x9 = 0) → (mK M8 a0 = 3 ∧ mK M8 (mR M8 a0 2) = 6 ∧ i32 ((mI M8 (mR M8 a0 2) 7) + 1) ∧ ∀ M16, M16 = mUI M8 (mR M8 a0 2) 7 ((mI M8 (mR M8 a0 2) 7) + 1) → mK M16 (mR M16 a0 2) = 6 ∧ mK M16 (mR M16 a0 5) = 30 ∧ ((0 : Int) ≤ 0 ∧ 0 < (mN M16 (mR M16 a0 5) : Int)) ∧ mK M16 (mR M16 (mR M16 a0 2) 10) = 30 ∧ ((0 : Int) ≤ mI M8 (mR M8 a0 2) 7 ∧ mI M8 (mR M8 a0 2) 7 < (mN M16 (mR M16 (mR M16 a0 2) 10) : Int)) ∧ ∀ M23, M23 = mUI M16 (mR M16 (mR M16 a0 2) 10) (Int.toNat (mI M8 (mR M8 a0 2) 7)) (mI M16 (mR M16 a0 5) 0) → ((l1 = 4) → (mK M23 (mR M23 a0 2) = 6 ∧ mK M23 (mR M23 a0 1) = 5 ∧ mK M23 (mR M23 (mR M23 a0 1) 6) = 30 ∧ ((0 : Int) ≤ 0 ∧ 0 < (mN M23 (mR M23 (mR M23 a0 1) 6) : Int)) ∧ mK M23 (mR M23 (mR M23 a0 2) 8) = 30 ∧ ((0 : Int) ≤ mI M8 (mR M8 a0 2) 7 ∧ mI M8 (mR M8 a0 2) 7 < (mN M23 (mR M23 (mR M23 a0 2) 8) : Int)) ∧ mK (mUI M23 (mR M23 (mR M23 a0 2) 8) (Int.toNat (mI M8 (mR M8 a0 2) 7)) (mI M23 (mR M23 (mR M23 a0 1) 6) 0)) (mR (mUI M23 (mR M23 (mR M23 a0 2) 8) (Int.toNat (mI M8 (mR M8 a0 2) 7)) (mI M23 (mR M23 (mR M23 a0 1) 6) 0)) a0 2) = 6 ∧ mK (mUI M23 (mR M23 (mR M23 a0 2) 8) (Int.toNat (mI M8 (mR M8 a0 2) 7)) (mI M23 (mR M23 (mR M23 a0 1) 6) 0)) (mR (mUI M23 (mR M23 (mR M23 a0 2) 8) (Int.toNat (mI M8 (mR M8 a0 2) 7)) (mI M23 (mR M23 (mR M23 a0 1) 6) 0)) a0 1) = 5 ∧ mK (mUI M23 (mR M23 (mR M23 a0 2) 8) (Int.toNat (mI M8 (mR M8 a0 2) 7)) (mI M23 (mR M23 (mR M23 a0 1) 6) 0)) (mR (mUI M23 (mR M23 (mR M23 a0 2) 8) (Int.toNat (mI M8 (mR M8 a0 2) 7)) (mI M23 (mR M23 (mR M23 a0 1) 6) 0)) (mR (mUI M23 (mR M23 (mR M23 a0 2) 8) (Int.toNat (mI M8 (mR M8 a0 2) 7)) (mI M23 (mR M23 (mR M23 a0 1) 6) 0)) a0 1) 7) = 30 ∧ ((0 : Int) ≤ 0 ∧ 0 < (mN (mUI M23 (mR M23 (mR M23 a0 2) 8) (Int.toNat (mI M8 (mR M8 a0 2) 7)) (mI M23 (mR M23 (mR M23 a0 1) 6) 0)) (mR (mUI M23 (mR M23 (mR M23 a0 2) 8) (Int.toNat (mI M8 (mR M8 a0 2) 7)) (mI M23 (mR M23 (mR M23 a0 1) 6) 0)) (mR (mUI M23 (mR M23 (mR M23 a0 2) 8) (Int.toNat (mI M8 (mR M8 a0 2) 7)) (mI M23 (mR M23 (mR M23 a0 1) 6) 0)) a0 1) 7) : Int)) ∧ mK (mUI M23 (mR M23 (mR M23 a0 2) 8) (Int.toNat (mI M8 (mR M8 a0 2) 7)) (mI M23 (mR M23 (mR M23 a0 1) 6) 0)) (mR (mUI M23 (mR M23 (mR M23 a0 2) 8) (Int.toNat (mI M8 (mR M8 a0 2) 7)) (mI M23 (mR M23 (mR M23 a0 1) 6) 0)) (mR (mUI M23 (mR M23 (mR M23 a0 2) 8) (Int.toNat (mI M8 (mR M8 a0 2) 7)) (mI M23 (mR M23 (mR M23 a0 1) 6) 0)) a0 2) 9) = 30 ∧ ((0 : Int) ≤ mI M8 (mR M8 a0 2) 7 ∧ mI M8 (mR M8 a0 2) 7 < (mN (mUI M23 (mR M23 (mR M23 a0 2) 8) (Int.toNat (mI M8 (mR M8 a0 2) 7)) (mI M23 (mR M23 (mR M23 a0 1) 6) 0)) (mR (mUI M23 (mR M23 (mR M23 a0 2) 8) (Int.toNat (mI M8 (mR M8 a0 2) 7)) (mI M23 (mR M23 (mR M23 a0 1) 6) 0)) (mR (mUI M23 (mR M23 (mR M23 a0 2) 8) (Int.toNat (mI M8 (mR M8 a0 2) 7)) (mI M23 (mR M23 (mR M23 a0 1) 6) 0)) a0 2) 9) : Int)) ∧ i32 (mI (mUI M23 (mR M23 (mR M23 a0 2) 8) (Int.toNat (mI M8 (mR M8 a0 2) 7)) (mI M23 (mR M23 (mR M23 a0 1) 6) 0)) (mR (mUI M23 (mR M23 (mR M23 a0 2) 8) (Int.toNat (mI M8 (mR M8 a0 2) 7)) (mI M23 (mR M23 (mR M23 a0 1) 6) 0)) (mR (mUI M23 (mR M23 (mR M23 a0 2) 8) (Int.toNat (mI M8 (mR M8 a0 2) 7)) (mI M23 (mR M23 (mR M23 a0 1) 6) 0)) a0 1) 7) 0) ∧ mK (mUI (mUI M23 (mR M23 (mR M23 a0 2) 8) (Int.toNat (mI M8 (mR M8 a0 2) 7)) (mI M23 (mR M23 (mR M23 a0 1) 6) 0)) (mR (mUI M23 (mR M23 (mR M23 a0 2) 8) (Int.toNat (mI M8 (mR M8 a0 2) 7)) (mI M23 (mR M23 (mR M23 a0 1) 6) 0)) (mR (mUI M23 (mR M23 (mR M23 a0 2) 8) (Int.toNat (mI M8 (mR M8 a0 2) 7)) (mI M23 (mR M23 (mR M23 a0 1) 6) 0)) a0 2) 9) (Int.toNat (mI M8 (mR M8 a0 2) 7)) (mI (mUI M23 (mR M23 (mR M23 a0 2) 8) (Int.toNat (mI M8 (mR M8 a0 2) 7)) (mI M23 (mR M23 (mR M23 a0 1) 6) 0)) (mR (mUI M23 (mR M23 (mR M23 a0 2) 8) (Int.toNat (mI M8 (mR M8 a0 2) 7)) (mI M23 (mR M23 (mR M23 a0 1) 6) 0)) (mR (mUI M23 (mR M23 (mR M23 a0 2) 8) (Int.toNat (mI M8 (mR M8 a0 2) 7)) (mI M23 (mR M23 (mR M23 a0 1) 6) 0)) a0 1) 7) 0)) (mR (mUI (mUI M23 (mR M23 (mR M23 a0 2) 8) (Int.toNat (mI M8 (mR M8 a0 2) 7)) (mI M23 (mR M23 (mR M23 a0 1) 6) 0)) (mR (mUI M23 (mR M23 (mR M23 a0 2) 8) (Int.toNat (mI M8 (mR M8 a0 2) 7)) (mI M23 (mR M23 (mR M23 a0 1) 6) 0)) (mR (mUI M23 (mR M23 (mR M23 a0 2) 8) (Int.toNat (mI M8 (mR M8 a0 2) 7)) (mI M23 (mR M23 (mR M23 a0 1) 6) 0)) a0 2) 9) (Int.toNat (mI M8 (mR M8 a0 2) 7)) (mI (mUI M23 (mR M23 (mR M23 a0 2) 8) (Int.toNat (mI M8 (mR M8 a0 2) 7)) (mI M23 (mR M23 (mR M23 a0 1) 6) 0)) (mR (mUI M23 (mR M23 (mR M23 a0 2) 8) (Int.toNat (mI M8 (mR M8 a0 2) 7)) (mI M23 (mR M23 (mR M23 a0 1) 6) 0)) (mR (mUI M23 (mR M23 (mR M23 a0 2) 8) (Int.toNat (mI M8 (mR M8 a0 2) 7)) (mI M23 (mR M23 (mR M23 a0 1) 6) 0)) a0 1) 7) 0)) a0 5) = 30 ∧ ((0 : Int) ≤ 0 ∧ 0 < (mN (mUI (mUI M23 (mR M23 (mR M23 a0 2) 8) (Int.toNat (mI M8 (mR M8 a0 2) 7)) (mI M23 (mR M23 (mR M23 a0 1) 6) 0)) (mR (mUI M23 (mR M23 (mR M23 a0 2) 8) (Int.toNat (mI M8 (mR M8 a0 2) 7)) (mI M23 (mR M23 (mR M23 a0 1) 6) 0)) (mR (mUI M23 (mR M23 (mR M23 a0 2) 8) (Int.toNat (mI M8 (mR M8 a0 2) 7)) (mI M23 (mR M23 (mR M23 a0 1) 6) 0)) a0 2) 9) (Int.toNat (mI M8 (mR M8 a0 2) 7)) (mI (mUI M23 (mR M23 (mR M23 a0 2) 8) (Int.toNat (mI M8 (mR M8 a0 2) 7)) (mI M23 (mR M23 (mR M23 a0 1) 6) 0)) (mR (mUI M23 (mR M23 (mR M23 a0 2) 8) (Int.toNat (mI M8 (mR M8 a0 2) 7)) (mI M23 (mR M23 (mR M23 a0 1) 6) 0)) (mR (mUI M23 (mR M23 (mR M23 a0 2) 8) (Int.toNat (mI M8 (mR M8 a0 2) 7)) (mI M23 (mR M23 (mR M23 a0 1) 6) 0)) a0 1) 7) 0)) (mR (mUI (mUI M23 (mR M23 (mR M23 a0 2) 8) (Int.toNat (mI M8 (mR M8 a0 2) 7)) (mI M23 (mR M23 (mR M23 a0 1) 6) 0)) (mR (mUI M23 (mR M23 (mR M23 a0 2) 8) (Int.toNat (mI M8 (mR M8 a0 2) 7)) (mI M23 (mR M23 (mR M23 a0 1) 6) 0)) (mR (mUI M23 (mR M23 (mR M23 a0 2) 8) (Int.toNat (mI M8 (mR M8 a0 2) 7)) (mI M23 (mR M23 (mR M23 a0 1) 6) 0)) a0 2) 9) (Int.toNat (mI M8 (mR M8 a0 2) 7)) (mI (mUI M23 (mR M23 (mR M23 a0 2) 8) (Int.toNat (mI M8 (mR M8 a0 2) 7)) (mI M23 (mR M23 (mR M23 a0 1) 6) 0)) (mR (mUI M23 (mR M23 (mR M23 a0 2) 8) (Int.toNat (mI M8 (mR M8 a0 2) 7)) (mI M23 (mR M23 (mR M23 a0 1) 6) 0)) (mR (mUI M23 (mR M23 (mR M23 a0 2) 8) (Int.toNat (mI M8 (mR M8 a0 2) 7)) (mI M23 (mR M23 (mR M23 a0 1) 6) 0)) a0 1) 7) 0)) a0 5) : Int)) ∧ mK (mUI (mUI M23 (mR M23 (mR M23 a0 2) 8) (Int.toNat (mI M8 (mR M8 a0 2) 7)) (mI M23 (mR M23 (mR M23 a0 1) 6) 0)) (mR (mUI M23 (mR M23 (mR M23 a0 2) 8) (Int.toNat (mI M8 (mR M8 a0 2) 7)) (mI M23 (mR M23 (mR M23 a0 1) 6) 0)) (mR (mUI M23 (mR M23 (mR M23 a0 2) 8) (Int.toNat (mI M8 (mR M8 a0 2) 7)) (mI M23 (mR M23 (mR M23 a0 1) 6) 0)) a0 2) 9) (Int.toNat (mI M8 (mR M8 a0 2) 7)) (mI (mUI M23 (mR M23 (mR M23 a0 2) 8) (Int.toNat (mI M8 (mR M8 a0 2) 7)) (mI M23 (mR M23 (mR M23 a0 1) 6) 0)) (mR (mUI M23 (mR M23 (mR M23 a0 2) 8) (Int.toNat (mI M8 (mR M8 a0 2) 7)) (mI M23 (mR M23 (mR M23 a0 1) 6) 0)) (mR (mUI M23 (mR M23 (mR M23 a0 2) 8) (Int.toNat (mI M8 (mR M8 a0 2) 7)) (mI M23 (mR M23 (mR M23 a0 1) 6) 0)) a0 1) 7) 0)) (mR (mUI (mUI M23 (mR M23 (mR M23 a0 2) 8) (Int.toNat (mI M8 (mR M8 a0 2) 7)) (mI M23 (mR M23 (mR M23 a0 1) 6) 0)) (mR (mUI M23 (mR M23 (mR M23 a0 2) 8) (Int.toNat (mI M8 (mR M8 a0 2) 7)) (mI M23 (mR M23 (mR M23 a0 1) 6) 0)) (mR (mUI M23 (mR M23 (mR M23 a0 2) 8) (Int.toNat (mI M8 (mR M8 a0 2) 7)) (mI M23 (mR M23 (mR M23 a0 1) 6) 0)) a0 2) 9) (Int.toNat (mI M8 (mR M8 a0 2) 7)) (mI (mUI M23 (mR M23 (mR M23 a0 2) 8) (Int.toNat (mI M8 (mR M8 a0 2) 7)) (mI M23 (mR M23 (mR M23 a0 1) 6) 0)) (mR (mUI M23 (mR M23 (mR M23 a0 2) 8) (Int.toNat (mI M8 (mR M8 a0 2) 7)) (mI M23 (mR M23 (mR M23 a0 1) 6) 0)) (mR (mUI M23 (mR M23 (mR M23 a0 2) 8) (Int.toNat (mI M8 (mR M8 a0 2) 7)) (mI M23 (mR M23 (mR M23 a0 1) 6) 0)) a0 1) 7) 0)) a0 2) = 6 ∧ i32 (mI (mUI (mUI M23 (mR M23 (mR M23 a0 2) 8) (Int.toNat (mI M8 (mR M8 a0 2) 7)) (mI M23 (mR M23 (mR M23 a0 1) 6) 0)) (mR (mUI M23 (mR M23 (mR M23 a0 2) 8) (Int.toNat (mI M8 (mR M8 a0 2) 7)) (mI M23 (mR M23 (mR M23 a0 1) 6) 0)) (mR (mUI M23 (mR M23 (mR M23 a0 2) 8) (Int.toNat (mI M8 (mR M8 a0 2) 7)) (mI M23 (mR M23 (mR M23 a0 1) 6) 0)) a0 2) 9) (Int.toNat (mI M8 (mR M8 a0 2) 7)) (mI (mUI M23 (mR M23 (mR M23 a0 2) 8) (Int.toNat (mI M8 (mR M8 a0 2) 7)) (mI M23 (mR M23 (mR M23 a0 1) 6) 0)) (mR (mUI M23 (mR M23 (mR M23 a0 2) 8) (Int.toNat (mI M8 (mR M8 a0 2) 7)) (mI M23 (mR M23 (mR M23 a0 1) 6) 0)) (mR (mUI M23 (mR M23 (mR M23 a0 2) 8) (Int.toNat (mI M8 (mR M8 a0 2) 7)) (mI M23 (mR M23 (mR M23 a0 1) 6) 0)) a0 1) 7) 0)) (mR (mUI (mUI M23 (mR M23 (mR M23 a0 2) 8) (Int.toNat (mI M8 (mR M8 a0 2) 7)) (mI M23 (mR M23 (mR M23 a0 1) 6) 0)) (mR (mUI M23 (mR M23 (mR M23 a0 2) 8) (Int.toNat (mI M8 (mR M8 a0 2) 7)) (mI M23 (mR M23 (mR M23 a0 1) 6) 0)) (mR (mUI M23 (mR M23 (mR M23 a0 2) 8) (Int.toNat (mI M8 (mR M8 a0 2) 7)) (mI M23 (mR M23 (mR M23 a0 1) 6) 0)) a0 2) 9) (Int.toNat (mI M8 (mR M8 a0 2) 7)) (mI (mUI M23 (mR M23 (mR M23 a0 2) 8) (Int.toNat (mI M8 (mR M8 a0 2) 7)) (mI M23 (mR M23 (mR M23 a0 1) 6) 0)) (mR (mUI M23 (mR M23 (mR M23 a0 2) 8) (Int.toNat (mI M8 (mR M8 a0 2) 7)) (mI M23 (mR M23 (mR M23 a0 1) 6) 0)) (mR (mUI M23 (mR M23 (mR M23 a0 2) 8) (Int.toNat (mI M8 (mR M8 a0 2) 7)) (mI M23 (mR M23 (mR M23 a0 1) 6) 0)) a0 1) 7) 0)) a0 5) 0))) ∧ ∀ M43 : mM, M43 = (if (l1 = 4) then (mUI (mUI (mUI M23 (mR M23 (mR M23 a0 2) 8) (Int.toNat (mI M8 (mR M8 a0 2) 7)) (mI M23 (mR M23 (mR M23 a0 1) 6) 0)) (mR (mUI M23 (mR M23 (mR M23 a0 2) 8) (Int.toNat (mI M8 (mR M8 a0 2) 7)) (mI M23 (mR M23 (mR M23 a0 1) 6) 0)) (mR (mUI M23 (mR M23 (mR M23 a0 2) 8) (Int.toNat (mI M8 (mR M8 a0 2) 7)) (mI M23 (mR M23 (mR M23 a0 1) 6) 0)) a0 2) 9) (Int.toNat (mI M8 (mR M8 a0 2) 7)) (mI (mUI M23 (mR M23 (mR M23 a0 2) 8) (Int.toNat (mI M8 (mR M8 a0 2) 7)) (mI M23 (mR M23 (mR M23 a0 1) 6) 0)) (mR (mUI M23 (mR M23 (mR M23 a0 2) 8) (Int.toNat (mI M8 (mR M8 a0 2) 7)) (mI M23 (mR M23 (mR M23 a0 1) 6) 0)) (mR (mUI M23 (mR M23 (mR M23 a0 2) 8) (Int.toNat (mI M8 (mR M8 a0 2) 7)) (mI M23 (mR M23 (mR M23 a0 1) 6) 0)) a0 1) 7) 0)) (mR (mUI (mUI M23 (mR M23 (mR M23 a0 2) 8) (Int.toNat (mI M8 (mR M8 a0 2) 7)) (mI M23 (mR M23 (mR M23 a0 1) 6) 0)) (mR (mUI M23 (mR M23 (mR M23 a0 2) 8) (Int.toNat (mI M8 (mR M8 a0 2) 7)) (mI M23 (mR M23 (mR M23 a0 1) 6) 0)) (mR (mUI M23 (mR M23 (mR M23 a0 2) 8) (Int.toNat (mI M8 (mR M8 a0 2) 7)) (mI M23 (mR M23 (mR M23 a0 1) 6) 0)) a0 2) 9) (Int.toNat (mI M8 (mR M8 a0 2) 7)) (mI (mUI M23 (mR M23 (mR M23 a0 2) 8) (Int.toNat (mI M8 (mR M8 a0 2) 7)) (mI M23 (mR M23 (mR M23 a0 1) 6) 0)) (mR (mUI M23 (mR M23 (mR M23 a0 2) 8) (Int.toNat (mI M8 (mR M8 a0 2) 7)) (mI M23 (mR M23 (mR M23 a0 1) 6) 0)) (mR (mUI M23 (mR M23 (mR M23 a0 2) 8) (Int.toNat (mI M8 (mR M8 a0 2) 7)) (mI M23 (mR M23 (mR M23 a0 1) 6) 0)) a0 1) 7) 0)) a0 2) 2 (mI (mUI (mUI M23 (mR M23 (mR M23 a0 2) 8) (Int.toNat (mI M8 (mR M8 a0 2) 7)) (mI M23 (mR M23 (mR M23 a0 1) 6) 0)) (mR (mUI M23 (mR M23 (mR M23 a0 2) 8) (Int.toNat (mI M8 (mR M8 a0 2) 7)) (mI M23 (mR M23 (mR M23 a0 1) 6) 0)) (mR (mUI M23 (mR M23 (mR M23 a0 2) 8) (Int.toNat (mI M8 (mR M8 a0 2) 7)) (mI M23 (mR M23 (mR M23 a0 1) 6) 0)) a0 2) 9) (Int.toNat (mI M8 (mR M8 a0 2) 7)) (mI (mUI M23 (mR M23 (mR M23 a0 2) 8) (Int.toNat (mI M8 (mR M8 a0 2) 7)) (mI M23 (mR M23 (mR M23 a0 1) 6) 0)) (mR (mUI M23 (mR M23 (mR M23 a0 2) 8) (Int.toNat (mI M8 (mR M8 a0 2) 7)) (mI M23 (mR M23 (mR M23 a0 1) 6) 0)) (mR (mUI M23 (mR M23 (mR M23 a0 2) 8) (Int.toNat (mI M8 (mR M8 a0 2) 7)) (mI M23 (mR M23 (mR M23 a0 1) 6) 0)) a0 1) 7) 0)) (mR (mUI (mUI M23 (mR M23 (mR M23 a0 2) 8) (Int.toNat (mI M8 (mR M8 a0 2) 7)) (mI M23 (mR M23 (mR M23 a0 1) 6) 0)) (mR (mUI M23 (mR M23 (mR M23 a0 2) 8) (Int.toNat (mI M8 (mR M8 a0 2) 7)) (mI M23 (mR M23 (mR M23 a0 1) 6) 0)) (mR (mUI M23 (mR M23 (mR M23 a0 2) 8) (Int.toNat (mI M8 (mR M8 a0 2) 7)) (mI M23 (mR M23 (mR M23 a0 1) 6) 0)) a0 2) 9) (Int.toNat (mI M8 (mR M8 a0 2) 7)) (mI (mUI M23 (mR M23 (mR M23 a0 2) 8) (Int.toNat (mI M8 (mR M8 a0 2) 7)) (mI M23 (mR M23 (mR M23 a0 1) 6) 0)) (mR (mUI M23 (mR M23 (mR M23 a0 2) 8) (Int.toNat (mI M8 (mR M8 a0 2) 7)) (mI M23 (mR M23 (mR M23 a0 1) 6) 0)) (mR (mUI M23 (mR M23 (mR M23 a0 2) 8) (Int.toNat (mI M8 (mR M8 a0 2) 7)) (mI M23 (mR M23 (mR M23 a0 1) 6) 0)) a0 1) 7) 0)) a0 5) 0)) else M23) → mOk M43 ∧ mK M43 (mR M43 a0 0) = 4 ∧ Cv G y_RR_know d [vr (mR M43 a0 0), vi (mI M43 a0 3), vi l1, vi (mI M8 (mR M8 a0 2) 7), vi (mI M43 a0 8)] M43 (fun M48 => mOk M48 ∧ (Q M48)))))))) ∧ (¬ (l1 = 4) → (mK M (mR M a0 2) = 6 ∧ i32 ((mI M (mR M a0 2) 7) + 1) ∧ ∀ M55, M55 = mUI M (mR M a0 2) 7 ((mI M (mR M a0 2) 7) + 1) → mK M55 (mR M55 a0 2) = 6 ∧ mK M55 (mR M55 a0 5) = 30 ∧ ((0 : Int) ≤ 0 ∧ 0 < (mN M55 (mR M55 a0 5) : Int)) ∧ mK M55 (mR M55 (mR M55 a0 2) 10) = 30 ∧ ((0 : Int) ≤ mI M (mR M a0 2) 7 ∧ mI M (mR M a0 2) 7 < (mN M55 (mR M55 (mR M55 a0 2) 10) : Int)) ∧ ∀ M62, M62 = mUI M55 (mR M55 (mR M55 a0 2) 10) (Int.toNat (mI M (mR M a0 2) 7)) (mI M55 (mR M55 a0 5) 0) → ((l1 = 4) → (mK M62 (mR M62 a0 2) = 6 ∧ mK M62 (mR M62 a0 1) = 5 ∧ mK M62 (mR M62 (mR M62 a0 1) 6) = 30 ∧ ((0 : Int) ≤ 0 ∧ 0 < (mN M62 (mR M62 (mR M62 a0 1) 6) : Int)) ∧ mK M62 (mR M62 (mR M62 a0 2) 8) = 30 ∧ ((0 : Int) ≤ mI M (mR M a0 2) 7 ∧ mI M (mR M a0 2) 7 < (mN M62 (mR M62 (mR M62 a0 2) 8) : Int)) ∧ mK (mUI M62 (mR M62 (mR M62 a0 2) 8) (Int.toNat (mI M (mR M a0 2) 7)) (mI M62 (mR M62 (mR M62 a0 1) 6) 0)) (mR (mUI M62 (mR M62 (mR M62 a0 2) 8) (Int.toNat (mI M (mR M a0 2) 7)) (mI M62 (mR M62 (mR M62 a0 1) 6) 0)) a0 2) = 6 ∧ mK (mUI M62 (mR M62 (mR M62 a0 2) 8) (Int.toNat (mI M (mR M a0 2) 7)) (mI M62 (mR M62 (mR M62 a0 1) 6) 0)) (mR (mUI M62 (mR M62 (mR M62 a0 2) 8) (Int.toNat (mI M (mR M a0 2) 7)) (mI M62 (mR M62 (mR M62 a0 1) 6) 0)) a0 1) = 5 ∧ mK (mUI M62 (mR M62 (mR M62 a0 2) 8) (Int.toNat (mI M (mR M a0 2) 7)) (mI M62 (mR M62 (mR M62 a0 1) 6) 0)) (mR (mUI M62 (mR M62 (mR M62 a0 2) 8) (Int.toNat (mI M (mR M a0 2) 7)) (mI M62 (mR M62 (mR M62 a0 1) 6) 0)) (mR (mUI M62 (mR M62 (mR M62 a0 2) 8) (Int.toNat (mI M (mR M a0 2) 7)) (mI M62 (mR M62 (mR M62 a0 1) 6) 0)) a0 1) 7) = 30 ∧ ((0 : Int) ≤ 0 ∧ 0 < (mN (mUI M62 (mR M62 (mR M62 a0 2) 8) (Int.toNat (mI M (mR M a0 2) 7)) (mI M62 (mR M62 (mR M62 a0 1) 6) 0)) (mR (mUI M62 (mR M62 (mR M62 a0 2) 8) (Int.toNat (mI M (mR M a0 2) 7)) (mI M62 (mR M62 (mR M62 a0 1) 6) 0)) (mR (mUI M62 (mR M62 (mR M62 a0 2) 8) (Int.toNat (mI M (mR M a0 2) 7)) (mI M62 (mR M62 (mR M62 a0 1) 6) 0)) a0 1) 7) : Int)) ∧ mK (mUI M62 (mR M62 (mR M62 a0 2) 8) (Int.toNat (mI M (mR M a0 2) 7)) (mI M62 (mR M62 (mR M62 a0 1) 6) 0)) (mR (mUI M62 (mR M62 (mR M62 a0 2) 8) (Int.toNat (mI M (mR M a0 2) 7)) (mI M62 (mR M62 (mR M62 a0 1) 6) 0)) (mR (mUI M62 (mR M62 (mR M62 a0 2) 8) (Int.toNat (mI M (mR M a0 2) 7)) (mI M62 (mR M62 (mR M62 a0 1) 6) 0)) a0 2) 9) = 30 ∧ ((0 : Int) ≤ mI M (mR M a0 2) 7 ∧ mI M (mR M a0 2) 7 < (mN (mUI M62 (mR M62 (mR M62 a0 2) 8) (Int.toNat (mI M (mR M a0 2) 7)) (mI M62 (mR M62 (mR M62 a0 1) 6) 0)) (mR (mUI M62 (mR M62 (mR M62 a0 2) 8) (Int.toNat (mI M (mR M a0 2) 7)) (mI M62 (mR M62 (mR M62 a0 1) 6) 0)) (mR (mUI M62 (mR M62 (mR M62 a0 2) 8) (Int.toNat (mI M (mR M a0 2) 7)) (mI M62 (mR M62 (mR M62 a0 1) 6) 0)) a0 2) 9) : Int)) ∧ i32 (mI (mUI M62 (mR M62 (mR M62 a0 2) 8) (Int.toNat (mI M (mR M a0 2) 7)) (mI M62 (mR M62 (mR M62 a0 1) 6) 0)) (mR (mUI M62 (mR M62 (mR M62 a0 2) 8) (Int.toNat (mI M (mR M a0 2) 7)) (mI M62 (mR M62 (mR M62 a0 1) 6) 0)) (mR (mUI M62 (mR M62 (mR M62 a0 2) 8) (Int.toNat (mI M (mR M a0 2) 7)) (mI M62 (mR M62 (mR M62 a0 1) 6) 0)) a0 1) 7) 0) ∧ mK (mUI (mUI M62 (mR M62 (mR M62 a0 2) 8) (Int.toNat (mI M (mR M a0 2) 7)) (mI M62 (mR M62 (mR M62 a0 1) 6) 0)) (mR (mUI M62 (mR M62 (mR M62 a0 2) 8) (Int.toNat (mI M (mR M a0 2) 7)) (mI M62 (mR M62 (mR M62 a0 1) 6) 0)) (mR (mUI M62 (mR M62 (mR M62 a0 2) 8) (Int.toNat (mI M (mR M a0 2) 7)) (mI M62 (mR M62 (mR M62 a0 1) 6) 0)) a0 2) 9) (Int.toNat (mI M (mR M a0 2) 7)) (mI (mUI M62 (mR M62 (mR M62 a0 2) 8) (Int.toNat (mI M (mR M a0 2) 7)) (mI M62 (mR M62 (mR M62 a0 1) 6) 0)) (mR (mUI M62 (mR M62 (mR M62 a0 2) 8) (Int.toNat (mI M (mR M a0 2) 7)) (mI M62 (mR M62 (mR M62 a0 1) 6) 0)) (mR (mUI M62 (mR M62 (mR M62 a0 2) 8) (Int.toNat (mI M (mR M a0 2) 7)) (mI M62 (mR M62 (mR M62 a0 1) 6) 0)) a0 1) 7) 0)) (mR (mUI (mUI M62 (mR M62 (mR M62 a0 2) 8) (Int.toNat (mI M (mR M a0 2) 7)) (mI M62 (mR M62 (mR M62 a0 1) 6) 0)) (mR (mUI M62 (mR M62 (mR M62 a0 2) 8) (Int.toNat (mI M (mR M a0 2) 7)) (mI M62 (mR M62 (mR M62 a0 1) 6) 0)) (mR (mUI M62 (mR M62 (mR M62 a0 2) 8) (Int.toNat (mI M (mR M a0 2) 7)) (mI M62 (mR M62 (mR M62 a0 1) 6) 0)) a0 2) 9) (Int.toNat (mI M (mR M a0 2) 7)) (mI (mUI M62 (mR M62 (mR M62 a0 2) 8) (Int.toNat (mI M (mR M a0 2) 7)) (mI M62 (mR M62 (mR M62 a0 1) 6) 0)) (mR (mUI M62 (mR M62 (mR M62 a0 2) 8) (Int.toNat (mI M (mR M a0 2) 7)) (mI M62 (mR M62 (mR M62 a0 1) 6) 0)) (mR (mUI M62 (mR M62 (mR M62 a0 2) 8) (Int.toNat (mI M (mR M a0 2) 7)) (mI M62 (mR M62 (mR M62 a0 1) 6) 0)) a0 1) 7) 0)) a0 5) = 30 ∧ ((0 : Int) ≤ 0 ∧ 0 < (mN (mUI (mUI M62 (mR M62 (mR M62 a0 2) 8) (Int.toNat (mI M (mR M a0 2) 7)) (mI M62 (mR M62 (mR M62 a0 1) 6) 0)) (mR (mUI M62 (mR M62 (mR M62 a0 2) 8) (Int.toNat (mI M (mR M a0 2) 7)) (mI M62 (mR M62 (mR M62 a0 1) 6) 0)) (mR (mUI M62 (mR M62 (mR M62 a0 2) 8) (Int.toNat (mI M (mR M a0 2) 7)) (mI M62 (mR M62 (mR M62 a0 1) 6) 0)) a0 2) 9) (Int.toNat (mI M (mR M a0 2) 7)) (mI (mUI M62 (mR M62 (mR M62 a0 2) 8) (Int.toNat (mI M (mR M a0 2) 7)) (mI M62 (mR M62 (mR M62 a0 1) 6) 0)) (mR (mUI M62 (mR M62 (mR M62 a0 2) 8) (Int.toNat (mI M (mR M a0 2) 7)) (mI M62 (mR M62 (mR M62 a0 1) 6) 0)) (mR (mUI M62 (mR M62 (mR M62 a0 2) 8) (Int.toNat (mI M (mR M a0 2) 7)) (mI M62 (mR M62 (mR M62 a0 1) 6) 0)) a0 1) 7) 0)) (mR (mUI (mUI M62 (mR M62 (mR M62 a0 2) 8) (Int.toNat (mI M (mR M a0 2) 7)) (mI M62 (mR M62 (mR M62 a0 1) 6) 0)) (mR (mUI M62 (mR M62 (mR M62 a0 2) 8) (Int.toNat (mI M (mR M a0 2) 7)) (mI M62 (mR M62 (mR M62 a0 1) 6) 0)) (mR (mUI M62 (mR M62 (mR M62 a0 2) 8) (Int.toNat (mI M (mR M a0 2) 7)) (mI M62 (mR M62 (mR M62 a0 1) 6) 0)) a0 2) 9) (Int.toNat (mI M (mR M a0 2) 7)) (mI (mUI M62 (mR M62 (mR M62 a0 2) 8) (Int.toNat (mI M (mR M a0 2) 7)) (mI M62 (mR M62 (mR M62 a0 1) 6) 0)) (mR (mUI M62 (mR M62 (mR M62 a0 2) 8) (Int.toNat (mI M (mR M a0 2) 7)) (mI M62 (mR M62 (mR M62 a0 1) 6) 0)) (mR (mUI M62 (mR M62 (mR M62 a0 2) 8) (Int.toNat (mI M (mR M a0 2) 7)) (mI M62 (mR M62 (mR M62 a0 1) 6) 0)) a0 1) 7) 0)) a0 5) : Int)) ∧ mK (mUI (mUI M62 (mR M62 (mR M62 a0 2) 8) (Int.toNat (mI M (mR M a0 2) 7)) (mI M62 (mR M62 (mR M62 a0 1) 6) 0)) (mR (mUI M62 (mR M62 (mR M62 a0 2) 8) (Int.toNat (mI M (mR M a0 2) 7)) (mI M62 (mR M62 (mR M62 a0 1) 6) 0)) (mR (mUI M62 (mR M62 (mR M62 a0 2) 8) (Int.toNat (mI M (mR M a0 2) 7)) (mI M62 (mR M62 (mR M62 a0 1) 6) 0)) a0 2) 9) (Int.toNat (mI M (mR M a0 2) 7)) (mI (mUI M62 (mR M62 (mR M62 a0 2) 8) (Int.toNat (mI M (mR M a0 2) 7)) (mI M62 (mR M62 (mR M62 a0 1) 6) 0)) (mR (mUI M62 (mR M62 (mR M62 a0 2) 8) (Int.toNat (mI M (mR M a0 2) 7)) (mI M62 (mR M62 (mR M62 a0 1) 6) 0)) (mR (mUI M62 (mR M62 (mR M62 a0 2) 8) (Int.toNat (mI M (mR M a0 2) 7)) (mI M62 (mR M62 (mR M62 a0 1) 6) 0)) a0 1) 7) 0)) (mR (mUI (mUI M62 (mR M62 (mR M62 a0 2) 8) (Int.toNat (mI M (mR M a0 2) 7)) (mI M62 (mR M62 (mR M62 a0 1) 6) 0)) (mR (mUI M62 (mR M62 (mR M62 a0 2) 8) (Int.toNat (mI M (mR M a0 2) 7)) (mI M62 (mR M62 (mR M62 a0 1) 6) 0)) (mR (mUI M62 (mR M62 (mR M62 a0 2) 8) (Int.toNat (mI M (mR M a0 2) 7)) (mI M62 (mR M62 (mR M62 a0 1) 6) 0)) a0 2) 9) (Int.toNat (mI M (mR M a0 2) 7)) (mI (mUI M62 (mR M62 (mR M62 a0 2) 8) (Int.toNat (mI M (mR M a0 2) 7)) (mI M62 (mR M62 (mR M62 a0 1) 6) 0)) (mR (mUI M62 (mR M62 (mR M62 a0 2) 8) (Int.toNat (mI M (mR M a0 2) 7)) (mI M62 (mR M62 (mR M62 a0 1) 6) 0)) (mR (mUI M62 (mR M62 (mR M62 a0 2) 8) (Int.toNat (mI M (mR M a0 2) 7)) (mI M62 (mR M62 (mR M62 a0 1) 6) 0)) a0 1) 7) 0)) a0 2) = 6 ∧ i32 (mI (mUI (mUI M62 (mR M62 (mR M62 a0 2) 8) (Int.toNat (mI M (mR M a0 2) 7)) (mI M62 (mR M62 (mR M62 a0 1) 6) 0)) (mR (mUI M62 (mR M62 (mR M62 a0 2) 8) (Int.toNat (mI M (mR M a0 2) 7)) (mI M62 (mR M62 (mR M62 a0 1) 6) 0)) (mR (mUI M62 (mR M62 (mR M62 a0 2) 8) (Int.toNat (mI M (mR M a0 2) 7)) (mI M62 (mR M62 (mR M62 a0 1) 6) 0)) a0 2) 9) (Int.toNat (mI M (mR M a0 2) 7)) (mI (mUI M62 (mR M62 (mR M62 a0 2) 8) (Int.toNat (mI M (mR M a0 2) 7)) (mI M62 (mR M62 (mR M62 a0 1) 6) 0)) (mR (mUI M62 (mR M62 (mR M62 a0 2) 8) (Int.toNat (mI M (mR M a0 2) 7)) (mI M62 (mR M62 (mR M62 a0 1) 6) 0)) (mR (mUI M62 (mR M62 (mR M62 a0 2) 8) (Int.toNat (mI M (mR M a0 2) 7)) (mI M62 (mR M62 (mR M62 a0 1) 6) 0)) a0 1) 7) 0)) (mR (mUI (mUI M62 (mR M62 (mR M62 a0 2) 8) (Int.toNat (mI M (mR M a0 2) 7)) (mI M62 (mR M62 (mR M62 a0 1) 6) 0)) (mR (mUI M62 (mR M62 (mR M62 a0 2) 8) (Int.toNat (mI M (mR M a0 2) 7)) (mI M62 (mR M62 (mR M62 a0 1) 6) 0)) (mR (mUI M62 (mR M62 (mR M62 a0 2) 8) (Int.toNat (mI M (mR M a0 2) 7)) (mI M62 (mR M62 (mR M62 a0 1) 6) 0)) a0 2) 9) (Int.toNat (mI M (mR M a0 2) 7)) (mI (mUI M62 (mR M62 (mR M62 a0 2) 8) (Int.toNat (mI M (mR M a0 2) 7)) (mI M62 (mR M62 (mR M62 a0 1) 6) 0)) (mR (mUI M62 (mR M62 (mR M62 a0 2) 8) (Int.toNat (mI M (mR M a0 2) 7)) (mI M62 (mR M62 (mR M62 a0 1) 6) 0)) (mR (mUI M62 (mR M62 (mR M62 a0 2) 8) (Int.toNat (mI M (mR M a0 2) 7)) (mI M62 (mR M62 (mR M62 a0 1) 6) 0)) a0 1) 7) 0)) a0 5) 0))) ∧ ∀ M82 : mM, M82 = (if (l1 = 4) then (mUI (mUI (mUI M62 (mR M62 (mR M62 a0 2) 8) (Int.toNat (mI M (mR M a0 2) 7)) (mI M62 (mR M62 (mR M62 a0 1) 6) 0)) (mR (mUI M62 (mR M62 (mR M62 a0 2) 8) (Int.toNat (mI M (mR M a0 2) 7)) (mI M62 (mR M62 (mR M62 a0 1) 6) 0)) (mR (mUI M62 (mR M62 (mR M62 a0 2) 8) (Int.toNat (mI M (mR M a0 2) 7)) (mI M62 (mR M62 (mR M62 a0 1) 6) 0)) a0 2) 9) (Int.toNat (mI M (mR M a0 2) 7)) (mI (mUI M62 (mR M62 (mR M62 a0 2) 8) (Int.toNat (mI M (mR M a0 2) 7)) (mI M62 (mR M62 (mR M62 a0 1) 6) 0)) (mR (mUI M62 (mR M62 (mR M62 a0 2) 8) (Int.toNat (mI M (mR M a0 2) 7)) (mI M62 (mR M62 (mR M62 a0 1) 6) 0)) (mR (mUI M62 (mR M62 (mR M62 a0 2) 8) (Int.toNat (mI M (mR M a0 2) 7)) (mI M62 (mR M62 (mR M62 a0 1) 6) 0)) a0 1) 7) 0)) (mR (mUI (mUI M62 (mR M62 (mR M62 a0 2) 8) (Int.toNat (mI M (mR M a0 2) 7)) (mI M62 (mR M62 (mR M62 a0 1) 6) 0)) (mR (mUI M62 (mR M62 (mR M62 a0 2) 8) (Int.toNat (mI M (mR M a0 2) 7)) (mI M62 (mR M62 (mR M62 a0 1) 6) 0)) (mR (mUI M62 (mR M62 (mR M62 a0 2) 8) (Int.toNat (mI M (mR M a0 2) 7)) (mI M62 (mR M62 (mR M62 a0 1) 6) 0)) a0 2) 9) (Int.toNat (mI M (mR M a0 2) 7)) (mI (mUI M62 (mR M62 (mR M62 a0 2) 8) (Int.toNat (mI M (mR M a0 2) 7)) (mI M62 (mR M62 (mR M62 a0 1) 6) 0)) (mR (mUI M62 (mR M62 (mR M62 a0 2) 8) (Int.toNat (mI M (mR M a0 2) 7)) (mI M62 (mR M62 (mR M62 a0 1) 6) 0)) (mR (mUI M62 (mR M62 (mR M62 a0 2) 8) (Int.toNat (mI M (mR M a0 2) 7)) (mI M62 (mR M62 (mR M62 a0 1) 6) 0)) a0 1) 7) 0)) a0 2) 2 (mI (mUI (mUI M62 (mR M62 (mR M62 a0 2) 8) (Int.toNat (mI M (mR M a0 2) 7)) (mI M62 (mR M62 (mR M62 a0 1) 6) 0)) (mR (mUI M62 (mR M62 (mR M62 a0 2) 8) (Int.toNat (mI M (mR M a0 2) 7)) (mI M62 (mR M62 (mR M62 a0 1) 6) 0)) (mR (mUI M62 (mR M62 (mR M62 a0 2) 8) (Int.toNat (mI M (mR M a0 2) 7)) (mI M62 (mR M62 (mR M62 a0 1) 6) 0)) a0 2) 9) (Int.toNat (mI M (mR M a0 2) 7)) (mI (mUI M62 (mR M62 (mR M62 a0 2) 8) (Int.toNat (mI M (mR M a0 2) 7)) (mI M62 (mR M62 (mR M62 a0 1) 6) 0)) (mR (mUI M62 (mR M62 (mR M62 a0 2) 8) (Int.toNat (mI M (mR M a0 2) 7)) (mI M62 (mR M62 (mR M62 a0 1) 6) 0)) (mR (mUI M62 (mR M62 (mR M62 a0 2) 8) (Int.toNat (mI M (mR M a0 2) 7)) (mI M62 (mR M62 (mR M62 a0 1) 6) 0)) a0 1) 7) 0)) (mR (mUI (mUI M62 (mR M62 (mR M62 a0 2) 8) (Int.toNat (mI M (mR M a0 2) 7)) (mI M62 (mR M62 (mR M62 a0 1) 6) 0)) (mR (mUI M62 (mR M62 (mR M62 a0 2) 8) (Int.toNat (mI M (mR M a0 2) 7)) (mI M62 (mR M62 (mR M62 a0 1) 6) 0)) (mR (mUI M62 (mR M62 (mR M62 a0 2) 8) (Int.toNat (mI M (mR M a0 2) 7)) (mI M62 (mR M62 (mR M62 a0 1) 6) 0)) a0 2) 9) (Int.toNat (mI M (mR M a0 2) 7)) (mI (mUI M62 (mR M62 (mR M62 a0 2) 8) (Int.toNat (mI M (mR M a0 2) 7)) (mI M62 (mR M62 (mR M62 a0 1) 6) 0)) (mR (mUI M62 (mR M62 (mR M62 a0 2) 8) (Int.toNat (mI M (mR M a0 2) 7)) (mI M62 (mR M62 (mR M62 a0 1) 6) 0)) (mR (mUI M62 (mR M62 (mR M62 a0 2) 8) (Int.toNat (mI M (mR M a0 2) 7)) (mI M62 (mR M62 (mR M62 a0 1) 6) 0)) a0 1) 7) 0)) a0 5) 0)) else M62) → mOk M82 ∧ mK M82 (mR M82 a0 0) = 4 ∧ Cv G y_RR_know d [vr (mR M82 a0 0), vi (mI M82 a0 3), vi l1, vi (mI M (mR M a0 2) 7), vi (mI M82 a0 8)] M82 (fun M87 => mOk M87 ∧ (Q M87)))))) ∧ (¬ (mI M (mR M a0 0) 3 = 0) → (Q M))) :
    Cv G y_TR_settleNamed (d + 1) [vr a0, vi l1] M Q := by
  refine wm_open (y := y_TR_settleNamed) rfl (Nat.le_of_ble_eq_true rfl) (L := [vr a0, vi l1, vd]) rfl ?_
  obtain ⟨h1, h⟩ := h
  obtain ⟨h2, h⟩ := h
  refine wm_aload_n d_TR_settleNamed_0 rfl rfl ?_
  refine gf_TR_12 rfl d_TR_settleNamed_1 h1 ?_
  refine gf_TR_76 rfl d_TR_settleNamed_4 h2 ?_
  refine wm_if_ne (tgt := 24) d_TR_settleNamed_7 rfl (hO _ _).1 (fun c5 => ?_) (fun c5 => ?_)
  · replace h := h.2 c5
    refine wm_return d_TR_settleNamed_24 rfl ?_
    exact ⟨rfl, h⟩
  · replace c5 := Classical.not_not.mp c5
    replace h := h.1 c5
    refine wm_iload_n d_TR_settleNamed_10 rfl rfl ?_
    refine wm_iconst d_TR_settleNamed_11 ?_
    refine wm_icmp_ne (tgt := 25) d_TR_settleNamed_12 rfl hi_l1 ⟨by decide, by decide⟩ (fun c7 => ?_) (fun c7 => ?_)
    · replace h := h.2 c7
      obtain ⟨h53, h⟩ := h
      obtain ⟨h54, h⟩ := h
      obtain ⟨M55, e56⟩ : ∃ M55, M55 = mUI M (mR M a0 2) 7 ((mI M (mR M a0 2) 7) + 1) := ⟨_, rfl⟩
      replace h := h M55 e56
      obtain ⟨h57, h⟩ := h
      obtain ⟨h58, h⟩ := h
      obtain ⟨h59, h⟩ := h
      obtain ⟨h60, h⟩ := h
      obtain ⟨h61, h⟩ := h
      obtain ⟨M62, e63⟩ : ∃ M62, M62 = mUI M55 (mR M55 (mR M55 a0 2) 10) (Int.toNat (mI M (mR M a0 2) 7)) (mI M55 (mR M55 a0 5) 0) := ⟨_, rfl⟩
      replace h := h M62 e63
      refine wm_aload_n d_TR_settleNamed_25 rfl rfl ?_
      refine gf_TR_36 rfl d_TR_settleNamed_26 h1 ?_
      refine gf_TR_129 rfl d_TR_settleNamed_29 h53 ?_
      refine wm_istore_n d_TR_settleNamed_32 rfl (by decide) (L' := [vr a0, vi l1, vi (mI M (mR M a0 2) 7)]) rfl ?_
      refine wm_aload_n d_TR_settleNamed_33 rfl rfl ?_
      refine gf_TR_36 rfl d_TR_settleNamed_34 h1 ?_
      refine wm_dup d_TR_settleNamed_37 rfl ?_
      refine gf_TR_129 rfl d_TR_settleNamed_38 h53 ?_
      refine wm_iconst d_TR_settleNamed_41 ?_
      refine wm_iadd d_TR_settleNamed_42 ?_
      have hOM55 : mOk M55 := by rw [e56]; exact mOk_UI hO h54
      refine pf_TR_129 rfl d_TR_settleNamed_43 h53 h54 e56 ?_
      refine wm_aload_n d_TR_settleNamed_46 rfl rfl ?_
      refine gf_TR_36 rfl d_TR_settleNamed_47 (by rw [e56]; exact h1) ?_
      refine gf_TR_149 rfl d_TR_settleNamed_50 h57 ?_
      refine wm_iload_n d_TR_settleNamed_53 rfl rfl ?_
      refine wm_aload_n d_TR_settleNamed_54 rfl rfl ?_
      refine gf_TR_25 rfl d_TR_settleNamed_55 (by rw [e56]; exact h1) ?_
      refine wm_iconst d_TR_settleNamed_58 ?_
      refine wm_iald d_TR_settleNamed_59 h58 h59 ?_
      have hOM62 : mOk M62 := by rw [e63]; exact mOk_UI hOM55 (hOM55 _ _).1
      refine wm_iastE d_TR_settleNamed_60 h60 h61 (hOM55 _ _).1 e63 ?_
      refine wm_iload_n d_TR_settleNamed_61 rfl rfl ?_
      refine wm_iconst d_TR_settleNamed_62 ?_
      obtain ⟨s83, h⟩ := h
      have hJ : ∀ M82 : mM, M82 = (if (l1 = 4) then (mUI (mUI (mUI M62 (mR M62 (mR M62 a0 2) 8) (Int.toNat (mI M (mR M a0 2) 7)) (mI M62 (mR M62 (mR M62 a0 1) 6) 0)) (mR (mUI M62 (mR M62 (mR M62 a0 2) 8) (Int.toNat (mI M (mR M a0 2) 7)) (mI M62 (mR M62 (mR M62 a0 1) 6) 0)) (mR (mUI M62 (mR M62 (mR M62 a0 2) 8) (Int.toNat (mI M (mR M a0 2) 7)) (mI M62 (mR M62 (mR M62 a0 1) 6) 0)) a0 2) 9) (Int.toNat (mI M (mR M a0 2) 7)) (mI (mUI M62 (mR M62 (mR M62 a0 2) 8) (Int.toNat (mI M (mR M a0 2) 7)) (mI M62 (mR M62 (mR M62 a0 1) 6) 0)) (mR (mUI M62 (mR M62 (mR M62 a0 2) 8) (Int.toNat (mI M (mR M a0 2) 7)) (mI M62 (mR M62 (mR M62 a0 1) 6) 0)) (mR (mUI M62 (mR M62 (mR M62 a0 2) 8) (Int.toNat (mI M (mR M a0 2) 7)) (mI M62 (mR M62 (mR M62 a0 1) 6) 0)) a0 1) 7) 0)) (mR (mUI (mUI M62 (mR M62 (mR M62 a0 2) 8) (Int.toNat (mI M (mR M a0 2) 7)) (mI M62 (mR M62 (mR M62 a0 1) 6) 0)) (mR (mUI M62 (mR M62 (mR M62 a0 2) 8) (Int.toNat (mI M (mR M a0 2) 7)) (mI M62 (mR M62 (mR M62 a0 1) 6) 0)) (mR (mUI M62 (mR M62 (mR M62 a0 2) 8) (Int.toNat (mI M (mR M a0 2) 7)) (mI M62 (mR M62 (mR M62 a0 1) 6) 0)) a0 2) 9) (Int.toNat (mI M (mR M a0 2) 7)) (mI (mUI M62 (mR M62 (mR M62 a0 2) 8) (Int.toNat (mI M (mR M a0 2) 7)) (mI M62 (mR M62 (mR M62 a0 1) 6) 0)) (mR (mUI M62 (mR M62 (mR M62 a0 2) 8) (Int.toNat (mI M (mR M a0 2) 7)) (mI M62 (mR M62 (mR M62 a0 1) 6) 0)) (mR (mUI M62 (mR M62 (mR M62 a0 2) 8) (Int.toNat (mI M (mR M a0 2) 7)) (mI M62 (mR M62 (mR M62 a0 1) 6) 0)) a0 1) 7) 0)) a0 2) 2 (mI (mUI (mUI M62 (mR M62 (mR M62 a0 2) 8) (Int.toNat (mI M (mR M a0 2) 7)) (mI M62 (mR M62 (mR M62 a0 1) 6) 0)) (mR (mUI M62 (mR M62 (mR M62 a0 2) 8) (Int.toNat (mI M (mR M a0 2) 7)) (mI M62 (mR M62 (mR M62 a0 1) 6) 0)) (mR (mUI M62 (mR M62 (mR M62 a0 2) 8) (Int.toNat (mI M (mR M a0 2) 7)) (mI M62 (mR M62 (mR M62 a0 1) 6) 0)) a0 2) 9) (Int.toNat (mI M (mR M a0 2) 7)) (mI (mUI M62 (mR M62 (mR M62 a0 2) 8) (Int.toNat (mI M (mR M a0 2) 7)) (mI M62 (mR M62 (mR M62 a0 1) 6) 0)) (mR (mUI M62 (mR M62 (mR M62 a0 2) 8) (Int.toNat (mI M (mR M a0 2) 7)) (mI M62 (mR M62 (mR M62 a0 1) 6) 0)) (mR (mUI M62 (mR M62 (mR M62 a0 2) 8) (Int.toNat (mI M (mR M a0 2) 7)) (mI M62 (mR M62 (mR M62 a0 1) 6) 0)) a0 1) 7) 0)) (mR (mUI (mUI M62 (mR M62 (mR M62 a0 2) 8) (Int.toNat (mI M (mR M a0 2) 7)) (mI M62 (mR M62 (mR M62 a0 1) 6) 0)) (mR (mUI M62 (mR M62 (mR M62 a0 2) 8) (Int.toNat (mI M (mR M a0 2) 7)) (mI M62 (mR M62 (mR M62 a0 1) 6) 0)) (mR (mUI M62 (mR M62 (mR M62 a0 2) 8) (Int.toNat (mI M (mR M a0 2) 7)) (mI M62 (mR M62 (mR M62 a0 1) 6) 0)) a0 2) 9) (Int.toNat (mI M (mR M a0 2) 7)) (mI (mUI M62 (mR M62 (mR M62 a0 2) 8) (Int.toNat (mI M (mR M a0 2) 7)) (mI M62 (mR M62 (mR M62 a0 1) 6) 0)) (mR (mUI M62 (mR M62 (mR M62 a0 2) 8) (Int.toNat (mI M (mR M a0 2) 7)) (mI M62 (mR M62 (mR M62 a0 1) 6) 0)) (mR (mUI M62 (mR M62 (mR M62 a0 2) 8) (Int.toNat (mI M (mR M a0 2) 7)) (mI M62 (mR M62 (mR M62 a0 1) 6) 0)) a0 1) 7) 0)) a0 5) 0)) else M62) → mWm G y_TR_settleNamed (d + 1) 115 [vr a0, vi l1, vi (mI M (mR M a0 2) 7)] [] M82 (fun r9 M9 => r9 = none ∧ Q M9) := by
        intro M82 e84
        have h := h M82 e84
        have h85 : mK M82 = mK M62 := by rw [e84]; (repeat' split) <;> rfl
        obtain ⟨hOM87, h⟩ := h
        obtain ⟨h86, h⟩ := h
        refine wm_aload_n d_TR_settleNamed_115 rfl rfl ?_
        refine gf_TR_12 rfl d_TR_settleNamed_116 (by rw [h85, e63, e56]; exact h1) ?_
        refine wm_aload_n d_TR_settleNamed_119 rfl rfl ?_
        refine gf_TR_99 rfl d_TR_settleNamed_120 (by rw [h85, e63, e56]; exact h1) ?_
        refine wm_iload_n d_TR_settleNamed_123 rfl rfl ?_
        refine wm_iload_n d_TR_settleNamed_124 rfl rfl ?_
        refine wm_aload_n d_TR_settleNamed_125 rfl rfl ?_
        refine gf_TR_143 rfl d_TR_settleNamed_126 (by rw [h85, e63, e56]; exact h1) ?_
        refine cf_TR_160 rfl d_TR_settleNamed_129 h86 (Nat.le_of_ble_eq_true rfl) (Cv.mono h (fun M87 h => ?_))
        obtain ⟨hOM87, h⟩ := h
        refine wm_return d_TR_settleNamed_132 rfl ?_
        exact ⟨rfl, h⟩
      clear h
      have s90 := s83
      refine wm_icmp_ne (tgt := 115) d_TR_settleNamed_63 rfl hi_l1 ⟨by decide, by decide⟩ (fun c64 => ?_) (fun c64 => ?_)
      · exact hJ M62 (if_neg c64).symm
      · replace c64 := Classical.not_not.mp c64
        have s90 := s90 c64
        obtain ⟨h65, h66, h67, h68, h69, h70, h71, h72, h73, h74, h75, h76, h77, h78, h79, h80, h81⟩ := s90
        refine wm_aload_n d_TR_settleNamed_66 rfl rfl ?_
        refine gf_TR_36 rfl d_TR_settleNamed_67 (by rw [e63, e56]; exact h1) ?_
        refine gf_TR_152 rfl d_TR_settleNamed_70 h65 ?_
        refine wm_iload_n d_TR_settleNamed_73 rfl rfl ?_
        refine wm_aload_n d_TR_settleNamed_74 rfl rfl ?_
        refine gf_TR_21 rfl d_TR_settleNamed_75 (by rw [e63, e56]; exact h1) ?_
        refine gf_TR_155 rfl d_TR_settleNamed_78 h66 ?_
        refine wm_iconst d_TR_settleNamed_81 ?_
        refine wm_iald d_TR_settleNamed_82 h67 h68 ?_
        refine wm_iastE d_TR_settleNamed_83 h69 h70 (hOM62 _ _).1 rfl ?_
        refine wm_aload_n d_TR_settleNamed_84 rfl rfl ?_
        refine gf_TR_36 rfl d_TR_settleNamed_85 (by rw [@, e63, e56]; exact h1) ?_
        refine gf_TR_156 rfl d_TR_settleNamed_88 h71 ?_
        refine wm_iload_n d_TR_settleNamed_91 rfl rfl ?_
        refine wm_aload_n d_TR_settleNamed_92 rfl rfl ?_
        refine gf_TR_21 rfl d_TR_settleNamed_93 (by rw [@, e63, e56]; exact h1) ?_
        refine gf_TR_159 rfl d_TR_settleNamed_96 h72 ?_
        refine wm_iconst d_TR_settleNamed_99 ?_
        refine wm_iald d_TR_settleNamed_100 h73 h74 ?_
        refine wm_iastE d_TR_settleNamed_101 h75 h76 h77 rfl ?_
        refine wm_aload_n d_TR_settleNamed_102 rfl rfl ?_
        refine gf_TR_36 rfl d_TR_settleNamed_103 (by rw [@, @, e63, e56]; exact h1) ?_
        refine wm_aload_n d_TR_settleNamed_106 rfl rfl ?_
        refine gf_TR_25 rfl d_TR_settleNamed_107 (by rw [@, @, e63, e56]; exact h1) ?_
        refine wm_iconst d_TR_settleNamed_110 ?_
        refine wm_iald d_TR_settleNamed_111 h78 h79 ?_
        refine pf_TR_116 rfl d_TR_settleNamed_112 h80 h81 rfl ?_
        exact hJ (mUI (mUI (mUI M62 (mR M62 (mR M62 a0 2) 8) (Int.toNat (mI M (mR M a0 2) 7)) (mI M62 (mR M62 (mR M62 a0 1) 6) 0)) (mR (mUI M62 (mR M62 (mR M62 a0 2) 8) (Int.toNat (mI M (mR M a0 2) 7)) (mI M62 (mR M62 (mR M62 a0 1) 6) 0)) (mR (mUI M62 (mR M62 (mR M62 a0 2) 8) (Int.toNat (mI M (mR M a0 2) 7)) (mI M62 (mR M62 (mR M62 a0 1) 6) 0)) a0 2) 9) (Int.toNat (mI M (mR M a0 2) 7)) (mI (mUI M62 (mR M62 (mR M62 a0 2) 8) (Int.toNat (mI M (mR M a0 2) 7)) (mI M62 (mR M62 (mR M62 a0 1) 6) 0)) (mR (mUI M62 (mR M62 (mR M62 a0 2) 8) (Int.toNat (mI M (mR M a0 2) 7)) (mI M62 (mR M62 (mR M62 a0 1) 6) 0)) (mR (mUI M62 (mR M62 (mR M62 a0 2) 8) (Int.toNat (mI M (mR M a0 2) 7)) (mI M62 (mR M62 (mR M62 a0 1) 6) 0)) a0 1) 7) 0)) (mR (mUI (mUI M62 (mR M62 (mR M62 a0 2) 8) (Int.toNat (mI M (mR M a0 2) 7)) (mI M62 (mR M62 (mR M62 a0 1) 6) 0)) (mR (mUI M62 (mR M62 (mR M62 a0 2) 8) (Int.toNat (mI M (mR M a0 2) 7)) (mI M62 (mR M62 (mR M62 a0 1) 6) 0)) (mR (mUI M62 (mR M62 (mR M62 a0 2) 8) (Int.toNat (mI M (mR M a0 2) 7)) (mI M62 (mR M62 (mR M62 a0 1) 6) 0)) a0 2) 9) (Int.toNat (mI M (mR M a0 2) 7)) (mI (mUI M62 (mR M62 (mR M62 a0 2) 8) (Int.toNat (mI M (mR M a0 2) 7)) (mI M62 (mR M62 (mR M62 a0 1) 6) 0)) (mR (mUI M62 (mR M62 (mR M62 a0 2) 8) (Int.toNat (mI M (mR M a0 2) 7)) (mI M62 (mR M62 (mR M62 a0 1) 6) 0)) (mR (mUI M62 (mR M62 (mR M62 a0 2) 8) (Int.toNat (mI M (mR M a0 2) 7)) (mI M62 (mR M62 (mR M62 a0 1) 6) 0)) a0 1) 7) 0)) a0 2) 2 (mI (mUI (mUI M62 (mR M62 (mR M62 a0 2) 8) (Int.toNat (mI M (mR M a0 2) 7)) (mI M62 (mR M62 (mR M62 a0 1) 6) 0)) (mR (mUI M62 (mR M62 (mR M62 a0 2) 8) (Int.toNat (mI M (mR M a0 2) 7)) (mI M62 (mR M62 (mR M62 a0 1) 6) 0)) (mR (mUI M62 (mR M62 (mR M62 a0 2) 8) (Int.toNat (mI M (mR M a0 2) 7)) (mI M62 (mR M62 (mR M62 a0 1) 6) 0)) a0 2) 9) (Int.toNat (mI M (mR M a0 2) 7)) (mI (mUI M62 (mR M62 (mR M62 a0 2) 8) (Int.toNat (mI M (mR M a0 2) 7)) (mI M62 (mR M62 (mR M62 a0 1) 6) 0)) (mR (mUI M62 (mR M62 (mR M62 a0 2) 8) (Int.toNat (mI M (mR M a0 2) 7)) (mI M62 (mR M62 (mR M62 a0 1) 6) 0)) (mR (mUI M62 (mR M62 (mR M62 a0 2) 8) (Int.toNat (mI M (mR M a0 2) 7)) (mI M62 (mR M62 (mR M62 a0 1) 6) 0)) a0 1) 7) 0)) (mR (mUI (mUI M62 (mR M62 (mR M62 a0 2) 8) (Int.toNat (mI M (mR M a0 2) 7)) (mI M62 (mR M62 (mR M62 a0 1) 6) 0)) (mR (mUI M62 (mR M62 (mR M62 a0 2) 8) (Int.toNat (mI M (mR M a0 2) 7)) (mI M62 (mR M62 (mR M62 a0 1) 6) 0)) (mR (mUI M62 (mR M62 (mR M62 a0 2) 8) (Int.toNat (mI M (mR M a0 2) 7)) (mI M62 (mR M62 (mR M62 a0 1) 6) 0)) a0 2) 9) (Int.toNat (mI M (mR M a0 2) 7)) (mI (mUI M62 (mR M62 (mR M62 a0 2) 8) (Int.toNat (mI M (mR M a0 2) 7)) (mI M62 (mR M62 (mR M62 a0 1) 6) 0)) (mR (mUI M62 (mR M62 (mR M62 a0 2) 8) (Int.toNat (mI M (mR M a0 2) 7)) (mI M62 (mR M62 (mR M62 a0 1) 6) 0)) (mR (mUI M62 (mR M62 (mR M62 a0 2) 8) (Int.toNat (mI M (mR M a0 2) 7)) (mI M62 (mR M62 (mR M62 a0 1) 6) 0)) a0 1) 7) 0)) a0 5) 0)) (if_pos c64).symm
    · replace c7 := Classical.not_not.mp c7
      replace h := h.1 c7
      refine wm_aload_n d_TR_settleNamed_15 rfl rfl ?_
      refine wm_iconst d_TR_settleNamed_16 ?_
      refine wm_iconst d_TR_settleNamed_17 ?_
      refine cf_TR_146 rfl d_TR_settleNamed_18 h1 (Nat.le_of_ble_eq_true rfl) (Ci.mono h (fun x9 M8 h => ?_))
      obtain ⟨h10, hOM8, h⟩ := h
      refine wm_if_ne (tgt := 25) d_TR_settleNamed_21 rfl h10 (fun c12 => ?_) (fun c12 => ?_)
      · replace h := h.2 c12
        obtain ⟨h13, h⟩ := h
        obtain ⟨h14, h⟩ := h
        obtain ⟨h15, h⟩ := h
        obtain ⟨M16, e17⟩ : ∃ M16, M16 = mUI M8 (mR M8 a0 2) 7 ((mI M8 (mR M8 a0 2) 7) + 1) := ⟨_, rfl⟩
        replace h := h M16 e17
        obtain ⟨h18, h⟩ := h
        obtain ⟨h19, h⟩ := h
        obtain ⟨h20, h⟩ := h
        obtain ⟨h21, h⟩ := h
        obtain ⟨h22, h⟩ := h
        obtain ⟨M23, e24⟩ : ∃ M23, M23 = mUI M16 (mR M16 (mR M16 a0 2) 10) (Int.toNat (mI M8 (mR M8 a0 2) 7)) (mI M16 (mR M16 a0 5) 0) := ⟨_, rfl⟩
        replace h := h M23 e24
        refine wm_aload_n d_TR_settleNamed_25 rfl rfl ?_
        refine gf_TR_36 rfl d_TR_settleNamed_26 h13 ?_
        refine gf_TR_129 rfl d_TR_settleNamed_29 h14 ?_
        refine wm_istore_n d_TR_settleNamed_32 rfl (by decide) (L' := [vr a0, vi l1, vi (mI M8 (mR M8 a0 2) 7)]) rfl ?_
        refine wm_aload_n d_TR_settleNamed_33 rfl rfl ?_
        refine gf_TR_36 rfl d_TR_settleNamed_34 h13 ?_
        refine wm_dup d_TR_settleNamed_37 rfl ?_
        refine gf_TR_129 rfl d_TR_settleNamed_38 h14 ?_
        refine wm_iconst d_TR_settleNamed_41 ?_
        refine wm_iadd d_TR_settleNamed_42 ?_
        have hOM16 : mOk M16 := by rw [e17]; exact mOk_UI hOM8 h15
        refine pf_TR_129 rfl d_TR_settleNamed_43 h14 h15 e17 ?_
        refine wm_aload_n d_TR_settleNamed_46 rfl rfl ?_
        refine gf_TR_36 rfl d_TR_settleNamed_47 (by rw [e17]; exact h13) ?_
        refine gf_TR_149 rfl d_TR_settleNamed_50 h18 ?_
        refine wm_iload_n d_TR_settleNamed_53 rfl rfl ?_
        refine wm_aload_n d_TR_settleNamed_54 rfl rfl ?_
        refine gf_TR_25 rfl d_TR_settleNamed_55 (by rw [e17]; exact h13) ?_
        refine wm_iconst d_TR_settleNamed_58 ?_
        refine wm_iald d_TR_settleNamed_59 h19 h20 ?_
        have hOM23 : mOk M23 := by rw [e24]; exact mOk_UI hOM16 (hOM16 _ _).1
        refine wm_iastE d_TR_settleNamed_60 h21 h22 (hOM16 _ _).1 e24 ?_
        refine wm_iload_n d_TR_settleNamed_61 rfl rfl ?_
        refine wm_iconst d_TR_settleNamed_62 ?_
        obtain ⟨s44, h⟩ := h
        have hJ : ∀ M43 : mM, M43 = (if (l1 = 4) then (mUI (mUI (mUI M23 (mR M23 (mR M23 a0 2) 8) (Int.toNat (mI M8 (mR M8 a0 2) 7)) (mI M23 (mR M23 (mR M23 a0 1) 6) 0)) (mR (mUI M23 (mR M23 (mR M23 a0 2) 8) (Int.toNat (mI M8 (mR M8 a0 2) 7)) (mI M23 (mR M23 (mR M23 a0 1) 6) 0)) (mR (mUI M23 (mR M23 (mR M23 a0 2) 8) (Int.toNat (mI M8 (mR M8 a0 2) 7)) (mI M23 (mR M23 (mR M23 a0 1) 6) 0)) a0 2) 9) (Int.toNat (mI M8 (mR M8 a0 2) 7)) (mI (mUI M23 (mR M23 (mR M23 a0 2) 8) (Int.toNat (mI M8 (mR M8 a0 2) 7)) (mI M23 (mR M23 (mR M23 a0 1) 6) 0)) (mR (mUI M23 (mR M23 (mR M23 a0 2) 8) (Int.toNat (mI M8 (mR M8 a0 2) 7)) (mI M23 (mR M23 (mR M23 a0 1) 6) 0)) (mR (mUI M23 (mR M23 (mR M23 a0 2) 8) (Int.toNat (mI M8 (mR M8 a0 2) 7)) (mI M23 (mR M23 (mR M23 a0 1) 6) 0)) a0 1) 7) 0)) (mR (mUI (mUI M23 (mR M23 (mR M23 a0 2) 8) (Int.toNat (mI M8 (mR M8 a0 2) 7)) (mI M23 (mR M23 (mR M23 a0 1) 6) 0)) (mR (mUI M23 (mR M23 (mR M23 a0 2) 8) (Int.toNat (mI M8 (mR M8 a0 2) 7)) (mI M23 (mR M23 (mR M23 a0 1) 6) 0)) (mR (mUI M23 (mR M23 (mR M23 a0 2) 8) (Int.toNat (mI M8 (mR M8 a0 2) 7)) (mI M23 (mR M23 (mR M23 a0 1) 6) 0)) a0 2) 9) (Int.toNat (mI M8 (mR M8 a0 2) 7)) (mI (mUI M23 (mR M23 (mR M23 a0 2) 8) (Int.toNat (mI M8 (mR M8 a0 2) 7)) (mI M23 (mR M23 (mR M23 a0 1) 6) 0)) (mR (mUI M23 (mR M23 (mR M23 a0 2) 8) (Int.toNat (mI M8 (mR M8 a0 2) 7)) (mI M23 (mR M23 (mR M23 a0 1) 6) 0)) (mR (mUI M23 (mR M23 (mR M23 a0 2) 8) (Int.toNat (mI M8 (mR M8 a0 2) 7)) (mI M23 (mR M23 (mR M23 a0 1) 6) 0)) a0 1) 7) 0)) a0 2) 2 (mI (mUI (mUI M23 (mR M23 (mR M23 a0 2) 8) (Int.toNat (mI M8 (mR M8 a0 2) 7)) (mI M23 (mR M23 (mR M23 a0 1) 6) 0)) (mR (mUI M23 (mR M23 (mR M23 a0 2) 8) (Int.toNat (mI M8 (mR M8 a0 2) 7)) (mI M23 (mR M23 (mR M23 a0 1) 6) 0)) (mR (mUI M23 (mR M23 (mR M23 a0 2) 8) (Int.toNat (mI M8 (mR M8 a0 2) 7)) (mI M23 (mR M23 (mR M23 a0 1) 6) 0)) a0 2) 9) (Int.toNat (mI M8 (mR M8 a0 2) 7)) (mI (mUI M23 (mR M23 (mR M23 a0 2) 8) (Int.toNat (mI M8 (mR M8 a0 2) 7)) (mI M23 (mR M23 (mR M23 a0 1) 6) 0)) (mR (mUI M23 (mR M23 (mR M23 a0 2) 8) (Int.toNat (mI M8 (mR M8 a0 2) 7)) (mI M23 (mR M23 (mR M23 a0 1) 6) 0)) (mR (mUI M23 (mR M23 (mR M23 a0 2) 8) (Int.toNat (mI M8 (mR M8 a0 2) 7)) (mI M23 (mR M23 (mR M23 a0 1) 6) 0)) a0 1) 7) 0)) (mR (mUI (mUI M23 (mR M23 (mR M23 a0 2) 8) (Int.toNat (mI M8 (mR M8 a0 2) 7)) (mI M23 (mR M23 (mR M23 a0 1) 6) 0)) (mR (mUI M23 (mR M23 (mR M23 a0 2) 8) (Int.toNat (mI M8 (mR M8 a0 2) 7)) (mI M23 (mR M23 (mR M23 a0 1) 6) 0)) (mR (mUI M23 (mR M23 (mR M23 a0 2) 8) (Int.toNat (mI M8 (mR M8 a0 2) 7)) (mI M23 (mR M23 (mR M23 a0 1) 6) 0)) a0 2) 9) (Int.toNat (mI M8 (mR M8 a0 2) 7)) (mI (mUI M23 (mR M23 (mR M23 a0 2) 8) (Int.toNat (mI M8 (mR M8 a0 2) 7)) (mI M23 (mR M23 (mR M23 a0 1) 6) 0)) (mR (mUI M23 (mR M23 (mR M23 a0 2) 8) (Int.toNat (mI M8 (mR M8 a0 2) 7)) (mI M23 (mR M23 (mR M23 a0 1) 6) 0)) (mR (mUI M23 (mR M23 (mR M23 a0 2) 8) (Int.toNat (mI M8 (mR M8 a0 2) 7)) (mI M23 (mR M23 (mR M23 a0 1) 6) 0)) a0 1) 7) 0)) a0 5) 0)) else M23) → mWm G y_TR_settleNamed (d + 1) 115 [vr a0, vi l1, vi (mI M8 (mR M8 a0 2) 7)] [] M43 (fun r9 M9 => r9 = none ∧ Q M9) := by
          intro M43 e45
          have h := h M43 e45
          have h46 : mK M43 = mK M23 := by rw [e45]; (repeat' split) <;> rfl
          obtain ⟨hOM48, h⟩ := h
          obtain ⟨h47, h⟩ := h
          refine wm_aload_n d_TR_settleNamed_115 rfl rfl ?_
          refine gf_TR_12 rfl d_TR_settleNamed_116 (by rw [h46, e24, e17]; exact h13) ?_
          refine wm_aload_n d_TR_settleNamed_119 rfl rfl ?_
          refine gf_TR_99 rfl d_TR_settleNamed_120 (by rw [h46, e24, e17]; exact h13) ?_
          refine wm_iload_n d_TR_settleNamed_123 rfl rfl ?_
          refine wm_iload_n d_TR_settleNamed_124 rfl rfl ?_
          refine wm_aload_n d_TR_settleNamed_125 rfl rfl ?_
          refine gf_TR_143 rfl d_TR_settleNamed_126 (by rw [h46, e24, e17]; exact h13) ?_
          refine cf_TR_160 rfl d_TR_settleNamed_129 h47 (Nat.le_of_ble_eq_true rfl) (Cv.mono h (fun M48 h => ?_))
          obtain ⟨hOM48, h⟩ := h
          refine wm_return d_TR_settleNamed_132 rfl ?_
          exact ⟨rfl, h⟩
        clear h
        have s51 := s44
        refine wm_icmp_ne (tgt := 115) d_TR_settleNamed_63 rfl hi_l1 ⟨by decide, by decide⟩ (fun c25 => ?_) (fun c25 => ?_)
        · exact hJ M23 (if_neg c25).symm
        · replace c25 := Classical.not_not.mp c25
          have s51 := s51 c25
          obtain ⟨h26, h27, h28, h29, h30, h31, h32, h33, h34, h35, h36, h37, h38, h39, h40, h41, h42⟩ := s51
          refine wm_aload_n d_TR_settleNamed_66 rfl rfl ?_
          refine gf_TR_36 rfl d_TR_settleNamed_67 (by rw [e24, e17]; exact h13) ?_
          refine gf_TR_152 rfl d_TR_settleNamed_70 h26 ?_
          refine wm_iload_n d_TR_settleNamed_73 rfl rfl ?_
          refine wm_aload_n d_TR_settleNamed_74 rfl rfl ?_
          refine gf_TR_21 rfl d_TR_settleNamed_75 (by rw [e24, e17]; exact h13) ?_
          refine gf_TR_155 rfl d_TR_settleNamed_78 h27 ?_
          refine wm_iconst d_TR_settleNamed_81 ?_
          refine wm_iald d_TR_settleNamed_82 h28 h29 ?_
          refine wm_iastE d_TR_settleNamed_83 h30 h31 (hOM23 _ _).1 rfl ?_
          refine wm_aload_n d_TR_settleNamed_84 rfl rfl ?_
          refine gf_TR_36 rfl d_TR_settleNamed_85 (by rw [@, e24, e17]; exact h13) ?_
          refine gf_TR_156 rfl d_TR_settleNamed_88 h32 ?_
          refine wm_iload_n d_TR_settleNamed_91 rfl rfl ?_
          refine wm_aload_n d_TR_settleNamed_92 rfl rfl ?_
          refine gf_TR_21 rfl d_TR_settleNamed_93 (by rw [@, e24, e17]; exact h13) ?_
          refine gf_TR_159 rfl d_TR_settleNamed_96 h33 ?_
          refine wm_iconst d_TR_settleNamed_99 ?_
          refine wm_iald d_TR_settleNamed_100 h34 h35 ?_
          refine wm_iastE d_TR_settleNamed_101 h36 h37 h38 rfl ?_
          refine wm_aload_n d_TR_settleNamed_102 rfl rfl ?_
          refine gf_TR_36 rfl d_TR_settleNamed_103 (by rw [@, @, e24, e17]; exact h13) ?_
          refine wm_aload_n d_TR_settleNamed_106 rfl rfl ?_
          refine gf_TR_25 rfl d_TR_settleNamed_107 (by rw [@, @, e24, e17]; exact h13) ?_
          refine wm_iconst d_TR_settleNamed_110 ?_
          refine wm_iald d_TR_settleNamed_111 h39 h40 ?_
          refine pf_TR_116 rfl d_TR_settleNamed_112 h41 h42 rfl ?_
          exact hJ (mUI (mUI (mUI M23 (mR M23 (mR M23 a0 2) 8) (Int.toNat (mI M8 (mR M8 a0 2) 7)) (mI M23 (mR M23 (mR M23 a0 1) 6) 0)) (mR (mUI M23 (mR M23 (mR M23 a0 2) 8) (Int.toNat (mI M8 (mR M8 a0 2) 7)) (mI M23 (mR M23 (mR M23 a0 1) 6) 0)) (mR (mUI M23 (mR M23 (mR M23 a0 2) 8) (Int.toNat (mI M8 (mR M8 a0 2) 7)) (mI M23 (mR M23 (mR M23 a0 1) 6) 0)) a0 2) 9) (Int.toNat (mI M8 (mR M8 a0 2) 7)) (mI (mUI M23 (mR M23 (mR M23 a0 2) 8) (Int.toNat (mI M8 (mR M8 a0 2) 7)) (mI M23 (mR M23 (mR M23 a0 1) 6) 0)) (mR (mUI M23 (mR M23 (mR M23 a0 2) 8) (Int.toNat (mI M8 (mR M8 a0 2) 7)) (mI M23 (mR M23 (mR M23 a0 1) 6) 0)) (mR (mUI M23 (mR M23 (mR M23 a0 2) 8) (Int.toNat (mI M8 (mR M8 a0 2) 7)) (mI M23 (mR M23 (mR M23 a0 1) 6) 0)) a0 1) 7) 0)) (mR (mUI (mUI M23 (mR M23 (mR M23 a0 2) 8) (Int.toNat (mI M8 (mR M8 a0 2) 7)) (mI M23 (mR M23 (mR M23 a0 1) 6) 0)) (mR (mUI M23 (mR M23 (mR M23 a0 2) 8) (Int.toNat (mI M8 (mR M8 a0 2) 7)) (mI M23 (mR M23 (mR M23 a0 1) 6) 0)) (mR (mUI M23 (mR M23 (mR M23 a0 2) 8) (Int.toNat (mI M8 (mR M8 a0 2) 7)) (mI M23 (mR M23 (mR M23 a0 1) 6) 0)) a0 2) 9) (Int.toNat (mI M8 (mR M8 a0 2) 7)) (mI (mUI M23 (mR M23 (mR M23 a0 2) 8) (Int.toNat (mI M8 (mR M8 a0 2) 7)) (mI M23 (mR M23 (mR M23 a0 1) 6) 0)) (mR (mUI M23 (mR M23 (mR M23 a0 2) 8) (Int.toNat (mI M8 (mR M8 a0 2) 7)) (mI M23 (mR M23 (mR M23 a0 1) 6) 0)) (mR (mUI M23 (mR M23 (mR M23 a0 2) 8) (Int.toNat (mI M8 (mR M8 a0 2) 7)) (mI M23 (mR M23 (mR M23 a0 1) 6) 0)) a0 1) 7) 0)) a0 2) 2 (mI (mUI (mUI M23 (mR M23 (mR M23 a0 2) 8) (Int.toNat (mI M8 (mR M8 a0 2) 7)) (mI M23 (mR M23 (mR M23 a0 1) 6) 0)) (mR (mUI M23 (mR M23 (mR M23 a0 2) 8) (Int.toNat (mI M8 (mR M8 a0 2) 7)) (mI M23 (mR M23 (mR M23 a0 1) 6) 0)) (mR (mUI M23 (mR M23 (mR M23 a0 2) 8) (Int.toNat (mI M8 (mR M8 a0 2) 7)) (mI M23 (mR M23 (mR M23 a0 1) 6) 0)) a0 2) 9) (Int.toNat (mI M8 (mR M8 a0 2) 7)) (mI (mUI M23 (mR M23 (mR M23 a0 2) 8) (Int.toNat (mI M8 (mR M8 a0 2) 7)) (mI M23 (mR M23 (mR M23 a0 1) 6) 0)) (mR (mUI M23 (mR M23 (mR M23 a0 2) 8) (Int.toNat (mI M8 (mR M8 a0 2) 7)) (mI M23 (mR M23 (mR M23 a0 1) 6) 0)) (mR (mUI M23 (mR M23 (mR M23 a0 2) 8) (Int.toNat (mI M8 (mR M8 a0 2) 7)) (mI M23 (mR M23 (mR M23 a0 1) 6) 0)) a0 1) 7) 0)) (mR (mUI (mUI M23 (mR M23 (mR M23 a0 2) 8) (Int.toNat (mI M8 (mR M8 a0 2) 7)) (mI M23 (mR M23 (mR M23 a0 1) 6) 0)) (mR (mUI M23 (mR M23 (mR M23 a0 2) 8) (Int.toNat (mI M8 (mR M8 a0 2) 7)) (mI M23 (mR M23 (mR M23 a0 1) 6) 0)) (mR (mUI M23 (mR M23 (mR M23 a0 2) 8) (Int.toNat (mI M8 (mR M8 a0 2) 7)) (mI M23 (mR M23 (mR M23 a0 1) 6) 0)) a0 2) 9) (Int.toNat (mI M8 (mR M8 a0 2) 7)) (mI (mUI M23 (mR M23 (mR M23 a0 2) 8) (Int.toNat (mI M8 (mR M8 a0 2) 7)) (mI M23 (mR M23 (mR M23 a0 1) 6) 0)) (mR (mUI M23 (mR M23 (mR M23 a0 2) 8) (Int.toNat (mI M8 (mR M8 a0 2) 7)) (mI M23 (mR M23 (mR M23 a0 1) 6) 0)) (mR (mUI M23 (mR M23 (mR M23 a0 2) 8) (Int.toNat (mI M8 (mR M8 a0 2) 7)) (mI M23 (mR M23 (mR M23 a0 1) 6) 0)) a0 1) 7) 0)) a0 5) 0)) (if_pos c25).symm
      · replace c12 := Classical.not_not.mp c12
        replace h := h.1 c12
        refine wm_return d_TR_settleNamed_24 rfl ?_
        exact ⟨rfl, h⟩
theorem d_TR_worksOut_0 : decode y_TR_worksOut.2.1 0 = .ok (.aload_n 0, 1) := by decide +kernel
theorem d_TR_worksOut_1 : decode y_TR_worksOut.2.1 1 = .ok (.getfield 21, 3) := by decide +kernel
theorem d_TR_worksOut_4 : decode y_TR_worksOut.2.1 4 = .ok (.aload_n 0, 1) := by decide +kernel
theorem d_TR_worksOut_5 : decode y_TR_worksOut.2.1 5 = .ok (.getfield 25, 3) := by decide +kernel
theorem d_TR_worksOut_8 : decode y_TR_worksOut.2.1 8 = .ok (.iload_n 1, 1) := by decide +kernel
theorem d_TR_worksOut_9 : decode y_TR_worksOut.2.1 9 = .ok (.iaload, 1) := by decide +kernel
theorem d_TR_worksOut_10 : decode y_TR_worksOut.2.1 10 = .ok (.invokevirtual 164, 3) := by decide +kernel
theorem d_TR_worksOut_13 : decode y_TR_worksOut.2.1 13 = .ok (.ifCond .ne 26, 3) := by decide +kernel
theorem d_TR_worksOut_16 : decode y_TR_worksOut.2.1 16 = .ok (.aload_n 0, 1) := by decide +kernel
theorem d_TR_worksOut_17 : decode y_TR_worksOut.2.1 17 = .ok (.getfield 12, 3) := by decide +kernel
theorem d_TR_worksOut_20 : decode y_TR_worksOut.2.1 20 = .ok (.aload_n 0, 1) := by decide +kernel
theorem d_TR_worksOut_21 : decode y_TR_worksOut.2.1 21 = .ok (.getfield 21, 3) := by decide +kernel
theorem d_TR_worksOut_24 : decode y_TR_worksOut.2.1 24 = .ok (.getfield 167, 3) := by decide +kernel
theorem d_TR_worksOut_27 : decode y_TR_worksOut.2.1 27 = .ok (.aload_n 0, 1) := by decide +kernel
theorem d_TR_worksOut_28 : decode y_TR_worksOut.2.1 28 = .ok (.getfield 21, 3) := by decide +kernel
theorem d_TR_worksOut_31 : decode y_TR_worksOut.2.1 31 = .ok (.getfield 168, 3) := by decide +kernel
theorem d_TR_worksOut_39 : decode y_TR_worksOut.2.1 39 = .ok (.iload_n 2, 1) := by decide +kernel
theorem d_TR_worksOut_40 : decode y_TR_worksOut.2.1 40 = .ok (.ifCond .eq 33, 3) := by decide +kernel
theorem d_TR_worksOut_43 : decode y_TR_worksOut.2.1 43 = .ok (.aload_n 0, 1) := by decide +kernel
theorem d_TR_worksOut_44 : decode y_TR_worksOut.2.1 44 = .ok (.getfield 21, 3) := by decide +kernel
theorem d_TR_worksOut_47 : decode y_TR_worksOut.2.1 47 = .ok (.getfield 159, 3) := by decide +kernel
theorem d_TR_worksOut_50 : decode y_TR_worksOut.2.1 50 = .ok (.iconst 0, 1) := by decide +kernel
theorem d_TR_worksOut_51 : decode y_TR_worksOut.2.1 51 = .ok (.iaload, 1) := by decide +kernel
theorem d_TR_worksOut_52 : decode y_TR_worksOut.2.1 52 = .ok (.iconst 1, 1) := by decide +kernel
theorem d_TR_worksOut_53 : decode y_TR_worksOut.2.1 53 = .ok (.if_icmp .eq 20, 3) := by decide +kernel
theorem d_TR_worksOut_56 : decode y_TR_worksOut.2.1 56 = .ok (.aload_n 0, 1) := by decide +kernel
theorem d_TR_worksOut_57 : decode y_TR_worksOut.2.1 57 = .ok (.getfield 12, 3) := by decide +kernel
theorem d_TR_worksOut_60 : decode y_TR_worksOut.2.1 60 = .ok (.bipush 8, 2) := by decide +kernel
theorem d_TR_worksOut_62 : decode y_TR_worksOut.2.1 62 = .ok (.aload_n 0, 1) := by decide +kernel
theorem d_TR_worksOut_63 : decode y_TR_worksOut.2.1 63 = .ok (.getfield 29, 3) := by decide +kernel
theorem d_TR_worksOut_66 : decode y_TR_worksOut.2.1 66 = .ok (.iload_n 1, 1) := by decide +kernel
theorem d_TR_worksOut_67 : decode y_TR_worksOut.2.1 67 = .ok (.iaload, 1) := by decide +kernel
theorem d_TR_worksOut_34 : decode y_TR_worksOut.2.1 34 = .ok (.invokevirtual 95, 3) := by decide +kernel
theorem d_TR_worksOut_37 : decode y_TR_worksOut.2.1 37 = .ok (.iconst 0, 1) := by decide +kernel
theorem d_TR_worksOut_38 : decode y_TR_worksOut.2.1 38 = .ok (.ireturn, 1) := by decide +kernel
theorem d_TR_worksOut_73 : decode y_TR_worksOut.2.1 73 = .ok (.iconst 1, 1) := by decide +kernel
theorem d_TR_worksOut_74 : decode y_TR_worksOut.2.1 74 = .ok (.ireturn, 1) := by decide +kernel
theorem d_TR_worksOut_68 : decode y_TR_worksOut.2.1 68 = .ok (.invokevirtual 95, 3) := by decide +kernel
theorem d_TR_worksOut_71 : decode y_TR_worksOut.2.1 71 = .ok (.iconst 0, 1) := by decide +kernel
theorem d_TR_worksOut_72 : decode y_TR_worksOut.2.1 72 = .ok (.ireturn, 1) := by decide +kernel
theorem k_TR_worksOut {G : mG} {d : Nat} {a0 : Nat} {l1 : Int} {l2 : Int} {M : mM} {Q : Int → mM → Prop} (hO : mOk M) (hi_l1 : i32 l1) (hi_l2 : i32 l2)
    (h : mK M a0 = 3 ∧ mK M (mR M a0 5) = 30 ∧ ((0 : Int) ≤ l1 ∧ l1 < (mN M (mR M a0 5) : Int)) ∧ mK M (mR M a0 1) = 5 ∧ Ci G y_Ma_run d [vr (mR M a0 1), vi (mI M (mR M a0 5) (Int.toNat l1))] M (fun x6 M5 => i32 x6 ∧ mOk M5 ∧ (((x6 = 0) → (mK M5 a0 = 3 ∧ mK M5 (mR M5 a0 1) = 5 ∧ mK M5 (mR M5 a0 0) = 4 ∧ Cv G y_RR_note d [vr (mR M5 a0 0), vi (mI M5 (mR M5 a0 1) 1), vi (mI M5 (mR M5 a0 1) 2)] M5 (fun M19 => mOk M19 ∧ (Q 0 M19)))) ∧ (¬ (x6 = 0) → ((¬ (l2 = 0) → (mK M5 a0 = 3 ∧ mK M5 (mR M5 a0 1) = 5 ∧ mK M5 (mR M5 (mR M5 a0 1) 7) = 30 ∧ ((0 : Int) ≤ 0 ∧ 0 < (mN M5 (mR M5 (mR M5 a0 1) 7) : Int)))) ∧ (((l2 = 0) ∨ (mI M5 (mR M5 (mR M5 a0 1) 7) 0 = 1)) → (Q 1 M5)) ∧ (¬ ((l2 = 0) ∨ (mI M5 (mR M5 (mR M5 a0 1) 7) 0 = 1)) → (mK M5 a0 = 3 ∧ mK M5 (mR M5 a0 6) = 30 ∧ ((0 : Int) ≤ l1 ∧ l1 < (mN M5 (mR M5 a0 6) : Int)) ∧ mK M5 (mR M5 a0 0) = 4 ∧ Cv G y_RR_note d [vr (mR M5 a0 0), vi 8, vi (mI M5 (mR M5 a0 6) (Int.toNat l1))] M5 (fun M35 => mOk M35 ∧ (Q 0 M35))))))))) :
    Ci G y_TR_worksOut (d + 1) [vr a0, vi l1, vi l2] M Q := by
  refine wm_open (y := y_TR_worksOut) rfl (Nat.le_of_ble_eq_true rfl) (L := [vr a0, vi l1, vi l2]) rfl ?_
  obtain ⟨h1, h⟩ := h
  obtain ⟨h2, h⟩ := h
  obtain ⟨h3, h⟩ := h
  obtain ⟨h4, h⟩ := h
  refine wm_aload_n d_TR_worksOut_0 rfl rfl ?_
  refine gf_TR_21 rfl d_TR_worksOut_1 h1 ?_
  refine wm_aload_n d_TR_worksOut_4 rfl rfl ?_
  refine gf_TR_25 rfl d_TR_worksOut_5 h1 ?_
  refine wm_iload_n d_TR_worksOut_8 rfl rfl ?_
  refine wm_iald d_TR_worksOut_9 h2 h3 ?_
  refine cf_TR_164 rfl d_TR_worksOut_10 h4 (Nat.le_of_ble_eq_true rfl) (Ci.mono h (fun x6 M5 h => ?_))
  obtain ⟨h7, hOM5, h⟩ := h
  refine wm_if_ne (tgt := 39) d_TR_worksOut_13 rfl h7 (fun c15 => ?_) (fun c15 => ?_)
  · replace h := h.2 c15
    refine wm_iload_n d_TR_worksOut_39 rfl rfl ?_
    obtain ⟨s28, h⟩ := h
    have hE0 : ((l2 = 0) ∨ (mI M5 (mR M5 (mR M5 a0 1) 7) 0 = 1)) → mWm G y_TR_worksOut (d + 1) 73 [vr a0, vi l1, vi l2] [] M5 (fun r9 M9 => ∃ x9, r9 = some (vi x9) ∧ Q x9 M9) := by
      intro q29
      have h := h.1 q29
      refine wm_iconst d_TR_worksOut_73 ?_
      refine wm_ireturn d_TR_worksOut_74 rfl (m_nb (by decide)) ?_
      exact ⟨_, rfl, h⟩
    have hE1 : ¬ ((l2 = 0) ∨ (mI M5 (mR M5 (mR M5 a0 1) 7) 0 = 1)) → mWm G y_TR_worksOut (d + 1) 56 [vr a0, vi l1, vi l2] [] M5 (fun r9 M9 => ∃ x9, r9 = some (vi x9) ∧ Q x9 M9) := by
      intro q30
      have h := h.2 q30
      obtain ⟨h31, h⟩ := h
      obtain ⟨h32, h⟩ := h
      obtain ⟨h33, h⟩ := h
      obtain ⟨h34, h⟩ := h
      refine wm_aload_n d_TR_worksOut_56 rfl rfl ?_
      refine gf_TR_12 rfl d_TR_worksOut_57 h31 ?_
      refine wm_bipush d_TR_worksOut_60 (by decide) ?_
      refine wm_aload_n d_TR_worksOut_62 rfl rfl ?_
      refine gf_TR_29 rfl d_TR_worksOut_63 h31 ?_
      refine wm_iload_n d_TR_worksOut_66 rfl rfl ?_
      refine wm_iald d_TR_worksOut_67 h32 h33 ?_
      refine cf_TR_95 rfl d_TR_worksOut_68 h34 (Nat.le_of_ble_eq_true rfl) (Cv.mono h (fun M35 h => ?_))
      obtain ⟨hOM35, h⟩ := h
      refine wm_iconst d_TR_worksOut_71 ?_
      refine wm_ireturn d_TR_worksOut_72 rfl (m_nb (by decide)) ?_
      exact ⟨_, rfl, h⟩
    clear h
    have s38 := s28
    refine wm_if_eq (tgt := 73) d_TR_worksOut_40 rfl hi_l2 (fun c27 => ?_) (fun c27 => ?_)
    · exact hE0 (Or.inl c27)
    · have s38 := s38 c27
      obtain ⟨h22, h23, h24, h25⟩ := s38
      refine wm_aload_n d_TR_worksOut_43 rfl rfl ?_
      refine gf_TR_21 rfl d_TR_worksOut_44 h22 ?_
      refine gf_TR_159 rfl d_TR_worksOut_47 h23 ?_
      refine wm_iconst d_TR_worksOut_50 ?_
      refine wm_iald d_TR_worksOut_51 h24 h25 ?_
      refine wm_iconst d_TR_worksOut_52 ?_
      refine wm_icmp_eq (tgt := 73) d_TR_worksOut_53 rfl (hOM5 _ _).1 ⟨by decide, by decide⟩ (fun c26 => ?_) (fun c26 => ?_)
      · exact hE0 (Or.inr c26)
      · exact hE1 (fun z39 => Or.elim z39 c27 c26)
  · replace c15 := Classical.not_not.mp c15
    replace h := h.1 c15
    obtain ⟨h16, h⟩ := h
    obtain ⟨h17, h⟩ := h
    obtain ⟨h18, h⟩ := h
    refine wm_aload_n d_TR_worksOut_16 rfl rfl ?_
    refine gf_TR_12 rfl d_TR_worksOut_17 h16 ?_
    refine wm_aload_n d_TR_worksOut_20 rfl rfl ?_
    refine gf_TR_21 rfl d_TR_worksOut_21 h16 ?_
    refine gf_TR_167 rfl d_TR_worksOut_24 h17 ?_
    refine wm_aload_n d_TR_worksOut_27 rfl rfl ?_
    refine gf_TR_21 rfl d_TR_worksOut_28 h16 ?_
    refine gf_TR_168 rfl d_TR_worksOut_31 h17 ?_
    refine cf_TR_95 rfl d_TR_worksOut_34 h18 (Nat.le_of_ble_eq_true rfl) (Cv.mono h (fun M19 h => ?_))
    obtain ⟨hOM19, h⟩ := h
    refine wm_iconst d_TR_worksOut_37 ?_
    refine wm_ireturn d_TR_worksOut_38 rfl (m_nb (by decide)) ?_
    exact ⟨_, rfl, h⟩
theorem d_TR_readVar_0 : decode y_TR_readVar.2.1 0 = .ok (.aload_n 0, 1) := by decide +kernel
theorem d_TR_readVar_1 : decode y_TR_readVar.2.1 1 = .ok (.getfield 12, 3) := by decide +kernel
theorem d_TR_readVar_4 : decode y_TR_readVar.2.1 4 = .ok (.iconst 1, 1) := by decide +kernel
theorem d_TR_readVar_5 : decode y_TR_readVar.2.1 5 = .ok (.putfield 125, 3) := by decide +kernel
theorem d_TR_readVar_8 : decode y_TR_readVar.2.1 8 = .ok (.aload_n 0, 1) := by decide +kernel
theorem d_TR_readVar_9 : decode y_TR_readVar.2.1 9 = .ok (.aload_n 0, 1) := by decide +kernel
theorem d_TR_readVar_10 : decode y_TR_readVar.2.1 10 = .ok (.getfield 36, 3) := by decide +kernel
theorem d_TR_readVar_13 : decode y_TR_readVar.2.1 13 = .ok (.getfield 116, 3) := by decide +kernel
theorem d_TR_readVar_16 : decode y_TR_readVar.2.1 16 = .ok (.putfield 169, 3) := by decide +kernel
theorem d_TR_readVar_19 : decode y_TR_readVar.2.1 19 = .ok (.aload_n 0, 1) := by decide +kernel
theorem d_TR_readVar_20 : decode y_TR_readVar.2.1 20 = .ok (.aload_n 0, 1) := by decide +kernel
theorem d_TR_readVar_21 : decode y_TR_readVar.2.1 21 = .ok (.getfield 36, 3) := by decide +kernel
theorem d_TR_readVar_24 : decode y_TR_readVar.2.1 24 = .ok (.getfield 172, 3) := by decide +kernel
theorem d_TR_readVar_27 : decode y_TR_readVar.2.1 27 = .ok (.bipush 12, 2) := by decide +kernel
theorem d_TR_readVar_29 : decode y_TR_readVar.2.1 29 = .ok (.if_icmp .lt 7, 3) := by decide +kernel
theorem d_TR_readVar_36 : decode y_TR_readVar.2.1 36 = .ok (.iconst 0, 1) := by decide +kernel
theorem d_TR_readVar_32 : decode y_TR_readVar.2.1 32 = .ok (.iconst 1, 1) := by decide +kernel
theorem d_TR_readVar_33 : decode y_TR_readVar.2.1 33 = .ok (.goto 4, 3) := by decide +kernel
theorem d_TR_readVar_37 : decode y_TR_readVar.2.1 37 = .ok (.invokevirtual 132, 3) := by decide +kernel
theorem d_TR_readVar_40 : decode y_TR_readVar.2.1 40 = .ok (.ifCond .eq 15, 3) := by decide +kernel
theorem d_TR_readVar_43 : decode y_TR_readVar.2.1 43 = .ok (.aload_n 0, 1) := by decide +kernel
theorem d_TR_readVar_44 : decode y_TR_readVar.2.1 44 = .ok (.getfield 12, 3) := by decide +kernel
theorem d_TR_readVar_47 : decode y_TR_readVar.2.1 47 = .ok (.bipush 34, 2) := by decide +kernel
theorem d_TR_readVar_55 : decode y_TR_readVar.2.1 55 = .ok (.iconst 0, 1) := by decide +kernel
theorem d_TR_readVar_56 : decode y_TR_readVar.2.1 56 = .ok (.ireturn, 1) := by decide +kernel
theorem d_TR_readVar_49 : decode y_TR_readVar.2.1 49 = .ok (.invokevirtual 102, 3) := by decide +kernel
theorem d_TR_readVar_52 : decode y_TR_readVar.2.1 52 = .ok (.ifCond .ne 5, 3) := by decide +kernel
theorem d_TR_readVar_57 : decode y_TR_readVar.2.1 57 = .ok (.aload_n 0, 1) := by decide +kernel
theorem d_TR_readVar_58 : decode y_TR_readVar.2.1 58 = .ok (.aload_n 0, 1) := by decide +kernel
theorem d_TR_readVar_59 : decode y_TR_readVar.2.1 59 = .ok (.getfield 12, 3) := by decide +kernel
theorem d_TR_readVar_62 : decode y_TR_readVar.2.1 62 = .ok (.bipush 6, 2) := by decide +kernel
theorem d_TR_readVar_64 : decode y_TR_readVar.2.1 64 = .ok (.invokevirtual 102, 3) := by decide +kernel
theorem d_TR_readVar_67 : decode y_TR_readVar.2.1 67 = .ok (.putfield 143, 3) := by decide +kernel
theorem d_TR_readVar_70 : decode y_TR_readVar.2.1 70 = .ok (.aload_n 0, 1) := by decide +kernel
theorem d_TR_readVar_71 : decode y_TR_readVar.2.1 71 = .ok (.getfield 143, 3) := by decide +kernel
theorem d_TR_readVar_74 : decode y_TR_readVar.2.1 74 = .ok (.ifCond .ne 35, 3) := by decide +kernel
theorem d_TR_readVar_77 : decode y_TR_readVar.2.1 77 = .ok (.aload_n 0, 1) := by decide +kernel
theorem d_TR_readVar_78 : decode y_TR_readVar.2.1 78 = .ok (.iconst 0, 1) := by decide +kernel
theorem d_TR_readVar_79 : decode y_TR_readVar.2.1 79 = .ok (.iconst 1, 1) := by decide +kernel
theorem d_TR_readVar_80 : decode y_TR_readVar.2.1 80 = .ok (.invokevirtual 136, 3) := by decide +kernel
theorem d_TR_readVar_83 : decode y_TR_readVar.2.1 83 = .ok (.ifCond .eq 24, 3) := by decide +kernel
theorem d_TR_readVar_86 : decode y_TR_readVar.2.1 86 = .ok (.aload_n 0, 1) := by decide +kernel
theorem d_TR_readVar_87 : decode y_TR_readVar.2.1 87 = .ok (.getfield 12, 3) := by decide +kernel
theorem d_TR_readVar_90 : decode y_TR_readVar.2.1 90 = .ok (.bipush 17, 2) := by decide +kernel
theorem d_TR_readVar_107 : decode y_TR_readVar.2.1 107 = .ok (.iconst 0, 1) := by decide +kernel
theorem d_TR_readVar_108 : decode y_TR_readVar.2.1 108 = .ok (.ireturn, 1) := by decide +kernel
theorem d_TR_readVar_92 : decode y_TR_readVar.2.1 92 = .ok (.invokevirtual 102, 3) := by decide +kernel
theorem d_TR_readVar_95 : decode y_TR_readVar.2.1 95 = .ok (.ifCond .eq 12, 3) := by decide +kernel
theorem d_TR_readVar_98 : decode y_TR_readVar.2.1 98 = .ok (.aload_n 0, 1) := by decide +kernel
theorem d_TR_readVar_99 : decode y_TR_readVar.2.1 99 = .ok (.iconst 1, 1) := by decide +kernel
theorem d_TR_readVar_100 : decode y_TR_readVar.2.1 100 = .ok (.iconst 1, 1) := by decide +kernel
theorem d_TR_readVar_101 : decode y_TR_readVar.2.1 101 = .ok (.invokevirtual 136, 3) := by decide +kernel
theorem d_TR_readVar_104 : decode y_TR_readVar.2.1 104 = .ok (.ifCond .ne 5, 3) := by decide +kernel
theorem d_TR_readVar_109 : decode y_TR_readVar.2.1 109 = .ok (.aload_n 0, 1) := by decide +kernel
theorem d_TR_readVar_110 : decode y_TR_readVar.2.1 110 = .ok (.aload_n 0, 1) := by decide +kernel
theorem d_TR_readVar_111 : decode y_TR_readVar.2.1 111 = .ok (.getfield 12, 3) := by decide +kernel
theorem d_TR_readVar_114 : decode y_TR_readVar.2.1 114 = .ok (.bipush 10, 2) := by decide +kernel
theorem d_TR_readVar_116 : decode y_TR_readVar.2.1 116 = .ok (.invokevirtual 102, 3) := by decide +kernel
theorem d_TR_readVar_119 : decode y_TR_readVar.2.1 119 = .ok (.putfield 175, 3) := by decide +kernel
theorem d_TR_readVar_122 : decode y_TR_readVar.2.1 122 = .ok (.aload_n 0, 1) := by decide +kernel
theorem d_TR_readVar_123 : decode y_TR_readVar.2.1 123 = .ok (.getfield 175, 3) := by decide +kernel
theorem d_TR_readVar_126 : decode y_TR_readVar.2.1 126 = .ok (.ifCond .eq 25, 3) := by decide +kernel
theorem d_TR_readVar_129 : decode y_TR_readVar.2.1 129 = .ok (.aload_n 0, 1) := by decide +kernel
theorem d_TR_readVar_130 : decode y_TR_readVar.2.1 130 = .ok (.iconst 2, 1) := by decide +kernel
theorem d_TR_readVar_131 : decode y_TR_readVar.2.1 131 = .ok (.aload_n 0, 1) := by decide +kernel
theorem d_TR_readVar_132 : decode y_TR_readVar.2.1 132 = .ok (.getfield 143, 3) := by decide +kernel
theorem d_TR_readVar_151 : decode y_TR_readVar.2.1 151 = .ok (.aload_n 0, 1) := by decide +kernel
theorem d_TR_readVar_152 : decode y_TR_readVar.2.1 152 = .ok (.getfield 12, 3) := by decide +kernel
theorem d_TR_readVar_155 : decode y_TR_readVar.2.1 155 = .ok (.bipush 35, 2) := by decide +kernel
theorem d_TR_readVar_157 : decode y_TR_readVar.2.1 157 = .ok (.invokevirtual 102, 3) := by decide +kernel
theorem d_TR_readVar_160 : decode y_TR_readVar.2.1 160 = .ok (.ireturn, 1) := by decide +kernel
theorem d_TR_readVar_135 : decode y_TR_readVar.2.1 135 = .ok (.ifCond .eq 7, 3) := by decide +kernel
theorem d_TR_readVar_142 : decode y_TR_readVar.2.1 142 = .ok (.iconst 1, 1) := by decide +kernel
theorem d_TR_readVar_138 : decode y_TR_readVar.2.1 138 = .ok (.iconst 2, 1) := by decide +kernel
theorem d_TR_readVar_139 : decode y_TR_readVar.2.1 139 = .ok (.goto 4, 3) := by decide +kernel
theorem d_TR_readVar_143 : decode y_TR_readVar.2.1 143 = .ok (.invokevirtual 136, 3) := by decide +kernel
theorem d_TR_readVar_146 : decode y_TR_readVar.2.1 146 = .ok (.ifCond .ne 5, 3) := by decide +kernel
theorem d_TR_readVar_149 : decode y_TR_readVar.2.1 149 = .ok (.iconst 0, 1) := by decide +kernel
theorem d_TR_readVar_150 : decode y_TR_readVar.2.1 150 = .ok (.ireturn, 1) := by decide +kernel
theorem k_TR_readVar {G : mG} {d : Nat} {a0 : Nat} {M : mM} {Q : Int → mM → Prop} (hO : mOk M)
    (h : mK M a0 = 3 ∧ mK M (mR M a0 0) = 4 ∧ ∀ M3, M3 = mUI M (mR M a0 0) 6 1 → mK M3 (mR M3 a0 2) = 6 ∧ ∀ M6, M6 = mUI M3 a0 4 (mI M3 (mR M3 a0 2) 2) → mK M6 (mR M6 a0 2) = 6 ∧ ∀ v10 : Int, v10 = (if (mI M6 (mR M6 a0 2) 3 < 12) then 0 else 1) → Ci G y_TR_readName d [vr a0, vi v10] M6 (fun x16 M15 => i32 x16 ∧ mOk M15 ∧ (((x16 = 0) → (Q 0 M15)) ∧ (¬ (x16 = 0) → (mK M15 a0 = 3 ∧ mK M15 (mR M15 a0 0) = 4 ∧ Ci G y_RR_accept d [vr (mR M15 a0 0), vi 34] M15 (fun x23 M22 => i32 x23 ∧ mOk M22 ∧ (((x23 = 0) → (Q 0 M22)) ∧ (¬ (x23 = 0) → (mK M22 a0 = 3 ∧ mK M22 (mR M22 a0 0) = 4 ∧ Ci G y_RR_accept d [vr (mR M22 a0 0), vi 6] M22 (fun x30 M29 => i32 x30 ∧ mOk M29 ∧ (mK M29 a0 = 3 ∧ (x30 = 0 ∨ x30 = 1) ∧ ∀ M34, M34 = mUI M29 a0 8 x30 → ((mI M34 a0 8 = 0) → (Ci G y_TR_readItemRule d [vr a0, vi 0, vi 1] M34 (fun x39 M38 => i32 x39 ∧ mOk M38 ∧ (((x39 = 0) → (Q 0 M38)) ∧ (¬ (x39 = 0) → (mK M38 a0 = 3 ∧ mK M38 (mR M38 a0 0) = 4 ∧ Ci G y_RR_accept d [vr (mR M38 a0 0), vi 17] M38 (fun x46 M45 => i32 x46 ∧ mOk M45 ∧ (((x46 = 0) → (Q 0 M45)) ∧ (¬ (x46 = 0) → (mK M45 a0 = 3 ∧ Ci G y_TR_readItemRule d [vr a0, vi 1, vi 1] M45 (fun x52 M51 => i32 x52 ∧ mOk M51 ∧ (((x52 = 0) → (Q 0 M51)) ∧ (¬ (x52 = 0) → (mK M51 a0 = 3 ∧ mK M51 (mR M51 a0 0) = 4 ∧ Ci G y_RR_accept d [vr (mR M51 a0 0), vi 10] M51 (fun x59 M58 => i32 x59 ∧ mOk M58 ∧ (mK M58 a0 = 3 ∧ (x59 = 0 ∨ x59 = 1) ∧ ∀ M63, M63 = mUI M58 a0 7 x59 → ((mI M63 a0 7 = 0) → (mK M63 (mR M63 a0 0) = 4 ∧ Ci G y_RR_accept d [vr (mR M63 a0 0), vi 35] M63 (fun x69 M68 => i32 x69 ∧ mOk M68 ∧ ((x69 = 0 ∨ x69 = 1) ∧ Q x69 M68)))) ∧ (¬ (mI M63 a0 7 = 0) → (∀ v73 : Int, v73 = (if (mI M63 a0 8 = 0) then 1 else 2) → Ci G y_TR_readItemRule d [vr a0, vi 2, vi v73] M63 (fun x78 M77 => i32 x78 ∧ mOk M77 ∧ (((x78 = 0) → (Q 0 M77)) ∧ (¬ (x78 = 0) → (mK M77 a0 = 3 ∧ mK M77 (mR M77 a0 0) = 4 ∧ Ci G y_RR_accept d [vr (mR M77 a0 0), vi 35] M77 (fun x85 M84 => i32 x85 ∧ mOk M84 ∧ ((x85 = 0 ∨ x85 = 1) ∧ Q x85 M84)))))))))))))))))))))))) ∧ (¬ (mI M34 a0 8 = 0) → (mK M34 (mR M34 a0 0) = 4 ∧ Ci G y_RR_accept d [vr (mR M34 a0 0), vi 10] M34 (fun x91 M90 => i32 x91 ∧ mOk M90 ∧ (mK M90 a0 = 3 ∧ (x91 = 0 ∨ x91 = 1) ∧ ∀ M95, M95 = mUI M90 a0 7 x91 → ((mI M95 a0 7 = 0) → (mK M95 (mR M95 a0 0) = 4 ∧ Ci G y_RR_accept d [vr (mR M95 a0 0), vi 35] M95 (fun x101 M100 => i32 x101 ∧ mOk M100 ∧ ((x101 = 0 ∨ x101 = 1) ∧ Q x101 M100)))) ∧ (¬ (mI M95 a0 7 = 0) → (∀ v105 : Int, v105 = (if (mI M95 a0 8 = 0) then 1 else 2) → Ci G y_TR_readItemRule d [vr a0, vi 2, vi v105] M95 (fun x110 M109 => i32 x110 ∧ mOk M109 ∧ (((x110 = 0) → (Q 0 M109)) ∧ (¬ (x110 = 0) → (mK M109 a0 = 3 ∧ mK M109 (mR M109 a0 0) = 4 ∧ Ci G y_RR_accept d [vr (mR M109 a0 0), vi 35] M109 (fun x117 M116 => i32 x117 ∧ mOk M116 ∧ ((x117 = 0 ∨ x117 = 1) ∧ Q x117 M116))))))))))))))))))))))) :
    Ci G y_TR_readVar (d + 1) [vr a0] M Q := by
  refine wm_open (y := y_TR_readVar) rfl (Nat.le_of_ble_eq_true rfl) (L := [vr a0]) rfl ?_
  obtain ⟨h1, h⟩ := h
  obtain ⟨h2, h⟩ := h
  obtain ⟨M3, e4⟩ : ∃ M3, M3 = mUI M (mR M a0 0) 6 1 := ⟨_, rfl⟩
  replace h := h M3 e4
  obtain ⟨h5, h⟩ := h
  obtain ⟨M6, e7⟩ : ∃ M6, M6 = mUI M3 a0 4 (mI M3 (mR M3 a0 2) 2) := ⟨_, rfl⟩
  replace h := h M6 e7
  obtain ⟨h8, h⟩ := h
  refine wm_aload_n d_TR_readVar_0 rfl rfl ?_
  refine gf_TR_12 rfl d_TR_readVar_1 h1 ?_
  refine wm_iconst d_TR_readVar_4 ?_
  have hOM3 : mOk M3 := by rw [e4]; exact mOk_UI hO (m_b32 (by decide))
  refine pf_TR_125 rfl d_TR_readVar_5 h2 (by decide) e4 ?_
  refine wm_aload_n d_TR_readVar_8 rfl rfl ?_
  refine wm_aload_n d_TR_readVar_9 rfl rfl ?_
  refine gf_TR_36 rfl d_TR_readVar_10 (by rw [e4]; exact h1) ?_
  refine gf_TR_116 rfl d_TR_readVar_13 h5 ?_
  have hOM6 : mOk M6 := by rw [e7]; exact mOk_UI hOM3 (hOM3 _ _).1
  refine pf_TR_169 rfl d_TR_readVar_16 (by rw [e4]; exact h1) (hOM3 _ _).1 e7 ?_
  refine wm_aload_n d_TR_readVar_19 rfl rfl ?_
  refine wm_aload_n d_TR_readVar_20 rfl rfl ?_
  refine gf_TR_36 rfl d_TR_readVar_21 (by rw [e7, e4]; exact h1) ?_
  refine gf_TR_172 rfl d_TR_readVar_24 h8 ?_
  refine wm_bipush d_TR_readVar_27 (by decide) ?_
  have hJ : ∀ v10 : Int, v10 = (if (mI M6 (mR M6 a0 2) 3 < 12) then 0 else 1) → mWm G y_TR_readVar (d + 1) 37 [vr a0] [vi v10, vr a0] M6 (fun r9 M9 => ∃ x9, r9 = some (vi x9) ∧ Q x9 M9) := by
    intro v10 e12
    have h := h v10 e12
    have h13 : i32 v10 := by rw [e12]; (repeat' split) <;> first | exact ⟨by decide, by decide⟩ | exact ⟨by decide, by decide⟩
    have h14 : (v10 = 0 ∨ v10 = 1) := by rw [e12]; (repeat' split) <;> decide
    refine cf_TR_132 rfl d_TR_readVar_37 (by rw [e7, e4]; exact h1) (Nat.le_of_ble_eq_true rfl) (Ci.mono h (fun x16 M15 h => ?_))
    obtain ⟨h17, hOM15, h⟩ := h
    refine wm_if_eq (tgt := 55) d_TR_readVar_40 rfl h17 (fun c19 => ?_) (fun c19 => ?_)
    · replace h := h.1 c19
      refine wm_iconst d_TR_readVar_55 ?_
      refine wm_ireturn d_TR_readVar_56 rfl (m_nb (by decide)) ?_
      exact ⟨_, rfl, h⟩
    · replace h := h.2 c19
      obtain ⟨h20, h⟩ := h
      obtain ⟨h21, h⟩ := h
      refine wm_aload_n d_TR_readVar_43 rfl rfl ?_
      refine gf_TR_12 rfl d_TR_readVar_44 h20 ?_
      refine wm_bipush d_TR_readVar_47 (by decide) ?_
      refine cf_TR_102 rfl d_TR_readVar_49 h21 (Nat.le_of_ble_eq_true rfl) (Ci.mono h (fun x23 M22 h => ?_))
      obtain ⟨h24, hOM22, h⟩ := h
      refine wm_if_ne (tgt := 57) d_TR_readVar_52 rfl h24 (fun c26 => ?_) (fun c26 => ?_)
      · replace h := h.2 c26
        obtain ⟨h27, h⟩ := h
        obtain ⟨h28, h⟩ := h
        refine wm_aload_n d_TR_readVar_57 rfl rfl ?_
        refine wm_aload_n d_TR_readVar_58 rfl rfl ?_
        refine gf_TR_12 rfl d_TR_readVar_59 h27 ?_
        refine wm_bipush d_TR_readVar_62 (by decide) ?_
        refine cf_TR_102 rfl d_TR_readVar_64 h28 (Nat.le_of_ble_eq_true rfl) (Ci.mono h (fun x30 M29 h => ?_))
        obtain ⟨h31, hOM29, h⟩ := h
        obtain ⟨h32, h⟩ := h
        obtain ⟨h33, h⟩ := h
        obtain ⟨M34, e35⟩ : ∃ M34, M34 = mUI M29 a0 8 x30 := ⟨_, rfl⟩
        replace h := h M34 e35
        have hOM34 : mOk M34 := by rw [e35]; exact mOk_UI hOM29 (m_b32 h33)
        refine pf_TR_143 rfl d_TR_readVar_67 h32 h33 e35 ?_
        refine wm_aload_n d_TR_readVar_70 rfl rfl ?_
        refine gf_TR_143 rfl d_TR_readVar_71 (by rw [e35]; exact h32) ?_
        refine wm_if_ne (tgt := 109) d_TR_readVar_74 rfl (hOM34 _ _).1 (fun c37 => ?_) (fun c37 => ?_)
        · replace h := h.2 c37
          obtain ⟨h89, h⟩ := h
          refine wm_aload_n d_TR_readVar_109 rfl rfl ?_
          refine wm_aload_n d_TR_readVar_110 rfl rfl ?_
          refine gf_TR_12 rfl d_TR_readVar_111 (by rw [e35]; exact h32) ?_
          refine wm_bipush d_TR_readVar_114 (by decide) ?_
          refine cf_TR_102 rfl d_TR_readVar_116 h89 (Nat.le_of_ble_eq_true rfl) (Ci.mono h (fun x91 M90 h => ?_))
          obtain ⟨h92, hOM90, h⟩ := h
          obtain ⟨h93, h⟩ := h
          obtain ⟨h94, h⟩ := h
          obtain ⟨M95, e96⟩ : ∃ M95, M95 = mUI M90 a0 7 x91 := ⟨_, rfl⟩
          replace h := h M95 e96
          have hOM95 : mOk M95 := by rw [e96]; exact mOk_UI hOM90 (m_b32 h94)
          refine pf_TR_175 rfl d_TR_readVar_119 h93 h94 e96 ?_
          refine wm_aload_n d_TR_readVar_122 rfl rfl ?_
          refine gf_TR_175 rfl d_TR_readVar_123 (by rw [e96]; exact h93) ?_
          refine wm_if_eq (tgt := 151) d_TR_readVar_126 rfl (hOM95 _ _).1 (fun c98 => ?_) (fun c98 => ?_)
          · replace h := h.1 c98
            obtain ⟨h99, h⟩ := h
            refine wm_aload_n d_TR_readVar_151 rfl rfl ?_
            refine gf_TR_12 rfl d_TR_readVar_152 (by rw [e96]; exact h93) ?_
            refine wm_bipush d_TR_readVar_155 (by decide) ?_
            refine cf_TR_102 rfl d_TR_readVar_157 h99 (Nat.le_of_ble_eq_true rfl) (Ci.mono h (fun x101 M100 h => ?_))
            obtain ⟨h102, hOM100, h⟩ := h
            obtain ⟨h103, h⟩ := h
            refine wm_ireturn d_TR_readVar_160 rfl (m_nb h103) ?_
            exact ⟨_, rfl, h⟩
          · replace h := h.2 c98
            refine wm_aload_n d_TR_readVar_129 rfl rfl ?_
            refine wm_iconst d_TR_readVar_130 ?_
            refine wm_aload_n d_TR_readVar_131 rfl rfl ?_
            refine gf_TR_143 rfl d_TR_readVar_132 (by rw [e96]; exact h93) ?_
            have hJ : ∀ v105 : Int, v105 = (if (mI M95 a0 8 = 0) then 1 else 2) → mWm G y_TR_readVar (d + 1) 143 [vr a0] [vi v105, vi 2, vr a0] M95 (fun r9 M9 => ∃ x9, r9 = some (vi x9) ∧ Q x9 M9) := by
              intro v105 e107
              have h := h v105 e107
              have h108 : i32 v105 := by rw [e107]; (repeat' split) <;> first | exact ⟨by decide, by decide⟩ | exact ⟨by decide, by decide⟩
              refine cf_TR_136 rfl d_TR_readVar_143 (by rw [e96]; exact h93) (Nat.le_of_ble_eq_true rfl) (Ci.mono h (fun x110 M109 h => ?_))
              obtain ⟨h111, hOM109, h⟩ := h
              refine wm_if_ne (tgt := 151) d_TR_readVar_146 rfl h111 (fun c113 => ?_) (fun c113 => ?_)
              · replace h := h.2 c113
                obtain ⟨h114, h⟩ := h
                obtain ⟨h115, h⟩ := h
                refine wm_aload_n d_TR_readVar_151 rfl rfl ?_
                refine gf_TR_12 rfl d_TR_readVar_152 h114 ?_
                refine wm_bipush d_TR_readVar_155 (by decide) ?_
                refine cf_TR_102 rfl d_TR_readVar_157 h115 (Nat.le_of_ble_eq_true rfl) (Ci.mono h (fun x117 M116 h => ?_))
                obtain ⟨h118, hOM116, h⟩ := h
                obtain ⟨h119, h⟩ := h
                refine wm_ireturn d_TR_readVar_160 rfl (m_nb h119) ?_
                exact ⟨_, rfl, h⟩
              · replace c113 := Classical.not_not.mp c113
                replace h := h.1 c113
                refine wm_iconst d_TR_readVar_149 ?_
                refine wm_ireturn d_TR_readVar_150 rfl (m_nb (by decide)) ?_
                exact ⟨_, rfl, h⟩
            clear h
            refine wm_if_eq (tgt := 142) d_TR_readVar_135 rfl (hOM95 _ _).1 (fun c104 => ?_) (fun c104 => ?_)
            · refine wm_iconst d_TR_readVar_142 ?_
              exact hJ 1 (if_pos c104).symm
            · refine wm_iconst d_TR_readVar_138 ?_
              refine wm_goto (tgt := 143) d_TR_readVar_139 rfl ?_
              exact hJ 2 (if_neg c104).symm
        · replace c37 := Classical.not_not.mp c37
          replace h := h.1 c37
          refine wm_aload_n d_TR_readVar_77 rfl rfl ?_
          refine wm_iconst d_TR_readVar_78 ?_
          refine wm_iconst d_TR_readVar_79 ?_
          refine cf_TR_136 rfl d_TR_readVar_80 (by rw [e35]; exact h32) (Nat.le_of_ble_eq_true rfl) (Ci.mono h (fun x39 M38 h => ?_))
          obtain ⟨h40, hOM38, h⟩ := h
          refine wm_if_eq (tgt := 107) d_TR_readVar_83 rfl h40 (fun c42 => ?_) (fun c42 => ?_)
          · replace h := h.1 c42
            refine wm_iconst d_TR_readVar_107 ?_
            refine wm_ireturn d_TR_readVar_108 rfl (m_nb (by decide)) ?_
            exact ⟨_, rfl, h⟩
          · replace h := h.2 c42
            obtain ⟨h43, h⟩ := h
            obtain ⟨h44, h⟩ := h
            refine wm_aload_n d_TR_readVar_86 rfl rfl ?_
            refine gf_TR_12 rfl d_TR_readVar_87 h43 ?_
            refine wm_bipush d_TR_readVar_90 (by decide) ?_
            refine cf_TR_102 rfl d_TR_readVar_92 h44 (Nat.le_of_ble_eq_true rfl) (Ci.mono h (fun x46 M45 h => ?_))
            obtain ⟨h47, hOM45, h⟩ := h
            refine wm_if_eq (tgt := 107) d_TR_readVar_95 rfl h47 (fun c49 => ?_) (fun c49 => ?_)
            · replace h := h.1 c49
              refine wm_iconst d_TR_readVar_107 ?_
              refine wm_ireturn d_TR_readVar_108 rfl (m_nb (by decide)) ?_
              exact ⟨_, rfl, h⟩
            · replace h := h.2 c49
              obtain ⟨h50, h⟩ := h
              refine wm_aload_n d_TR_readVar_98 rfl rfl ?_
              refine wm_iconst d_TR_readVar_99 ?_
              refine wm_iconst d_TR_readVar_100 ?_
              refine cf_TR_136 rfl d_TR_readVar_101 h50 (Nat.le_of_ble_eq_true rfl) (Ci.mono h (fun x52 M51 h => ?_))
              obtain ⟨h53, hOM51, h⟩ := h
              refine wm_if_ne (tgt := 109) d_TR_readVar_104 rfl h53 (fun c55 => ?_) (fun c55 => ?_)
              · replace h := h.2 c55
                obtain ⟨h56, h⟩ := h
                obtain ⟨h57, h⟩ := h
                refine wm_aload_n d_TR_readVar_109 rfl rfl ?_
                refine wm_aload_n d_TR_readVar_110 rfl rfl ?_
                refine gf_TR_12 rfl d_TR_readVar_111 h56 ?_
                refine wm_bipush d_TR_readVar_114 (by decide) ?_
                refine cf_TR_102 rfl d_TR_readVar_116 h57 (Nat.le_of_ble_eq_true rfl) (Ci.mono h (fun x59 M58 h => ?_))
                obtain ⟨h60, hOM58, h⟩ := h
                obtain ⟨h61, h⟩ := h
                obtain ⟨h62, h⟩ := h
                obtain ⟨M63, e64⟩ : ∃ M63, M63 = mUI M58 a0 7 x59 := ⟨_, rfl⟩
                replace h := h M63 e64
                have hOM63 : mOk M63 := by rw [e64]; exact mOk_UI hOM58 (m_b32 h62)
                refine pf_TR_175 rfl d_TR_readVar_119 h61 h62 e64 ?_
                refine wm_aload_n d_TR_readVar_122 rfl rfl ?_
                refine gf_TR_175 rfl d_TR_readVar_123 (by rw [e64]; exact h61) ?_
                refine wm_if_eq (tgt := 151) d_TR_readVar_126 rfl (hOM63 _ _).1 (fun c66 => ?_) (fun c66 => ?_)
                · replace h := h.1 c66
                  obtain ⟨h67, h⟩ := h
                  refine wm_aload_n d_TR_readVar_151 rfl rfl ?_
                  refine gf_TR_12 rfl d_TR_readVar_152 (by rw [e64]; exact h61) ?_
                  refine wm_bipush d_TR_readVar_155 (by decide) ?_
                  refine cf_TR_102 rfl d_TR_readVar_157 h67 (Nat.le_of_ble_eq_true rfl) (Ci.mono h (fun x69 M68 h => ?_))
                  obtain ⟨h70, hOM68, h⟩ := h
                  obtain ⟨h71, h⟩ := h
                  refine wm_ireturn d_TR_readVar_160 rfl (m_nb h71) ?_
                  exact ⟨_, rfl, h⟩
                · replace h := h.2 c66
                  refine wm_aload_n d_TR_readVar_129 rfl rfl ?_
                  refine wm_iconst d_TR_readVar_130 ?_
                  refine wm_aload_n d_TR_readVar_131 rfl rfl ?_
                  refine gf_TR_143 rfl d_TR_readVar_132 (by rw [e64]; exact h61) ?_
                  have hJ : ∀ v73 : Int, v73 = (if (mI M63 a0 8 = 0) then 1 else 2) → mWm G y_TR_readVar (d + 1) 143 [vr a0] [vi v73, vi 2, vr a0] M63 (fun r9 M9 => ∃ x9, r9 = some (vi x9) ∧ Q x9 M9) := by
                    intro v73 e75
                    have h := h v73 e75
                    have h76 : i32 v73 := by rw [e75]; (repeat' split) <;> first | exact ⟨by decide, by decide⟩ | exact ⟨by decide, by decide⟩
                    refine cf_TR_136 rfl d_TR_readVar_143 (by rw [e64]; exact h61) (Nat.le_of_ble_eq_true rfl) (Ci.mono h (fun x78 M77 h => ?_))
                    obtain ⟨h79, hOM77, h⟩ := h
                    refine wm_if_ne (tgt := 151) d_TR_readVar_146 rfl h79 (fun c81 => ?_) (fun c81 => ?_)
                    · replace h := h.2 c81
                      obtain ⟨h82, h⟩ := h
                      obtain ⟨h83, h⟩ := h
                      refine wm_aload_n d_TR_readVar_151 rfl rfl ?_
                      refine gf_TR_12 rfl d_TR_readVar_152 h82 ?_
                      refine wm_bipush d_TR_readVar_155 (by decide) ?_
                      refine cf_TR_102 rfl d_TR_readVar_157 h83 (Nat.le_of_ble_eq_true rfl) (Ci.mono h (fun x85 M84 h => ?_))
                      obtain ⟨h86, hOM84, h⟩ := h
                      obtain ⟨h87, h⟩ := h
                      refine wm_ireturn d_TR_readVar_160 rfl (m_nb h87) ?_
                      exact ⟨_, rfl, h⟩
                    · replace c81 := Classical.not_not.mp c81
                      replace h := h.1 c81
                      refine wm_iconst d_TR_readVar_149 ?_
                      refine wm_ireturn d_TR_readVar_150 rfl (m_nb (by decide)) ?_
                      exact ⟨_, rfl, h⟩
                  clear h
                  refine wm_if_eq (tgt := 142) d_TR_readVar_135 rfl (hOM63 _ _).1 (fun c72 => ?_) (fun c72 => ?_)
                  · refine wm_iconst d_TR_readVar_142 ?_
                    exact hJ 1 (if_pos c72).symm
                  · refine wm_iconst d_TR_readVar_138 ?_
                    refine wm_goto (tgt := 143) d_TR_readVar_139 rfl ?_
                    exact hJ 2 (if_neg c72).symm
              · replace c55 := Classical.not_not.mp c55
                replace h := h.1 c55
                refine wm_iconst d_TR_readVar_107 ?_
                refine wm_ireturn d_TR_readVar_108 rfl (m_nb (by decide)) ?_
                exact ⟨_, rfl, h⟩
      · replace c26 := Classical.not_not.mp c26
        replace h := h.1 c26
        refine wm_iconst d_TR_readVar_55 ?_
        refine wm_ireturn d_TR_readVar_56 rfl (m_nb (by decide)) ?_
        exact ⟨_, rfl, h⟩
  clear h
  refine wm_icmp_lt (tgt := 36) d_TR_readVar_29 rfl (hOM6 _ _).1 ⟨by decide, by decide⟩ (fun c9 => ?_) (fun c9 => ?_)
  · refine wm_iconst d_TR_readVar_36 ?_
    exact hJ 0 (if_pos c9).symm
  · refine wm_iconst d_TR_readVar_32 ?_
    refine wm_goto (tgt := 37) d_TR_readVar_33 rfl ?_
    exact hJ 1 (if_neg c9).symm
theorem d_TR_settleVar_0 : decode y_TR_settleVar.2.1 0 = .ok (.iconst 0, 1) := by decide +kernel
theorem d_TR_settleVar_1 : decode y_TR_settleVar.2.1 1 = .ok (.istore_n 1, 1) := by decide +kernel
theorem d_TR_settleVar_2 : decode y_TR_settleVar.2.1 2 = .ok (.iconst 1, 1) := by decide +kernel
theorem d_TR_settleVar_3 : decode y_TR_settleVar.2.1 3 = .ok (.istore_n 2, 1) := by decide +kernel
theorem d_TR_settleVar_4 : decode y_TR_settleVar.2.1 4 = .ok (.aload_n 0, 1) := by decide +kernel
theorem d_TR_settleVar_5 : decode y_TR_settleVar.2.1 5 = .ok (.getfield 12, 3) := by decide +kernel
theorem d_TR_settleVar_8 : decode y_TR_settleVar.2.1 8 = .ok (.getfield 76, 3) := by decide +kernel
theorem d_TR_settleVar_11 : decode y_TR_settleVar.2.1 11 = .ok (.ifCond .ne 95, 3) := by decide +kernel
theorem d_TR_settleVar_14 : decode y_TR_settleVar.2.1 14 = .ok (.aload_n 0, 1) := by decide +kernel
theorem d_TR_settleVar_15 : decode y_TR_settleVar.2.1 15 = .ok (.getfield 143, 3) := by decide +kernel
theorem d_TR_settleVar_18 : decode y_TR_settleVar.2.1 18 = .ok (.ifCond .ne 88, 3) := by decide +kernel
theorem d_TR_settleVar_21 : decode y_TR_settleVar.2.1 21 = .ok (.aload_n 0, 1) := by decide +kernel
theorem d_TR_settleVar_22 : decode y_TR_settleVar.2.1 22 = .ok (.iconst 0, 1) := by decide +kernel
theorem d_TR_settleVar_23 : decode y_TR_settleVar.2.1 23 = .ok (.iconst 1, 1) := by decide +kernel
theorem d_TR_settleVar_24 : decode y_TR_settleVar.2.1 24 = .ok (.invokevirtual 146, 3) := by decide +kernel
theorem d_TR_settleVar_27 : decode y_TR_settleVar.2.1 27 = .ok (.ifCond .eq 15, 3) := by decide +kernel
theorem d_TR_settleVar_42 : decode y_TR_settleVar.2.1 42 = .ok (.iconst 0, 1) := by decide +kernel
theorem d_TR_settleVar_30 : decode y_TR_settleVar.2.1 30 = .ok (.aload_n 0, 1) := by decide +kernel
theorem d_TR_settleVar_31 : decode y_TR_settleVar.2.1 31 = .ok (.getfield 21, 3) := by decide +kernel
theorem d_TR_settleVar_34 : decode y_TR_settleVar.2.1 34 = .ok (.getfield 155, 3) := by decide +kernel
theorem d_TR_settleVar_37 : decode y_TR_settleVar.2.1 37 = .ok (.iconst 0, 1) := by decide +kernel
theorem d_TR_settleVar_38 : decode y_TR_settleVar.2.1 38 = .ok (.iaload, 1) := by decide +kernel
theorem d_TR_settleVar_39 : decode y_TR_settleVar.2.1 39 = .ok (.goto 4, 3) := by decide +kernel
theorem d_TR_settleVar_43 : decode y_TR_settleVar.2.1 43 = .ok (.istore_n 1, 1) := by decide +kernel
theorem d_TR_settleVar_44 : decode y_TR_settleVar.2.1 44 = .ok (.aload_n 0, 1) := by decide +kernel
theorem d_TR_settleVar_45 : decode y_TR_settleVar.2.1 45 = .ok (.getfield 12, 3) := by decide +kernel
theorem d_TR_settleVar_48 : decode y_TR_settleVar.2.1 48 = .ok (.getfield 76, 3) := by decide +kernel
theorem d_TR_settleVar_51 : decode y_TR_settleVar.2.1 51 = .ok (.ifCond .ne 24, 3) := by decide +kernel
theorem d_TR_settleVar_54 : decode y_TR_settleVar.2.1 54 = .ok (.aload_n 0, 1) := by decide +kernel
theorem d_TR_settleVar_55 : decode y_TR_settleVar.2.1 55 = .ok (.iconst 1, 1) := by decide +kernel
theorem d_TR_settleVar_56 : decode y_TR_settleVar.2.1 56 = .ok (.iconst 1, 1) := by decide +kernel
theorem d_TR_settleVar_57 : decode y_TR_settleVar.2.1 57 = .ok (.invokevirtual 146, 3) := by decide +kernel
theorem d_TR_settleVar_60 : decode y_TR_settleVar.2.1 60 = .ok (.ifCond .eq 15, 3) := by decide +kernel
theorem d_TR_settleVar_63 : decode y_TR_settleVar.2.1 63 = .ok (.aload_n 0, 1) := by decide +kernel
theorem d_TR_settleVar_64 : decode y_TR_settleVar.2.1 64 = .ok (.getfield 21, 3) := by decide +kernel
theorem d_TR_settleVar_67 : decode y_TR_settleVar.2.1 67 = .ok (.getfield 155, 3) := by decide +kernel
theorem d_TR_settleVar_70 : decode y_TR_settleVar.2.1 70 = .ok (.iconst 0, 1) := by decide +kernel
theorem d_TR_settleVar_71 : decode y_TR_settleVar.2.1 71 = .ok (.iaload, 1) := by decide +kernel
theorem d_TR_settleVar_72 : decode y_TR_settleVar.2.1 72 = .ok (.goto 4, 3) := by decide +kernel
theorem d_TR_settleVar_75 : decode y_TR_settleVar.2.1 75 = .ok (.iload_n 1, 1) := by decide +kernel
theorem d_TR_settleVar_76 : decode y_TR_settleVar.2.1 76 = .ok (.istore_n 2, 1) := by decide +kernel
theorem d_TR_settleVar_77 : decode y_TR_settleVar.2.1 77 = .ok (.iload_n 2, 1) := by decide +kernel
theorem d_TR_settleVar_78 : decode y_TR_settleVar.2.1 78 = .ok (.iload_n 1, 1) := by decide +kernel
theorem d_TR_settleVar_79 : decode y_TR_settleVar.2.1 79 = .ok (.if_icmp .lt 12, 3) := by decide +kernel
theorem d_TR_settleVar_82 : decode y_TR_settleVar.2.1 82 = .ok (.iload_n 2, 1) := by decide +kernel
theorem d_TR_settleVar_83 : decode y_TR_settleVar.2.1 83 = .ok (.iload_n 1, 1) := by decide +kernel
theorem d_TR_settleVar_84 : decode y_TR_settleVar.2.1 84 = .ok (.isub, 1) := by decide +kernel
theorem d_TR_settleVar_85 : decode y_TR_settleVar.2.1 85 = .ok (.sipush 10000, 3) := by decide +kernel
theorem d_TR_settleVar_88 : decode y_TR_settleVar.2.1 88 = .ok (.if_icmp .lt 18, 3) := by decide +kernel
theorem d_TR_settleVar_91 : decode y_TR_settleVar.2.1 91 = .ok (.aload_n 0, 1) := by decide +kernel
theorem d_TR_settleVar_92 : decode y_TR_settleVar.2.1 92 = .ok (.getfield 12, 3) := by decide +kernel
theorem d_TR_settleVar_95 : decode y_TR_settleVar.2.1 95 = .ok (.bipush 9, 2) := by decide +kernel
theorem d_TR_settleVar_97 : decode y_TR_settleVar.2.1 97 = .ok (.aload_n 0, 1) := by decide +kernel
theorem d_TR_settleVar_98 : decode y_TR_settleVar.2.1 98 = .ok (.getfield 29, 3) := by decide +kernel
theorem d_TR_settleVar_101 : decode y_TR_settleVar.2.1 101 = .ok (.iconst 1, 1) := by decide +kernel
theorem d_TR_settleVar_102 : decode y_TR_settleVar.2.1 102 = .ok (.iaload, 1) := by decide +kernel
theorem d_TR_settleVar_103 : decode y_TR_settleVar.2.1 103 = .ok (.invokevirtual 95, 3) := by decide +kernel
theorem d_TR_settleVar_106 : decode y_TR_settleVar.2.1 106 = .ok (.aload_n 0, 1) := by decide +kernel
theorem d_TR_settleVar_107 : decode y_TR_settleVar.2.1 107 = .ok (.getfield 12, 3) := by decide +kernel
theorem d_TR_settleVar_110 : decode y_TR_settleVar.2.1 110 = .ok (.getfield 76, 3) := by decide +kernel
theorem d_TR_settleVar_113 : decode y_TR_settleVar.2.1 113 = .ok (.ifCond .ne 31, 3) := by decide +kernel
theorem d_TR_settleVar_116 : decode y_TR_settleVar.2.1 116 = .ok (.aload_n 0, 1) := by decide +kernel
theorem d_TR_settleVar_117 : decode y_TR_settleVar.2.1 117 = .ok (.getfield 175, 3) := by decide +kernel
theorem d_TR_settleVar_120 : decode y_TR_settleVar.2.1 120 = .ok (.ifCond .eq 24, 3) := by decide +kernel
theorem d_TR_settleVar_144 : decode y_TR_settleVar.2.1 144 = .ok (.iload_n 1, 1) := by decide +kernel
theorem d_TR_settleVar_123 : decode y_TR_settleVar.2.1 123 = .ok (.aload_n 0, 1) := by decide +kernel
theorem d_TR_settleVar_124 : decode y_TR_settleVar.2.1 124 = .ok (.iconst 2, 1) := by decide +kernel
theorem d_TR_settleVar_125 : decode y_TR_settleVar.2.1 125 = .ok (.iconst 1, 1) := by decide +kernel
theorem d_TR_settleVar_145 : decode y_TR_settleVar.2.1 145 = .ok (.istore_n 3, 1) := by decide +kernel
theorem d_TR_settleVar_146 : decode y_TR_settleVar.2.1 146 = .ok (.iload_n 3, 1) := by decide +kernel
theorem d_TR_settleVar_147 : decode y_TR_settleVar.2.1 147 = .ok (.iload_n 1, 1) := by decide +kernel
theorem d_TR_settleVar_148 : decode y_TR_settleVar.2.1 148 = .ok (.if_icmp .lt 8, 3) := by decide +kernel
theorem d_TR_settleVar_151 : decode y_TR_settleVar.2.1 151 = .ok (.iload_n 3, 1) := by decide +kernel
theorem d_TR_settleVar_152 : decode y_TR_settleVar.2.1 152 = .ok (.iload_n 2, 1) := by decide +kernel
theorem d_TR_settleVar_153 : decode y_TR_settleVar.2.1 153 = .ok (.if_icmp .le 18, 3) := by decide +kernel
theorem d_TR_settleVar_156 : decode y_TR_settleVar.2.1 156 = .ok (.aload_n 0, 1) := by decide +kernel
theorem d_TR_settleVar_157 : decode y_TR_settleVar.2.1 157 = .ok (.getfield 12, 3) := by decide +kernel
theorem d_TR_settleVar_160 : decode y_TR_settleVar.2.1 160 = .ok (.bipush 9, 2) := by decide +kernel
theorem d_TR_settleVar_162 : decode y_TR_settleVar.2.1 162 = .ok (.aload_n 0, 1) := by decide +kernel
theorem d_TR_settleVar_163 : decode y_TR_settleVar.2.1 163 = .ok (.getfield 29, 3) := by decide +kernel
theorem d_TR_settleVar_166 : decode y_TR_settleVar.2.1 166 = .ok (.iconst 2, 1) := by decide +kernel
theorem d_TR_settleVar_167 : decode y_TR_settleVar.2.1 167 = .ok (.iaload, 1) := by decide +kernel
theorem d_TR_settleVar_168 : decode y_TR_settleVar.2.1 168 = .ok (.invokevirtual 95, 3) := by decide +kernel
theorem d_TR_settleVar_126 : decode y_TR_settleVar.2.1 126 = .ok (.invokevirtual 146, 3) := by decide +kernel
theorem d_TR_settleVar_129 : decode y_TR_settleVar.2.1 129 = .ok (.ifCond .eq 15, 3) := by decide +kernel
theorem d_TR_settleVar_132 : decode y_TR_settleVar.2.1 132 = .ok (.aload_n 0, 1) := by decide +kernel
theorem d_TR_settleVar_133 : decode y_TR_settleVar.2.1 133 = .ok (.getfield 21, 3) := by decide +kernel
theorem d_TR_settleVar_136 : decode y_TR_settleVar.2.1 136 = .ok (.getfield 155, 3) := by decide +kernel
theorem d_TR_settleVar_139 : decode y_TR_settleVar.2.1 139 = .ok (.iconst 0, 1) := by decide +kernel
theorem d_TR_settleVar_140 : decode y_TR_settleVar.2.1 140 = .ok (.iaload, 1) := by decide +kernel
theorem d_TR_settleVar_141 : decode y_TR_settleVar.2.1 141 = .ok (.goto 4, 3) := by decide +kernel
theorem d_TR_settleVar_171 : decode y_TR_settleVar.2.1 171 = .ok (.aload_n 0, 1) := by decide +kernel
theorem d_TR_settleVar_172 : decode y_TR_settleVar.2.1 172 = .ok (.getfield 12, 3) := by decide +kernel
theorem d_TR_settleVar_175 : decode y_TR_settleVar.2.1 175 = .ok (.getfield 76, 3) := by decide +kernel
theorem d_TR_settleVar_178 : decode y_TR_settleVar.2.1 178 = .ok (.ifCond .ne 98, 3) := by decide +kernel
theorem d_TR_settleVar_181 : decode y_TR_settleVar.2.1 181 = .ok (.aload_n 0, 1) := by decide +kernel
theorem d_TR_settleVar_182 : decode y_TR_settleVar.2.1 182 = .ok (.getfield 36, 3) := by decide +kernel
theorem d_TR_settleVar_185 : decode y_TR_settleVar.2.1 185 = .ok (.getfield 178, 3) := by decide +kernel
theorem d_TR_settleVar_188 : decode y_TR_settleVar.2.1 188 = .ok (.aload_n 0, 1) := by decide +kernel
theorem d_TR_settleVar_189 : decode y_TR_settleVar.2.1 189 = .ok (.getfield 36, 3) := by decide +kernel
theorem d_TR_settleVar_192 : decode y_TR_settleVar.2.1 192 = .ok (.getfield 172, 3) := by decide +kernel
theorem d_TR_settleVar_195 : decode y_TR_settleVar.2.1 195 = .ok (.iload_n 1, 1) := by decide +kernel
theorem d_TR_settleVar_196 : decode y_TR_settleVar.2.1 196 = .ok (.iastore, 1) := by decide +kernel
theorem d_TR_settleVar_197 : decode y_TR_settleVar.2.1 197 = .ok (.aload_n 0, 1) := by decide +kernel
theorem d_TR_settleVar_198 : decode y_TR_settleVar.2.1 198 = .ok (.getfield 36, 3) := by decide +kernel
theorem d_TR_settleVar_201 : decode y_TR_settleVar.2.1 201 = .ok (.getfield 181, 3) := by decide +kernel
theorem d_TR_settleVar_204 : decode y_TR_settleVar.2.1 204 = .ok (.aload_n 0, 1) := by decide +kernel
theorem d_TR_settleVar_205 : decode y_TR_settleVar.2.1 205 = .ok (.getfield 36, 3) := by decide +kernel
theorem d_TR_settleVar_208 : decode y_TR_settleVar.2.1 208 = .ok (.getfield 172, 3) := by decide +kernel
theorem d_TR_settleVar_211 : decode y_TR_settleVar.2.1 211 = .ok (.iload_n 2, 1) := by decide +kernel
theorem d_TR_settleVar_212 : decode y_TR_settleVar.2.1 212 = .ok (.iastore, 1) := by decide +kernel
theorem d_TR_settleVar_213 : decode y_TR_settleVar.2.1 213 = .ok (.aload_n 0, 1) := by decide +kernel
theorem d_TR_settleVar_214 : decode y_TR_settleVar.2.1 214 = .ok (.getfield 36, 3) := by decide +kernel
theorem d_TR_settleVar_217 : decode y_TR_settleVar.2.1 217 = .ok (.getfield 184, 3) := by decide +kernel
theorem d_TR_settleVar_220 : decode y_TR_settleVar.2.1 220 = .ok (.aload_n 0, 1) := by decide +kernel
theorem d_TR_settleVar_221 : decode y_TR_settleVar.2.1 221 = .ok (.getfield 36, 3) := by decide +kernel
theorem d_TR_settleVar_224 : decode y_TR_settleVar.2.1 224 = .ok (.getfield 172, 3) := by decide +kernel
theorem d_TR_settleVar_227 : decode y_TR_settleVar.2.1 227 = .ok (.iload_n 3, 1) := by decide +kernel
theorem d_TR_settleVar_228 : decode y_TR_settleVar.2.1 228 = .ok (.iastore, 1) := by decide +kernel
theorem d_TR_settleVar_229 : decode y_TR_settleVar.2.1 229 = .ok (.aload_n 0, 1) := by decide +kernel
theorem d_TR_settleVar_230 : decode y_TR_settleVar.2.1 230 = .ok (.getfield 12, 3) := by decide +kernel
theorem d_TR_settleVar_233 : decode y_TR_settleVar.2.1 233 = .ok (.aload_n 0, 1) := by decide +kernel
theorem d_TR_settleVar_234 : decode y_TR_settleVar.2.1 234 = .ok (.getfield 99, 3) := by decide +kernel
theorem d_TR_settleVar_237 : decode y_TR_settleVar.2.1 237 = .ok (.iconst 5, 1) := by decide +kernel
theorem d_TR_settleVar_238 : decode y_TR_settleVar.2.1 238 = .ok (.aload_n 0, 1) := by decide +kernel
theorem d_TR_settleVar_239 : decode y_TR_settleVar.2.1 239 = .ok (.getfield 36, 3) := by decide +kernel
theorem d_TR_settleVar_242 : decode y_TR_settleVar.2.1 242 = .ok (.getfield 172, 3) := by decide +kernel
theorem d_TR_settleVar_245 : decode y_TR_settleVar.2.1 245 = .ok (.aload_n 0, 1) := by decide +kernel
theorem d_TR_settleVar_246 : decode y_TR_settleVar.2.1 246 = .ok (.getfield 143, 3) := by decide +kernel
theorem d_TR_settleVar_249 : decode y_TR_settleVar.2.1 249 = .ok (.invokevirtual 160, 3) := by decide +kernel
theorem d_TR_settleVar_252 : decode y_TR_settleVar.2.1 252 = .ok (.aload_n 0, 1) := by decide +kernel
theorem d_TR_settleVar_253 : decode y_TR_settleVar.2.1 253 = .ok (.getfield 36, 3) := by decide +kernel
theorem d_TR_settleVar_256 : decode y_TR_settleVar.2.1 256 = .ok (.dup, 1) := by decide +kernel
theorem d_TR_settleVar_257 : decode y_TR_settleVar.2.1 257 = .ok (.getfield 172, 3) := by decide +kernel
theorem d_TR_settleVar_260 : decode y_TR_settleVar.2.1 260 = .ok (.iconst 1, 1) := by decide +kernel
theorem d_TR_settleVar_261 : decode y_TR_settleVar.2.1 261 = .ok (.iadd, 1) := by decide +kernel
theorem d_TR_settleVar_262 : decode y_TR_settleVar.2.1 262 = .ok (.putfield 172, 3) := by decide +kernel
theorem d_TR_settleVar_265 : decode y_TR_settleVar.2.1 265 = .ok (.aload_n 0, 1) := by decide +kernel
theorem d_TR_settleVar_266 : decode y_TR_settleVar.2.1 266 = .ok (.getfield 36, 3) := by decide +kernel
theorem d_TR_settleVar_269 : decode y_TR_settleVar.2.1 269 = .ok (.aload_n 0, 1) := by decide +kernel
theorem d_TR_settleVar_270 : decode y_TR_settleVar.2.1 270 = .ok (.getfield 169, 3) := by decide +kernel
theorem d_TR_settleVar_273 : decode y_TR_settleVar.2.1 273 = .ok (.putfield 116, 3) := by decide +kernel
theorem d_TR_settleVar_276 : decode y_TR_settleVar.2.1 276 = .ok (.return_, 1) := by decide +kernel
def h_TR_settleVar_76 (G : mG) (d : Nat) (a0 : Nat) (l1 : Int) (k0 : Int) (M : mM) (Q : mM → Prop) : Prop := mWm G y_TR_settleVar (d + 1) 76 [vr a0, vi l1, vd, vd] [vi k0] M (fun r9 M9 => r9 = none ∧ Q M9)
def h_TR_settleVar_106 (G : mG) (d : Nat) (a0 : Nat) (l1 : Int) (l2 : Int) (M : mM) (Q : mM → Prop) : Prop := mWm G y_TR_settleVar (d + 1) 106 [vr a0, vi l1, vi l2, vd] [] M (fun r9 M9 => r9 = none ∧ Q M9)
def h_TR_settleVar_171 (G : mG) (d : Nat) (a0 : Nat) (l1 : Int) (l2 : Int) (l3 : Int) (M : mM) (Q : mM → Prop) : Prop := mWm G y_TR_settleVar (d + 1) 171 [vr a0, vi l1, vi l2, vi l3] [] M (fun r9 M9 => r9 = none ∧ Q M9)
theorem k_TR_settleVar {G : mG} {d : Nat} {a0 : Nat} {M : mM} {Q : mM → Prop} (hO : mOk M)
    (h : mK M a0 = 3 ∧ mK M (mR M a0 0) = 4 ∧ (((mI M (mR M a0 0) 3 = 0) ∧ (mI M a0 8 = 0)) → (Ci G y_TR_worksOut d [vr a0, vi 0, vi 1] M (fun x8 M7 => i32 x8 ∧ mOk M7 ∧ ((¬ (x8 = 0) → (mK M7 a0 = 3 ∧ mK M7 (mR M7 a0 1) = 5 ∧ mK M7 (mR M7 (mR M7 a0 1) 6) = 30 ∧ ((0 : Int) ≤ 0 ∧ 0 < (mN M7 (mR M7 (mR M7 a0 1) 6) : Int)))) ∧ ∀ v15 : Int, v15 = (if (x8 = 0) then 0 else mI M7 (mR M7 (mR M7 a0 1) 6) 0) → mK M7 a0 = 3 ∧ mK M7 (mR M7 a0 0) = 4 ∧ ((mI M7 (mR M7 a0 0) 3 = 0) → (Ci G y_TR_worksOut d [vr a0, vi 1, vi 1] M7 (fun x23 M22 => i32 x23 ∧ mOk M22 ∧ (((x23 = 0) → (h_TR_settleVar_76 G d a0 v15 v15 M22 Q)) ∧ (¬ (x23 = 0) → (mK M22 a0 = 3 ∧ mK M22 (mR M22 a0 1) = 5 ∧ mK M22 (mR M22 (mR M22 a0 1) 6) = 30 ∧ ((0 : Int) ≤ 0 ∧ 0 < (mN M22 (mR M22 (mR M22 a0 1) 6) : Int)) ∧ h_TR_settleVar_76 G d a0 v15 (mI M22 (mR M22 (mR M22 a0 1) 6) 0) M22 Q)))))) ∧ (¬ (mI M7 (mR M7 a0 0) 3 = 0) → (h_TR_settleVar_76 G d a0 v15 v15 M7 Q)))))) ∧ (¬ ((mI M (mR M a0 0) 3 = 0) ∧ (mI M a0 8 = 0)) → (h_TR_settleVar_106 G d a0 0 1 M Q))) :
    Cv G y_TR_settleVar (d + 1) [vr a0] M Q := by
  refine wm_open (y := y_TR_settleVar) rfl (Nat.le_of_ble_eq_true rfl) (L := [vr a0, vd, vd, vd]) rfl ?_
  obtain ⟨h1, h⟩ := h
  obtain ⟨h2, h⟩ := h
  refine wm_iconst d_TR_settleVar_0 ?_
  refine wm_istore_n d_TR_settleVar_1 rfl (by decide) (L' := [vr a0, vi 0, vd, vd]) rfl ?_
  refine wm_iconst d_TR_settleVar_2 ?_
  refine wm_istore_n d_TR_settleVar_3 rfl (by decide) (L' := [vr a0, vi 0, vi 1, vd]) rfl ?_
  refine wm_aload_n d_TR_settleVar_4 rfl rfl ?_
  refine gf_TR_12 rfl d_TR_settleVar_5 h1 ?_
  refine gf_TR_76 rfl d_TR_settleVar_8 h2 ?_
  have hE0 : ((mI M (mR M a0 0) 3 = 0) ∧ (mI M a0 8 = 0)) → mWm G y_TR_settleVar (d + 1) 21 [vr a0, vi 0, vi 1, vd] [] M (fun r9 M9 => r9 = none ∧ Q M9) := by
    intro q6
    have h := h.1 q6
    refine wm_aload_n d_TR_settleVar_21 rfl rfl ?_
    refine wm_iconst d_TR_settleVar_22 ?_
    refine wm_iconst d_TR_settleVar_23 ?_
    refine cf_TR_146 rfl d_TR_settleVar_24 h1 (Nat.le_of_ble_eq_true rfl) (Ci.mono h (fun x8 M7 h => ?_))
    obtain ⟨h9, hOM7, h⟩ := h
    obtain ⟨s16, h⟩ := h
    have hJ : ∀ v15 : Int, v15 = (if (x8 = 0) then 0 else mI M7 (mR M7 (mR M7 a0 1) 6) 0) → mWm G y_TR_settleVar (d + 1) 43 [vr a0, vd, vd, vd] [vi v15] M7 (fun r9 M9 => r9 = none ∧ Q M9) := by
      intro v15 e17
      have h := h v15 e17
      obtain ⟨h18, h⟩ := h
      obtain ⟨h19, h⟩ := h
      refine wm_istore_n d_TR_settleVar_43 rfl (by decide) (L' := [vr a0, vi v15, vd, vd]) rfl ?_
      refine wm_aload_n d_TR_settleVar_44 rfl rfl ?_
      refine gf_TR_12 rfl d_TR_settleVar_45 h18 ?_
      refine gf_TR_76 rfl d_TR_settleVar_48 h19 ?_
      refine wm_if_ne (tgt := 75) d_TR_settleVar_51 rfl (hOM7 _ _).1 (fun c21 => ?_) (fun c21 => ?_)
      · replace h := h.2 c21
        refine wm_iload_n d_TR_settleVar_75 rfl rfl ?_
        exact h
      · replace c21 := Classical.not_not.mp c21
        replace h := h.1 c21
        refine wm_aload_n d_TR_settleVar_54 rfl rfl ?_
        refine wm_iconst d_TR_settleVar_55 ?_
        refine wm_iconst d_TR_settleVar_56 ?_
        refine cf_TR_146 rfl d_TR_settleVar_57 h18 (Nat.le_of_ble_eq_true rfl) (Ci.mono h (fun x23 M22 h => ?_))
        obtain ⟨h24, hOM22, h⟩ := h
        refine wm_if_eq (tgt := 75) d_TR_settleVar_60 rfl h24 (fun c30 => ?_) (fun c30 => ?_)
        · replace h := h.1 c30
          refine wm_iload_n d_TR_settleVar_75 rfl rfl ?_
          exact h
        · replace h := h.2 c30
          obtain ⟨h31, h⟩ := h
          obtain ⟨h32, h⟩ := h
          obtain ⟨h33, h⟩ := h
          obtain ⟨h34, h⟩ := h
          refine wm_aload_n d_TR_settleVar_63 rfl rfl ?_
          refine gf_TR_21 rfl d_TR_settleVar_64 h31 ?_
          refine gf_TR_155 rfl d_TR_settleVar_67 h32 ?_
          refine wm_iconst d_TR_settleVar_70 ?_
          refine wm_iald d_TR_settleVar_71 h33 h34 ?_
          refine wm_goto (tgt := 76) d_TR_settleVar_72 rfl ?_
          exact h
    clear h
    have s35 := s16
    refine wm_if_eq (tgt := 42) d_TR_settleVar_27 rfl h9 (fun c10 => ?_) (fun c10 => ?_)
    · refine wm_iconst d_TR_settleVar_42 ?_
      refine wm_less (L' := [vr a0, vd, vd, vd]) ⟨Or.inr rfl, Or.inl rfl, Or.inl rfl, Or.inl rfl, trivial⟩ ?_
      exact hJ 0 (if_pos c10).symm
    · have s35 := s35 c10
      obtain ⟨h11, h12, h13, h14⟩ := s35
      refine wm_aload_n d_TR_settleVar_30 rfl rfl ?_
      refine gf_TR_21 rfl d_TR_settleVar_31 h11 ?_
      refine gf_TR_155 rfl d_TR_settleVar_34 h12 ?_
      refine wm_iconst d_TR_settleVar_37 ?_
      refine wm_iald d_TR_settleVar_38 h13 h14 ?_
      refine wm_goto (tgt := 43) d_TR_settleVar_39 rfl ?_
      refine wm_less (L' := [vr a0, vd, vd, vd]) ⟨Or.inr rfl, Or.inl rfl, Or.inl rfl, Or.inl rfl, trivial⟩ ?_
      exact hJ (mI M7 (mR M7 (mR M7 a0 1) 6) 0) (if_neg c10).symm
  have hE1 : ¬ ((mI M (mR M a0 0) 3 = 0) ∧ (mI M a0 8 = 0)) → mWm G y_TR_settleVar (d + 1) 106 [vr a0, vi 0, vi 1, vd] [] M (fun r9 M9 => r9 = none ∧ Q M9) := by
    intro q37
    have h := h.2 q37
    exact h
  clear h
  refine wm_if_ne (tgt := 106) d_TR_settleVar_11 rfl (hO _ _).1 (fun c4 => ?_) (fun c4 => ?_)
  · exact hE1 (fun z40 => c4 z40.1)
  · replace c4 := Classical.not_not.mp c4
    refine wm_aload_n d_TR_settleVar_14 rfl rfl ?_
    refine gf_TR_143 rfl d_TR_settleVar_15 h1 ?_
    refine wm_if_ne (tgt := 106) d_TR_settleVar_18 rfl (hO _ _).1 (fun c3 => ?_) (fun c3 => ?_)
    · exact hE1 (fun z38 => c3 z38.2)
    · replace c3 := Classical.not_not.mp c3
      exact hE0 ⟨c4, c3⟩
theorem k_TR_settleVar_76 {G : mG} {d : Nat} {a0 : Nat} {l1 : Int} {k0 : Int} {M : mM} {Q : mM → Prop} (hO : mOk M) (hi_l1 : i32 l1) (hi_k0 : i32 k0)
    (h : (¬ (k0 < l1) → i32 (k0 - l1)) ∧ (((k0 < l1) ∨ (¬ (k0 - l1 < 10000))) → (mK M a0 = 3 ∧ mK M (mR M a0 6) = 30 ∧ ((0 : Int) ≤ 1 ∧ 1 < (mN M (mR M a0 6) : Int)) ∧ mK M (mR M a0 0) = 4 ∧ Cv G y_RR_note d [vr (mR M a0 0), vi 9, vi (mI M (mR M a0 6) 1)] M (fun M50 => mOk M50 ∧ (h_TR_settleVar_106 G d a0 l1 k0 M50 Q)))) ∧ (¬ ((k0 < l1) ∨ (¬ (k0 - l1 < 10000))) → (h_TR_settleVar_106 G d a0 l1 k0 M Q))) :
    h_TR_settleVar_76 G d a0 l1 k0 M Q := by
  unfold h_TR_settleVar_76
  refine wm_istore_n d_TR_settleVar_76 rfl (by decide) (L' := [vr a0, vi l1, vi k0, vd]) rfl ?_
  refine wm_iload_n d_TR_settleVar_77 rfl rfl ?_
  refine wm_iload_n d_TR_settleVar_78 rfl rfl ?_
  obtain ⟨s44, h⟩ := h
  have hE0 : ((k0 < l1) ∨ (¬ (k0 - l1 < 10000))) → mWm G y_TR_settleVar (d + 1) 91 [vr a0, vi l1, vi k0, vd] [] M (fun r9 M9 => r9 = none ∧ Q M9) := by
    intro q45
    have h := h.1 q45
    obtain ⟨h46, h⟩ := h
    obtain ⟨h47, h⟩ := h
    obtain ⟨h48, h⟩ := h
    obtain ⟨h49, h⟩ := h
    refine wm_aload_n d_TR_settleVar_91 rfl rfl ?_
    refine gf_TR_12 rfl d_TR_settleVar_92 h46 ?_
    refine wm_bipush d_TR_settleVar_95 (by decide) ?_
    refine wm_aload_n d_TR_settleVar_97 rfl rfl ?_
    refine gf_TR_29 rfl d_TR_settleVar_98 h46 ?_
    refine wm_iconst d_TR_settleVar_101 ?_
    refine wm_iald d_TR_settleVar_102 h47 h48 ?_
    refine cf_TR_95 rfl d_TR_settleVar_103 h49 (Nat.le_of_ble_eq_true rfl) (Cv.mono h (fun M50 h => ?_))
    obtain ⟨hOM50, h⟩ := h
    exact h
  have hE1 : ¬ ((k0 < l1) ∨ (¬ (k0 - l1 < 10000))) → mWm G y_TR_settleVar (d + 1) 106 [vr a0, vi l1, vi k0, vd] [] M (fun r9 M9 => r9 = none ∧ Q M9) := by
    intro q53
    have h := h.2 q53
    exact h
  clear h
  have s54 := s44
  refine wm_icmp_lt (tgt := 91) d_TR_settleVar_79 rfl hi_k0 hi_l1 (fun c43 => ?_) (fun c43 => ?_)
  · exact hE0 (Or.inl c43)
  · have s54 := s54 c43
    have h41 := s54
    refine wm_iload_n d_TR_settleVar_82 rfl rfl ?_
    refine wm_iload_n d_TR_settleVar_83 rfl rfl ?_
    refine wm_isub d_TR_settleVar_84 ?_
    refine wm_sipush d_TR_settleVar_85 (by decide) ?_
    refine wm_icmp_lt (tgt := 106) d_TR_settleVar_88 rfl h41 ⟨by decide, by decide⟩ (fun c42 => ?_) (fun c42 => ?_)
    · exact hE1 (fun z55 => Or.elim z55 c43 (fun z56 => z56 c42))
    · exact hE0 (Or.inr c42)
theorem k_TR_settleVar_106 {G : mG} {d : Nat} {a0 : Nat} {l1 : Int} {l2 : Int} {M : mM} {Q : mM → Prop} (hO : mOk M) (hi_l1 : i32 l1) (hi_l2 : i32 l2)
    (h : mK M a0 = 3 ∧ mK M (mR M a0 0) = 4 ∧ (((¬ (mI M (mR M a0 0) 3 = 0)) ∨ (mI M a0 7 = 0)) → ((((l1 < l1) ∨ (¬ (l1 ≤ l2))) → (mK M (mR M a0 6) = 30 ∧ ((0 : Int) ≤ 2 ∧ 2 < (mN M (mR M a0 6) : Int)) ∧ Cv G y_RR_note d [vr (mR M a0 0), vi 9, vi (mI M (mR M a0 6) 2)] M (fun M71 => mOk M71 ∧ (h_TR_settleVar_171 G d a0 l1 l2 l1 M71 Q)))) ∧ (¬ ((l1 < l1) ∨ (¬ (l1 ≤ l2))) → (h_TR_settleVar_171 G d a0 l1 l2 l1 M Q)))) ∧ (¬ ((¬ (mI M (mR M a0 0) 3 = 0)) ∨ (mI M a0 7 = 0)) → (Ci G y_TR_worksOut d [vr a0, vi 2, vi 1] M (fun x79 M78 => i32 x79 ∧ mOk M78 ∧ ((¬ (x79 = 0) → (mK M78 a0 = 3 ∧ mK M78 (mR M78 a0 1) = 5 ∧ mK M78 (mR M78 (mR M78 a0 1) 6) = 30 ∧ ((0 : Int) ≤ 0 ∧ 0 < (mN M78 (mR M78 (mR M78 a0 1) 6) : Int)))) ∧ ∀ v86 : Int, v86 = (if (x79 = 0) then l1 else mI M78 (mR M78 (mR M78 a0 1) 6) 0) → i32 v86 ∧ (((v86 < l1) ∨ (¬ (v86 ≤ l2))) → (mK M78 a0 = 3 ∧ mK M78 (mR M78 a0 6) = 30 ∧ ((0 : Int) ≤ 2 ∧ 2 < (mN M78 (mR M78 a0 6) : Int)) ∧ mK M78 (mR M78 a0 0) = 4 ∧ Cv G y_RR_note d [vr (mR M78 a0 0), vi 9, vi (mI M78 (mR M78 a0 6) 2)] M78 (fun M98 => mOk M98 ∧ (h_TR_settleVar_171 G d a0 l1 l2 v86 M98 Q)))) ∧ (¬ ((v86 < l1) ∨ (¬ (v86 ≤ l2))) → (h_TR_settleVar_171 G d a0 l1 l2 v86 M78 Q))))))) :
    h_TR_settleVar_106 G d a0 l1 l2 M Q := by
  unfold h_TR_settleVar_106
  obtain ⟨h57, h⟩ := h
  obtain ⟨h58, h⟩ := h
  refine wm_aload_n d_TR_settleVar_106 rfl rfl ?_
  refine gf_TR_12 rfl d_TR_settleVar_107 h57 ?_
  refine gf_TR_76 rfl d_TR_settleVar_110 h58 ?_
  have hE0 : ((¬ (mI M (mR M a0 0) 3 = 0)) ∨ (mI M a0 7 = 0)) → mWm G y_TR_settleVar (d + 1) 144 [vr a0, vi l1, vi l2, vd] [] M (fun r9 M9 => r9 = none ∧ Q M9) := by
    intro q64
    have h := h.1 q64
    refine wm_iload_n d_TR_settleVar_144 rfl rfl ?_
    refine wm_istore_n d_TR_settleVar_145 rfl (by decide) (L' := [vr a0, vi l1, vi l2, vi l1]) rfl ?_
    refine wm_iload_n d_TR_settleVar_146 rfl rfl ?_
    refine wm_iload_n d_TR_settleVar_147 rfl rfl ?_
    have hE0 : ((l1 < l1) ∨ (¬ (l1 ≤ l2))) → mWm G y_TR_settleVar (d + 1) 156 [vr a0, vi l1, vi l2, vi l1] [] M (fun r9 M9 => r9 = none ∧ Q M9) := by
      intro q68
      have h := h.1 q68
      obtain ⟨h69, h⟩ := h
      obtain ⟨h70, h⟩ := h
      refine wm_aload_n d_TR_settleVar_156 rfl rfl ?_
      refine gf_TR_12 rfl d_TR_settleVar_157 h57 ?_
      refine wm_bipush d_TR_settleVar_160 (by decide) ?_
      refine wm_aload_n d_TR_settleVar_162 rfl rfl ?_
      refine gf_TR_29 rfl d_TR_settleVar_163 h57 ?_
      refine wm_iconst d_TR_settleVar_166 ?_
      refine wm_iald d_TR_settleVar_167 h69 h70 ?_
      refine cf_TR_95 rfl d_TR_settleVar_168 h58 (Nat.le_of_ble_eq_true rfl) (Cv.mono h (fun M71 h => ?_))
      obtain ⟨hOM71, h⟩ := h
      exact h
    have hE1 : ¬ ((l1 < l1) ∨ (¬ (l1 ≤ l2))) → mWm G y_TR_settleVar (d + 1) 171 [vr a0, vi l1, vi l2, vi l1] [] M (fun r9 M9 => r9 = none ∧ Q M9) := by
      intro q74
      have h := h.2 q74
      exact h
    clear h
    refine wm_icmp_lt (tgt := 156) d_TR_settleVar_148 rfl hi_l1 hi_l1 (fun c66 => ?_) (fun c66 => ?_)
    · exact hE0 (Or.inl c66)
    · refine wm_iload_n d_TR_settleVar_151 rfl rfl ?_
      refine wm_iload_n d_TR_settleVar_152 rfl rfl ?_
      refine wm_icmp_le (tgt := 171) d_TR_settleVar_153 rfl hi_l1 hi_l2 (fun c65 => ?_) (fun c65 => ?_)
      · exact hE1 (fun z75 => Or.elim z75 c66 (fun z76 => z76 c65))
      · exact hE0 (Or.inr c65)
  have hE1 : ¬ ((¬ (mI M (mR M a0 0) 3 = 0)) ∨ (mI M a0 7 = 0)) → mWm G y_TR_settleVar (d + 1) 123 [vr a0, vi l1, vi l2, vd] [] M (fun r9 M9 => r9 = none ∧ Q M9) := by
    intro q77
    have h := h.2 q77
    refine wm_aload_n d_TR_settleVar_123 rfl rfl ?_
    refine wm_iconst d_TR_settleVar_124 ?_
    refine wm_iconst d_TR_settleVar_125 ?_
    refine cf_TR_146 rfl d_TR_settleVar_126 h57 (Nat.le_of_ble_eq_true rfl) (Ci.mono h (fun x79 M78 h => ?_))
    obtain ⟨h80, hOM78, h⟩ := h
    obtain ⟨s87, h⟩ := h
    have hJ : ∀ v86 : Int, v86 = (if (x79 = 0) then l1 else mI M78 (mR M78 (mR M78 a0 1) 6) 0) → mWm G y_TR_settleVar (d + 1) 145 [vr a0, vi l1, vi l2, vd] [vi v86] M78 (fun r9 M9 => r9 = none ∧ Q M9) := by
      intro v86 e88
      have h := h v86 e88
      obtain ⟨h89, h⟩ := h
      refine wm_istore_n d_TR_settleVar_145 rfl (by decide) (L' := [vr a0, vi l1, vi l2, vi v86]) rfl ?_
      refine wm_iload_n d_TR_settleVar_146 rfl rfl ?_
      refine wm_iload_n d_TR_settleVar_147 rfl rfl ?_
      have hE0 : ((v86 < l1) ∨ (¬ (v86 ≤ l2))) → mWm G y_TR_settleVar (d + 1) 156 [vr a0, vi l1, vi l2, vi v86] [] M78 (fun r9 M9 => r9 = none ∧ Q M9) := by
        intro q93
        have h := h.1 q93
        obtain ⟨h94, h⟩ := h
        obtain ⟨h95, h⟩ := h
        obtain ⟨h96, h⟩ := h
        obtain ⟨h97, h⟩ := h
        refine wm_aload_n d_TR_settleVar_156 rfl rfl ?_
        refine gf_TR_12 rfl d_TR_settleVar_157 h94 ?_
        refine wm_bipush d_TR_settleVar_160 (by decide) ?_
        refine wm_aload_n d_TR_settleVar_162 rfl rfl ?_
        refine gf_TR_29 rfl d_TR_settleVar_163 h94 ?_
        refine wm_iconst d_TR_settleVar_166 ?_
        refine wm_iald d_TR_settleVar_167 h95 h96 ?_
        refine cf_TR_95 rfl d_TR_settleVar_168 h97 (Nat.le_of_ble_eq_true rfl) (Cv.mono h (fun M98 h => ?_))
        obtain ⟨hOM98, h⟩ := h
        exact h
      have hE1 : ¬ ((v86 < l1) ∨ (¬ (v86 ≤ l2))) → mWm G y_TR_settleVar (d + 1) 171 [vr a0, vi l1, vi l2, vi v86] [] M78 (fun r9 M9 => r9 = none ∧ Q M9) := by
        intro q101
        have h := h.2 q101
        exact h
      clear h
      refine wm_icmp_lt (tgt := 156) d_TR_settleVar_148 rfl h89 hi_l1 (fun c91 => ?_) (fun c91 => ?_)
      · exact hE0 (Or.inl c91)
      · refine wm_iload_n d_TR_settleVar_151 rfl rfl ?_
        refine wm_iload_n d_TR_settleVar_152 rfl rfl ?_
        refine wm_icmp_le (tgt := 171) d_TR_settleVar_153 rfl h89 hi_l2 (fun c90 => ?_) (fun c90 => ?_)
        · exact hE1 (fun z102 => Or.elim z102 c91 (fun z103 => z103 c90))
        · exact hE0 (Or.inr c90)
    clear h
    have s104 := s87
    refine wm_if_eq (tgt := 144) d_TR_settleVar_129 rfl h80 (fun c81 => ?_) (fun c81 => ?_)
    · refine wm_iload_n d_TR_settleVar_144 rfl rfl ?_
      exact hJ l1 (if_pos c81).symm
    · have s104 := s104 c81
      obtain ⟨h82, h83, h84, h85⟩ := s104
      refine wm_aload_n d_TR_settleVar_132 rfl rfl ?_
      refine gf_TR_21 rfl d_TR_settleVar_133 h82 ?_
      refine gf_TR_155 rfl d_TR_settleVar_136 h83 ?_
      refine wm_iconst d_TR_settleVar_139 ?_
      refine wm_iald d_TR_settleVar_140 h84 h85 ?_
      refine wm_goto (tgt := 145) d_TR_settleVar_141 rfl ?_
      exact hJ (mI M78 (mR M78 (mR M78 a0 1) 6) 0) (if_neg c81).symm
  clear h
  refine wm_if_ne (tgt := 144) d_TR_settleVar_113 rfl (hO _ _).1 (fun c62 => ?_) (fun c62 => ?_)
  · exact hE0 (Or.inl c62)
  · replace c62 := Classical.not_not.mp c62
    refine wm_aload_n d_TR_settleVar_116 rfl rfl ?_
    refine gf_TR_175 rfl d_TR_settleVar_117 h57 ?_
    refine wm_if_eq (tgt := 144) d_TR_settleVar_120 rfl (hO _ _).1 (fun c61 => ?_) (fun c61 => ?_)
    · exact hE0 (Or.inr c61)
    · exact hE1 (fun z106 => Or.elim z106 (fun w => w c62) c61)
theorem k_TR_settleVar_171 {G : mG} {d : Nat} {a0 : Nat} {l1 : Int} {l2 : Int} {l3 : Int} {M : mM} {Q : mM → Prop} (hO : mOk M) (hi_l1 : i32 l1) (hi_l2 : i32 l2) (hi_l3 : i32 l3)
    (h : mK M a0 = 3 ∧ mK M (mR M a0 0) = 4 ∧ ((mI M (mR M a0 0) 3 = 0) → (mK M (mR M a0 2) = 6 ∧ mK M (mR M (mR M a0 2) 4) = 30 ∧ ((0 : Int) ≤ mI M (mR M a0 2) 3 ∧ mI M (mR M a0 2) 3 < (mN M (mR M (mR M a0 2) 4) : Int)) ∧ ∀ M126, M126 = mUI M (mR M (mR M a0 2) 4) (Int.toNat (mI M (mR M a0 2) 3)) l1 → mK M126 (mR M126 a0 2) = 6 ∧ mK M126 (mR M126 (mR M126 a0 2) 5) = 30 ∧ ((0 : Int) ≤ mI M126 (mR M126 a0 2) 3 ∧ mI M126 (mR M126 a0 2) 3 < (mN M126 (mR M126 (mR M126 a0 2) 5) : Int)) ∧ ∀ M131, M131 = mUI M126 (mR M126 (mR M126 a0 2) 5) (Int.toNat (mI M126 (mR M126 a0 2) 3)) l2 → mK M131 (mR M131 a0 2) = 6 ∧ mK M131 (mR M131 (mR M131 a0 2) 6) = 30 ∧ ((0 : Int) ≤ mI M131 (mR M131 a0 2) 3 ∧ mI M131 (mR M131 a0 2) 3 < (mN M131 (mR M131 (mR M131 a0 2) 6) : Int)) ∧ ∀ M136, M136 = mUI M131 (mR M131 (mR M131 a0 2) 6) (Int.toNat (mI M131 (mR M131 a0 2) 3)) l3 → mK M136 (mR M136 a0 2) = 6 ∧ mK M136 (mR M136 a0 0) = 4 ∧ Cv G y_RR_know d [vr (mR M136 a0 0), vi (mI M136 a0 3), vi 5, vi (mI M136 (mR M136 a0 2) 3), vi (mI M136 a0 8)] M136 (fun M140 => mOk M140 ∧ (mK M140 a0 = 3 ∧ mK M140 (mR M140 a0 2) = 6 ∧ i32 ((mI M140 (mR M140 a0 2) 3) + 1) ∧ ∀ M146, M146 = mUI M140 (mR M140 a0 2) 3 ((mI M140 (mR M140 a0 2) 3) + 1) → mK M146 (mR M146 a0 2) = 6 ∧ ∀ M149, M149 = mUI M146 (mR M146 a0 2) 2 (mI M146 a0 4) → Q M149)))) ∧ (¬ (mI M (mR M a0 0) 3 = 0) → (Q M))) :
    h_TR_settleVar_171 G d a0 l1 l2 l3 M Q := by
  unfold h_TR_settleVar_171
  obtain ⟨h108, h⟩ := h
  obtain ⟨h109, h⟩ := h
  refine wm_aload_n d_TR_settleVar_171 rfl rfl ?_
  refine gf_TR_12 rfl d_TR_settleVar_172 h108 ?_
  refine gf_TR_76 rfl d_TR_settleVar_175 h109 ?_
  refine wm_if_ne (tgt := 276) d_TR_settleVar_178 rfl (hO _ _).1 (fun c122 => ?_) (fun c122 => ?_)
  · replace h := h.2 c122
    refine wm_return d_TR_settleVar_276 rfl ?_
    exact ⟨rfl, h⟩
  · replace c122 := Classical.not_not.mp c122
    replace h := h.1 c122
    obtain ⟨h123, h⟩ := h
    obtain ⟨h124, h⟩ := h
    obtain ⟨h125, h⟩ := h
    obtain ⟨M126, e127⟩ : ∃ M126, M126 = mUI M (mR M (mR M a0 2) 4) (Int.toNat (mI M (mR M a0 2) 3)) l1 := ⟨_, rfl⟩
    replace h := h M126 e127
    obtain ⟨h128, h⟩ := h
    obtain ⟨h129, h⟩ := h
    obtain ⟨h130, h⟩ := h
    obtain ⟨M131, e132⟩ : ∃ M131, M131 = mUI M126 (mR M126 (mR M126 a0 2) 5) (Int.toNat (mI M126 (mR M126 a0 2) 3)) l2 := ⟨_, rfl⟩
    replace h := h M131 e132
    obtain ⟨h133, h⟩ := h
    obtain ⟨h134, h⟩ := h
    obtain ⟨h135, h⟩ := h
    obtain ⟨M136, e137⟩ : ∃ M136, M136 = mUI M131 (mR M131 (mR M131 a0 2) 6) (Int.toNat (mI M131 (mR M131 a0 2) 3)) l3 := ⟨_, rfl⟩
    replace h := h M136 e137
    obtain ⟨h138, h⟩ := h
    obtain ⟨h139, h⟩ := h
    refine wm_aload_n d_TR_settleVar_181 rfl rfl ?_
    refine gf_TR_36 rfl d_TR_settleVar_182 h108 ?_
    refine gf_TR_178 rfl d_TR_settleVar_185 h123 ?_
    refine wm_aload_n d_TR_settleVar_188 rfl rfl ?_
    refine gf_TR_36 rfl d_TR_settleVar_189 h108 ?_
    refine gf_TR_172 rfl d_TR_settleVar_192 h123 ?_
    refine wm_iload_n d_TR_settleVar_195 rfl rfl ?_
    have hOM126 : mOk M126 := by rw [e127]; exact mOk_UI hO hi_l1
    refine wm_iastE d_TR_settleVar_196 h124 h125 hi_l1 e127 ?_
    refine wm_aload_n d_TR_settleVar_197 rfl rfl ?_
    refine gf_TR_36 rfl d_TR_settleVar_198 (by rw [e127]; exact h108) ?_
    refine gf_TR_181 rfl d_TR_settleVar_201 h128 ?_
    refine wm_aload_n d_TR_settleVar_204 rfl rfl ?_
    refine gf_TR_36 rfl d_TR_settleVar_205 (by rw [e127]; exact h108) ?_
    refine gf_TR_172 rfl d_TR_settleVar_208 h128 ?_
    refine wm_iload_n d_TR_settleVar_211 rfl rfl ?_
    have hOM131 : mOk M131 := by rw [e132]; exact mOk_UI hOM126 hi_l2
    refine wm_iastE d_TR_settleVar_212 h129 h130 hi_l2 e132 ?_
    refine wm_aload_n d_TR_settleVar_213 rfl rfl ?_
    refine gf_TR_36 rfl d_TR_settleVar_214 (by rw [e132, e127]; exact h108) ?_
    refine gf_TR_184 rfl d_TR_settleVar_217 h133 ?_
    refine wm_aload_n d_TR_settleVar_220 rfl rfl ?_
    refine gf_TR_36 rfl d_TR_settleVar_221 (by rw [e132, e127]; exact h108) ?_
    refine gf_TR_172 rfl d_TR_settleVar_224 h133 ?_
    refine wm_iload_n d_TR_settleVar_227 rfl rfl ?_
    have hOM136 : mOk M136 := by rw [e137]; exact mOk_UI hOM131 hi_l3
    refine wm_iastE d_TR_settleVar_228 h134 h135 hi_l3 e137 ?_
    refine wm_aload_n d_TR_settleVar_229 rfl rfl ?_
    refine gf_TR_12 rfl d_TR_settleVar_230 (by rw [e137, e132, e127]; exact h108) ?_
    refine wm_aload_n d_TR_settleVar_233 rfl rfl ?_
    refine gf_TR_99 rfl d_TR_settleVar_234 (by rw [e137, e132, e127]; exact h108) ?_
    refine wm_iconst d_TR_settleVar_237 ?_
    refine wm_aload_n d_TR_settleVar_238 rfl rfl ?_
    refine gf_TR_36 rfl d_TR_settleVar_239 (by rw [e137, e132, e127]; exact h108) ?_
    refine gf_TR_172 rfl d_TR_settleVar_242 h138 ?_
    refine wm_aload_n d_TR_settleVar_245 rfl rfl ?_
    refine gf_TR_143 rfl d_TR_settleVar_246 (by rw [e137, e132, e127]; exact h108) ?_
    refine cf_TR_160 rfl d_TR_settleVar_249 h139 (Nat.le_of_ble_eq_true rfl) (Cv.mono h (fun M140 h => ?_))
    obtain ⟨hOM140, h⟩ := h
    obtain ⟨h143, h⟩ := h
    obtain ⟨h144, h⟩ := h
    obtain ⟨h145, h⟩ := h
    obtain ⟨M146, e147⟩ : ∃ M146, M146 = mUI M140 (mR M140 a0 2) 3 ((mI M140 (mR M140 a0 2) 3) + 1) := ⟨_, rfl⟩
    replace h := h M146 e147
    obtain ⟨h148, h⟩ := h
    obtain ⟨M149, e150⟩ : ∃ M149, M149 = mUI M146 (mR M146 a0 2) 2 (mI M146 a0 4) := ⟨_, rfl⟩
    replace h := h M149 e150
    refine wm_aload_n d_TR_settleVar_252 rfl rfl ?_
    refine gf_TR_36 rfl d_TR_settleVar_253 h143 ?_
    refine wm_dup d_TR_settleVar_256 rfl ?_
    refine gf_TR_172 rfl d_TR_settleVar_257 h144 ?_
    refine wm_iconst d_TR_settleVar_260 ?_
    refine wm_iadd d_TR_settleVar_261 ?_
    have hOM146 : mOk M146 := by rw [e147]; exact mOk_UI hOM140 h145
    refine pf_TR_172 rfl d_TR_settleVar_262 h144 h145 e147 ?_
    refine wm_aload_n d_TR_settleVar_265 rfl rfl ?_
    refine gf_TR_36 rfl d_TR_settleVar_266 (by rw [e147]; exact h143) ?_
    refine wm_aload_n d_TR_settleVar_269 rfl rfl ?_
    refine gf_TR_169 rfl d_TR_settleVar_270 (by rw [e147]; exact h143) ?_
    have hOM149 : mOk M149 := by rw [e150]; exact mOk_UI hOM146 (hOM146 _ _).1
    refine pf_TR_116 rfl d_TR_settleVar_273 h148 (hOM146 _ _).1 e150 ?_
    refine wm_return d_TR_settleVar_276 rfl ?_
    exact ⟨rfl, h⟩
theorem d_TR_readTarget_0 : decode y_TR_readTarget.2.1 0 = .ok (.aload_n 0, 1) := by decide +kernel
theorem d_TR_readTarget_1 : decode y_TR_readTarget.2.1 1 = .ok (.getfield 36, 3) := by decide +kernel
theorem d_TR_readTarget_4 : decode y_TR_readTarget.2.1 4 = .ok (.getfield 89, 3) := by decide +kernel
theorem d_TR_readTarget_7 : decode y_TR_readTarget.2.1 7 = .ok (.iconst (-1), 1) := by decide +kernel
theorem d_TR_readTarget_8 : decode y_TR_readTarget.2.1 8 = .ok (.if_icmp .eq 18, 3) := by decide +kernel
theorem d_TR_readTarget_11 : decode y_TR_readTarget.2.1 11 = .ok (.aload_n 0, 1) := by decide +kernel
theorem d_TR_readTarget_12 : decode y_TR_readTarget.2.1 12 = .ok (.getfield 12, 3) := by decide +kernel
theorem d_TR_readTarget_15 : decode y_TR_readTarget.2.1 15 = .ok (.iconst 4, 1) := by decide +kernel
theorem d_TR_readTarget_16 : decode y_TR_readTarget.2.1 16 = .ok (.aload_n 0, 1) := by decide +kernel
theorem d_TR_readTarget_17 : decode y_TR_readTarget.2.1 17 = .ok (.getfield 12, 3) := by decide +kernel
theorem d_TR_readTarget_26 : decode y_TR_readTarget.2.1 26 = .ok (.aload_n 0, 1) := by decide +kernel
theorem d_TR_readTarget_27 : decode y_TR_readTarget.2.1 27 = .ok (.getfield 12, 3) := by decide +kernel
theorem d_TR_readTarget_30 : decode y_TR_readTarget.2.1 30 = .ok (.dup, 1) := by decide +kernel
theorem d_TR_readTarget_31 : decode y_TR_readTarget.2.1 31 = .ok (.getfield 59, 3) := by decide +kernel
theorem d_TR_readTarget_34 : decode y_TR_readTarget.2.1 34 = .ok (.iconst 1, 1) := by decide +kernel
theorem d_TR_readTarget_35 : decode y_TR_readTarget.2.1 35 = .ok (.iadd, 1) := by decide +kernel
theorem d_TR_readTarget_36 : decode y_TR_readTarget.2.1 36 = .ok (.putfield 59, 3) := by decide +kernel
theorem d_TR_readTarget_39 : decode y_TR_readTarget.2.1 39 = .ok (.aload_n 0, 1) := by decide +kernel
theorem d_TR_readTarget_40 : decode y_TR_readTarget.2.1 40 = .ok (.getfield 12, 3) := by decide +kernel
theorem d_TR_readTarget_43 : decode y_TR_readTarget.2.1 43 = .ok (.iconst 0, 1) := by decide +kernel
theorem d_TR_readTarget_44 : decode y_TR_readTarget.2.1 44 = .ok (.putfield 125, 3) := by decide +kernel
theorem d_TR_readTarget_47 : decode y_TR_readTarget.2.1 47 = .ok (.aload_n 0, 1) := by decide +kernel
theorem d_TR_readTarget_48 : decode y_TR_readTarget.2.1 48 = .ok (.iconst 0, 1) := by decide +kernel
theorem d_TR_readTarget_49 : decode y_TR_readTarget.2.1 49 = .ok (.iconst 2, 1) := by decide +kernel
theorem d_TR_readTarget_50 : decode y_TR_readTarget.2.1 50 = .ok (.invokevirtual 136, 3) := by decide +kernel
theorem d_TR_readTarget_53 : decode y_TR_readTarget.2.1 53 = .ok (.ifCond .ne 5, 3) := by decide +kernel
theorem d_TR_readTarget_56 : decode y_TR_readTarget.2.1 56 = .ok (.iconst 0, 1) := by decide +kernel
theorem d_TR_readTarget_57 : decode y_TR_readTarget.2.1 57 = .ok (.ireturn, 1) := by decide +kernel
theorem d_TR_readTarget_58 : decode y_TR_readTarget.2.1 58 = .ok (.aload_n 0, 1) := by decide +kernel
theorem d_TR_readTarget_59 : decode y_TR_readTarget.2.1 59 = .ok (.getfield 36, 3) := by decide +kernel
theorem d_TR_readTarget_62 : decode y_TR_readTarget.2.1 62 = .ok (.aload_n 0, 1) := by decide +kernel
theorem d_TR_readTarget_63 : decode y_TR_readTarget.2.1 63 = .ok (.getfield 25, 3) := by decide +kernel
theorem d_TR_readTarget_66 : decode y_TR_readTarget.2.1 66 = .ok (.iconst 0, 1) := by decide +kernel
theorem d_TR_readTarget_67 : decode y_TR_readTarget.2.1 67 = .ok (.iaload, 1) := by decide +kernel
theorem d_TR_readTarget_68 : decode y_TR_readTarget.2.1 68 = .ok (.putfield 89, 3) := by decide +kernel
theorem d_TR_readTarget_71 : decode y_TR_readTarget.2.1 71 = .ok (.aload_n 0, 1) := by decide +kernel
theorem d_TR_readTarget_72 : decode y_TR_readTarget.2.1 72 = .ok (.getfield 12, 3) := by decide +kernel
theorem d_TR_readTarget_75 : decode y_TR_readTarget.2.1 75 = .ok (.bipush 35, 2) := by decide +kernel
theorem d_TR_readTarget_77 : decode y_TR_readTarget.2.1 77 = .ok (.invokevirtual 102, 3) := by decide +kernel
theorem d_TR_readTarget_80 : decode y_TR_readTarget.2.1 80 = .ok (.ireturn, 1) := by decide +kernel
theorem d_TR_readTarget_20 : decode y_TR_readTarget.2.1 20 = .ok (.invokevirtual 79, 3) := by decide +kernel
theorem d_TR_readTarget_23 : decode y_TR_readTarget.2.1 23 = .ok (.invokevirtual 95, 3) := by decide +kernel
theorem k_TR_readTarget {G : mG} {d : Nat} {a0 : Nat} {M : mM} {Q : Int → mM → Prop} (hO : mOk M)
    (h : mK M a0 = 3 ∧ mK M (mR M a0 2) = 6 ∧ ((mI M (mR M a0 2) 11 = (-1)) → (mK M (mR M a0 0) = 4 ∧ i32 ((mI M (mR M a0 0) 2) + 1) ∧ ∀ M8, M8 = mUI M (mR M a0 0) 2 ((mI M (mR M a0 0) 2) + 1) → mK M8 (mR M8 a0 0) = 4 ∧ ∀ M11, M11 = mUI M8 (mR M8 a0 0) 6 0 → Ci G y_TR_readItemRule d [vr a0, vi 0, vi 2] M11 (fun x14 M13 => i32 x14 ∧ mOk M13 ∧ (((x14 = 0) → (Q 0 M13)) ∧ (¬ (x14 = 0) → (mK M13 a0 = 3 ∧ mK M13 (mR M13 a0 5) = 30 ∧ ((0 : Int) ≤ 0 ∧ 0 < (mN M13 (mR M13 a0 5) : Int)) ∧ mK M13 (mR M13 a0 2) = 6 ∧ ∀ M22, M22 = mUI M13 (mR M13 a0 2) 11 (mI M13 (mR M13 a0 5) 0) → mK M22 (mR M22 a0 0) = 4 ∧ Ci G y_RR_accept d [vr (mR M22 a0 0), vi 35] M22 (fun x26 M25 => i32 x26 ∧ mOk M25 ∧ ((x26 = 0 ∨ x26 = 1) ∧ Q x26 M25)))))))) ∧ (¬ (mI M (mR M a0 2) 11 = (-1)) → (mK M (mR M a0 0) = 4 ∧ Ci G y_RR_here d [vr (mR M a0 0)] M (fun x31 M30 => i32 x31 ∧ mOk M30 ∧ (mK M30 (mR M a0 0) = 4 ∧ Cv G y_RR_note d [vr (mR M a0 0), vi 4, vi x31] M30 (fun M34 => mOk M34 ∧ (mK M34 a0 = 3 ∧ mK M34 (mR M34 a0 0) = 4 ∧ i32 ((mI M34 (mR M34 a0 0) 2) + 1) ∧ ∀ M40, M40 = mUI M34 (mR M34 a0 0) 2 ((mI M34 (mR M34 a0 0) 2) + 1) → mK M40 (mR M40 a0 0) = 4 ∧ ∀ M43, M43 = mUI M40 (mR M40 a0 0) 6 0 → Ci G y_TR_readItemRule d [vr a0, vi 0, vi 2] M43 (fun x46 M45 => i32 x46 ∧ mOk M45 ∧ (((x46 = 0) → (Q 0 M45)) ∧ (¬ (x46 = 0) → (mK M45 a0 = 3 ∧ mK M45 (mR M45 a0 5) = 30 ∧ ((0 : Int) ≤ 0 ∧ 0 < (mN M45 (mR M45 a0 5) : Int)) ∧ mK M45 (mR M45 a0 2) = 6 ∧ ∀ M54, M54 = mUI M45 (mR M45 a0 2) 11 (mI M45 (mR M45 a0 5) 0) → mK M54 (mR M54 a0 0) = 4 ∧ Ci G y_RR_accept d [vr (mR M54 a0 0), vi 35] M54 (fun x58 M57 => i32 x58 ∧ mOk M57 ∧ ((x58 = 0 ∨ x58 = 1) ∧ Q x58 M57))))))))))))) :
    Ci G y_TR_readTarget (d + 1) [vr a0] M Q := by
  refine wm_open (y := y_TR_readTarget) rfl (Nat.le_of_ble_eq_true rfl) (L := [vr a0]) rfl ?_
  obtain ⟨h1, h⟩ := h
  obtain ⟨h2, h⟩ := h
  refine wm_aload_n d_TR_readTarget_0 rfl rfl ?_
  refine gf_TR_36 rfl d_TR_readTarget_1 h1 ?_
  refine gf_TR_89 rfl d_TR_readTarget_4 h2 ?_
  refine wm_iconst d_TR_readTarget_7 ?_
  refine wm_icmp_eq (tgt := 26) d_TR_readTarget_8 rfl (hO _ _).1 ⟨by decide, by decide⟩ (fun c5 => ?_) (fun c5 => ?_)
  · replace h := h.1 c5
    obtain ⟨h6, h⟩ := h
    obtain ⟨h7, h⟩ := h
    obtain ⟨M8, e9⟩ : ∃ M8, M8 = mUI M (mR M a0 0) 2 ((mI M (mR M a0 0) 2) + 1) := ⟨_, rfl⟩
    replace h := h M8 e9
    obtain ⟨h10, h⟩ := h
    obtain ⟨M11, e12⟩ : ∃ M11, M11 = mUI M8 (mR M8 a0 0) 6 0 := ⟨_, rfl⟩
    replace h := h M11 e12
    refine wm_aload_n d_TR_readTarget_26 rfl rfl ?_
    refine gf_TR_12 rfl d_TR_readTarget_27 h1 ?_
    refine wm_dup d_TR_readTarget_30 rfl ?_
    refine gf_TR_59 rfl d_TR_readTarget_31 h6 ?_
    refine wm_iconst d_TR_readTarget_34 ?_
    refine wm_iadd d_TR_readTarget_35 ?_
    have hOM8 : mOk M8 := by rw [e9]; exact mOk_UI hO h7
    refine pf_TR_59 rfl d_TR_readTarget_36 h6 h7 e9 ?_
    refine wm_aload_n d_TR_readTarget_39 rfl rfl ?_
    refine gf_TR_12 rfl d_TR_readTarget_40 (by rw [e9]; exact h1) ?_
    refine wm_iconst d_TR_readTarget_43 ?_
    have hOM11 : mOk M11 := by rw [e12]; exact mOk_UI hOM8 (m_b32 (by decide))
    refine pf_TR_125 rfl d_TR_readTarget_44 h10 (by decide) e12 ?_
    refine wm_aload_n d_TR_readTarget_47 rfl rfl ?_
    refine wm_iconst d_TR_readTarget_48 ?_
    refine wm_iconst d_TR_readTarget_49 ?_
    refine cf_TR_136 rfl d_TR_readTarget_50 (by rw [e12, e9]; exact h1) (Nat.le_of_ble_eq_true rfl) (Ci.mono h (fun x14 M13 h => ?_))
    obtain ⟨h15, hOM13, h⟩ := h
    refine wm_if_ne (tgt := 58) d_TR_readTarget_53 rfl h15 (fun c17 => ?_) (fun c17 => ?_)
    · replace h := h.2 c17
      obtain ⟨h18, h⟩ := h
      obtain ⟨h19, h⟩ := h
      obtain ⟨h20, h⟩ := h
      obtain ⟨h21, h⟩ := h
      obtain ⟨M22, e23⟩ : ∃ M22, M22 = mUI M13 (mR M13 a0 2) 11 (mI M13 (mR M13 a0 5) 0) := ⟨_, rfl⟩
      replace h := h M22 e23
      obtain ⟨h24, h⟩ := h
      refine wm_aload_n d_TR_readTarget_58 rfl rfl ?_
      refine gf_TR_36 rfl d_TR_readTarget_59 h18 ?_
      refine wm_aload_n d_TR_readTarget_62 rfl rfl ?_
      refine gf_TR_25 rfl d_TR_readTarget_63 h18 ?_
      refine wm_iconst d_TR_readTarget_66 ?_
      refine wm_iald d_TR_readTarget_67 h19 h20 ?_
      have hOM22 : mOk M22 := by rw [e23]; exact mOk_UI hOM13 (hOM13 _ _).1
      refine pf_TR_89 rfl d_TR_readTarget_68 h21 (hOM13 _ _).1 e23 ?_
      refine wm_aload_n d_TR_readTarget_71 rfl rfl ?_
      refine gf_TR_12 rfl d_TR_readTarget_72 (by rw [e23]; exact h18) ?_
      refine wm_bipush d_TR_readTarget_75 (by decide) ?_
      refine cf_TR_102 rfl d_TR_readTarget_77 h24 (Nat.le_of_ble_eq_true rfl) (Ci.mono h (fun x26 M25 h => ?_))
      obtain ⟨h27, hOM25, h⟩ := h
      obtain ⟨h28, h⟩ := h
      refine wm_ireturn d_TR_readTarget_80 rfl (m_nb h28) ?_
      exact ⟨_, rfl, h⟩
    · replace c17 := Classical.not_not.mp c17
      replace h := h.1 c17
      refine wm_iconst d_TR_readTarget_56 ?_
      refine wm_ireturn d_TR_readTarget_57 rfl (m_nb (by decide)) ?_
      exact ⟨_, rfl, h⟩
  · replace h := h.2 c5
    obtain ⟨h29, h⟩ := h
    refine wm_aload_n d_TR_readTarget_11 rfl rfl ?_
    refine gf_TR_12 rfl d_TR_readTarget_12 h1 ?_
    refine wm_iconst d_TR_readTarget_15 ?_
    refine wm_aload_n d_TR_readTarget_16 rfl rfl ?_
    refine gf_TR_12 rfl d_TR_readTarget_17 h1 ?_
    refine cf_TR_79 rfl d_TR_readTarget_20 h29 (Nat.le_of_ble_eq_true rfl) (Ci.mono h (fun x31 M30 h => ?_))
    obtain ⟨h32, hOM30, h⟩ := h
    obtain ⟨h33, h⟩ := h
    refine cf_TR_95 rfl d_TR_readTarget_23 h33 (Nat.le_of_ble_eq_true rfl) (Cv.mono h (fun M34 h => ?_))
    obtain ⟨hOM34, h⟩ := h
    obtain ⟨h37, h⟩ := h
    obtain ⟨h38, h⟩ := h
    obtain ⟨h39, h⟩ := h
    obtain ⟨M40, e41⟩ : ∃ M40, M40 = mUI M34 (mR M34 a0 0) 2 ((mI M34 (mR M34 a0 0) 2) + 1) := ⟨_, rfl⟩
    replace h := h M40 e41
    obtain ⟨h42, h⟩ := h
    obtain ⟨M43, e44⟩ : ∃ M43, M43 = mUI M40 (mR M40 a0 0) 6 0 := ⟨_, rfl⟩
    replace h := h M43 e44
    refine wm_aload_n d_TR_readTarget_26 rfl rfl ?_
    refine gf_TR_12 rfl d_TR_readTarget_27 h37 ?_
    refine wm_dup d_TR_readTarget_30 rfl ?_
    refine gf_TR_59 rfl d_TR_readTarget_31 h38 ?_
    refine wm_iconst d_TR_readTarget_34 ?_
    refine wm_iadd d_TR_readTarget_35 ?_
    have hOM40 : mOk M40 := by rw [e41]; exact mOk_UI hOM34 h39
    refine pf_TR_59 rfl d_TR_readTarget_36 h38 h39 e41 ?_
    refine wm_aload_n d_TR_readTarget_39 rfl rfl ?_
    refine gf_TR_12 rfl d_TR_readTarget_40 (by rw [e41]; exact h37) ?_
    refine wm_iconst d_TR_readTarget_43 ?_
    have hOM43 : mOk M43 := by rw [e44]; exact mOk_UI hOM40 (m_b32 (by decide))
    refine pf_TR_125 rfl d_TR_readTarget_44 h42 (by decide) e44 ?_
    refine wm_aload_n d_TR_readTarget_47 rfl rfl ?_
    refine wm_iconst d_TR_readTarget_48 ?_
    refine wm_iconst d_TR_readTarget_49 ?_
    refine cf_TR_136 rfl d_TR_readTarget_50 (by rw [e44, e41]; exact h37) (Nat.le_of_ble_eq_true rfl) (Ci.mono h (fun x46 M45 h => ?_))
    obtain ⟨h47, hOM45, h⟩ := h
    refine wm_if_ne (tgt := 58) d_TR_readTarget_53 rfl h47 (fun c49 => ?_) (fun c49 => ?_)
    · replace h := h.2 c49
      obtain ⟨h50, h⟩ := h
      obtain ⟨h51, h⟩ := h
      obtain ⟨h52, h⟩ := h
      obtain ⟨h53, h⟩ := h
      obtain ⟨M54, e55⟩ : ∃ M54, M54 = mUI M45 (mR M45 a0 2) 11 (mI M45 (mR M45 a0 5) 0) := ⟨_, rfl⟩
      replace h := h M54 e55
      obtain ⟨h56, h⟩ := h
      refine wm_aload_n d_TR_readTarget_58 rfl rfl ?_
      refine gf_TR_36 rfl d_TR_readTarget_59 h50 ?_
      refine wm_aload_n d_TR_readTarget_62 rfl rfl ?_
      refine gf_TR_25 rfl d_TR_readTarget_63 h50 ?_
      refine wm_iconst d_TR_readTarget_66 ?_
      refine wm_iald d_TR_readTarget_67 h51 h52 ?_
      have hOM54 : mOk M54 := by rw [e55]; exact mOk_UI hOM45 (hOM45 _ _).1
      refine pf_TR_89 rfl d_TR_readTarget_68 h53 (hOM45 _ _).1 e55 ?_
      refine wm_aload_n d_TR_readTarget_71 rfl rfl ?_
      refine gf_TR_12 rfl d_TR_readTarget_72 (by rw [e55]; exact h50) ?_
      refine wm_bipush d_TR_readTarget_75 (by decide) ?_
      refine cf_TR_102 rfl d_TR_readTarget_77 h56 (Nat.le_of_ble_eq_true rfl) (Ci.mono h (fun x58 M57 h => ?_))
      obtain ⟨h59, hOM57, h⟩ := h
      obtain ⟨h60, h⟩ := h
      refine wm_ireturn d_TR_readTarget_80 rfl (m_nb h60) ?_
      exact ⟨_, rfl, h⟩
    · replace c49 := Classical.not_not.mp c49
      replace h := h.1 c49
      refine wm_iconst d_TR_readTarget_56 ?_
      refine wm_ireturn d_TR_readTarget_57 rfl (m_nb (by decide)) ?_
      exact ⟨_, rfl, h⟩
