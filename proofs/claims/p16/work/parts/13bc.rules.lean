theorem d_MS_answer_0 : decode y_MS_answer.2.1 0 = .ok (.aload_n 0, 1) := by decide +kernel
theorem d_MS_answer_1 : decode y_MS_answer.2.1 1 = .ok (.iconst 1, 1) := by decide +kernel
theorem d_MS_answer_2 : decode y_MS_answer.2.1 2 = .ok (.invokevirtual 133, 3) := by decide +kernel
theorem d_MS_answer_5 : decode y_MS_answer.2.1 5 = .ok (.aload_n 0, 1) := by decide +kernel
theorem d_MS_answer_6 : decode y_MS_answer.2.1 6 = .ok (.iconst 0, 1) := by decide +kernel
theorem d_MS_answer_7 : decode y_MS_answer.2.1 7 = .ok (.putfield 160, 3) := by decide +kernel
theorem d_MS_answer_10 : decode y_MS_answer.2.1 10 = .ok (.iconst 0, 1) := by decide +kernel
theorem d_MS_answer_11 : decode y_MS_answer.2.1 11 = .ok (.istore_n 1, 1) := by decide +kernel
theorem d_MS_answer_12 : decode y_MS_answer.2.1 12 = .ok (.iload_n 1, 1) := by decide +kernel
theorem d_MS_answer_13 : decode y_MS_answer.2.1 13 = .ok (.aload_n 0, 1) := by decide +kernel
theorem d_MS_answer_14 : decode y_MS_answer.2.1 14 = .ok (.getfield 103, 3) := by decide +kernel
theorem d_MS_answer_17 : decode y_MS_answer.2.1 17 = .ok (.if_icmp .ge 58, 3) := by decide +kernel
theorem d_MS_answer_75 : decode y_MS_answer.2.1 75 = .ok (.iconst 1, 1) := by decide +kernel
theorem d_MS_answer_76 : decode y_MS_answer.2.1 76 = .ok (.istore_n 1, 1) := by decide +kernel
theorem d_MS_answer_20 : decode y_MS_answer.2.1 20 = .ok (.aload_n 0, 1) := by decide +kernel
theorem d_MS_answer_21 : decode y_MS_answer.2.1 21 = .ok (.getfield 63, 3) := by decide +kernel
theorem d_MS_answer_24 : decode y_MS_answer.2.1 24 = .ok (.iload_n 1, 1) := by decide +kernel
theorem d_MS_answer_25 : decode y_MS_answer.2.1 25 = .ok (.baload, 1) := by decide +kernel
theorem d_MS_answer_26 : decode y_MS_answer.2.1 26 = .ok (.ifCond .eq 43, 3) := by decide +kernel
theorem d_MS_answer_29 : decode y_MS_answer.2.1 29 = .ok (.aload_n 0, 1) := by decide +kernel
theorem d_MS_answer_30 : decode y_MS_answer.2.1 30 = .ok (.getfield 16, 3) := by decide +kernel
theorem d_MS_answer_33 : decode y_MS_answer.2.1 33 = .ok (.iload_n 1, 1) := by decide +kernel
theorem d_MS_answer_34 : decode y_MS_answer.2.1 34 = .ok (.iaload, 1) := by decide +kernel
theorem d_MS_answer_35 : decode y_MS_answer.2.1 35 = .ok (.iconst 3, 1) := by decide +kernel
theorem d_MS_answer_36 : decode y_MS_answer.2.1 36 = .ok (.if_icmp .eq 33, 3) := by decide +kernel
theorem d_MS_answer_39 : decode y_MS_answer.2.1 39 = .ok (.aload_n 0, 1) := by decide +kernel
theorem d_MS_answer_40 : decode y_MS_answer.2.1 40 = .ok (.getfield 72, 3) := by decide +kernel
theorem d_MS_answer_43 : decode y_MS_answer.2.1 43 = .ok (.aload_n 0, 1) := by decide +kernel
theorem d_MS_answer_44 : decode y_MS_answer.2.1 44 = .ok (.getfield 160, 3) := by decide +kernel
theorem d_MS_answer_47 : decode y_MS_answer.2.1 47 = .ok (.iload_n 1, 1) := by decide +kernel
theorem d_MS_answer_48 : decode y_MS_answer.2.1 48 = .ok (.iastore, 1) := by decide +kernel
theorem d_MS_answer_49 : decode y_MS_answer.2.1 49 = .ok (.aload_n 0, 1) := by decide +kernel
theorem d_MS_answer_50 : decode y_MS_answer.2.1 50 = .ok (.getfield 75, 3) := by decide +kernel
theorem d_MS_answer_53 : decode y_MS_answer.2.1 53 = .ok (.iload_n 1, 1) := by decide +kernel
theorem d_MS_answer_54 : decode y_MS_answer.2.1 54 = .ok (.aload_n 0, 1) := by decide +kernel
theorem d_MS_answer_55 : decode y_MS_answer.2.1 55 = .ok (.getfield 160, 3) := by decide +kernel
theorem d_MS_answer_58 : decode y_MS_answer.2.1 58 = .ok (.iastore, 1) := by decide +kernel
theorem d_MS_answer_69 : decode y_MS_answer.2.1 69 = .ok (.iinc 1 1, 3) := by decide +kernel
theorem d_MS_answer_72 : decode y_MS_answer.2.1 72 = .ok (.goto (-60), 3) := by decide +kernel
theorem d_MS_answer_59 : decode y_MS_answer.2.1 59 = .ok (.aload_n 0, 1) := by decide +kernel
theorem d_MS_answer_60 : decode y_MS_answer.2.1 60 = .ok (.dup, 1) := by decide +kernel
theorem d_MS_answer_61 : decode y_MS_answer.2.1 61 = .ok (.getfield 160, 3) := by decide +kernel
theorem d_MS_answer_64 : decode y_MS_answer.2.1 64 = .ok (.iconst 1, 1) := by decide +kernel
theorem d_MS_answer_65 : decode y_MS_answer.2.1 65 = .ok (.iadd, 1) := by decide +kernel
theorem d_MS_answer_66 : decode y_MS_answer.2.1 66 = .ok (.putfield 160, 3) := by decide +kernel
theorem d_MS_answer_77 : decode y_MS_answer.2.1 77 = .ok (.iload_n 1, 1) := by decide +kernel
theorem d_MS_answer_78 : decode y_MS_answer.2.1 78 = .ok (.ifCond .eq 52, 3) := by decide +kernel
theorem d_MS_answer_130 : decode y_MS_answer.2.1 130 = .ok (.return_, 1) := by decide +kernel
theorem d_MS_answer_81 : decode y_MS_answer.2.1 81 = .ok (.aload_n 0, 1) := by decide +kernel
theorem d_MS_answer_82 : decode y_MS_answer.2.1 82 = .ok (.invokevirtual 184, 3) := by decide +kernel
theorem d_MS_answer_85 : decode y_MS_answer.2.1 85 = .ok (.iconst 0, 1) := by decide +kernel
theorem d_MS_answer_86 : decode y_MS_answer.2.1 86 = .ok (.istore_n 1, 1) := by decide +kernel
theorem d_MS_answer_87 : decode y_MS_answer.2.1 87 = .ok (.iconst 0, 1) := by decide +kernel
theorem d_MS_answer_88 : decode y_MS_answer.2.1 88 = .ok (.istore_n 2, 1) := by decide +kernel
theorem d_MS_answer_89 : decode y_MS_answer.2.1 89 = .ok (.iload_n 2, 1) := by decide +kernel
theorem d_MS_answer_90 : decode y_MS_answer.2.1 90 = .ok (.aload_n 0, 1) := by decide +kernel
theorem d_MS_answer_91 : decode y_MS_answer.2.1 91 = .ok (.getfield 160, 3) := by decide +kernel
theorem d_MS_answer_94 : decode y_MS_answer.2.1 94 = .ok (.if_icmp .ge 33, 3) := by decide +kernel
theorem d_MS_answer_127 : decode y_MS_answer.2.1 127 = .ok (.goto (-50), 3) := by decide +kernel
theorem d_MS_answer_97 : decode y_MS_answer.2.1 97 = .ok (.aload_n 0, 1) := by decide +kernel
theorem d_MS_answer_98 : decode y_MS_answer.2.1 98 = .ok (.aload_n 0, 1) := by decide +kernel
theorem d_MS_answer_99 : decode y_MS_answer.2.1 99 = .ok (.getfield 72, 3) := by decide +kernel
theorem d_MS_answer_102 : decode y_MS_answer.2.1 102 = .ok (.iload_n 2, 1) := by decide +kernel
theorem d_MS_answer_103 : decode y_MS_answer.2.1 103 = .ok (.iaload, 1) := by decide +kernel
theorem d_MS_answer_104 : decode y_MS_answer.2.1 104 = .ok (.iconst 2, 1) := by decide +kernel
theorem d_MS_answer_105 : decode y_MS_answer.2.1 105 = .ok (.invokevirtual 187, 3) := by decide +kernel
theorem d_MS_answer_108 : decode y_MS_answer.2.1 108 = .ok (.ifCond .ne 7, 3) := by decide +kernel
theorem d_MS_answer_111 : decode y_MS_answer.2.1 111 = .ok (.iload_n 1, 1) := by decide +kernel
theorem d_MS_answer_112 : decode y_MS_answer.2.1 112 = .ok (.ifCond .eq 7, 3) := by decide +kernel
theorem d_MS_answer_119 : decode y_MS_answer.2.1 119 = .ok (.iconst 0, 1) := by decide +kernel
theorem d_MS_answer_115 : decode y_MS_answer.2.1 115 = .ok (.iconst 1, 1) := by decide +kernel
theorem d_MS_answer_116 : decode y_MS_answer.2.1 116 = .ok (.goto 4, 3) := by decide +kernel
theorem d_MS_answer_120 : decode y_MS_answer.2.1 120 = .ok (.istore_n 1, 1) := by decide +kernel
theorem d_MS_answer_121 : decode y_MS_answer.2.1 121 = .ok (.iinc 2 1, 3) := by decide +kernel
theorem d_MS_answer_124 : decode y_MS_answer.2.1 124 = .ok (.goto (-35), 3) := by decide +kernel
def h_MS_answer_12 (G : mG) (d : Nat) (a0 : Nat) (l1 : Int) (M : mM) (Q : mM → Prop) : Prop := mWm G y_MS_answer (d + 1) 12 [vr a0, vi l1, vd] [] M (fun r9 M9 => r9 = none ∧ Q M9)
def h_MS_answer_77 (G : mG) (d : Nat) (a0 : Nat) (l1 : Int) (M : mM) (Q : mM → Prop) : Prop := mWm G y_MS_answer (d + 1) 77 [vr a0, vi l1, vd] [] M (fun r9 M9 => r9 = none ∧ Q M9)
def h_MS_answer_89 (G : mG) (d : Nat) (a0 : Nat) (l1 : Int) (l2 : Int) (M : mM) (Q : mM → Prop) : Prop := mWm G y_MS_answer (d + 1) 89 [vr a0, vi l1, vi l2] [] M (fun r9 M9 => r9 = none ∧ Q M9)
theorem k_MS_answer {G : mG} {d : Nat} {a0 : Nat} {M : mM} {Q : mM → Prop} (hO : mOk M)
    (h : mK M a0 = 17 ∧ Cv G y_MS_grow d [vr a0, vi 1] M (fun M2 => mOk M2 ∧ (mK M2 a0 = 17 ∧ ∀ M6, M6 = mUI M2 a0 24 0 → h_MS_answer_12 G d a0 0 M6 Q))) :
    Cv G y_MS_answer (d + 1) [vr a0] M Q := by
  refine wm_open (y := y_MS_answer) rfl (Nat.le_of_ble_eq_true rfl) (L := [vr a0, vd, vd]) rfl ?_
  obtain ⟨h1, h⟩ := h
  refine wm_aload_n d_MS_answer_0 rfl rfl ?_
  refine wm_iconst d_MS_answer_1 ?_
  refine cf_MS_133 rfl d_MS_answer_2 h1 (Nat.le_of_ble_eq_true rfl) (Cv.mono h (fun M2 h => ?_))
  obtain ⟨hOM2, h⟩ := h
  obtain ⟨h5, h⟩ := h
  obtain ⟨M6, e7⟩ : ∃ M6, M6 = mUI M2 a0 24 0 := ⟨_, rfl⟩
  replace h := h M6 e7
  refine wm_aload_n d_MS_answer_5 rfl rfl ?_
  refine wm_iconst d_MS_answer_6 ?_
  have hOM6 : mOk M6 := by rw [e7]; exact mOk_UI hOM2 ⟨by decide, by decide⟩
  refine pf_MS_160 rfl d_MS_answer_7 h5 ⟨by decide, by decide⟩ e7 ?_
  refine wm_iconst d_MS_answer_10 ?_
  refine wm_istore_n d_MS_answer_11 rfl (by decide) (L' := [vr a0, vi 0, vd]) rfl ?_
  exact h
theorem k_MS_answer_12 {G : mG} {d : Nat} {a0 : Nat} {l1 : Int} {M : mM} {Q : mM → Prop} (hO : mOk M) (hi_l1 : i32 l1)
    (h : mK M a0 = 17 ∧ ((mI M a0 1 ≤ l1) → (h_MS_answer_77 G d a0 1 M Q)) ∧ (¬ (mI M a0 1 ≤ l1) → (mK M (mR M a0 19) = 31 ∧ ((0 : Int) ≤ l1 ∧ l1 < (mN M (mR M a0 19) : Int)) ∧ (¬ (mI M (mR M a0 19) (Int.toNat l1) = 0) → (mK M (mR M a0 4) = 30 ∧ ((0 : Int) ≤ l1 ∧ l1 < (mN M (mR M a0 4) : Int)))) ∧ (((mI M (mR M a0 19) (Int.toNat l1) = 0) ∨ (mI M (mR M a0 4) (Int.toNat l1) = 3)) → (h_MS_answer_12 G d a0 (l1 + 1) M Q)) ∧ (¬ ((mI M (mR M a0 19) (Int.toNat l1) = 0) ∨ (mI M (mR M a0 4) (Int.toNat l1) = 3)) → (mK M (mR M a0 22) = 30 ∧ ((0 : Int) ≤ mI M a0 24 ∧ mI M a0 24 < (mN M (mR M a0 22) : Int)) ∧ ∀ M37, M37 = mUI M (mR M a0 22) (Int.toNat (mI M a0 24)) l1 → mK M37 (mR M37 a0 23) = 30 ∧ ((0 : Int) ≤ l1 ∧ l1 < (mN M37 (mR M37 a0 23) : Int)) ∧ ∀ M41, M41 = mUI M37 (mR M37 a0 23) (Int.toNat l1) (mI M37 a0 24) → i32 ((mI M41 a0 24) + 1) ∧ ∀ M44, M44 = mUI M41 a0 24 ((mI M41 a0 24) + 1) → h_MS_answer_12 G d a0 (l1 + 1) M44 Q))))) :
    h_MS_answer_12 G d a0 l1 M Q := by
  unfold h_MS_answer_12
  obtain ⟨h8, h⟩ := h
  refine wm_iload_n d_MS_answer_12 rfl rfl ?_
  refine wm_aload_n d_MS_answer_13 rfl rfl ?_
  refine gf_MS_103 rfl d_MS_answer_14 h8 ?_
  refine wm_icmp_ge (tgt := 75) d_MS_answer_17 rfl hi_l1 (hO _ _).1 (fun c16 => ?_) (fun c16 => ?_)
  · replace h := h.1 c16
    refine wm_iconst d_MS_answer_75 ?_
    refine wm_istore_n d_MS_answer_76 rfl (by decide) (L' := [vr a0, vi 1, vd]) rfl ?_
    exact h
  · replace h := h.2 c16
    obtain ⟨h17, h⟩ := h
    obtain ⟨h18, h⟩ := h
    refine wm_aload_n d_MS_answer_20 rfl rfl ?_
    refine gf_MS_63 rfl d_MS_answer_21 h8 ?_
    refine wm_iload_n d_MS_answer_24 rfl rfl ?_
    refine wm_zald d_MS_answer_25 h17 h18 ?_
    obtain ⟨s32, h⟩ := h
    have hE0 : ((mI M (mR M a0 19) (Int.toNat l1) = 0) ∨ (mI M (mR M a0 4) (Int.toNat l1) = 3)) → mWm G y_MS_answer (d + 1) 69 [vr a0, vi l1, vd] [] M (fun r9 M9 => r9 = none ∧ Q M9) := by
      intro q33
      have h := h.1 q33
      refine wm_iinc d_MS_answer_69 (by decide) rfl (L' := [vr a0, vi (l1 + 1), vd]) rfl ?_
      refine wm_goto (tgt := 12) d_MS_answer_72 rfl ?_
      exact h
    have hE1 : ¬ ((mI M (mR M a0 19) (Int.toNat l1) = 0) ∨ (mI M (mR M a0 4) (Int.toNat l1) = 3)) → mWm G y_MS_answer (d + 1) 39 [vr a0, vi l1, vd] [] M (fun r9 M9 => r9 = none ∧ Q M9) := by
      intro q34
      have h := h.2 q34
      obtain ⟨h35, h⟩ := h
      obtain ⟨h36, h⟩ := h
      obtain ⟨M37, e38⟩ : ∃ M37, M37 = mUI M (mR M a0 22) (Int.toNat (mI M a0 24)) l1 := ⟨_, rfl⟩
      replace h := h M37 e38
      obtain ⟨h39, h⟩ := h
      obtain ⟨h40, h⟩ := h
      obtain ⟨M41, e42⟩ : ∃ M41, M41 = mUI M37 (mR M37 a0 23) (Int.toNat l1) (mI M37 a0 24) := ⟨_, rfl⟩
      replace h := h M41 e42
      obtain ⟨h43, h⟩ := h
      obtain ⟨M44, e45⟩ : ∃ M44, M44 = mUI M41 a0 24 ((mI M41 a0 24) + 1) := ⟨_, rfl⟩
      replace h := h M44 e45
      refine wm_aload_n d_MS_answer_39 rfl rfl ?_
      refine gf_MS_72 rfl d_MS_answer_40 h8 ?_
      refine wm_aload_n d_MS_answer_43 rfl rfl ?_
      refine gf_MS_160 rfl d_MS_answer_44 h8 ?_
      refine wm_iload_n d_MS_answer_47 rfl rfl ?_
      have hOM37 : mOk M37 := by rw [e38]; exact mOk_UI hO hi_l1
      refine wm_iastE d_MS_answer_48 h35 h36 hi_l1 e38 ?_
      refine wm_aload_n d_MS_answer_49 rfl rfl ?_
      refine gf_MS_75 rfl d_MS_answer_50 (by rw [e38]; exact h8) ?_
      refine wm_iload_n d_MS_answer_53 rfl rfl ?_
      refine wm_aload_n d_MS_answer_54 rfl rfl ?_
      refine gf_MS_160 rfl d_MS_answer_55 (by rw [e38]; exact h8) ?_
      have hOM41 : mOk M41 := by rw [e42]; exact mOk_UI hOM37 (hOM37 _ _).1
      refine wm_iastE d_MS_answer_58 h39 h40 (hOM37 _ _).1 e42 ?_
      refine wm_aload_n d_MS_answer_59 rfl rfl ?_
      refine wm_dup d_MS_answer_60 rfl ?_
      refine gf_MS_160 rfl d_MS_answer_61 (by rw [e42, e38]; exact h8) ?_
      refine wm_iconst d_MS_answer_64 ?_
      refine wm_iadd d_MS_answer_65 ?_
      have hOM44 : mOk M44 := by rw [e45]; exact mOk_UI hOM41 h43
      refine pf_MS_160 rfl d_MS_answer_66 (by rw [e42, e38]; exact h8) h43 e45 ?_
      refine wm_iinc d_MS_answer_69 (by decide) rfl (L' := [vr a0, vi (l1 + 1), vd]) rfl ?_
      refine wm_goto (tgt := 12) d_MS_answer_72 rfl ?_
      exact h
    clear h
    have s46 := s32
    refine wm_if_eq (tgt := 69) d_MS_answer_26 rfl (hO _ _).1 (fun c31 => ?_) (fun c31 => ?_)
    · exact hE0 (Or.inl c31)
    · have s46 := s46 c31
      obtain ⟨h28, h29⟩ := s46
      refine wm_aload_n d_MS_answer_29 rfl rfl ?_
      refine gf_MS_16 rfl d_MS_answer_30 h8 ?_
      refine wm_iload_n d_MS_answer_33 rfl rfl ?_
      refine wm_iald d_MS_answer_34 h28 h29 ?_
      refine wm_iconst d_MS_answer_35 ?_
      refine wm_icmp_eq (tgt := 69) d_MS_answer_36 rfl (hO _ _).1 ⟨by decide, by decide⟩ (fun c30 => ?_) (fun c30 => ?_)
      · exact hE0 (Or.inr c30)
      · exact hE1 (fun z47 => Or.elim z47 c31 c30)
theorem k_MS_answer_77 {G : mG} {d : Nat} {a0 : Nat} {l1 : Int} {M : mM} {Q : mM → Prop} (hO : mOk M) (hi_l1 : i32 l1)
    (h : ((l1 = 0) → (Q M)) ∧ (¬ (l1 = 0) → (mK M a0 = 17 ∧ Cv G y_MS_settle d [vr a0] M (fun M52 => mOk M52 ∧ (h_MS_answer_89 G d a0 0 0 M52 Q))))) :
    h_MS_answer_77 G d a0 l1 M Q := by
  unfold h_MS_answer_77
  refine wm_iload_n d_MS_answer_77 rfl rfl ?_
  refine wm_if_eq (tgt := 130) d_MS_answer_78 rfl hi_l1 (fun c50 => ?_) (fun c50 => ?_)
  · replace h := h.1 c50
    refine wm_return d_MS_answer_130 rfl ?_
    exact ⟨rfl, h⟩
  · replace h := h.2 c50
    obtain ⟨h51, h⟩ := h
    refine wm_aload_n d_MS_answer_81 rfl rfl ?_
    refine cf_MS_184 rfl d_MS_answer_82 h51 (Nat.le_of_ble_eq_true rfl) (Cv.mono h (fun M52 h => ?_))
    obtain ⟨hOM52, h⟩ := h
    refine wm_iconst d_MS_answer_85 ?_
    refine wm_istore_n d_MS_answer_86 rfl (by decide) (L' := [vr a0, vi 0, vd]) rfl ?_
    refine wm_iconst d_MS_answer_87 ?_
    refine wm_istore_n d_MS_answer_88 rfl (by decide) (L' := [vr a0, vi 0, vi 0]) rfl ?_
    exact h
theorem k_MS_answer_89 {G : mG} {d : Nat} {a0 : Nat} {l1 : Int} {l2 : Int} {M : mM} {Q : mM → Prop} (hO : mOk M) (hi_l1 : i32 l1) (hi_l2 : i32 l2)
    (h : mK M a0 = 17 ∧ ((mI M a0 24 ≤ l2) → (h_MS_answer_77 G d a0 l1 M Q)) ∧ (¬ (mI M a0 24 ≤ l2) → (mK M (mR M a0 22) = 30 ∧ ((0 : Int) ≤ l2 ∧ l2 < (mN M (mR M a0 22) : Int)) ∧ Ci G y_MS_improve d [vr a0, vi (mI M (mR M a0 22) (Int.toNat l2)), vi 2] M (fun x61 M60 => i32 x61 ∧ mOk M60 ∧ (∀ v65 : Int, v65 = (if ((x61 = 0) ∧ (l1 = 0)) then 0 else 1) → h_MS_answer_89 G d a0 v65 (l2 + 1) M60 Q))))) :
    h_MS_answer_89 G d a0 l1 l2 M Q := by
  unfold h_MS_answer_89
  obtain ⟨h55, h⟩ := h
  refine wm_iload_n d_MS_answer_89 rfl rfl ?_
  refine wm_aload_n d_MS_answer_90 rfl rfl ?_
  refine gf_MS_160 rfl d_MS_answer_91 h55 ?_
  refine wm_icmp_ge (tgt := 127) d_MS_answer_94 rfl hi_l2 (hO _ _).1 (fun c57 => ?_) (fun c57 => ?_)
  · replace h := h.1 c57
    refine wm_goto (tgt := 77) d_MS_answer_127 rfl ?_
    refine wm_less (L' := [vr a0, vi l1, vd]) ⟨Or.inr rfl, Or.inr rfl, Or.inl rfl, trivial⟩ ?_
    exact h
  · replace h := h.2 c57
    obtain ⟨h58, h⟩ := h
    obtain ⟨h59, h⟩ := h
    refine wm_aload_n d_MS_answer_97 rfl rfl ?_
    refine wm_aload_n d_MS_answer_98 rfl rfl ?_
    refine gf_MS_72 rfl d_MS_answer_99 h55 ?_
    refine wm_iload_n d_MS_answer_102 rfl rfl ?_
    refine wm_iald d_MS_answer_103 h58 h59 ?_
    refine wm_iconst d_MS_answer_104 ?_
    refine cf_MS_187 rfl d_MS_answer_105 h55 (Nat.le_of_ble_eq_true rfl) (Ci.mono h (fun x61 M60 h => ?_))
    obtain ⟨h62, hOM60, h⟩ := h
    have hJ : ∀ v65 : Int, v65 = (if ((x61 = 0) ∧ (l1 = 0)) then 0 else 1) → mWm G y_MS_answer (d + 1) 120 [vr a0, vd, vi l2] [vi v65] M60 (fun r9 M9 => r9 = none ∧ Q M9) := by
      intro v65 e67
      have h := h v65 e67
      have h68 : i32 v65 := by rw [e67]; (repeat' split) <;> first | exact ⟨by decide, by decide⟩ | exact ⟨by decide, by decide⟩
      have h69 : (v65 = 0 ∨ v65 = 1) := by rw [e67]; (repeat' split) <;> decide
      refine wm_istore_n d_MS_answer_120 rfl (by decide) (L' := [vr a0, vi v65, vi l2]) rfl ?_
      refine wm_iinc d_MS_answer_121 (by decide) rfl (L' := [vr a0, vi v65, vi (l2 + 1)]) rfl ?_
      refine wm_goto (tgt := 89) d_MS_answer_124 rfl ?_
      exact h
    clear h
    refine wm_if_ne (tgt := 115) d_MS_answer_108 rfl h62 (fun c63 => ?_) (fun c63 => ?_)
    · refine wm_iconst d_MS_answer_115 ?_
      refine wm_goto (tgt := 120) d_MS_answer_116 rfl ?_
      refine wm_less (L' := [vr a0, vd, vi l2]) ⟨Or.inr rfl, Or.inl rfl, Or.inr rfl, trivial⟩ ?_
      exact hJ 1 (if_neg (fun z72 => c63 z72.1)).symm
    · replace c63 := Classical.not_not.mp c63
      refine wm_iload_n d_MS_answer_111 rfl rfl ?_
      refine wm_if_eq (tgt := 119) d_MS_answer_112 rfl hi_l1 (fun c64 => ?_) (fun c64 => ?_)
      · refine wm_iconst d_MS_answer_119 ?_
        refine wm_less (L' := [vr a0, vd, vi l2]) ⟨Or.inr rfl, Or.inl rfl, Or.inr rfl, trivial⟩ ?_
        exact hJ 0 (if_pos ⟨c63, c64⟩).symm
      · refine wm_iconst d_MS_answer_115 ?_
        refine wm_goto (tgt := 120) d_MS_answer_116 rfl ?_
        refine wm_less (L' := [vr a0, vd, vi l2]) ⟨Or.inr rfl, Or.inl rfl, Or.inr rfl, trivial⟩ ?_
        exact hJ 1 (if_neg (fun z70 => c64 z70.2)).symm
theorem d_MS_improve_0 : decode y_MS_improve.2.1 0 = .ok (.iconst 0, 1) := by decide +kernel
theorem d_MS_improve_1 : decode y_MS_improve.2.1 1 = .ok (.istore_n 3, 1) := by decide +kernel
theorem d_MS_improve_2 : decode y_MS_improve.2.1 2 = .ok (.aload_n 0, 1) := by decide +kernel
theorem d_MS_improve_3 : decode y_MS_improve.2.1 3 = .ok (.getfield 16, 3) := by decide +kernel
theorem d_MS_improve_6 : decode y_MS_improve.2.1 6 = .ok (.iload_n 1, 1) := by decide +kernel
theorem d_MS_improve_7 : decode y_MS_improve.2.1 7 = .ok (.iaload, 1) := by decide +kernel
theorem d_MS_improve_8 : decode y_MS_improve.2.1 8 = .ok (.iload_n 2, 1) := by decide +kernel
theorem d_MS_improve_9 : decode y_MS_improve.2.1 9 = .ok (.if_icmp .ne 85, 3) := by decide +kernel
theorem d_MS_improve_12 : decode y_MS_improve.2.1 12 = .ok (.iload_n 3, 1) := by decide +kernel
theorem d_MS_improve_13 : decode y_MS_improve.2.1 13 = .ok (.aload_n 0, 1) := by decide +kernel
theorem d_MS_improve_14 : decode y_MS_improve.2.1 14 = .ok (.iload_n 1, 1) := by decide +kernel
theorem d_MS_improve_15 : decode y_MS_improve.2.1 15 = .ok (.invokevirtual 116, 3) := by decide +kernel
theorem d_MS_improve_18 : decode y_MS_improve.2.1 18 = .ok (.if_icmp .ge 76, 3) := by decide +kernel
theorem d_MS_improve_21 : decode y_MS_improve.2.1 21 = .ok (.aload_n 0, 1) := by decide +kernel
theorem d_MS_improve_22 : decode y_MS_improve.2.1 22 = .ok (.iload_n 1, 1) := by decide +kernel
theorem d_MS_improve_23 : decode y_MS_improve.2.1 23 = .ok (.iload_n 3, 1) := by decide +kernel
theorem d_MS_improve_94 : decode y_MS_improve.2.1 94 = .ok (.iconst 0, 1) := by decide +kernel
theorem d_MS_improve_95 : decode y_MS_improve.2.1 95 = .ok (.ireturn, 1) := by decide +kernel
theorem d_MS_improve_24 : decode y_MS_improve.2.1 24 = .ok (.invokevirtual 120, 3) := by decide +kernel
theorem d_MS_improve_27 : decode y_MS_improve.2.1 27 = .ok (.ifCond .eq 61, 3) := by decide +kernel
theorem d_MS_improve_30 : decode y_MS_improve.2.1 30 = .ok (.aload_n 0, 1) := by decide +kernel
theorem d_MS_improve_31 : decode y_MS_improve.2.1 31 = .ok (.iload_n 1, 1) := by decide +kernel
theorem d_MS_improve_32 : decode y_MS_improve.2.1 32 = .ok (.iload_n 3, 1) := by decide +kernel
theorem d_MS_improve_33 : decode y_MS_improve.2.1 33 = .ok (.aload_n 0, 1) := by decide +kernel
theorem d_MS_improve_34 : decode y_MS_improve.2.1 34 = .ok (.getfield 69, 3) := by decide +kernel
theorem d_MS_improve_37 : decode y_MS_improve.2.1 37 = .ok (.iconst 0, 1) := by decide +kernel
theorem d_MS_improve_38 : decode y_MS_improve.2.1 38 = .ok (.iconst 1, 1) := by decide +kernel
theorem d_MS_improve_88 : decode y_MS_improve.2.1 88 = .ok (.iinc 3 1, 3) := by decide +kernel
theorem d_MS_improve_91 : decode y_MS_improve.2.1 91 = .ok (.goto (-89), 3) := by decide +kernel
theorem d_MS_improve_39 : decode y_MS_improve.2.1 39 = .ok (.invokevirtual 190, 3) := by decide +kernel
theorem d_MS_improve_42 : decode y_MS_improve.2.1 42 = .ok (.aload_n 0, 1) := by decide +kernel
theorem d_MS_improve_43 : decode y_MS_improve.2.1 43 = .ok (.getfield 10, 3) := by decide +kernel
theorem d_MS_improve_46 : decode y_MS_improve.2.1 46 = .ok (.aload_n 0, 1) := by decide +kernel
theorem d_MS_improve_47 : decode y_MS_improve.2.1 47 = .ok (.getfield 91, 3) := by decide +kernel
theorem d_MS_improve_50 : decode y_MS_improve.2.1 50 = .ok (.aload_n 0, 1) := by decide +kernel
theorem d_MS_improve_51 : decode y_MS_improve.2.1 51 = .ok (.getfield 69, 3) := by decide +kernel
theorem d_MS_improve_54 : decode y_MS_improve.2.1 54 = .ok (.iload_n 1, 1) := by decide +kernel
theorem d_MS_improve_55 : decode y_MS_improve.2.1 55 = .ok (.aaload, 1) := by decide +kernel
theorem d_MS_improve_56 : decode y_MS_improve.2.1 56 = .ok (.invokevirtual 194, 3) := by decide +kernel
theorem d_MS_improve_59 : decode y_MS_improve.2.1 59 = .ok (.istore 4, 2) := by decide +kernel
theorem d_MS_improve_61 : decode y_MS_improve.2.1 61 = .ok (.iload_n 2, 1) := by decide +kernel
theorem d_MS_improve_62 : decode y_MS_improve.2.1 62 = .ok (.iconst 1, 1) := by decide +kernel
theorem d_MS_improve_63 : decode y_MS_improve.2.1 63 = .ok (.if_icmp .ne 11, 3) := by decide +kernel
theorem d_MS_improve_66 : decode y_MS_improve.2.1 66 = .ok (.iload 4, 2) := by decide +kernel
theorem d_MS_improve_74 : decode y_MS_improve.2.1 74 = .ok (.iload 4, 2) := by decide +kernel
theorem d_MS_improve_68 : decode y_MS_improve.2.1 68 = .ok (.ifCond .le 20, 3) := by decide +kernel
theorem d_MS_improve_71 : decode y_MS_improve.2.1 71 = .ok (.goto 8, 3) := by decide +kernel
theorem d_MS_improve_79 : decode y_MS_improve.2.1 79 = .ok (.aload_n 0, 1) := by decide +kernel
theorem d_MS_improve_80 : decode y_MS_improve.2.1 80 = .ok (.getfield 60, 3) := by decide +kernel
theorem d_MS_improve_83 : decode y_MS_improve.2.1 83 = .ok (.iload_n 1, 1) := by decide +kernel
theorem d_MS_improve_84 : decode y_MS_improve.2.1 84 = .ok (.iload_n 3, 1) := by decide +kernel
theorem d_MS_improve_85 : decode y_MS_improve.2.1 85 = .ok (.iastore, 1) := by decide +kernel
theorem d_MS_improve_86 : decode y_MS_improve.2.1 86 = .ok (.iconst 1, 1) := by decide +kernel
theorem d_MS_improve_87 : decode y_MS_improve.2.1 87 = .ok (.ireturn, 1) := by decide +kernel
theorem d_MS_improve_76 : decode y_MS_improve.2.1 76 = .ok (.ifCond .ge 12, 3) := by decide +kernel
def h_MS_improve_2 (G : mG) (d : Nat) (a0 : Nat) (l1 : Int) (l2 : Int) (l3 : Int) (M : mM) (Q : Int → mM → Prop) : Prop := mWm G y_MS_improve (d + 1) 2 [vr a0, vi l1, vi l2, vi l3, vd] [] M (fun r9 M9 => ∃ x9, r9 = some (vi x9) ∧ Q x9 M9)
theorem k_MS_improve {G : mG} {d : Nat} {a0 : Nat} {l1 : Int} {l2 : Int} {M : mM} {Q : Int → mM → Prop} (hO : mOk M) (hi_l1 : i32 l1) (hi_l2 : i32 l2)
    (h : h_MS_improve_2 G d a0 l1 l2 0 M Q) :
    Ci G y_MS_improve (d + 1) [vr a0, vi l1, vi l2] M Q := by
  refine wm_open (y := y_MS_improve) rfl (Nat.le_of_ble_eq_true rfl) (L := [vr a0, vi l1, vi l2, vd, vd]) rfl ?_
  refine wm_iconst d_MS_improve_0 ?_
  refine wm_istore_n d_MS_improve_1 rfl (by decide) (L' := [vr a0, vi l1, vi l2, vi 0, vd]) rfl ?_
  exact h
theorem k_MS_improve_2 {G : mG} {d : Nat} {a0 : Nat} {l1 : Int} {l2 : Int} {l3 : Int} {M : mM} {Q : Int → mM → Prop} (hO : mOk M) (hi_l1 : i32 l1) (hi_l2 : i32 l2) (hi_l3 : i32 l3)
    (h : mK M a0 = 17 ∧ mK M (mR M a0 4) = 30 ∧ ((0 : Int) ≤ l1 ∧ l1 < (mN M (mR M a0 4) : Int)) ∧ ((mI M (mR M a0 4) (Int.toNat l1) = l2) → (Ci G y_MS_many d [vr a0, vi l1] M (fun x7 M6 => i32 x7 ∧ mOk M6 ∧ (((x7 ≤ l3) → (Q 0 M6)) ∧ (¬ (x7 ≤ l3) → (mK M6 a0 = 17 ∧ Ci G y_MS_may d [vr a0, vi l1, vi l3] M6 (fun x13 M12 => i32 x13 ∧ mOk M12 ∧ (((x13 = 0) → (h_MS_improve_2 G d a0 l1 l2 (l3 + 1) M12 Q)) ∧ (¬ (x13 = 0) → (mK M12 a0 = 17 ∧ Cv G y_MS_worthOf d [vr a0, vi l1, vi l3, vr (mR M12 a0 21), vi 0, vi 1] M12 (fun M18 => mOk M18 ∧ (mK M18 a0 = 17 ∧ mK M18 (mR M18 a0 21) = 36 ∧ ((0 : Int) ≤ l1 ∧ l1 < (mN M18 (mR M18 a0 21) : Int)) ∧ mK M18 (mR M18 a0 0) = 18 ∧ Ci G y_MU_compare d [vr (mR M18 a0 0), vr (mR M18 a0 28), vr (mR M18 (mR M18 a0 21) (Int.toNat l1))] M18 (fun x26 M25 => i32 x26 ∧ mOk M25 ∧ (((l2 = 1) → (((x26 ≤ 0) → (h_MS_improve_2 G d a0 l1 l2 (l3 + 1) M25 Q)) ∧ (¬ (x26 ≤ 0) → (mK M25 a0 = 17 ∧ mK M25 (mR M25 a0 18) = 30 ∧ ((0 : Int) ≤ l1 ∧ l1 < (mN M25 (mR M25 a0 18) : Int)) ∧ ∀ M48, M48 = mUI M25 (mR M25 a0 18) (Int.toNat l1) l3 → Q 1 M48)))) ∧ (¬ (l2 = 1) → (((0 ≤ x26) → (h_MS_improve_2 G d a0 l1 l2 (l3 + 1) M25 Q)) ∧ (¬ (0 ≤ x26) → (mK M25 a0 = 17 ∧ mK M25 (mR M25 a0 18) = 30 ∧ ((0 : Int) ≤ l1 ∧ l1 < (mN M25 (mR M25 a0 18) : Int)) ∧ ∀ M55, M55 = mUI M25 (mR M25 a0 18) (Int.toNat l1) l3 → Q 1 M55)))))))))))))))))) ∧ (¬ (mI M (mR M a0 4) (Int.toNat l1) = l2) → (Q 0 M))) :
    h_MS_improve_2 G d a0 l1 l2 l3 M Q := by
  unfold h_MS_improve_2
  obtain ⟨h1, h⟩ := h
  obtain ⟨h2, h⟩ := h
  obtain ⟨h3, h⟩ := h
  refine wm_aload_n d_MS_improve_2 rfl rfl ?_
  refine gf_MS_16 rfl d_MS_improve_3 h1 ?_
  refine wm_iload_n d_MS_improve_6 rfl rfl ?_
  refine wm_iald d_MS_improve_7 h2 h3 ?_
  refine wm_iload_n d_MS_improve_8 rfl rfl ?_
  refine wm_icmp_ne (tgt := 94) d_MS_improve_9 rfl (hO _ _).1 hi_l2 (fun c5 => ?_) (fun c5 => ?_)
  · replace h := h.2 c5
    refine wm_iconst d_MS_improve_94 ?_
    refine wm_ireturn d_MS_improve_95 rfl (m_nb (by decide)) ?_
    exact ⟨_, rfl, h⟩
  · replace c5 := Classical.not_not.mp c5
    replace h := h.1 c5
    refine wm_iload_n d_MS_improve_12 rfl rfl ?_
    refine wm_aload_n d_MS_improve_13 rfl rfl ?_
    refine wm_iload_n d_MS_improve_14 rfl rfl ?_
    refine cf_MS_116 rfl d_MS_improve_15 h1 (Nat.le_of_ble_eq_true rfl) (Ci.mono h (fun x7 M6 h => ?_))
    obtain ⟨h8, hOM6, h⟩ := h
    refine wm_icmp_ge (tgt := 94) d_MS_improve_18 rfl hi_l3 h8 (fun c10 => ?_) (fun c10 => ?_)
    · replace h := h.1 c10
      refine wm_iconst d_MS_improve_94 ?_
      refine wm_ireturn d_MS_improve_95 rfl (m_nb (by decide)) ?_
      exact ⟨_, rfl, h⟩
    · replace h := h.2 c10
      obtain ⟨h11, h⟩ := h
      refine wm_aload_n d_MS_improve_21 rfl rfl ?_
      refine wm_iload_n d_MS_improve_22 rfl rfl ?_
      refine wm_iload_n d_MS_improve_23 rfl rfl ?_
      refine cf_MS_120 rfl d_MS_improve_24 h11 (Nat.le_of_ble_eq_true rfl) (Ci.mono h (fun x13 M12 h => ?_))
      obtain ⟨h14, hOM12, h⟩ := h
      refine wm_if_eq (tgt := 88) d_MS_improve_27 rfl h14 (fun c16 => ?_) (fun c16 => ?_)
      · replace h := h.1 c16
        refine wm_iinc d_MS_improve_88 (by decide) rfl (L' := [vr a0, vi l1, vi l2, vi (l3 + 1), vd]) rfl ?_
        refine wm_goto (tgt := 2) d_MS_improve_91 rfl ?_
        exact h
      · replace h := h.2 c16
        obtain ⟨h17, h⟩ := h
        refine wm_aload_n d_MS_improve_30 rfl rfl ?_
        refine wm_iload_n d_MS_improve_31 rfl rfl ?_
        refine wm_iload_n d_MS_improve_32 rfl rfl ?_
        refine wm_aload_n d_MS_improve_33 rfl rfl ?_
        refine gf_MS_69 rfl d_MS_improve_34 h17 ?_
        refine wm_iconst d_MS_improve_37 ?_
        refine wm_iconst d_MS_improve_38 ?_
        refine cf_MS_190 rfl d_MS_improve_39 h17 (Nat.le_of_ble_eq_true rfl) (Cv.mono h (fun M18 h => ?_))
        obtain ⟨hOM18, h⟩ := h
        obtain ⟨h21, h⟩ := h
        obtain ⟨h22, h⟩ := h
        obtain ⟨h23, h⟩ := h
        obtain ⟨h24, h⟩ := h
        refine wm_aload_n d_MS_improve_42 rfl rfl ?_
        refine gf_MS_10 rfl d_MS_improve_43 h21 ?_
        refine wm_aload_n d_MS_improve_46 rfl rfl ?_
        refine gf_MS_91 rfl d_MS_improve_47 h21 ?_
        refine wm_aload_n d_MS_improve_50 rfl rfl ?_
        refine gf_MS_69 rfl d_MS_improve_51 h21 ?_
        refine wm_iload_n d_MS_improve_54 rfl rfl ?_
        refine wm_aald6 d_MS_improve_55 h22 h23 ?_
        refine cf_MS_194 rfl d_MS_improve_56 h24 (Nat.le_of_ble_eq_true rfl) (Ci.mono h (fun x26 M25 h => ?_))
        obtain ⟨h27, hOM25, h⟩ := h
        refine wm_istore d_MS_improve_59 (by decide) (L' := [vr a0, vi l1, vi l2, vi l3, vi x26]) rfl ?_
        refine wm_iload_n d_MS_improve_61 rfl rfl ?_
        refine wm_iconst d_MS_improve_62 ?_
        refine wm_icmp_ne (tgt := 74) d_MS_improve_63 rfl hi_l2 ⟨by decide, by decide⟩ (fun c39 => ?_) (fun c39 => ?_)
        · replace h := h.2 c39
          refine wm_iload d_MS_improve_74 rfl ?_
          refine wm_if_ge (tgt := 88) d_MS_improve_76 rfl h27 (fun c51 => ?_) (fun c51 => ?_)
          · replace h := h.1 c51
            refine wm_iinc d_MS_improve_88 (by decide) rfl (L' := [vr a0, vi l1, vi l2, vi (l3 + 1), vi x26]) rfl ?_
            refine wm_goto (tgt := 2) d_MS_improve_91 rfl ?_
            refine wm_less (L' := [vr a0, vi l1, vi l2, vi (l3 + 1), vd]) ⟨Or.inr rfl, Or.inr rfl, Or.inr rfl, Or.inr rfl, Or.inl rfl, trivial⟩ ?_
            exact h
          · replace h := h.2 c51
            obtain ⟨h52, h⟩ := h
            obtain ⟨h53, h⟩ := h
            obtain ⟨h54, h⟩ := h
            obtain ⟨M55, e56⟩ : ∃ M55, M55 = mUI M25 (mR M25 a0 18) (Int.toNat l1) l3 := ⟨_, rfl⟩
            replace h := h M55 e56
            refine wm_aload_n d_MS_improve_79 rfl rfl ?_
            refine gf_MS_60 rfl d_MS_improve_80 h52 ?_
            refine wm_iload_n d_MS_improve_83 rfl rfl ?_
            refine wm_iload_n d_MS_improve_84 rfl rfl ?_
            have hOM55 : mOk M55 := by rw [e56]; exact mOk_UI hOM25 hi_l3
            refine wm_iastE d_MS_improve_85 h53 h54 hi_l3 e56 ?_
            refine wm_iconst d_MS_improve_86 ?_
            refine wm_ireturn d_MS_improve_87 rfl (m_nb (by decide)) ?_
            exact ⟨_, rfl, h⟩
        · replace c39 := Classical.not_not.mp c39
          replace h := h.1 c39
          refine wm_iload d_MS_improve_66 rfl ?_
          refine wm_if_le (tgt := 88) d_MS_improve_68 rfl h27 (fun c44 => ?_) (fun c44 => ?_)
          · replace h := h.1 c44
            refine wm_iinc d_MS_improve_88 (by decide) rfl (L' := [vr a0, vi l1, vi l2, vi (l3 + 1), vi x26]) rfl ?_
            refine wm_goto (tgt := 2) d_MS_improve_91 rfl ?_
            refine wm_less (L' := [vr a0, vi l1, vi l2, vi (l3 + 1), vd]) ⟨Or.inr rfl, Or.inr rfl, Or.inr rfl, Or.inr rfl, Or.inl rfl, trivial⟩ ?_
            exact h
          · replace h := h.2 c44
            obtain ⟨h45, h⟩ := h
            obtain ⟨h46, h⟩ := h
            obtain ⟨h47, h⟩ := h
            obtain ⟨M48, e49⟩ : ∃ M48, M48 = mUI M25 (mR M25 a0 18) (Int.toNat l1) l3 := ⟨_, rfl⟩
            replace h := h M48 e49
            refine wm_goto (tgt := 79) d_MS_improve_71 rfl ?_
            refine wm_aload_n d_MS_improve_79 rfl rfl ?_
            refine gf_MS_60 rfl d_MS_improve_80 h45 ?_
            refine wm_iload_n d_MS_improve_83 rfl rfl ?_
            refine wm_iload_n d_MS_improve_84 rfl rfl ?_
            have hOM48 : mOk M48 := by rw [e49]; exact mOk_UI hOM25 hi_l3
            refine wm_iastE d_MS_improve_85 h46 h47 hi_l3 e49 ?_
            refine wm_iconst d_MS_improve_86 ?_
            refine wm_ireturn d_MS_improve_87 rfl (m_nb (by decide)) ?_
            exact ⟨_, rfl, h⟩
theorem d_MS_firstThatMay_0 : decode y_MS_firstThatMay.2.1 0 = .ok (.aload_n 0, 1) := by decide +kernel
theorem d_MS_firstThatMay_1 : decode y_MS_firstThatMay.2.1 1 = .ok (.getfield 113, 3) := by decide +kernel
theorem d_MS_firstThatMay_4 : decode y_MS_firstThatMay.2.1 4 = .ok (.aload_n 0, 1) := by decide +kernel
theorem d_MS_firstThatMay_5 : decode y_MS_firstThatMay.2.1 5 = .ok (.getfield 16, 3) := by decide +kernel
theorem d_MS_firstThatMay_8 : decode y_MS_firstThatMay.2.1 8 = .ok (.iload_n 1, 1) := by decide +kernel
theorem d_MS_firstThatMay_9 : decode y_MS_firstThatMay.2.1 9 = .ok (.iaload, 1) := by decide +kernel
theorem d_MS_firstThatMay_10 : decode y_MS_firstThatMay.2.1 10 = .ok (.if_icmp .ne 12, 3) := by decide +kernel
theorem d_MS_firstThatMay_13 : decode y_MS_firstThatMay.2.1 13 = .ok (.aload_n 0, 1) := by decide +kernel
theorem d_MS_firstThatMay_14 : decode y_MS_firstThatMay.2.1 14 = .ok (.getfield 51, 3) := by decide +kernel
theorem d_MS_firstThatMay_17 : decode y_MS_firstThatMay.2.1 17 = .ok (.iload_n 1, 1) := by decide +kernel
theorem d_MS_firstThatMay_18 : decode y_MS_firstThatMay.2.1 18 = .ok (.iaload, 1) := by decide +kernel
theorem d_MS_firstThatMay_19 : decode y_MS_firstThatMay.2.1 19 = .ok (.goto 4, 3) := by decide +kernel
theorem d_MS_firstThatMay_22 : decode y_MS_firstThatMay.2.1 22 = .ok (.iconst 0, 1) := by decide +kernel
theorem d_MS_firstThatMay_23 : decode y_MS_firstThatMay.2.1 23 = .ok (.ireturn, 1) := by decide +kernel
theorem k_MS_firstThatMay {G : mG} {d : Nat} {a0 : Nat} {l1 : Int} {M : mM} {Q : Int → mM → Prop} (hO : mOk M) (hi_l1 : i32 l1)
    (h : mK M a0 = 17 ∧ mK M (mR M a0 4) = 30 ∧ ((0 : Int) ≤ l1 ∧ l1 < (mN M (mR M a0 4) : Int)) ∧ ((mI M a0 17 = mI M (mR M a0 4) (Int.toNat l1)) → (mK M (mR M a0 14) = 30 ∧ ((0 : Int) ≤ l1 ∧ l1 < (mN M (mR M a0 14) : Int)))) ∧ ∀ v7 : Int, v7 = (if (mI M a0 17 = mI M (mR M a0 4) (Int.toNat l1)) then mI M (mR M a0 14) (Int.toNat l1) else 0) → Q v7 M) :
    Ci G y_MS_firstThatMay d [vr a0, vi l1] M Q := by
  refine wm_open (y := y_MS_firstThatMay) rfl (Nat.le_of_ble_eq_true rfl) (L := [vr a0, vi l1]) rfl ?_
  obtain ⟨h1, h⟩ := h
  obtain ⟨h2, h⟩ := h
  obtain ⟨h3, h⟩ := h
  refine wm_aload_n d_MS_firstThatMay_0 rfl rfl ?_
  refine gf_MS_113 rfl d_MS_firstThatMay_1 h1 ?_
  refine wm_aload_n d_MS_firstThatMay_4 rfl rfl ?_
  refine gf_MS_16 rfl d_MS_firstThatMay_5 h1 ?_
  refine wm_iload_n d_MS_firstThatMay_8 rfl rfl ?_
  refine wm_iald d_MS_firstThatMay_9 h2 h3 ?_
  obtain ⟨s8, h⟩ := h
  have hJ : ∀ v7 : Int, v7 = (if (mI M a0 17 = mI M (mR M a0 4) (Int.toNat l1)) then mI M (mR M a0 14) (Int.toNat l1) else 0) → mWm G y_MS_firstThatMay d 23 [vd, vd] [vi v7] M (fun r9 M9 => ∃ x9, r9 = some (vi x9) ∧ Q x9 M9) := by
    intro v7 e9
    have h := h v7 e9
    refine wm_ireturn d_MS_firstThatMay_23 rfl rfl ?_
    exact ⟨_, rfl, h⟩
  clear h
  have s10 := s8
  refine wm_icmp_ne (tgt := 22) d_MS_firstThatMay_10 rfl (hO _ _).1 (hO _ _).1 (fun c4 => ?_) (fun c4 => ?_)
  · refine wm_iconst d_MS_firstThatMay_22 ?_
    refine wm_less (L' := [vd, vd]) ⟨Or.inl rfl, Or.inl rfl, trivial⟩ ?_
    exact hJ 0 (if_neg c4).symm
  · replace c4 := Classical.not_not.mp c4
    have s10 := s10 c4
    obtain ⟨h5, h6⟩ := s10
    refine wm_aload_n d_MS_firstThatMay_13 rfl rfl ?_
    refine gf_MS_51 rfl d_MS_firstThatMay_14 h1 ?_
    refine wm_iload_n d_MS_firstThatMay_17 rfl rfl ?_
    refine wm_iald d_MS_firstThatMay_18 h5 h6 ?_
    refine wm_goto (tgt := 23) d_MS_firstThatMay_19 rfl ?_
    refine wm_less (L' := [vd, vd]) ⟨Or.inl rfl, Or.inl rfl, trivial⟩ ?_
    exact hJ (mI M (mR M a0 14) (Int.toNat l1)) (if_pos c4).symm
theorem d_MS_work_0 : decode y_MS_work.2.1 0 = .ok (.aload_n 0, 1) := by decide +kernel
theorem d_MS_work_1 : decode y_MS_work.2.1 1 = .ok (.iload_n 1, 1) := by decide +kernel
theorem d_MS_work_2 : decode y_MS_work.2.1 2 = .ok (.putfield 113, 3) := by decide +kernel
theorem d_MS_work_5 : decode y_MS_work.2.1 5 = .ok (.aload_n 0, 1) := by decide +kernel
theorem d_MS_work_6 : decode y_MS_work.2.1 6 = .ok (.getfield 44, 3) := by decide +kernel
theorem d_MS_work_9 : decode y_MS_work.2.1 9 = .ok (.iload_n 2, 1) := by decide +kernel
theorem d_MS_work_10 : decode y_MS_work.2.1 10 = .ok (.iconst 0, 1) := by decide +kernel
theorem d_MS_work_11 : decode y_MS_work.2.1 11 = .ok (.bastore, 1) := by decide +kernel
theorem d_MS_work_12 : decode y_MS_work.2.1 12 = .ok (.aload_n 0, 1) := by decide +kernel
theorem d_MS_work_13 : decode y_MS_work.2.1 13 = .ok (.invokevirtual 198, 3) := by decide +kernel
theorem d_MS_work_16 : decode y_MS_work.2.1 16 = .ok (.istore_n 3, 1) := by decide +kernel
theorem d_MS_work_17 : decode y_MS_work.2.1 17 = .ok (.iload_n 3, 1) := by decide +kernel
theorem d_MS_work_18 : decode y_MS_work.2.1 18 = .ok (.ifCond .eq 5, 3) := by decide +kernel
theorem d_MS_work_23 : decode y_MS_work.2.1 23 = .ok (.iconst 0, 1) := by decide +kernel
theorem d_MS_work_24 : decode y_MS_work.2.1 24 = .ok (.istore 4, 2) := by decide +kernel
theorem d_MS_work_21 : decode y_MS_work.2.1 21 = .ok (.iload_n 3, 1) := by decide +kernel
theorem d_MS_work_22 : decode y_MS_work.2.1 22 = .ok (.ireturn, 1) := by decide +kernel
theorem d_MS_work_26 : decode y_MS_work.2.1 26 = .ok (.iload 4, 2) := by decide +kernel
theorem d_MS_work_28 : decode y_MS_work.2.1 28 = .ok (.aload_n 0, 1) := by decide +kernel
theorem d_MS_work_29 : decode y_MS_work.2.1 29 = .ok (.getfield 103, 3) := by decide +kernel
theorem d_MS_work_32 : decode y_MS_work.2.1 32 = .ok (.if_icmp .ge 22, 3) := by decide +kernel
theorem d_MS_work_54 : decode y_MS_work.2.1 54 = .ok (.iconst 1, 1) := by decide +kernel
theorem d_MS_work_55 : decode y_MS_work.2.1 55 = .ok (.istore 4, 2) := by decide +kernel
theorem d_MS_work_35 : decode y_MS_work.2.1 35 = .ok (.aload_n 0, 1) := by decide +kernel
theorem d_MS_work_36 : decode y_MS_work.2.1 36 = .ok (.getfield 60, 3) := by decide +kernel
theorem d_MS_work_39 : decode y_MS_work.2.1 39 = .ok (.iload 4, 2) := by decide +kernel
theorem d_MS_work_41 : decode y_MS_work.2.1 41 = .ok (.aload_n 0, 1) := by decide +kernel
theorem d_MS_work_42 : decode y_MS_work.2.1 42 = .ok (.iload 4, 2) := by decide +kernel
theorem d_MS_work_44 : decode y_MS_work.2.1 44 = .ok (.invokevirtual 202, 3) := by decide +kernel
theorem d_MS_work_47 : decode y_MS_work.2.1 47 = .ok (.iastore, 1) := by decide +kernel
theorem d_MS_work_48 : decode y_MS_work.2.1 48 = .ok (.iinc 4 1, 3) := by decide +kernel
theorem d_MS_work_51 : decode y_MS_work.2.1 51 = .ok (.goto (-25), 3) := by decide +kernel
theorem d_MS_work_57 : decode y_MS_work.2.1 57 = .ok (.iload 4, 2) := by decide +kernel
theorem d_MS_work_59 : decode y_MS_work.2.1 59 = .ok (.ifCond .eq 45, 3) := by decide +kernel
theorem d_MS_work_104 : decode y_MS_work.2.1 104 = .ok (.iconst 0, 1) := by decide +kernel
theorem d_MS_work_105 : decode y_MS_work.2.1 105 = .ok (.istore 5, 2) := by decide +kernel
theorem d_MS_work_62 : decode y_MS_work.2.1 62 = .ok (.aload_n 0, 1) := by decide +kernel
theorem d_MS_work_63 : decode y_MS_work.2.1 63 = .ok (.invokevirtual 205, 3) := by decide +kernel
theorem d_MS_work_66 : decode y_MS_work.2.1 66 = .ok (.iconst 0, 1) := by decide +kernel
theorem d_MS_work_67 : decode y_MS_work.2.1 67 = .ok (.istore 4, 2) := by decide +kernel
theorem d_MS_work_69 : decode y_MS_work.2.1 69 = .ok (.iconst 0, 1) := by decide +kernel
theorem d_MS_work_70 : decode y_MS_work.2.1 70 = .ok (.istore 5, 2) := by decide +kernel
theorem d_MS_work_72 : decode y_MS_work.2.1 72 = .ok (.iload 5, 2) := by decide +kernel
theorem d_MS_work_74 : decode y_MS_work.2.1 74 = .ok (.aload_n 0, 1) := by decide +kernel
theorem d_MS_work_75 : decode y_MS_work.2.1 75 = .ok (.getfield 103, 3) := by decide +kernel
theorem d_MS_work_78 : decode y_MS_work.2.1 78 = .ok (.if_icmp .ge 23, 3) := by decide +kernel
theorem d_MS_work_81 : decode y_MS_work.2.1 81 = .ok (.iload 4, 2) := by decide +kernel
theorem d_MS_work_83 : decode y_MS_work.2.1 83 = .ok (.ifCond .ne 18, 3) := by decide +kernel
theorem d_MS_work_86 : decode y_MS_work.2.1 86 = .ok (.aload_n 0, 1) := by decide +kernel
theorem d_MS_work_87 : decode y_MS_work.2.1 87 = .ok (.iload 5, 2) := by decide +kernel
theorem d_MS_work_89 : decode y_MS_work.2.1 89 = .ok (.iconst 1, 1) := by decide +kernel
theorem d_MS_work_101 : decode y_MS_work.2.1 101 = .ok (.goto (-44), 3) := by decide +kernel
theorem d_MS_work_90 : decode y_MS_work.2.1 90 = .ok (.invokevirtual 187, 3) := by decide +kernel
theorem d_MS_work_93 : decode y_MS_work.2.1 93 = .ok (.istore 4, 2) := by decide +kernel
theorem d_MS_work_95 : decode y_MS_work.2.1 95 = .ok (.iinc 5 1, 3) := by decide +kernel
theorem d_MS_work_98 : decode y_MS_work.2.1 98 = .ok (.goto (-26), 3) := by decide +kernel
theorem d_MS_work_107 : decode y_MS_work.2.1 107 = .ok (.iload 5, 2) := by decide +kernel
theorem d_MS_work_109 : decode y_MS_work.2.1 109 = .ok (.aload_n 0, 1) := by decide +kernel
theorem d_MS_work_110 : decode y_MS_work.2.1 110 = .ok (.getfield 103, 3) := by decide +kernel
theorem d_MS_work_113 : decode y_MS_work.2.1 113 = .ok (.if_icmp .ge 30, 3) := by decide +kernel
theorem d_MS_work_143 : decode y_MS_work.2.1 143 = .ok (.aload_n 0, 1) := by decide +kernel
theorem d_MS_work_144 : decode y_MS_work.2.1 144 = .ok (.getfield 44, 3) := by decide +kernel
theorem d_MS_work_147 : decode y_MS_work.2.1 147 = .ok (.iload_n 2, 1) := by decide +kernel
theorem d_MS_work_148 : decode y_MS_work.2.1 148 = .ok (.iconst 1, 1) := by decide +kernel
theorem d_MS_work_149 : decode y_MS_work.2.1 149 = .ok (.bastore, 1) := by decide +kernel
theorem d_MS_work_150 : decode y_MS_work.2.1 150 = .ok (.iconst 0, 1) := by decide +kernel
theorem d_MS_work_151 : decode y_MS_work.2.1 151 = .ok (.ireturn, 1) := by decide +kernel
theorem d_MS_work_116 : decode y_MS_work.2.1 116 = .ok (.aload_n 0, 1) := by decide +kernel
theorem d_MS_work_117 : decode y_MS_work.2.1 117 = .ok (.getfield 40, 3) := by decide +kernel
theorem d_MS_work_120 : decode y_MS_work.2.1 120 = .ok (.iconst 3, 1) := by decide +kernel
theorem d_MS_work_121 : decode y_MS_work.2.1 121 = .ok (.iload 5, 2) := by decide +kernel
theorem d_MS_work_123 : decode y_MS_work.2.1 123 = .ok (.imul, 1) := by decide +kernel
theorem d_MS_work_124 : decode y_MS_work.2.1 124 = .ok (.iload_n 2, 1) := by decide +kernel
theorem d_MS_work_125 : decode y_MS_work.2.1 125 = .ok (.iadd, 1) := by decide +kernel
theorem d_MS_work_126 : decode y_MS_work.2.1 126 = .ok (.aaload, 1) := by decide +kernel
theorem d_MS_work_127 : decode y_MS_work.2.1 127 = .ok (.aload_n 0, 1) := by decide +kernel
theorem d_MS_work_128 : decode y_MS_work.2.1 128 = .ok (.getfield 69, 3) := by decide +kernel
theorem d_MS_work_131 : decode y_MS_work.2.1 131 = .ok (.iload 5, 2) := by decide +kernel
theorem d_MS_work_133 : decode y_MS_work.2.1 133 = .ok (.aaload, 1) := by decide +kernel
theorem d_MS_work_134 : decode y_MS_work.2.1 134 = .ok (.invokevirtual 152, 3) := by decide +kernel
theorem d_MS_work_137 : decode y_MS_work.2.1 137 = .ok (.iinc 5 1, 3) := by decide +kernel
theorem d_MS_work_140 : decode y_MS_work.2.1 140 = .ok (.goto (-33), 3) := by decide +kernel
def h_MS_work_26 (G : mG) (d : Nat) (a0 : Nat) (l2 : Int) (l4 : Int) (M : mM) (Q : Int → mM → Prop) : Prop := mWm G y_MS_work (d + 1) 26 [vr a0, vd, vi l2, vd, vi l4, vd] [] M (fun r9 M9 => ∃ x9, r9 = some (vi x9) ∧ Q x9 M9)
def h_MS_work_57 (G : mG) (d : Nat) (a0 : Nat) (l2 : Int) (l4 : Int) (M : mM) (Q : Int → mM → Prop) : Prop := mWm G y_MS_work (d + 1) 57 [vr a0, vd, vi l2, vd, vi l4, vd] [] M (fun r9 M9 => ∃ x9, r9 = some (vi x9) ∧ Q x9 M9)
def h_MS_work_72 (G : mG) (d : Nat) (a0 : Nat) (l2 : Int) (l4 : Int) (l5 : Int) (M : mM) (Q : Int → mM → Prop) : Prop := mWm G y_MS_work (d + 1) 72 [vr a0, vd, vi l2, vd, vi l4, vi l5] [] M (fun r9 M9 => ∃ x9, r9 = some (vi x9) ∧ Q x9 M9)
def h_MS_work_107 (G : mG) (d : Nat) (a0 : Nat) (l2 : Int) (l5 : Int) (M : mM) (Q : Int → mM → Prop) : Prop := mWm G y_MS_work (d + 1) 107 [vr a0, vd, vi l2, vd, vd, vi l5] [] M (fun r9 M9 => ∃ x9, r9 = some (vi x9) ∧ Q x9 M9)
theorem k_MS_work {G : mG} {d : Nat} {a0 : Nat} {l1 : Int} {l2 : Int} {M : mM} {Q : Int → mM → Prop} (hO : mOk M) (hi_l1 : i32 l1) (hi_l2 : i32 l2)
    (h : mK M a0 = 17 ∧ ∀ M2, M2 = mUI M a0 17 l1 → mK M2 (mR M2 a0 12) = 31 ∧ ((0 : Int) ≤ l2 ∧ l2 < (mN M2 (mR M2 a0 12) : Int)) ∧ ∀ M6, M6 = mUI M2 (mR M2 a0 12) (Int.toNat l2) 0 → Ci G y_MS_look d [vr a0] M6 (fun x9 M8 => i32 x9 ∧ mOk M8 ∧ (((x9 = 0) → (h_MS_work_26 G d a0 l2 0 M8 Q)) ∧ (¬ (x9 = 0) → (Q x9 M8))))) :
    Ci G y_MS_work (d + 1) [vr a0, vi l1, vi l2] M Q := by
  refine wm_open (y := y_MS_work) rfl (Nat.le_of_ble_eq_true rfl) (L := [vr a0, vi l1, vi l2, vd, vd, vd]) rfl ?_
  obtain ⟨h1, h⟩ := h
  obtain ⟨M2, e3⟩ : ∃ M2, M2 = mUI M a0 17 l1 := ⟨_, rfl⟩
  replace h := h M2 e3
  obtain ⟨h4, h⟩ := h
  obtain ⟨h5, h⟩ := h
  obtain ⟨M6, e7⟩ : ∃ M6, M6 = mUI M2 (mR M2 a0 12) (Int.toNat l2) 0 := ⟨_, rfl⟩
  replace h := h M6 e7
  refine wm_aload_n d_MS_work_0 rfl rfl ?_
  refine wm_iload_n d_MS_work_1 rfl rfl ?_
  have hOM2 : mOk M2 := by rw [e3]; exact mOk_UI hO hi_l1
  refine pf_MS_113 rfl d_MS_work_2 h1 hi_l1 e3 ?_
  refine wm_aload_n d_MS_work_5 rfl rfl ?_
  refine gf_MS_44 rfl d_MS_work_6 (by rw [e3]; exact h1) ?_
  refine wm_iload_n d_MS_work_9 rfl rfl ?_
  refine wm_iconst d_MS_work_10 ?_
  have hOM6 : mOk M6 := by rw [e7]; exact mOk_UI hOM2 (m_b32 (by decide))
  refine wm_zastE d_MS_work_11 h4 h5 (by decide) e7 ?_
  refine wm_aload_n d_MS_work_12 rfl rfl ?_
  refine cf_MS_198 rfl d_MS_work_13 (by rw [e7, e3]; exact h1) (Nat.le_of_ble_eq_true rfl) (Ci.mono h (fun x9 M8 h => ?_))
  obtain ⟨h10, hOM8, h⟩ := h
  refine wm_istore_n d_MS_work_16 rfl (by decide) (L' := [vr a0, vi l1, vi l2, vi x9, vd, vd]) rfl ?_
  refine wm_iload_n d_MS_work_17 rfl rfl ?_
  refine wm_if_eq (tgt := 23) d_MS_work_18 rfl h10 (fun c12 => ?_) (fun c12 => ?_)
  · replace h := h.1 c12
    refine wm_iconst d_MS_work_23 ?_
    refine wm_istore d_MS_work_24 (by decide) (L' := [vr a0, vi l1, vi l2, vi x9, vi 0, vd]) rfl ?_
    refine wm_less (L' := [vr a0, vd, vi l2, vd, vi 0, vd]) ⟨Or.inr rfl, Or.inl rfl, Or.inr rfl, Or.inl rfl, Or.inr rfl, Or.inl rfl, trivial⟩ ?_
    exact h
  · replace h := h.2 c12
    refine wm_iload_n d_MS_work_21 rfl rfl ?_
    refine wm_ireturn d_MS_work_22 rfl rfl ?_
    exact ⟨_, rfl, h⟩
theorem k_MS_work_26 {G : mG} {d : Nat} {a0 : Nat} {l2 : Int} {l4 : Int} {M : mM} {Q : Int → mM → Prop} (hO : mOk M) (hi_l2 : i32 l2) (hi_l4 : i32 l4)
    (h : mK M a0 = 17 ∧ ((mI M a0 1 ≤ l4) → (h_MS_work_57 G d a0 l2 1 M Q)) ∧ (¬ (mI M a0 1 ≤ l4) → (Ci G y_MS_firstThatMay d [vr a0, vi l4] M (fun x17 M16 => i32 x17 ∧ mOk M16 ∧ (mK M16 (mR M a0 18) = 30 ∧ ((0 : Int) ≤ l4 ∧ l4 < (mN M16 (mR M a0 18) : Int)) ∧ ∀ M21, M21 = mUI M16 (mR M a0 18) (Int.toNat l4) x17 → h_MS_work_26 G d a0 l2 (l4 + 1) M21 Q))))) :
    h_MS_work_26 G d a0 l2 l4 M Q := by
  unfold h_MS_work_26
  obtain ⟨h13, h⟩ := h
  refine wm_iload d_MS_work_26 rfl ?_
  refine wm_aload_n d_MS_work_28 rfl rfl ?_
  refine gf_MS_103 rfl d_MS_work_29 h13 ?_
  refine wm_icmp_ge (tgt := 54) d_MS_work_32 rfl hi_l4 (hO _ _).1 (fun c15 => ?_) (fun c15 => ?_)
  · replace h := h.1 c15
    refine wm_iconst d_MS_work_54 ?_
    refine wm_istore d_MS_work_55 (by decide) (L' := [vr a0, vd, vi l2, vd, vi 1, vd]) rfl ?_
    exact h
  · replace h := h.2 c15
    refine wm_aload_n d_MS_work_35 rfl rfl ?_
    refine gf_MS_60 rfl d_MS_work_36 h13 ?_
    refine wm_iload d_MS_work_39 rfl ?_
    refine wm_aload_n d_MS_work_41 rfl rfl ?_
    refine wm_iload d_MS_work_42 rfl ?_
    refine cf_MS_202 rfl d_MS_work_44 h13 (Nat.le_of_ble_eq_true rfl) (Ci.mono h (fun x17 M16 h => ?_))
    obtain ⟨h18, hOM16, h⟩ := h
    obtain ⟨h19, h⟩ := h
    obtain ⟨h20, h⟩ := h
    obtain ⟨M21, e22⟩ : ∃ M21, M21 = mUI M16 (mR M a0 18) (Int.toNat l4) x17 := ⟨_, rfl⟩
    replace h := h M21 e22
    have hOM21 : mOk M21 := by rw [e22]; exact mOk_UI hOM16 h18
    refine wm_iastE d_MS_work_47 h19 h20 h18 e22 ?_
    refine wm_iinc d_MS_work_48 (by decide) rfl (L' := [vr a0, vd, vi l2, vd, vi (l4 + 1), vd]) rfl ?_
    refine wm_goto (tgt := 26) d_MS_work_51 rfl ?_
    exact h
theorem k_MS_work_57 {G : mG} {d : Nat} {a0 : Nat} {l2 : Int} {l4 : Int} {M : mM} {Q : Int → mM → Prop} (hO : mOk M) (hi_l2 : i32 l2) (hi_l4 : i32 l4)
    (h : ((l4 = 0) → (h_MS_work_107 G d a0 l2 0 M Q)) ∧ (¬ (l4 = 0) → (mK M a0 = 17 ∧ Cv G y_MS_answer d [vr a0] M (fun M26 => mOk M26 ∧ (h_MS_work_72 G d a0 l2 0 0 M26 Q))))) :
    h_MS_work_57 G d a0 l2 l4 M Q := by
  unfold h_MS_work_57
  refine wm_iload d_MS_work_57 rfl ?_
  refine wm_if_eq (tgt := 104) d_MS_work_59 rfl hi_l4 (fun c24 => ?_) (fun c24 => ?_)
  · replace h := h.1 c24
    refine wm_iconst d_MS_work_104 ?_
    refine wm_istore d_MS_work_105 (by decide) (L' := [vr a0, vd, vi l2, vd, vi l4, vi 0]) rfl ?_
    refine wm_less (L' := [vr a0, vd, vi l2, vd, vd, vi 0]) ⟨Or.inr rfl, Or.inl rfl, Or.inr rfl, Or.inl rfl, Or.inl rfl, Or.inr rfl, trivial⟩ ?_
    exact h
  · replace h := h.2 c24
    obtain ⟨h25, h⟩ := h
    refine wm_aload_n d_MS_work_62 rfl rfl ?_
    refine cf_MS_205 rfl d_MS_work_63 h25 (Nat.le_of_ble_eq_true rfl) (Cv.mono h (fun M26 h => ?_))
    obtain ⟨hOM26, h⟩ := h
    refine wm_iconst d_MS_work_66 ?_
    refine wm_istore d_MS_work_67 (by decide) (L' := [vr a0, vd, vi l2, vd, vi 0, vd]) rfl ?_
    refine wm_iconst d_MS_work_69 ?_
    refine wm_istore d_MS_work_70 (by decide) (L' := [vr a0, vd, vi l2, vd, vi 0, vi 0]) rfl ?_
    exact h
theorem k_MS_work_72 {G : mG} {d : Nat} {a0 : Nat} {l2 : Int} {l4 : Int} {l5 : Int} {M : mM} {Q : Int → mM → Prop} (hO : mOk M) (hi_l2 : i32 l2) (hi_l4 : i32 l4) (hi_l5 : i32 l5)
    (h : mK M a0 = 17 ∧ (((mI M a0 1 ≤ l5) ∨ (¬ (l4 = 0))) → (h_MS_work_57 G d a0 l2 l4 M Q)) ∧ (¬ ((mI M a0 1 ≤ l5) ∨ (¬ (l4 = 0))) → (Ci G y_MS_improve d [vr a0, vi l5, vi 1] M (fun x36 M35 => i32 x36 ∧ mOk M35 ∧ (h_MS_work_72 G d a0 l2 x36 (l5 + 1) M35 Q))))) :
    h_MS_work_72 G d a0 l2 l4 l5 M Q := by
  unfold h_MS_work_72
  obtain ⟨h29, h⟩ := h
  refine wm_iload d_MS_work_72 rfl ?_
  refine wm_aload_n d_MS_work_74 rfl rfl ?_
  refine gf_MS_103 rfl d_MS_work_75 h29 ?_
  have hE0 : ((mI M a0 1 ≤ l5) ∨ (¬ (l4 = 0))) → mWm G y_MS_work (d + 1) 101 [vr a0, vd, vi l2, vd, vi l4, vi l5] [] M (fun r9 M9 => ∃ x9, r9 = some (vi x9) ∧ Q x9 M9) := by
    intro q33
    have h := h.1 q33
    refine wm_goto (tgt := 57) d_MS_work_101 rfl ?_
    refine wm_less (L' := [vr a0, vd, vi l2, vd, vi l4, vd]) ⟨Or.inr rfl, Or.inl rfl, Or.inr rfl, Or.inl rfl, Or.inr rfl, Or.inl rfl, trivial⟩ ?_
    exact h
  have hE1 : ¬ ((mI M a0 1 ≤ l5) ∨ (¬ (l4 = 0))) → mWm G y_MS_work (d + 1) 86 [vr a0, vd, vi l2, vd, vi l4, vi l5] [] M (fun r9 M9 => ∃ x9, r9 = some (vi x9) ∧ Q x9 M9) := by
    intro q34
    have h := h.2 q34
    refine wm_aload_n d_MS_work_86 rfl rfl ?_
    refine wm_iload d_MS_work_87 rfl ?_
    refine wm_iconst d_MS_work_89 ?_
    refine cf_MS_187 rfl d_MS_work_90 h29 (Nat.le_of_ble_eq_true rfl) (Ci.mono h (fun x36 M35 h => ?_))
    obtain ⟨h37, hOM35, h⟩ := h
    refine wm_istore d_MS_work_93 (by decide) (L' := [vr a0, vd, vi l2, vd, vi x36, vi l5]) rfl ?_
    refine wm_iinc d_MS_work_95 (by decide) rfl (L' := [vr a0, vd, vi l2, vd, vi x36, vi (l5 + 1)]) rfl ?_
    refine wm_goto (tgt := 72) d_MS_work_98 rfl ?_
    exact h
  clear h
  refine wm_icmp_ge (tgt := 101) d_MS_work_78 rfl hi_l5 (hO _ _).1 (fun c31 => ?_) (fun c31 => ?_)
  · exact hE0 (Or.inl c31)
  · refine wm_iload d_MS_work_81 rfl ?_
    refine wm_if_ne (tgt := 101) d_MS_work_83 rfl hi_l4 (fun c30 => ?_) (fun c30 => ?_)
    · exact hE0 (Or.inr c30)
    · replace c30 := Classical.not_not.mp c30
      exact hE1 (fun z38 => Or.elim z38 c31 (fun z39 => z39 c30))
theorem k_MS_work_107 {G : mG} {d : Nat} {a0 : Nat} {l2 : Int} {l5 : Int} {M : mM} {Q : Int → mM → Prop} (hO : mOk M) (hi_l2 : i32 l2) (hi_l5 : i32 l5)
    (h : mK M a0 = 17 ∧ ((mI M a0 1 ≤ l5) → (mK M (mR M a0 12) = 31 ∧ ((0 : Int) ≤ l2 ∧ l2 < (mN M (mR M a0 12) : Int)) ∧ ∀ M47, M47 = mUI M (mR M a0 12) (Int.toNat l2) 1 → Q 0 M47)) ∧ (¬ (mI M a0 1 ≤ l5) → (mK M (mR M a0 11) = 36 ∧ ((0 : Int) ≤ (3 * l5) + l2 ∧ (3 * l5) + l2 < (mN M (mR M a0 11) : Int)) ∧ mK M (mR M a0 21) = 36 ∧ ((0 : Int) ≤ l5 ∧ l5 < (mN M (mR M a0 21) : Int)) ∧ mK M (mR M (mR M a0 11) (Int.toNat ((3 * l5) + l2))) = 19 ∧ Cv G y_MF_copy d [vr (mR M (mR M a0 11) (Int.toNat ((3 * l5) + l2))), vr (mR M (mR M a0 21) (Int.toNat l5))] M (fun M54 => mOk M54 ∧ (h_MS_work_107 G d a0 l2 (l5 + 1) M54 Q))))) :
    h_MS_work_107 G d a0 l2 l5 M Q := by
  unfold h_MS_work_107
  obtain ⟨h40, h⟩ := h
  refine wm_iload d_MS_work_107 rfl ?_
  refine wm_aload_n d_MS_work_109 rfl rfl ?_
  refine gf_MS_103 rfl d_MS_work_110 h40 ?_
  refine wm_icmp_ge (tgt := 143) d_MS_work_113 rfl hi_l5 (hO _ _).1 (fun c44 => ?_) (fun c44 => ?_)
  · replace h := h.1 c44
    obtain ⟨h45, h⟩ := h
    obtain ⟨h46, h⟩ := h
    obtain ⟨M47, e48⟩ : ∃ M47, M47 = mUI M (mR M a0 12) (Int.toNat l2) 1 := ⟨_, rfl⟩
    replace h := h M47 e48
    refine wm_aload_n d_MS_work_143 rfl rfl ?_
    refine gf_MS_44 rfl d_MS_work_144 h40 ?_
    refine wm_iload_n d_MS_work_147 rfl rfl ?_
    refine wm_iconst d_MS_work_148 ?_
    have hOM47 : mOk M47 := by rw [e48]; exact mOk_UI hO (m_b32 (by decide))
    refine wm_zastE d_MS_work_149 h45 h46 (by decide) e48 ?_
    refine wm_iconst d_MS_work_150 ?_
    refine wm_ireturn d_MS_work_151 rfl rfl ?_
    exact ⟨_, rfl, h⟩
  · replace h := h.2 c44
    obtain ⟨h49, h⟩ := h
    obtain ⟨h50, h⟩ := h
    obtain ⟨h51, h⟩ := h
    obtain ⟨h52, h⟩ := h
    obtain ⟨h53, h⟩ := h
    refine wm_aload_n d_MS_work_116 rfl rfl ?_
    refine gf_MS_40 rfl d_MS_work_117 h40 ?_
    refine wm_iconst d_MS_work_120 ?_
    refine wm_iload d_MS_work_121 rfl ?_
    refine wm_imul d_MS_work_123 ?_
    refine wm_iload_n d_MS_work_124 rfl rfl ?_
    refine wm_iadd d_MS_work_125 ?_
    refine wm_aald6 d_MS_work_126 h49 h50 ?_
    refine wm_aload_n d_MS_work_127 rfl rfl ?_
    refine gf_MS_69 rfl d_MS_work_128 h40 ?_
    refine wm_iload d_MS_work_131 rfl ?_
    refine wm_aald6 d_MS_work_133 h51 h52 ?_
    refine cf_MS_152 rfl d_MS_work_134 h53 (Nat.le_of_ble_eq_true rfl) (Cv.mono h (fun M54 h => ?_))
    obtain ⟨hOM54, h⟩ := h
    refine wm_iinc d_MS_work_137 (by decide) rfl (L' := [vr a0, vd, vi l2, vd, vd, vi (l5 + 1)]) rfl ?_
    refine wm_goto (tgt := 107) d_MS_work_140 rfl ?_
    exact h
theorem d_MS_solve_0 : decode y_MS_solve.2.1 0 = .ok (.aload_n 0, 1) := by decide +kernel
theorem d_MS_solve_1 : decode y_MS_solve.2.1 1 = .ok (.iconst 0, 1) := by decide +kernel
theorem d_MS_solve_2 : decode y_MS_solve.2.1 2 = .ok (.iconst 0, 1) := by decide +kernel
theorem d_MS_solve_3 : decode y_MS_solve.2.1 3 = .ok (.invokevirtual 208, 3) := by decide +kernel
theorem d_MS_solve_6 : decode y_MS_solve.2.1 6 = .ok (.istore_n 1, 1) := by decide +kernel
theorem d_MS_solve_7 : decode y_MS_solve.2.1 7 = .ok (.iload_n 1, 1) := by decide +kernel
theorem d_MS_solve_8 : decode y_MS_solve.2.1 8 = .ok (.ifCond .ne 7, 3) := by decide +kernel
theorem d_MS_solve_11 : decode y_MS_solve.2.1 11 = .ok (.aload_n 0, 1) := by decide +kernel
theorem d_MS_solve_12 : decode y_MS_solve.2.1 12 = .ok (.invokevirtual 212, 3) := by decide +kernel
theorem d_MS_solve_15 : decode y_MS_solve.2.1 15 = .ok (.iload_n 1, 1) := by decide +kernel
theorem d_MS_solve_16 : decode y_MS_solve.2.1 16 = .ok (.ireturn, 1) := by decide +kernel
theorem k_MS_solve {G : mG} {d : Nat} {a0 : Nat} {M : mM} {Q : Int → mM → Prop} (hO : mOk M)
    (h : mK M a0 = 17 ∧ Ci G y_MS_work d [vr a0, vi 0, vi 0] M (fun x3 M2 => i32 x3 ∧ mOk M2 ∧ (((x3 = 0) → (mK M2 a0 = 17 ∧ Cv G y_MS_rank d [vr a0] M2 (fun M9 => mOk M9 ∧ (Q x3 M9)))) ∧ (¬ (x3 = 0) → (Q x3 M2))))) :
    Ci G y_MS_solve (d + 1) [vr a0] M Q := by
  refine wm_open (y := y_MS_solve) rfl (Nat.le_of_ble_eq_true rfl) (L := [vr a0, vd]) rfl ?_
  obtain ⟨h1, h⟩ := h
  refine wm_aload_n d_MS_solve_0 rfl rfl ?_
  refine wm_iconst d_MS_solve_1 ?_
  refine wm_iconst d_MS_solve_2 ?_
  refine cf_MS_208 rfl d_MS_solve_3 h1 (Nat.le_of_ble_eq_true rfl) (Ci.mono h (fun x3 M2 h => ?_))
  obtain ⟨h4, hOM2, h⟩ := h
  refine wm_istore_n d_MS_solve_6 rfl (by decide) (L' := [vr a0, vi x3]) rfl ?_
  refine wm_iload_n d_MS_solve_7 rfl rfl ?_
  refine wm_if_ne (tgt := 15) d_MS_solve_8 rfl h4 (fun c7 => ?_) (fun c7 => ?_)
  · replace h := h.2 c7
    refine wm_iload_n d_MS_solve_15 rfl rfl ?_
    refine wm_ireturn d_MS_solve_16 rfl rfl ?_
    exact ⟨_, rfl, h⟩
  · replace c7 := Classical.not_not.mp c7
    replace h := h.1 c7
    obtain ⟨h8, h⟩ := h
    refine wm_aload_n d_MS_solve_11 rfl rfl ?_
    refine cf_MS_212 rfl d_MS_solve_12 h8 (Nat.le_of_ble_eq_true rfl) (Cv.mono h (fun M9 h => ?_))
    obtain ⟨hOM9, h⟩ := h
    refine wm_iload_n d_MS_solve_15 rfl rfl ?_
    refine wm_ireturn d_MS_solve_16 rfl rfl ?_
    exact ⟨_, rfl, h⟩
theorem d_MS_judge_0 : decode y_MS_judge.2.1 0 = .ok (.aload_n 0, 1) := by decide +kernel
theorem d_MS_judge_1 : decode y_MS_judge.2.1 1 = .ok (.iload_n 1, 1) := by decide +kernel
theorem d_MS_judge_2 : decode y_MS_judge.2.1 2 = .ok (.iconst 2, 1) := by decide +kernel
theorem d_MS_judge_3 : decode y_MS_judge.2.1 3 = .ok (.invokevirtual 208, 3) := by decide +kernel
theorem d_MS_judge_6 : decode y_MS_judge.2.1 6 = .ok (.ireturn, 1) := by decide +kernel
theorem k_MS_judge {G : mG} {d : Nat} {a0 : Nat} {l1 : Int} {M : mM} {Q : Int → mM → Prop} (hO : mOk M) (hi_l1 : i32 l1)
    (h : mK M a0 = 17 ∧ Ci G y_MS_work d [vr a0, vi l1, vi 2] M (fun x3 M2 => i32 x3 ∧ mOk M2 ∧ (Q x3 M2))) :
    Ci G y_MS_judge (d + 1) [vr a0, vi l1] M Q := by
  refine wm_open (y := y_MS_judge) rfl (Nat.le_of_ble_eq_true rfl) (L := [vr a0, vi l1]) rfl ?_
  obtain ⟨h1, h⟩ := h
  refine wm_aload_n d_MS_judge_0 rfl rfl ?_
  refine wm_iload_n d_MS_judge_1 rfl rfl ?_
  refine wm_iconst d_MS_judge_2 ?_
  refine cf_MS_208 rfl d_MS_judge_3 h1 (Nat.le_of_ble_eq_true rfl) (Ci.mono h (fun x3 M2 h => ?_))
  obtain ⟨h4, hOM2, h⟩ := h
  refine wm_ireturn d_MS_judge_6 rfl rfl ?_
  exact ⟨_, rfl, h⟩
theorem d_MS_attains_0 : decode y_MS_attains.2.1 0 = .ok (.aload_n 0, 1) := by decide +kernel
theorem d_MS_attains_1 : decode y_MS_attains.2.1 1 = .ok (.iload_n 1, 1) := by decide +kernel
theorem d_MS_attains_2 : decode y_MS_attains.2.1 2 = .ok (.iload_n 2, 1) := by decide +kernel
theorem d_MS_attains_3 : decode y_MS_attains.2.1 3 = .ok (.aload_n 0, 1) := by decide +kernel
theorem d_MS_attains_4 : decode y_MS_attains.2.1 4 = .ok (.getfield 40, 3) := by decide +kernel
theorem d_MS_attains_7 : decode y_MS_attains.2.1 7 = .ok (.iconst 0, 1) := by decide +kernel
theorem d_MS_attains_8 : decode y_MS_attains.2.1 8 = .ok (.iconst 3, 1) := by decide +kernel
theorem d_MS_attains_9 : decode y_MS_attains.2.1 9 = .ok (.invokevirtual 190, 3) := by decide +kernel
theorem d_MS_attains_12 : decode y_MS_attains.2.1 12 = .ok (.aload_n 0, 1) := by decide +kernel
theorem d_MS_attains_13 : decode y_MS_attains.2.1 13 = .ok (.getfield 10, 3) := by decide +kernel
theorem d_MS_attains_16 : decode y_MS_attains.2.1 16 = .ok (.aload_n 0, 1) := by decide +kernel
theorem d_MS_attains_17 : decode y_MS_attains.2.1 17 = .ok (.getfield 91, 3) := by decide +kernel
theorem d_MS_attains_20 : decode y_MS_attains.2.1 20 = .ok (.aload_n 0, 1) := by decide +kernel
theorem d_MS_attains_21 : decode y_MS_attains.2.1 21 = .ok (.getfield 40, 3) := by decide +kernel
theorem d_MS_attains_24 : decode y_MS_attains.2.1 24 = .ok (.iconst 3, 1) := by decide +kernel
theorem d_MS_attains_25 : decode y_MS_attains.2.1 25 = .ok (.iload_n 1, 1) := by decide +kernel
theorem d_MS_attains_26 : decode y_MS_attains.2.1 26 = .ok (.imul, 1) := by decide +kernel
theorem d_MS_attains_27 : decode y_MS_attains.2.1 27 = .ok (.aaload, 1) := by decide +kernel
theorem d_MS_attains_28 : decode y_MS_attains.2.1 28 = .ok (.invokevirtual 194, 3) := by decide +kernel
theorem d_MS_attains_31 : decode y_MS_attains.2.1 31 = .ok (.ifCond .ne 7, 3) := by decide +kernel
theorem d_MS_attains_34 : decode y_MS_attains.2.1 34 = .ok (.iconst 1, 1) := by decide +kernel
theorem d_MS_attains_35 : decode y_MS_attains.2.1 35 = .ok (.goto 4, 3) := by decide +kernel
theorem d_MS_attains_38 : decode y_MS_attains.2.1 38 = .ok (.iconst 0, 1) := by decide +kernel
theorem d_MS_attains_39 : decode y_MS_attains.2.1 39 = .ok (.ireturn, 1) := by decide +kernel
theorem k_MS_attains {G : mG} {d : Nat} {a0 : Nat} {l1 : Int} {l2 : Int} {M : mM} {Q : Int → mM → Prop} (hO : mOk M) (hi_l1 : i32 l1) (hi_l2 : i32 l2)
    (h : mK M a0 = 17 ∧ Cv G y_MS_worthOf d [vr a0, vi l1, vi l2, vr (mR M a0 11), vi 0, vi 3] M (fun M2 => mOk M2 ∧ (mK M2 a0 = 17 ∧ mK M2 (mR M2 a0 11) = 36 ∧ ((0 : Int) ≤ 3 * l1 ∧ 3 * l1 < (mN M2 (mR M2 a0 11) : Int)) ∧ mK M2 (mR M2 a0 0) = 18 ∧ Ci G y_MU_compare d [vr (mR M2 a0 0), vr (mR M2 a0 28), vr (mR M2 (mR M2 a0 11) (Int.toNat (3 * l1)))] M2 (fun x10 M9 => i32 x10 ∧ mOk M9 ∧ (∀ v13 : Int, v13 = (if (x10 = 0) then 1 else 0) → Q v13 M9))))) :
    Ci G y_MS_attains (d + 1) [vr a0, vi l1, vi l2] M Q := by
  refine wm_open (y := y_MS_attains) rfl (Nat.le_of_ble_eq_true rfl) (L := [vr a0, vi l1, vi l2]) rfl ?_
  obtain ⟨h1, h⟩ := h
  refine wm_aload_n d_MS_attains_0 rfl rfl ?_
  refine wm_iload_n d_MS_attains_1 rfl rfl ?_
  refine wm_iload_n d_MS_attains_2 rfl rfl ?_
  refine wm_aload_n d_MS_attains_3 rfl rfl ?_
  refine gf_MS_40 rfl d_MS_attains_4 h1 ?_
  refine wm_iconst d_MS_attains_7 ?_
  refine wm_iconst d_MS_attains_8 ?_
  refine cf_MS_190 rfl d_MS_attains_9 h1 (Nat.le_of_ble_eq_true rfl) (Cv.mono h (fun M2 h => ?_))
  obtain ⟨hOM2, h⟩ := h
  obtain ⟨h5, h⟩ := h
  obtain ⟨h6, h⟩ := h
  obtain ⟨h7, h⟩ := h
  obtain ⟨h8, h⟩ := h
  refine wm_aload_n d_MS_attains_12 rfl rfl ?_
  refine gf_MS_10 rfl d_MS_attains_13 h5 ?_
  refine wm_aload_n d_MS_attains_16 rfl rfl ?_
  refine gf_MS_91 rfl d_MS_attains_17 h5 ?_
  refine wm_aload_n d_MS_attains_20 rfl rfl ?_
  refine gf_MS_40 rfl d_MS_attains_21 h5 ?_
  refine wm_iconst d_MS_attains_24 ?_
  refine wm_iload_n d_MS_attains_25 rfl rfl ?_
  refine wm_imul d_MS_attains_26 ?_
  refine wm_aald6 d_MS_attains_27 h6 h7 ?_
  refine cf_MS_194 rfl d_MS_attains_28 h8 (Nat.le_of_ble_eq_true rfl) (Ci.mono h (fun x10 M9 h => ?_))
  obtain ⟨h11, hOM9, h⟩ := h
  have hJ : ∀ v13 : Int, v13 = (if (x10 = 0) then 1 else 0) → mWm G y_MS_attains (d + 1) 39 [vd, vd, vd] [vi v13] M9 (fun r9 M9 => ∃ x9, r9 = some (vi x9) ∧ Q x9 M9) := by
    intro v13 e15
    have h := h v13 e15
    have h16 : i32 v13 := by rw [e15]; (repeat' split) <;> first | exact ⟨by decide, by decide⟩ | exact ⟨by decide, by decide⟩
    have h17 : (v13 = 0 ∨ v13 = 1) := by rw [e15]; (repeat' split) <;> decide
    refine wm_ireturn d_MS_attains_39 rfl (m_nb h17) ?_
    exact ⟨_, rfl, h⟩
  clear h
  refine wm_if_ne (tgt := 38) d_MS_attains_31 rfl h11 (fun c12 => ?_) (fun c12 => ?_)
  · refine wm_iconst d_MS_attains_38 ?_
    refine wm_less (L' := [vd, vd, vd]) ⟨Or.inl rfl, Or.inl rfl, Or.inl rfl, trivial⟩ ?_
    exact hJ 0 (if_neg c12).symm
  · replace c12 := Classical.not_not.mp c12
    refine wm_iconst d_MS_attains_34 ?_
    refine wm_goto (tgt := 39) d_MS_attains_35 rfl ?_
    refine wm_less (L' := [vd, vd, vd]) ⟨Or.inl rfl, Or.inl rfl, Or.inl rfl, trivial⟩ ?_
    exact hJ 1 (if_pos c12).symm
theorem d_MS_leadsBelow_0 : decode y_MS_leadsBelow.2.1 0 = .ok (.aload_n 0, 1) := by decide +kernel
theorem d_MS_leadsBelow_1 : decode y_MS_leadsBelow.2.1 1 = .ok (.getfield 20, 3) := by decide +kernel
theorem d_MS_leadsBelow_4 : decode y_MS_leadsBelow.2.1 4 = .ok (.iload_n 1, 1) := by decide +kernel
theorem d_MS_leadsBelow_5 : decode y_MS_leadsBelow.2.1 5 = .ok (.iaload, 1) := by decide +kernel
theorem d_MS_leadsBelow_6 : decode y_MS_leadsBelow.2.1 6 = .ok (.iload_n 2, 1) := by decide +kernel
theorem d_MS_leadsBelow_7 : decode y_MS_leadsBelow.2.1 7 = .ok (.iadd, 1) := by decide +kernel
theorem d_MS_leadsBelow_8 : decode y_MS_leadsBelow.2.1 8 = .ok (.istore 4, 2) := by decide +kernel
theorem d_MS_leadsBelow_10 : decode y_MS_leadsBelow.2.1 10 = .ok (.iconst 0, 1) := by decide +kernel
theorem d_MS_leadsBelow_11 : decode y_MS_leadsBelow.2.1 11 = .ok (.istore 5, 2) := by decide +kernel
theorem d_MS_leadsBelow_13 : decode y_MS_leadsBelow.2.1 13 = .ok (.aload_n 0, 1) := by decide +kernel
theorem d_MS_leadsBelow_14 : decode y_MS_leadsBelow.2.1 14 = .ok (.getfield 26, 3) := by decide +kernel
theorem d_MS_leadsBelow_17 : decode y_MS_leadsBelow.2.1 17 = .ok (.iload 4, 2) := by decide +kernel
theorem d_MS_leadsBelow_19 : decode y_MS_leadsBelow.2.1 19 = .ok (.iaload, 1) := by decide +kernel
theorem d_MS_leadsBelow_20 : decode y_MS_leadsBelow.2.1 20 = .ok (.istore 6, 2) := by decide +kernel
theorem d_MS_leadsBelow_22 : decode y_MS_leadsBelow.2.1 22 = .ok (.iload 6, 2) := by decide +kernel
theorem d_MS_leadsBelow_24 : decode y_MS_leadsBelow.2.1 24 = .ok (.aload_n 0, 1) := by decide +kernel
theorem d_MS_leadsBelow_25 : decode y_MS_leadsBelow.2.1 25 = .ok (.getfield 26, 3) := by decide +kernel
theorem d_MS_leadsBelow_28 : decode y_MS_leadsBelow.2.1 28 = .ok (.iload 4, 2) := by decide +kernel
theorem d_MS_leadsBelow_30 : decode y_MS_leadsBelow.2.1 30 = .ok (.iconst 1, 1) := by decide +kernel
theorem d_MS_leadsBelow_31 : decode y_MS_leadsBelow.2.1 31 = .ok (.iadd, 1) := by decide +kernel
theorem d_MS_leadsBelow_32 : decode y_MS_leadsBelow.2.1 32 = .ok (.iaload, 1) := by decide +kernel
theorem d_MS_leadsBelow_33 : decode y_MS_leadsBelow.2.1 33 = .ok (.if_icmp .ge 46, 3) := by decide +kernel
theorem d_MS_leadsBelow_79 : decode y_MS_leadsBelow.2.1 79 = .ok (.iload 5, 2) := by decide +kernel
theorem d_MS_leadsBelow_81 : decode y_MS_leadsBelow.2.1 81 = .ok (.ireturn, 1) := by decide +kernel
theorem d_MS_leadsBelow_36 : decode y_MS_leadsBelow.2.1 36 = .ok (.aload_n 0, 1) := by decide +kernel
theorem d_MS_leadsBelow_37 : decode y_MS_leadsBelow.2.1 37 = .ok (.getfield 57, 3) := by decide +kernel
theorem d_MS_leadsBelow_40 : decode y_MS_leadsBelow.2.1 40 = .ok (.aload_n 0, 1) := by decide +kernel
theorem d_MS_leadsBelow_41 : decode y_MS_leadsBelow.2.1 41 = .ok (.getfield 29, 3) := by decide +kernel
theorem d_MS_leadsBelow_44 : decode y_MS_leadsBelow.2.1 44 = .ok (.iload 6, 2) := by decide +kernel
theorem d_MS_leadsBelow_46 : decode y_MS_leadsBelow.2.1 46 = .ok (.iaload, 1) := by decide +kernel
theorem d_MS_leadsBelow_47 : decode y_MS_leadsBelow.2.1 47 = .ok (.iaload, 1) := by decide +kernel
theorem d_MS_leadsBelow_48 : decode y_MS_leadsBelow.2.1 48 = .ok (.istore 7, 2) := by decide +kernel
theorem d_MS_leadsBelow_50 : decode y_MS_leadsBelow.2.1 50 = .ok (.iload 5, 2) := by decide +kernel
theorem d_MS_leadsBelow_52 : decode y_MS_leadsBelow.2.1 52 = .ok (.ifCond .ne 14, 3) := by decide +kernel
theorem d_MS_leadsBelow_55 : decode y_MS_leadsBelow.2.1 55 = .ok (.iload 7, 2) := by decide +kernel
theorem d_MS_leadsBelow_57 : decode y_MS_leadsBelow.2.1 57 = .ok (.ifCond .lt 13, 3) := by decide +kernel
theorem d_MS_leadsBelow_70 : decode y_MS_leadsBelow.2.1 70 = .ok (.iconst 0, 1) := by decide +kernel
theorem d_MS_leadsBelow_60 : decode y_MS_leadsBelow.2.1 60 = .ok (.iload 7, 2) := by decide +kernel
theorem d_MS_leadsBelow_62 : decode y_MS_leadsBelow.2.1 62 = .ok (.iload_n 3, 1) := by decide +kernel
theorem d_MS_leadsBelow_63 : decode y_MS_leadsBelow.2.1 63 = .ok (.if_icmp .ge 7, 3) := by decide +kernel
theorem d_MS_leadsBelow_66 : decode y_MS_leadsBelow.2.1 66 = .ok (.iconst 1, 1) := by decide +kernel
theorem d_MS_leadsBelow_67 : decode y_MS_leadsBelow.2.1 67 = .ok (.goto 4, 3) := by decide +kernel
theorem d_MS_leadsBelow_71 : decode y_MS_leadsBelow.2.1 71 = .ok (.istore 5, 2) := by decide +kernel
theorem d_MS_leadsBelow_73 : decode y_MS_leadsBelow.2.1 73 = .ok (.iinc 6 1, 3) := by decide +kernel
theorem d_MS_leadsBelow_76 : decode y_MS_leadsBelow.2.1 76 = .ok (.goto (-54), 3) := by decide +kernel
def h_MS_leadsBelow_22 (G : mG) (d : Nat) (a0 : Nat) (l3 : Int) (l4 : Int) (l5 : Int) (l6 : Int) (M : mM) (Q : Int → mM → Prop) : Prop := mWm G y_MS_leadsBelow d 22 [vr a0, vd, vd, vi l3, vi l4, vi l5, vi l6, vd] [] M (fun r9 M9 => ∃ x9, r9 = some (vi x9) ∧ Q x9 M9)
theorem k_MS_leadsBelow {G : mG} {d : Nat} {a0 : Nat} {l1 : Int} {l2 : Int} {l3 : Int} {M : mM} {Q : Int → mM → Prop} (hO : mOk M) (hi_l1 : i32 l1) (hi_l2 : i32 l2) (hi_l3 : i32 l3)
    (h : mK M a0 = 17 ∧ mK M (mR M a0 5) = 30 ∧ ((0 : Int) ≤ l1 ∧ l1 < (mN M (mR M a0 5) : Int)) ∧ mK M (mR M a0 7) = 30 ∧ ((0 : Int) ≤ (mI M (mR M a0 5) (Int.toNat l1)) + l2 ∧ (mI M (mR M a0 5) (Int.toNat l1)) + l2 < (mN M (mR M a0 7) : Int)) ∧ h_MS_leadsBelow_22 G d a0 l3 ((mI M (mR M a0 5) (Int.toNat l1)) + l2) 0 (mI M (mR M a0 7) (Int.toNat ((mI M (mR M a0 5) (Int.toNat l1)) + l2))) M Q) :
    Ci G y_MS_leadsBelow d [vr a0, vi l1, vi l2, vi l3] M Q := by
  refine wm_open (y := y_MS_leadsBelow) rfl (Nat.le_of_ble_eq_true rfl) (L := [vr a0, vi l1, vi l2, vi l3, vd, vd, vd, vd]) rfl ?_
  obtain ⟨h1, h⟩ := h
  obtain ⟨h2, h⟩ := h
  obtain ⟨h3, h⟩ := h
  obtain ⟨h4, h⟩ := h
  obtain ⟨h5, h⟩ := h
  refine wm_aload_n d_MS_leadsBelow_0 rfl rfl ?_
  refine gf_MS_20 rfl d_MS_leadsBelow_1 h1 ?_
  refine wm_iload_n d_MS_leadsBelow_4 rfl rfl ?_
  refine wm_iald d_MS_leadsBelow_5 h2 h3 ?_
  refine wm_iload_n d_MS_leadsBelow_6 rfl rfl ?_
  refine wm_iadd d_MS_leadsBelow_7 ?_
  refine wm_istore d_MS_leadsBelow_8 (by decide) (L' := [vr a0, vi l1, vi l2, vi l3, vi ((mI M (mR M a0 5) (Int.toNat l1)) + l2), vd, vd, vd]) rfl ?_
  refine wm_iconst d_MS_leadsBelow_10 ?_
  refine wm_istore d_MS_leadsBelow_11 (by decide) (L' := [vr a0, vi l1, vi l2, vi l3, vi ((mI M (mR M a0 5) (Int.toNat l1)) + l2), vi 0, vd, vd]) rfl ?_
  refine wm_aload_n d_MS_leadsBelow_13 rfl rfl ?_
  refine gf_MS_26 rfl d_MS_leadsBelow_14 h1 ?_
  refine wm_iload d_MS_leadsBelow_17 rfl ?_
  refine wm_iald d_MS_leadsBelow_19 h4 h5 ?_
  refine wm_istore d_MS_leadsBelow_20 (by decide) (L' := [vr a0, vi l1, vi l2, vi l3, vi ((mI M (mR M a0 5) (Int.toNat l1)) + l2), vi 0, vi (mI M (mR M a0 7) (Int.toNat ((mI M (mR M a0 5) (Int.toNat l1)) + l2))), vd]) rfl ?_
  refine wm_less (L' := [vr a0, vd, vd, vi l3, vi ((mI M (mR M a0 5) (Int.toNat l1)) + l2), vi 0, vi (mI M (mR M a0 7) (Int.toNat ((mI M (mR M a0 5) (Int.toNat l1)) + l2))), vd]) ⟨Or.inr rfl, Or.inl rfl, Or.inl rfl, Or.inr rfl, Or.inr rfl, Or.inr rfl, Or.inr rfl, Or.inl rfl, trivial⟩ ?_
  exact h
theorem k_MS_leadsBelow_22 {G : mG} {d : Nat} {a0 : Nat} {l3 : Int} {l4 : Int} {l5 : Int} {l6 : Int} {M : mM} {Q : Int → mM → Prop} (hO : mOk M) (hi_l3 : i32 l3) (hi_l4 : i32 l4) (hi_l5 : i32 l5) (hi_l6 : i32 l6)
    (h : mK M a0 = 17 ∧ mK M (mR M a0 7) = 30 ∧ ((0 : Int) ≤ l4 + 1 ∧ l4 + 1 < (mN M (mR M a0 7) : Int)) ∧ ((mI M (mR M a0 7) (Int.toNat (l4 + 1)) ≤ l6) → ((l5 = 0 ∨ l5 = 1) ∧ Q l5 M)) ∧ (¬ (mI M (mR M a0 7) (Int.toNat (l4 + 1)) ≤ l6) → (mK M (mR M a0 8) = 30 ∧ ((0 : Int) ≤ l6 ∧ l6 < (mN M (mR M a0 8) : Int)) ∧ mK M (mR M a0 16) = 30 ∧ ((0 : Int) ≤ mI M (mR M a0 8) (Int.toNat l6) ∧ mI M (mR M a0 8) (Int.toNat l6) < (mN M (mR M a0 16) : Int)) ∧ ∀ v24 : Int, v24 = (if ((l5 = 0) ∧ ((mI M (mR M a0 16) (Int.toNat (mI M (mR M a0 8) (Int.toNat l6))) < 0) ∨ (l3 ≤ mI M (mR M a0 16) (Int.toNat (mI M (mR M a0 8) (Int.toNat l6)))))) then 0 else 1) → h_MS_leadsBelow_22 G d a0 l3 l4 v24 (l6 + 1) M Q))) :
    h_MS_leadsBelow_22 G d a0 l3 l4 l5 l6 M Q := by
  unfold h_MS_leadsBelow_22
  obtain ⟨h6, h⟩ := h
  obtain ⟨h7, h⟩ := h
  obtain ⟨h8, h⟩ := h
  refine wm_iload d_MS_leadsBelow_22 rfl ?_
  refine wm_aload_n d_MS_leadsBelow_24 rfl rfl ?_
  refine gf_MS_26 rfl d_MS_leadsBelow_25 h6 ?_
  refine wm_iload d_MS_leadsBelow_28 rfl ?_
  refine wm_iconst d_MS_leadsBelow_30 ?_
  refine wm_iadd d_MS_leadsBelow_31 ?_
  refine wm_iald d_MS_leadsBelow_32 h7 h8 ?_
  refine wm_icmp_ge (tgt := 79) d_MS_leadsBelow_33 rfl hi_l6 (hO _ _).1 (fun c15 => ?_) (fun c15 => ?_)
  · replace h := h.1 c15
    obtain ⟨h16, h⟩ := h
    refine wm_iload d_MS_leadsBelow_79 rfl ?_
    refine wm_ireturn d_MS_leadsBelow_81 rfl (m_nb h16) ?_
    exact ⟨_, rfl, h⟩
  · replace h := h.2 c15
    obtain ⟨h17, h⟩ := h
    obtain ⟨h18, h⟩ := h
    obtain ⟨h19, h⟩ := h
    obtain ⟨h20, h⟩ := h
    refine wm_aload_n d_MS_leadsBelow_36 rfl rfl ?_
    refine gf_MS_57 rfl d_MS_leadsBelow_37 h6 ?_
    refine wm_aload_n d_MS_leadsBelow_40 rfl rfl ?_
    refine gf_MS_29 rfl d_MS_leadsBelow_41 h6 ?_
    refine wm_iload d_MS_leadsBelow_44 rfl ?_
    refine wm_iald d_MS_leadsBelow_46 h17 h18 ?_
    refine wm_iald d_MS_leadsBelow_47 h19 h20 ?_
    refine wm_istore d_MS_leadsBelow_48 (by decide) (L' := [vr a0, vd, vd, vi l3, vi l4, vi l5, vi l6, vi (mI M (mR M a0 16) (Int.toNat (mI M (mR M a0 8) (Int.toNat l6))))]) rfl ?_
    refine wm_iload d_MS_leadsBelow_50 rfl ?_
    have hJ : ∀ v24 : Int, v24 = (if ((l5 = 0) ∧ ((mI M (mR M a0 16) (Int.toNat (mI M (mR M a0 8) (Int.toNat l6))) < 0) ∨ (l3 ≤ mI M (mR M a0 16) (Int.toNat (mI M (mR M a0 8) (Int.toNat l6)))))) then 0 else 1) → mWm G y_MS_leadsBelow d 71 [vr a0, vd, vd, vi l3, vi l4, vd, vi l6, vd] [vi v24] M (fun r9 M9 => ∃ x9, r9 = some (vi x9) ∧ Q x9 M9) := by
      intro v24 e26
      have h := h v24 e26
      have h27 : i32 v24 := by rw [e26]; (repeat' split) <;> first | exact ⟨by decide, by decide⟩ | exact ⟨by decide, by decide⟩
      have h28 : (v24 = 0 ∨ v24 = 1) := by rw [e26]; (repeat' split) <;> decide
      refine wm_istore d_MS_leadsBelow_71 (by decide) (L' := [vr a0, vd, vd, vi l3, vi l4, vi v24, vi l6, vd]) rfl ?_
      refine wm_iinc d_MS_leadsBelow_73 (by decide) rfl (L' := [vr a0, vd, vd, vi l3, vi l4, vi v24, vi (l6 + 1), vd]) rfl ?_
      refine wm_goto (tgt := 22) d_MS_leadsBelow_76 rfl ?_
      exact h
    clear h
    refine wm_if_ne (tgt := 66) d_MS_leadsBelow_52 rfl hi_l5 (fun c21 => ?_) (fun c21 => ?_)
    · refine wm_iconst d_MS_leadsBelow_66 ?_
      refine wm_goto (tgt := 71) d_MS_leadsBelow_67 rfl ?_
      refine wm_less (L' := [vr a0, vd, vd, vi l3, vi l4, vd, vi l6, vd]) ⟨Or.inr rfl, Or.inl rfl, Or.inl rfl, Or.inr rfl, Or.inr rfl, Or.inl rfl, Or.inr rfl, Or.inl rfl, trivial⟩ ?_
      exact hJ 1 (if_neg (fun z32 => c21 z32.1)).symm
    · replace c21 := Classical.not_not.mp c21
      refine wm_iload d_MS_leadsBelow_55 rfl ?_
      refine wm_if_lt (tgt := 70) d_MS_leadsBelow_57 rfl (hO _ _).1 (fun c22 => ?_) (fun c22 => ?_)
      · refine wm_iconst d_MS_leadsBelow_70 ?_
        refine wm_less (L' := [vr a0, vd, vd, vi l3, vi l4, vd, vi l6, vd]) ⟨Or.inr rfl, Or.inl rfl, Or.inl rfl, Or.inr rfl, Or.inr rfl, Or.inl rfl, Or.inr rfl, Or.inl rfl, trivial⟩ ?_
        exact hJ 0 (if_pos ⟨c21, (Or.inl c22)⟩).symm
      · refine wm_iload d_MS_leadsBelow_60 rfl ?_
        refine wm_iload_n d_MS_leadsBelow_62 rfl rfl ?_
        refine wm_icmp_ge (tgt := 70) d_MS_leadsBelow_63 rfl (hO _ _).1 hi_l3 (fun c23 => ?_) (fun c23 => ?_)
        · refine wm_iconst d_MS_leadsBelow_70 ?_
          refine wm_less (L' := [vr a0, vd, vd, vi l3, vi l4, vd, vi l6, vd]) ⟨Or.inr rfl, Or.inl rfl, Or.inl rfl, Or.inr rfl, Or.inr rfl, Or.inl rfl, Or.inr rfl, Or.inl rfl, trivial⟩ ?_
          exact hJ 0 (if_pos ⟨c21, (Or.inr c23)⟩).symm
        · refine wm_iconst d_MS_leadsBelow_66 ?_
          refine wm_goto (tgt := 71) d_MS_leadsBelow_67 rfl ?_
          refine wm_less (L' := [vr a0, vd, vd, vi l3, vi l4, vd, vi l6, vd]) ⟨Or.inr rfl, Or.inl rfl, Or.inl rfl, Or.inr rfl, Or.inr rfl, Or.inl rfl, Or.inr rfl, Or.inl rfl, trivial⟩ ?_
          exact hJ 1 (if_neg (fun z29 => (fun z30 => Or.elim z30 c22 c23) z29.2)).symm
theorem d_MS_getsRank_0 : decode y_MS_getsRank.2.1 0 = .ok (.iconst 0, 1) := by decide +kernel
theorem d_MS_getsRank_1 : decode y_MS_getsRank.2.1 1 = .ok (.istore_n 3, 1) := by decide +kernel
theorem d_MS_getsRank_2 : decode y_MS_getsRank.2.1 2 = .ok (.iconst 1, 1) := by decide +kernel
theorem d_MS_getsRank_3 : decode y_MS_getsRank.2.1 3 = .ok (.istore 4, 2) := by decide +kernel
theorem d_MS_getsRank_5 : decode y_MS_getsRank.2.1 5 = .ok (.iconst 0, 1) := by decide +kernel
theorem d_MS_getsRank_6 : decode y_MS_getsRank.2.1 6 = .ok (.istore 5, 2) := by decide +kernel
theorem d_MS_getsRank_8 : decode y_MS_getsRank.2.1 8 = .ok (.iload 5, 2) := by decide +kernel
theorem d_MS_getsRank_10 : decode y_MS_getsRank.2.1 10 = .ok (.aload_n 0, 1) := by decide +kernel
theorem d_MS_getsRank_11 : decode y_MS_getsRank.2.1 11 = .ok (.iload_n 1, 1) := by decide +kernel
theorem d_MS_getsRank_12 : decode y_MS_getsRank.2.1 12 = .ok (.invokevirtual 116, 3) := by decide +kernel
theorem d_MS_getsRank_15 : decode y_MS_getsRank.2.1 15 = .ok (.if_icmp .ge 61, 3) := by decide +kernel
theorem d_MS_getsRank_76 : decode y_MS_getsRank.2.1 76 = .ok (.aload_n 0, 1) := by decide +kernel
theorem d_MS_getsRank_77 : decode y_MS_getsRank.2.1 77 = .ok (.getfield 16, 3) := by decide +kernel
theorem d_MS_getsRank_80 : decode y_MS_getsRank.2.1 80 = .ok (.iload_n 1, 1) := by decide +kernel
theorem d_MS_getsRank_81 : decode y_MS_getsRank.2.1 81 = .ok (.iaload, 1) := by decide +kernel
theorem d_MS_getsRank_82 : decode y_MS_getsRank.2.1 82 = .ok (.iconst 1, 1) := by decide +kernel
theorem d_MS_getsRank_18 : decode y_MS_getsRank.2.1 18 = .ok (.aload_n 0, 1) := by decide +kernel
theorem d_MS_getsRank_19 : decode y_MS_getsRank.2.1 19 = .ok (.iload_n 1, 1) := by decide +kernel
theorem d_MS_getsRank_20 : decode y_MS_getsRank.2.1 20 = .ok (.iload 5, 2) := by decide +kernel
theorem d_MS_getsRank_83 : decode y_MS_getsRank.2.1 83 = .ok (.if_icmp .ne 7, 3) := by decide +kernel
theorem d_MS_getsRank_86 : decode y_MS_getsRank.2.1 86 = .ok (.iload_n 3, 1) := by decide +kernel
theorem d_MS_getsRank_87 : decode y_MS_getsRank.2.1 87 = .ok (.goto 5, 3) := by decide +kernel
theorem d_MS_getsRank_92 : decode y_MS_getsRank.2.1 92 = .ok (.ireturn, 1) := by decide +kernel
theorem d_MS_getsRank_90 : decode y_MS_getsRank.2.1 90 = .ok (.iload 4, 2) := by decide +kernel
theorem d_MS_getsRank_22 : decode y_MS_getsRank.2.1 22 = .ok (.invokevirtual 215, 3) := by decide +kernel
theorem d_MS_getsRank_25 : decode y_MS_getsRank.2.1 25 = .ok (.ifCond .eq 45, 3) := by decide +kernel
theorem d_MS_getsRank_28 : decode y_MS_getsRank.2.1 28 = .ok (.aload_n 0, 1) := by decide +kernel
theorem d_MS_getsRank_29 : decode y_MS_getsRank.2.1 29 = .ok (.iload_n 1, 1) := by decide +kernel
theorem d_MS_getsRank_30 : decode y_MS_getsRank.2.1 30 = .ok (.iload 5, 2) := by decide +kernel
theorem d_MS_getsRank_32 : decode y_MS_getsRank.2.1 32 = .ok (.iload_n 2, 1) := by decide +kernel
theorem d_MS_getsRank_70 : decode y_MS_getsRank.2.1 70 = .ok (.iinc 5 1, 3) := by decide +kernel
theorem d_MS_getsRank_73 : decode y_MS_getsRank.2.1 73 = .ok (.goto (-65), 3) := by decide +kernel
theorem d_MS_getsRank_33 : decode y_MS_getsRank.2.1 33 = .ok (.invokevirtual 218, 3) := by decide +kernel
theorem d_MS_getsRank_36 : decode y_MS_getsRank.2.1 36 = .ok (.istore 6, 2) := by decide +kernel
theorem d_MS_getsRank_38 : decode y_MS_getsRank.2.1 38 = .ok (.iload_n 3, 1) := by decide +kernel
theorem d_MS_getsRank_39 : decode y_MS_getsRank.2.1 39 = .ok (.ifCond .ne 8, 3) := by decide +kernel
theorem d_MS_getsRank_42 : decode y_MS_getsRank.2.1 42 = .ok (.iload 6, 2) := by decide +kernel
theorem d_MS_getsRank_44 : decode y_MS_getsRank.2.1 44 = .ok (.ifCond .eq 7, 3) := by decide +kernel
theorem d_MS_getsRank_51 : decode y_MS_getsRank.2.1 51 = .ok (.iconst 0, 1) := by decide +kernel
theorem d_MS_getsRank_47 : decode y_MS_getsRank.2.1 47 = .ok (.iconst 1, 1) := by decide +kernel
theorem d_MS_getsRank_48 : decode y_MS_getsRank.2.1 48 = .ok (.goto 4, 3) := by decide +kernel
theorem d_MS_getsRank_52 : decode y_MS_getsRank.2.1 52 = .ok (.istore_n 3, 1) := by decide +kernel
theorem d_MS_getsRank_53 : decode y_MS_getsRank.2.1 53 = .ok (.iload 4, 2) := by decide +kernel
theorem d_MS_getsRank_55 : decode y_MS_getsRank.2.1 55 = .ok (.ifCond .eq 12, 3) := by decide +kernel
theorem d_MS_getsRank_67 : decode y_MS_getsRank.2.1 67 = .ok (.iconst 0, 1) := by decide +kernel
theorem d_MS_getsRank_58 : decode y_MS_getsRank.2.1 58 = .ok (.iload 6, 2) := by decide +kernel
theorem d_MS_getsRank_60 : decode y_MS_getsRank.2.1 60 = .ok (.ifCond .eq 7, 3) := by decide +kernel
theorem d_MS_getsRank_63 : decode y_MS_getsRank.2.1 63 = .ok (.iconst 1, 1) := by decide +kernel
theorem d_MS_getsRank_64 : decode y_MS_getsRank.2.1 64 = .ok (.goto 4, 3) := by decide +kernel
theorem d_MS_getsRank_68 : decode y_MS_getsRank.2.1 68 = .ok (.istore 4, 2) := by decide +kernel
def h_MS_getsRank_8 (G : mG) (d : Nat) (a0 : Nat) (l1 : Int) (l2 : Int) (l3 : Int) (l4 : Int) (l5 : Int) (M : mM) (Q : Int → mM → Prop) : Prop := mWm G y_MS_getsRank (d + 1) 8 [vr a0, vi l1, vi l2, vi l3, vi l4, vi l5, vd] [] M (fun r9 M9 => ∃ x9, r9 = some (vi x9) ∧ Q x9 M9)
theorem k_MS_getsRank {G : mG} {d : Nat} {a0 : Nat} {l1 : Int} {l2 : Int} {M : mM} {Q : Int → mM → Prop} (hO : mOk M) (hi_l1 : i32 l1) (hi_l2 : i32 l2)
    (h : h_MS_getsRank_8 G d a0 l1 l2 0 1 0 M Q) :
    Ci G y_MS_getsRank (d + 1) [vr a0, vi l1, vi l2] M Q := by
  refine wm_open (y := y_MS_getsRank) rfl (Nat.le_of_ble_eq_true rfl) (L := [vr a0, vi l1, vi l2, vd, vd, vd, vd]) rfl ?_
  refine wm_iconst d_MS_getsRank_0 ?_
  refine wm_istore_n d_MS_getsRank_1 rfl (by decide) (L' := [vr a0, vi l1, vi l2, vi 0, vd, vd, vd]) rfl ?_
  refine wm_iconst d_MS_getsRank_2 ?_
  refine wm_istore d_MS_getsRank_3 (by decide) (L' := [vr a0, vi l1, vi l2, vi 0, vi 1, vd, vd]) rfl ?_
  refine wm_iconst d_MS_getsRank_5 ?_
  refine wm_istore d_MS_getsRank_6 (by decide) (L' := [vr a0, vi l1, vi l2, vi 0, vi 1, vi 0, vd]) rfl ?_
  exact h
theorem k_MS_getsRank_8 {G : mG} {d : Nat} {a0 : Nat} {l1 : Int} {l2 : Int} {l3 : Int} {l4 : Int} {l5 : Int} {M : mM} {Q : Int → mM → Prop} (hO : mOk M) (hi_l1 : i32 l1) (hi_l2 : i32 l2) (hi_l3 : i32 l3) (hi_l4 : i32 l4) (hi_l5 : i32 l5)
    (h : mK M a0 = 17 ∧ Ci G y_MS_many d [vr a0, vi l1] M (fun x3 M2 => i32 x3 ∧ mOk M2 ∧ (((x3 ≤ l5) → (mK M2 a0 = 17 ∧ mK M2 (mR M2 a0 4) = 30 ∧ ((0 : Int) ≤ l1 ∧ l1 < (mN M2 (mR M2 a0 4) : Int)) ∧ ∀ v17 : Int, v17 = (if (mI M2 (mR M2 a0 4) (Int.toNat l1) = 1) then l3 else l4) → (v17 = 0 ∨ v17 = 1) ∧ Q v17 M2)) ∧ (¬ (x3 ≤ l5) → (mK M2 a0 = 17 ∧ Ci G y_MS_attains d [vr a0, vi l1, vi l5] M2 (fun x25 M24 => i32 x25 ∧ mOk M24 ∧ (((x25 = 0) → (h_MS_getsRank_8 G d a0 l1 l2 l3 l4 (l5 + 1) M24 Q)) ∧ (¬ (x25 = 0) → (mK M24 a0 = 17 ∧ Ci G y_MS_leadsBelow d [vr a0, vi l1, vi l5, vi l2] M24 (fun x32 M31 => i32 x32 ∧ mOk M31 ∧ (∀ v36 : Int, v36 = (if ((l3 = 0) ∧ (x32 = 0)) then 0 else 1) → ∀ v43 : Int, v43 = (if ((l4 = 0) ∨ (x32 = 0)) then 0 else 1) → h_MS_getsRank_8 G d a0 l1 l2 v36 v43 (l5 + 1) M31 Q))))))))))) :
    h_MS_getsRank_8 G d a0 l1 l2 l3 l4 l5 M Q := by
  unfold h_MS_getsRank_8
  obtain ⟨h1, h⟩ := h
  refine wm_iload d_MS_getsRank_8 rfl ?_
  refine wm_aload_n d_MS_getsRank_10 rfl rfl ?_
  refine wm_iload_n d_MS_getsRank_11 rfl rfl ?_
  refine cf_MS_116 rfl d_MS_getsRank_12 h1 (Nat.le_of_ble_eq_true rfl) (Ci.mono h (fun x3 M2 h => ?_))
  obtain ⟨h4, hOM2, h⟩ := h
  refine wm_icmp_ge (tgt := 76) d_MS_getsRank_15 rfl hi_l5 h4 (fun c12 => ?_) (fun c12 => ?_)
  · replace h := h.1 c12
    obtain ⟨h13, h⟩ := h
    obtain ⟨h14, h⟩ := h
    obtain ⟨h15, h⟩ := h
    refine wm_aload_n d_MS_getsRank_76 rfl rfl ?_
    refine gf_MS_16 rfl d_MS_getsRank_77 h13 ?_
    refine wm_iload_n d_MS_getsRank_80 rfl rfl ?_
    refine wm_iald d_MS_getsRank_81 h14 h15 ?_
    refine wm_iconst d_MS_getsRank_82 ?_
    have hJ : ∀ v17 : Int, v17 = (if (mI M2 (mR M2 a0 4) (Int.toNat l1) = 1) then l3 else l4) → mWm G y_MS_getsRank (d + 1) 92 [vd, vd, vd, vd, vd, vd, vd] [vi v17] M2 (fun r9 M9 => ∃ x9, r9 = some (vi x9) ∧ Q x9 M9) := by
      intro v17 e19
      have h := h v17 e19
      have h20 : i32 v17 := by rw [e19]; (repeat' split) <;> first | exact hi_l3 | exact hi_l4
      obtain ⟨h21, h⟩ := h
      refine wm_ireturn d_MS_getsRank_92 rfl (m_nb h21) ?_
      exact ⟨_, rfl, h⟩
    clear h
    refine wm_icmp_ne (tgt := 90) d_MS_getsRank_83 rfl (hOM2 _ _).1 ⟨by decide, by decide⟩ (fun c16 => ?_) (fun c16 => ?_)
    · refine wm_iload d_MS_getsRank_90 rfl ?_
      refine wm_less (L' := [vd, vd, vd, vd, vd, vd, vd]) ⟨Or.inl rfl, Or.inl rfl, Or.inl rfl, Or.inl rfl, Or.inl rfl, Or.inl rfl, Or.inl rfl, trivial⟩ ?_
      exact hJ l4 (if_neg c16).symm
    · replace c16 := Classical.not_not.mp c16
      refine wm_iload_n d_MS_getsRank_86 rfl rfl ?_
      refine wm_goto (tgt := 92) d_MS_getsRank_87 rfl ?_
      refine wm_less (L' := [vd, vd, vd, vd, vd, vd, vd]) ⟨Or.inl rfl, Or.inl rfl, Or.inl rfl, Or.inl rfl, Or.inl rfl, Or.inl rfl, Or.inl rfl, trivial⟩ ?_
      exact hJ l3 (if_pos c16).symm
  · replace h := h.2 c12
    obtain ⟨h23, h⟩ := h
    refine wm_aload_n d_MS_getsRank_18 rfl rfl ?_
    refine wm_iload_n d_MS_getsRank_19 rfl rfl ?_
    refine wm_iload d_MS_getsRank_20 rfl ?_
    refine cf_MS_215 rfl d_MS_getsRank_22 h23 (Nat.le_of_ble_eq_true rfl) (Ci.mono h (fun x25 M24 h => ?_))
    obtain ⟨h26, hOM24, h⟩ := h
    refine wm_if_eq (tgt := 70) d_MS_getsRank_25 rfl h26 (fun c29 => ?_) (fun c29 => ?_)
    · replace h := h.1 c29
      refine wm_iinc d_MS_getsRank_70 (by decide) rfl (L' := [vr a0, vi l1, vi l2, vi l3, vi l4, vi (l5 + 1), vd]) rfl ?_
      refine wm_goto (tgt := 8) d_MS_getsRank_73 rfl ?_
      exact h
    · replace h := h.2 c29
      obtain ⟨h30, h⟩ := h
      refine wm_aload_n d_MS_getsRank_28 rfl rfl ?_
      refine wm_iload_n d_MS_getsRank_29 rfl rfl ?_
      refine wm_iload d_MS_getsRank_30 rfl ?_
      refine wm_iload_n d_MS_getsRank_32 rfl rfl ?_
      refine cf_MS_218 rfl d_MS_getsRank_33 h30 (Nat.le_of_ble_eq_true rfl) (Ci.mono h (fun x32 M31 h => ?_))
      obtain ⟨h33, hOM31, h⟩ := h
      refine wm_istore d_MS_getsRank_36 (by decide) (L' := [vr a0, vi l1, vi l2, vi l3, vi l4, vi l5, vi x32]) rfl ?_
      refine wm_iload_n d_MS_getsRank_38 rfl rfl ?_
      have hJ : ∀ v36 : Int, v36 = (if ((l3 = 0) ∧ (x32 = 0)) then 0 else 1) → mWm G y_MS_getsRank (d + 1) 52 [vr a0, vi l1, vi l2, vd, vi l4, vi l5, vi x32] [vi v36] M31 (fun r9 M9 => ∃ x9, r9 = some (vi x9) ∧ Q x9 M9) := by
        intro v36 e38
        have h := h v36 e38
        have h39 : i32 v36 := by rw [e38]; (repeat' split) <;> first | exact ⟨by decide, by decide⟩ | exact ⟨by decide, by decide⟩
        have h40 : (v36 = 0 ∨ v36 = 1) := by rw [e38]; (repeat' split) <;> decide
        refine wm_istore_n d_MS_getsRank_52 rfl (by decide) (L' := [vr a0, vi l1, vi l2, vi v36, vi l4, vi l5, vi x32]) rfl ?_
        refine wm_iload d_MS_getsRank_53 rfl ?_
        have hJ : ∀ v43 : Int, v43 = (if ((l4 = 0) ∨ (x32 = 0)) then 0 else 1) → mWm G y_MS_getsRank (d + 1) 68 [vr a0, vi l1, vi l2, vi v36, vd, vi l5, vd] [vi v43] M31 (fun r9 M9 => ∃ x9, r9 = some (vi x9) ∧ Q x9 M9) := by
          intro v43 e45
          have h := h v43 e45
          have h46 : i32 v43 := by rw [e45]; (repeat' split) <;> first | exact ⟨by decide, by decide⟩ | exact ⟨by decide, by decide⟩
          have h47 : (v43 = 0 ∨ v43 = 1) := by rw [e45]; (repeat' split) <;> decide
          refine wm_istore d_MS_getsRank_68 (by decide) (L' := [vr a0, vi l1, vi l2, vi v36, vi v43, vi l5, vd]) rfl ?_
          refine wm_iinc d_MS_getsRank_70 (by decide) rfl (L' := [vr a0, vi l1, vi l2, vi v36, vi v43, vi (l5 + 1), vd]) rfl ?_
          refine wm_goto (tgt := 8) d_MS_getsRank_73 rfl ?_
          exact h
        clear h
        refine wm_if_eq (tgt := 67) d_MS_getsRank_55 rfl hi_l4 (fun c41 => ?_) (fun c41 => ?_)
        · refine wm_iconst d_MS_getsRank_67 ?_
          refine wm_less (L' := [vr a0, vi l1, vi l2, vi v36, vd, vi l5, vd]) ⟨Or.inr rfl, Or.inr rfl, Or.inr rfl, Or.inr rfl, Or.inl rfl, Or.inr rfl, Or.inl rfl, trivial⟩ ?_
          exact hJ 0 (if_pos (Or.inl c41)).symm
        · refine wm_iload d_MS_getsRank_58 rfl ?_
          refine wm_if_eq (tgt := 67) d_MS_getsRank_60 rfl h33 (fun c42 => ?_) (fun c42 => ?_)
          · refine wm_iconst d_MS_getsRank_67 ?_
            refine wm_less (L' := [vr a0, vi l1, vi l2, vi v36, vd, vi l5, vd]) ⟨Or.inr rfl, Or.inr rfl, Or.inr rfl, Or.inr rfl, Or.inl rfl, Or.inr rfl, Or.inl rfl, trivial⟩ ?_
            exact hJ 0 (if_pos (Or.inr c42)).symm
          · refine wm_iconst d_MS_getsRank_63 ?_
            refine wm_goto (tgt := 68) d_MS_getsRank_64 rfl ?_
            refine wm_less (L' := [vr a0, vi l1, vi l2, vi v36, vd, vi l5, vd]) ⟨Or.inr rfl, Or.inr rfl, Or.inr rfl, Or.inr rfl, Or.inl rfl, Or.inr rfl, Or.inl rfl, trivial⟩ ?_
            exact hJ 1 (if_neg (fun z48 => Or.elim z48 c41 c42)).symm
      clear h
      refine wm_if_ne (tgt := 47) d_MS_getsRank_39 rfl hi_l3 (fun c34 => ?_) (fun c34 => ?_)
      · refine wm_iconst d_MS_getsRank_47 ?_
        refine wm_goto (tgt := 52) d_MS_getsRank_48 rfl ?_
        refine wm_less (L' := [vr a0, vi l1, vi l2, vd, vi l4, vi l5, vi x32]) ⟨Or.inr rfl, Or.inr rfl, Or.inr rfl, Or.inl rfl, Or.inr rfl, Or.inr rfl, Or.inr rfl, trivial⟩ ?_
        exact hJ 1 (if_neg (fun z52 => c34 z52.1)).symm
      · replace c34 := Classical.not_not.mp c34
        refine wm_iload d_MS_getsRank_42 rfl ?_
        refine wm_if_eq (tgt := 51) d_MS_getsRank_44 rfl h33 (fun c35 => ?_) (fun c35 => ?_)
        · refine wm_iconst d_MS_getsRank_51 ?_
          refine wm_less (L' := [vr a0, vi l1, vi l2, vd, vi l4, vi l5, vi x32]) ⟨Or.inr rfl, Or.inr rfl, Or.inr rfl, Or.inl rfl, Or.inr rfl, Or.inr rfl, Or.inr rfl, trivial⟩ ?_
          exact hJ 0 (if_pos ⟨c34, c35⟩).symm
        · refine wm_iconst d_MS_getsRank_47 ?_
          refine wm_goto (tgt := 52) d_MS_getsRank_48 rfl ?_
          refine wm_less (L' := [vr a0, vi l1, vi l2, vd, vi l4, vi l5, vi x32]) ⟨Or.inr rfl, Or.inr rfl, Or.inr rfl, Or.inl rfl, Or.inr rfl, Or.inr rfl, Or.inr rfl, trivial⟩ ?_
          exact hJ 1 (if_neg (fun z50 => c35 z50.2)).symm
theorem d_MS_isUnknown_0 : decode y_MS_isUnknown.2.1 0 = .ok (.aload_n 0, 1) := by decide +kernel
theorem d_MS_isUnknown_1 : decode y_MS_isUnknown.2.1 1 = .ok (.getfield 16, 3) := by decide +kernel
theorem d_MS_isUnknown_4 : decode y_MS_isUnknown.2.1 4 = .ok (.iload_n 1, 1) := by decide +kernel
theorem d_MS_isUnknown_5 : decode y_MS_isUnknown.2.1 5 = .ok (.iaload, 1) := by decide +kernel
theorem d_MS_isUnknown_6 : decode y_MS_isUnknown.2.1 6 = .ok (.iconst 3, 1) := by decide +kernel
theorem d_MS_isUnknown_7 : decode y_MS_isUnknown.2.1 7 = .ok (.if_icmp .eq 21, 3) := by decide +kernel
theorem d_MS_isUnknown_28 : decode y_MS_isUnknown.2.1 28 = .ok (.iconst 0, 1) := by decide +kernel
theorem d_MS_isUnknown_10 : decode y_MS_isUnknown.2.1 10 = .ok (.aload_n 0, 1) := by decide +kernel
theorem d_MS_isUnknown_11 : decode y_MS_isUnknown.2.1 11 = .ok (.getfield 40, 3) := by decide +kernel
theorem d_MS_isUnknown_14 : decode y_MS_isUnknown.2.1 14 = .ok (.iconst 3, 1) := by decide +kernel
theorem d_MS_isUnknown_15 : decode y_MS_isUnknown.2.1 15 = .ok (.iload_n 1, 1) := by decide +kernel
theorem d_MS_isUnknown_16 : decode y_MS_isUnknown.2.1 16 = .ok (.imul, 1) := by decide +kernel
theorem d_MS_isUnknown_17 : decode y_MS_isUnknown.2.1 17 = .ok (.aaload, 1) := by decide +kernel
theorem d_MS_isUnknown_29 : decode y_MS_isUnknown.2.1 29 = .ok (.ireturn, 1) := by decide +kernel
theorem d_MS_isUnknown_18 : decode y_MS_isUnknown.2.1 18 = .ok (.invokevirtual 170, 3) := by decide +kernel
theorem d_MS_isUnknown_21 : decode y_MS_isUnknown.2.1 21 = .ok (.ifCond .ne 7, 3) := by decide +kernel
theorem d_MS_isUnknown_24 : decode y_MS_isUnknown.2.1 24 = .ok (.iconst 1, 1) := by decide +kernel
theorem d_MS_isUnknown_25 : decode y_MS_isUnknown.2.1 25 = .ok (.goto 4, 3) := by decide +kernel
theorem k_MS_isUnknown {G : mG} {d : Nat} {a0 : Nat} {l1 : Int} {M : mM} {Q : Int → mM → Prop} (hO : mOk M) (hi_l1 : i32 l1)
    (h : mK M a0 = 17 ∧ mK M (mR M a0 4) = 30 ∧ ((0 : Int) ≤ l1 ∧ l1 < (mN M (mR M a0 4) : Int)) ∧ ((mI M (mR M a0 4) (Int.toNat l1) = 3) → (Q 0 M)) ∧ (¬ (mI M (mR M a0 4) (Int.toNat l1) = 3) → (mK M (mR M a0 11) = 36 ∧ ((0 : Int) ≤ 3 * l1 ∧ 3 * l1 < (mN M (mR M a0 11) : Int)) ∧ mK M (mR M (mR M a0 11) (Int.toNat (3 * l1))) = 19 ∧ Ci G y_MF_isZero d [vr (mR M (mR M a0 11) (Int.toNat (3 * l1)))] M (fun x13 M12 => i32 x13 ∧ mOk M12 ∧ (∀ v16 : Int, v16 = (if (x13 = 0) then 1 else 0) → Q v16 M12))))) :
    Ci G y_MS_isUnknown (d + 1) [vr a0, vi l1] M Q := by
  refine wm_open (y := y_MS_isUnknown) rfl (Nat.le_of_ble_eq_true rfl) (L := [vr a0, vi l1]) rfl ?_
  obtain ⟨h1, h⟩ := h
  obtain ⟨h2, h⟩ := h
  obtain ⟨h3, h⟩ := h
  refine wm_aload_n d_MS_isUnknown_0 rfl rfl ?_
  refine gf_MS_16 rfl d_MS_isUnknown_1 h1 ?_
  refine wm_iload_n d_MS_isUnknown_4 rfl rfl ?_
  refine wm_iald d_MS_isUnknown_5 h2 h3 ?_
  refine wm_iconst d_MS_isUnknown_6 ?_
  refine wm_icmp_eq (tgt := 28) d_MS_isUnknown_7 rfl (hO _ _).1 ⟨by decide, by decide⟩ (fun c8 => ?_) (fun c8 => ?_)
  · replace h := h.1 c8
    refine wm_iconst d_MS_isUnknown_28 ?_
    refine wm_ireturn d_MS_isUnknown_29 rfl (m_nb (by decide)) ?_
    exact ⟨_, rfl, h⟩
  · replace h := h.2 c8
    obtain ⟨h9, h⟩ := h
    obtain ⟨h10, h⟩ := h
    obtain ⟨h11, h⟩ := h
    refine wm_aload_n d_MS_isUnknown_10 rfl rfl ?_
    refine gf_MS_40 rfl d_MS_isUnknown_11 h1 ?_
    refine wm_iconst d_MS_isUnknown_14 ?_
    refine wm_iload_n d_MS_isUnknown_15 rfl rfl ?_
    refine wm_imul d_MS_isUnknown_16 ?_
    refine wm_aald6 d_MS_isUnknown_17 h9 h10 ?_
    refine cf_MS_170 rfl d_MS_isUnknown_18 h11 (Nat.le_of_ble_eq_true rfl) (Ci.mono h (fun x13 M12 h => ?_))
    obtain ⟨h14, hOM12, h⟩ := h
    have hJ : ∀ v16 : Int, v16 = (if (x13 = 0) then 1 else 0) → mWm G y_MS_isUnknown (d + 1) 29 [vd, vd] [vi v16] M12 (fun r9 M9 => ∃ x9, r9 = some (vi x9) ∧ Q x9 M9) := by
      intro v16 e18
      have h := h v16 e18
      have h19 : i32 v16 := by rw [e18]; (repeat' split) <;> first | exact ⟨by decide, by decide⟩ | exact ⟨by decide, by decide⟩
      have h20 : (v16 = 0 ∨ v16 = 1) := by rw [e18]; (repeat' split) <;> decide
      refine wm_ireturn d_MS_isUnknown_29 rfl (m_nb h20) ?_
      exact ⟨_, rfl, h⟩
    clear h
    refine wm_if_ne (tgt := 28) d_MS_isUnknown_21 rfl h14 (fun c15 => ?_) (fun c15 => ?_)
    · refine wm_iconst d_MS_isUnknown_28 ?_
      refine wm_less (L' := [vd, vd]) ⟨Or.inl rfl, Or.inl rfl, trivial⟩ ?_
      exact hJ 0 (if_neg c15).symm
    · replace c15 := Classical.not_not.mp c15
      refine wm_iconst d_MS_isUnknown_24 ?_
      refine wm_goto (tgt := 29) d_MS_isUnknown_25 rfl ?_
      refine wm_less (L' := [vd, vd]) ⟨Or.inl rfl, Or.inl rfl, trivial⟩ ?_
      exact hJ 1 (if_pos c15).symm
theorem d_MS_rank_0 : decode y_MS_rank.2.1 0 = .ok (.iconst 0, 1) := by decide +kernel
theorem d_MS_rank_1 : decode y_MS_rank.2.1 1 = .ok (.istore_n 1, 1) := by decide +kernel
theorem d_MS_rank_2 : decode y_MS_rank.2.1 2 = .ok (.iload_n 1, 1) := by decide +kernel
theorem d_MS_rank_3 : decode y_MS_rank.2.1 3 = .ok (.aload_n 0, 1) := by decide +kernel
theorem d_MS_rank_4 : decode y_MS_rank.2.1 4 = .ok (.getfield 103, 3) := by decide +kernel
theorem d_MS_rank_7 : decode y_MS_rank.2.1 7 = .ok (.if_icmp .ge 30, 3) := by decide +kernel
theorem d_MS_rank_37 : decode y_MS_rank.2.1 37 = .ok (.iconst 1, 1) := by decide +kernel
theorem d_MS_rank_38 : decode y_MS_rank.2.1 38 = .ok (.istore_n 1, 1) := by decide +kernel
theorem d_MS_rank_39 : decode y_MS_rank.2.1 39 = .ok (.iconst 1, 1) := by decide +kernel
theorem d_MS_rank_40 : decode y_MS_rank.2.1 40 = .ok (.istore_n 2, 1) := by decide +kernel
theorem d_MS_rank_10 : decode y_MS_rank.2.1 10 = .ok (.aload_n 0, 1) := by decide +kernel
theorem d_MS_rank_11 : decode y_MS_rank.2.1 11 = .ok (.getfield 57, 3) := by decide +kernel
theorem d_MS_rank_14 : decode y_MS_rank.2.1 14 = .ok (.iload_n 1, 1) := by decide +kernel
theorem d_MS_rank_15 : decode y_MS_rank.2.1 15 = .ok (.aload_n 0, 1) := by decide +kernel
theorem d_MS_rank_16 : decode y_MS_rank.2.1 16 = .ok (.getfield 16, 3) := by decide +kernel
theorem d_MS_rank_19 : decode y_MS_rank.2.1 19 = .ok (.iload_n 1, 1) := by decide +kernel
theorem d_MS_rank_20 : decode y_MS_rank.2.1 20 = .ok (.iaload, 1) := by decide +kernel
theorem d_MS_rank_21 : decode y_MS_rank.2.1 21 = .ok (.iconst 3, 1) := by decide +kernel
theorem d_MS_rank_22 : decode y_MS_rank.2.1 22 = .ok (.if_icmp .ne 7, 3) := by decide +kernel
theorem d_MS_rank_25 : decode y_MS_rank.2.1 25 = .ok (.iconst 0, 1) := by decide +kernel
theorem d_MS_rank_26 : decode y_MS_rank.2.1 26 = .ok (.goto 4, 3) := by decide +kernel
theorem d_MS_rank_29 : decode y_MS_rank.2.1 29 = .ok (.iconst (-1), 1) := by decide +kernel
theorem d_MS_rank_30 : decode y_MS_rank.2.1 30 = .ok (.iastore, 1) := by decide +kernel
theorem d_MS_rank_31 : decode y_MS_rank.2.1 31 = .ok (.iinc 1 1, 3) := by decide +kernel
theorem d_MS_rank_34 : decode y_MS_rank.2.1 34 = .ok (.goto (-32), 3) := by decide +kernel
theorem d_MS_rank_41 : decode y_MS_rank.2.1 41 = .ok (.iload_n 1, 1) := by decide +kernel
theorem d_MS_rank_42 : decode y_MS_rank.2.1 42 = .ok (.ifCond .eq 62, 3) := by decide +kernel
theorem d_MS_rank_104 : decode y_MS_rank.2.1 104 = .ok (.iconst 0, 1) := by decide +kernel
theorem d_MS_rank_105 : decode y_MS_rank.2.1 105 = .ok (.istore_n 2, 1) := by decide +kernel
theorem d_MS_rank_45 : decode y_MS_rank.2.1 45 = .ok (.iconst 0, 1) := by decide +kernel
theorem d_MS_rank_46 : decode y_MS_rank.2.1 46 = .ok (.istore_n 1, 1) := by decide +kernel
theorem d_MS_rank_47 : decode y_MS_rank.2.1 47 = .ok (.iconst 0, 1) := by decide +kernel
theorem d_MS_rank_48 : decode y_MS_rank.2.1 48 = .ok (.istore_n 3, 1) := by decide +kernel
theorem d_MS_rank_49 : decode y_MS_rank.2.1 49 = .ok (.iload_n 3, 1) := by decide +kernel
theorem d_MS_rank_50 : decode y_MS_rank.2.1 50 = .ok (.aload_n 0, 1) := by decide +kernel
theorem d_MS_rank_51 : decode y_MS_rank.2.1 51 = .ok (.getfield 103, 3) := by decide +kernel
theorem d_MS_rank_54 : decode y_MS_rank.2.1 54 = .ok (.if_icmp .ge 44, 3) := by decide +kernel
theorem d_MS_rank_98 : decode y_MS_rank.2.1 98 = .ok (.iinc 2 1, 3) := by decide +kernel
theorem d_MS_rank_101 : decode y_MS_rank.2.1 101 = .ok (.goto (-60), 3) := by decide +kernel
theorem d_MS_rank_57 : decode y_MS_rank.2.1 57 = .ok (.aload_n 0, 1) := by decide +kernel
theorem d_MS_rank_58 : decode y_MS_rank.2.1 58 = .ok (.getfield 57, 3) := by decide +kernel
theorem d_MS_rank_61 : decode y_MS_rank.2.1 61 = .ok (.iload_n 3, 1) := by decide +kernel
theorem d_MS_rank_62 : decode y_MS_rank.2.1 62 = .ok (.iaload, 1) := by decide +kernel
theorem d_MS_rank_63 : decode y_MS_rank.2.1 63 = .ok (.ifCond .ge 29, 3) := by decide +kernel
theorem d_MS_rank_66 : decode y_MS_rank.2.1 66 = .ok (.aload_n 0, 1) := by decide +kernel
theorem d_MS_rank_67 : decode y_MS_rank.2.1 67 = .ok (.iload_n 3, 1) := by decide +kernel
theorem d_MS_rank_92 : decode y_MS_rank.2.1 92 = .ok (.iinc 3 1, 3) := by decide +kernel
theorem d_MS_rank_95 : decode y_MS_rank.2.1 95 = .ok (.goto (-46), 3) := by decide +kernel
theorem d_MS_rank_68 : decode y_MS_rank.2.1 68 = .ok (.invokevirtual 222, 3) := by decide +kernel
theorem d_MS_rank_71 : decode y_MS_rank.2.1 71 = .ok (.ifCond .eq 21, 3) := by decide +kernel
theorem d_MS_rank_74 : decode y_MS_rank.2.1 74 = .ok (.aload_n 0, 1) := by decide +kernel
theorem d_MS_rank_75 : decode y_MS_rank.2.1 75 = .ok (.iload_n 3, 1) := by decide +kernel
theorem d_MS_rank_76 : decode y_MS_rank.2.1 76 = .ok (.iload_n 2, 1) := by decide +kernel
theorem d_MS_rank_77 : decode y_MS_rank.2.1 77 = .ok (.invokevirtual 226, 3) := by decide +kernel
theorem d_MS_rank_80 : decode y_MS_rank.2.1 80 = .ok (.ifCond .eq 12, 3) := by decide +kernel
theorem d_MS_rank_83 : decode y_MS_rank.2.1 83 = .ok (.aload_n 0, 1) := by decide +kernel
theorem d_MS_rank_84 : decode y_MS_rank.2.1 84 = .ok (.getfield 57, 3) := by decide +kernel
theorem d_MS_rank_87 : decode y_MS_rank.2.1 87 = .ok (.iload_n 3, 1) := by decide +kernel
theorem d_MS_rank_88 : decode y_MS_rank.2.1 88 = .ok (.iload_n 2, 1) := by decide +kernel
theorem d_MS_rank_89 : decode y_MS_rank.2.1 89 = .ok (.iastore, 1) := by decide +kernel
theorem d_MS_rank_90 : decode y_MS_rank.2.1 90 = .ok (.iconst 1, 1) := by decide +kernel
theorem d_MS_rank_91 : decode y_MS_rank.2.1 91 = .ok (.istore_n 1, 1) := by decide +kernel
theorem d_MS_rank_106 : decode y_MS_rank.2.1 106 = .ok (.iload_n 2, 1) := by decide +kernel
theorem d_MS_rank_107 : decode y_MS_rank.2.1 107 = .ok (.aload_n 0, 1) := by decide +kernel
theorem d_MS_rank_108 : decode y_MS_rank.2.1 108 = .ok (.getfield 103, 3) := by decide +kernel
theorem d_MS_rank_111 : decode y_MS_rank.2.1 111 = .ok (.if_icmp .ge 32, 3) := by decide +kernel
theorem d_MS_rank_143 : decode y_MS_rank.2.1 143 = .ok (.return_, 1) := by decide +kernel
theorem d_MS_rank_114 : decode y_MS_rank.2.1 114 = .ok (.aload_n 0, 1) := by decide +kernel
theorem d_MS_rank_115 : decode y_MS_rank.2.1 115 = .ok (.getfield 54, 3) := by decide +kernel
theorem d_MS_rank_118 : decode y_MS_rank.2.1 118 = .ok (.iload_n 2, 1) := by decide +kernel
theorem d_MS_rank_119 : decode y_MS_rank.2.1 119 = .ok (.aload_n 0, 1) := by decide +kernel
theorem d_MS_rank_120 : decode y_MS_rank.2.1 120 = .ok (.iload_n 2, 1) := by decide +kernel
theorem d_MS_rank_121 : decode y_MS_rank.2.1 121 = .ok (.invokevirtual 116, 3) := by decide +kernel
theorem d_MS_rank_124 : decode y_MS_rank.2.1 124 = .ok (.ifCond .ne 7, 3) := by decide +kernel
theorem d_MS_rank_127 : decode y_MS_rank.2.1 127 = .ok (.iconst (-1), 1) := by decide +kernel
theorem d_MS_rank_128 : decode y_MS_rank.2.1 128 = .ok (.goto 8, 3) := by decide +kernel
theorem d_MS_rank_131 : decode y_MS_rank.2.1 131 = .ok (.aload_n 0, 1) := by decide +kernel
theorem d_MS_rank_132 : decode y_MS_rank.2.1 132 = .ok (.iload_n 2, 1) := by decide +kernel
theorem d_MS_rank_136 : decode y_MS_rank.2.1 136 = .ok (.iastore, 1) := by decide +kernel
theorem d_MS_rank_137 : decode y_MS_rank.2.1 137 = .ok (.iinc 2 1, 3) := by decide +kernel
theorem d_MS_rank_140 : decode y_MS_rank.2.1 140 = .ok (.goto (-34), 3) := by decide +kernel
theorem d_MS_rank_133 : decode y_MS_rank.2.1 133 = .ok (.invokevirtual 229, 3) := by decide +kernel
def h_MS_rank_2 (G : mG) (d : Nat) (a0 : Nat) (l1 : Int) (M : mM) (Q : mM → Prop) : Prop := mWm G y_MS_rank (d + 1) 2 [vr a0, vi l1, vd, vd] [] M (fun r9 M9 => r9 = none ∧ Q M9)
def h_MS_rank_41 (G : mG) (d : Nat) (a0 : Nat) (l1 : Int) (l2 : Int) (M : mM) (Q : mM → Prop) : Prop := mWm G y_MS_rank (d + 1) 41 [vr a0, vi l1, vi l2, vd] [] M (fun r9 M9 => r9 = none ∧ Q M9)
def h_MS_rank_49 (G : mG) (d : Nat) (a0 : Nat) (l1 : Int) (l2 : Int) (l3 : Int) (M : mM) (Q : mM → Prop) : Prop := mWm G y_MS_rank (d + 1) 49 [vr a0, vi l1, vi l2, vi l3] [] M (fun r9 M9 => r9 = none ∧ Q M9)
def h_MS_rank_106 (G : mG) (d : Nat) (a0 : Nat) (l2 : Int) (M : mM) (Q : mM → Prop) : Prop := mWm G y_MS_rank (d + 1) 106 [vr a0, vd, vi l2, vd] [] M (fun r9 M9 => r9 = none ∧ Q M9)
theorem k_MS_rank {G : mG} {d : Nat} {a0 : Nat} {M : mM} {Q : mM → Prop} (hO : mOk M)
    (h : h_MS_rank_2 G d a0 0 M Q) :
    Cv G y_MS_rank (d + 1) [vr a0] M Q := by
  refine wm_open (y := y_MS_rank) rfl (Nat.le_of_ble_eq_true rfl) (L := [vr a0, vd, vd, vd]) rfl ?_
  refine wm_iconst d_MS_rank_0 ?_
  refine wm_istore_n d_MS_rank_1 rfl (by decide) (L' := [vr a0, vi 0, vd, vd]) rfl ?_
  exact h
theorem k_MS_rank_2 {G : mG} {d : Nat} {a0 : Nat} {l1 : Int} {M : mM} {Q : mM → Prop} (hO : mOk M) (hi_l1 : i32 l1)
    (h : mK M a0 = 17 ∧ ((mI M a0 1 ≤ l1) → (h_MS_rank_41 G d a0 1 1 M Q)) ∧ (¬ (mI M a0 1 ≤ l1) → (mK M (mR M a0 4) = 30 ∧ ((0 : Int) ≤ l1 ∧ l1 < (mN M (mR M a0 4) : Int)) ∧ ∀ v9 : Int, v9 = (if (mI M (mR M a0 4) (Int.toNat l1) = 3) then 0 else (-1)) → mK M (mR M a0 16) = 30 ∧ ((0 : Int) ≤ l1 ∧ l1 < (mN M (mR M a0 16) : Int)) ∧ ∀ M15, M15 = mUI M (mR M a0 16) (Int.toNat l1) v9 → h_MS_rank_2 G d a0 (l1 + 1) M15 Q))) :
    h_MS_rank_2 G d a0 l1 M Q := by
  unfold h_MS_rank_2
  obtain ⟨h1, h⟩ := h
  refine wm_iload_n d_MS_rank_2 rfl rfl ?_
  refine wm_aload_n d_MS_rank_3 rfl rfl ?_
  refine gf_MS_103 rfl d_MS_rank_4 h1 ?_
  refine wm_icmp_ge (tgt := 37) d_MS_rank_7 rfl hi_l1 (hO _ _).1 (fun c5 => ?_) (fun c5 => ?_)
  · replace h := h.1 c5
    refine wm_iconst d_MS_rank_37 ?_
    refine wm_istore_n d_MS_rank_38 rfl (by decide) (L' := [vr a0, vi 1, vd, vd]) rfl ?_
    refine wm_iconst d_MS_rank_39 ?_
    refine wm_istore_n d_MS_rank_40 rfl (by decide) (L' := [vr a0, vi 1, vi 1, vd]) rfl ?_
    exact h
  · replace h := h.2 c5
    obtain ⟨h6, h⟩ := h
    obtain ⟨h7, h⟩ := h
    refine wm_aload_n d_MS_rank_10 rfl rfl ?_
    refine gf_MS_57 rfl d_MS_rank_11 h1 ?_
    refine wm_iload_n d_MS_rank_14 rfl rfl ?_
    refine wm_aload_n d_MS_rank_15 rfl rfl ?_
    refine gf_MS_16 rfl d_MS_rank_16 h1 ?_
    refine wm_iload_n d_MS_rank_19 rfl rfl ?_
    refine wm_iald d_MS_rank_20 h6 h7 ?_
    refine wm_iconst d_MS_rank_21 ?_
    have hJ : ∀ v9 : Int, v9 = (if (mI M (mR M a0 4) (Int.toNat l1) = 3) then 0 else (-1)) → mWm G y_MS_rank (d + 1) 30 [vr a0, vi l1, vd, vd] [vi v9, vi l1, vr (mR M a0 16)] M (fun r9 M9 => r9 = none ∧ Q M9) := by
      intro v9 e11
      have h := h v9 e11
      have h12 : i32 v9 := by rw [e11]; (repeat' split) <;> first | exact ⟨by decide, by decide⟩ | exact ⟨by decide, by decide⟩
      obtain ⟨h13, h⟩ := h
      obtain ⟨h14, h⟩ := h
      obtain ⟨M15, e16⟩ : ∃ M15, M15 = mUI M (mR M a0 16) (Int.toNat l1) v9 := ⟨_, rfl⟩
      replace h := h M15 e16
      have hOM15 : mOk M15 := by rw [e16]; exact mOk_UI hO h12
      refine wm_iastE d_MS_rank_30 h13 h14 h12 e16 ?_
      refine wm_iinc d_MS_rank_31 (by decide) rfl (L' := [vr a0, vi (l1 + 1), vd, vd]) rfl ?_
      refine wm_goto (tgt := 2) d_MS_rank_34 rfl ?_
      exact h
    clear h
    refine wm_icmp_ne (tgt := 29) d_MS_rank_22 rfl (hO _ _).1 ⟨by decide, by decide⟩ (fun c8 => ?_) (fun c8 => ?_)
    · refine wm_iconst d_MS_rank_29 ?_
      exact hJ (-1) (if_neg c8).symm
    · replace c8 := Classical.not_not.mp c8
      refine wm_iconst d_MS_rank_25 ?_
      refine wm_goto (tgt := 30) d_MS_rank_26 rfl ?_
      exact hJ 0 (if_pos c8).symm
theorem k_MS_rank_41 {G : mG} {d : Nat} {a0 : Nat} {l1 : Int} {l2 : Int} {M : mM} {Q : mM → Prop} (hO : mOk M) (hi_l1 : i32 l1) (hi_l2 : i32 l2)
    (h : ((l1 = 0) → (h_MS_rank_106 G d a0 0 M Q)) ∧ (¬ (l1 = 0) → (h_MS_rank_49 G d a0 0 l2 0 M Q))) :
    h_MS_rank_41 G d a0 l1 l2 M Q := by
  unfold h_MS_rank_41
  refine wm_iload_n d_MS_rank_41 rfl rfl ?_
  refine wm_if_eq (tgt := 104) d_MS_rank_42 rfl hi_l1 (fun c19 => ?_) (fun c19 => ?_)
  · replace h := h.1 c19
    refine wm_iconst d_MS_rank_104 ?_
    refine wm_istore_n d_MS_rank_105 rfl (by decide) (L' := [vr a0, vi l1, vi 0, vd]) rfl ?_
    refine wm_less (L' := [vr a0, vd, vi 0, vd]) ⟨Or.inr rfl, Or.inl rfl, Or.inr rfl, Or.inl rfl, trivial⟩ ?_
    exact h
  · replace h := h.2 c19
    refine wm_iconst d_MS_rank_45 ?_
    refine wm_istore_n d_MS_rank_46 rfl (by decide) (L' := [vr a0, vi 0, vi l2, vd]) rfl ?_
    refine wm_iconst d_MS_rank_47 ?_
    refine wm_istore_n d_MS_rank_48 rfl (by decide) (L' := [vr a0, vi 0, vi l2, vi 0]) rfl ?_
    exact h
theorem k_MS_rank_49 {G : mG} {d : Nat} {a0 : Nat} {l1 : Int} {l2 : Int} {l3 : Int} {M : mM} {Q : mM → Prop} (hO : mOk M) (hi_l1 : i32 l1) (hi_l2 : i32 l2) (hi_l3 : i32 l3)
    (h : mK M a0 = 17 ∧ ((mI M a0 1 ≤ l3) → (h_MS_rank_41 G d a0 l1 (l2 + 1) M Q)) ∧ (¬ (mI M a0 1 ≤ l3) → (mK M (mR M a0 16) = 30 ∧ ((0 : Int) ≤ l3 ∧ l3 < (mN M (mR M a0 16) : Int)) ∧ ((0 ≤ mI M (mR M a0 16) (Int.toNat l3)) → (h_MS_rank_49 G d a0 l1 l2 (l3 + 1) M Q)) ∧ (¬ (0 ≤ mI M (mR M a0 16) (Int.toNat l3)) → (Ci G y_MS_isUnknown d [vr a0, vi l3] M (fun x32 M31 => i32 x32 ∧ mOk M31 ∧ (((x32 = 0) → (h_MS_rank_49 G d a0 l1 l2 (l3 + 1) M31 Q)) ∧ (¬ (x32 = 0) → (mK M31 a0 = 17 ∧ Ci G y_MS_getsRank d [vr a0, vi l3, vi l2] M31 (fun x39 M38 => i32 x39 ∧ mOk M38 ∧ ((¬ (x39 = 0) → (mK M38 a0 = 17 ∧ mK M38 (mR M38 a0 16) = 30 ∧ ((0 : Int) ≤ l3 ∧ l3 < (mN M38 (mR M38 a0 16) : Int)))) ∧ ∀ v45 : Int, v45 = (if (x39 = 0) then l1 else 1) → ∀ M46 : mM, M46 = (if (x39 = 0) then M38 else (mUI M38 (mR M38 a0 16) (Int.toNat l3) l2)) → mOk M46 ∧ h_MS_rank_49 G d a0 v45 l2 (l3 + 1) M46 Q))))))))))) :
    h_MS_rank_49 G d a0 l1 l2 l3 M Q := by
  unfold h_MS_rank_49
  obtain ⟨h20, h⟩ := h
  refine wm_iload_n d_MS_rank_49 rfl rfl ?_
  refine wm_aload_n d_MS_rank_50 rfl rfl ?_
  refine gf_MS_103 rfl d_MS_rank_51 h20 ?_
  refine wm_icmp_ge (tgt := 98) d_MS_rank_54 rfl hi_l3 (hO _ _).1 (fun c25 => ?_) (fun c25 => ?_)
  · replace h := h.1 c25
    refine wm_iinc d_MS_rank_98 (by decide) rfl (L' := [vr a0, vi l1, vi (l2 + 1), vi l3]) rfl ?_
    refine wm_goto (tgt := 41) d_MS_rank_101 rfl ?_
    refine wm_less (L' := [vr a0, vi l1, vi (l2 + 1), vd]) ⟨Or.inr rfl, Or.inr rfl, Or.inr rfl, Or.inl rfl, trivial⟩ ?_
    exact h
  · replace h := h.2 c25
    obtain ⟨h26, h⟩ := h
    obtain ⟨h27, h⟩ := h
    refine wm_aload_n d_MS_rank_57 rfl rfl ?_
    refine gf_MS_57 rfl d_MS_rank_58 h20 ?_
    refine wm_iload_n d_MS_rank_61 rfl rfl ?_
    refine wm_iald d_MS_rank_62 h26 h27 ?_
    refine wm_if_ge (tgt := 92) d_MS_rank_63 rfl (hO _ _).1 (fun c30 => ?_) (fun c30 => ?_)
    · replace h := h.1 c30
      refine wm_iinc d_MS_rank_92 (by decide) rfl (L' := [vr a0, vi l1, vi l2, vi (l3 + 1)]) rfl ?_
      refine wm_goto (tgt := 49) d_MS_rank_95 rfl ?_
      exact h
    · replace h := h.2 c30
      refine wm_aload_n d_MS_rank_66 rfl rfl ?_
      refine wm_iload_n d_MS_rank_67 rfl rfl ?_
      refine cf_MS_222 rfl d_MS_rank_68 h20 (Nat.le_of_ble_eq_true rfl) (Ci.mono h (fun x32 M31 h => ?_))
      obtain ⟨h33, hOM31, h⟩ := h
      refine wm_if_eq (tgt := 92) d_MS_rank_71 rfl h33 (fun c36 => ?_) (fun c36 => ?_)
      · replace h := h.1 c36
        refine wm_iinc d_MS_rank_92 (by decide) rfl (L' := [vr a0, vi l1, vi l2, vi (l3 + 1)]) rfl ?_
        refine wm_goto (tgt := 49) d_MS_rank_95 rfl ?_
        exact h
      · replace h := h.2 c36
        obtain ⟨h37, h⟩ := h
        refine wm_aload_n d_MS_rank_74 rfl rfl ?_
        refine wm_iload_n d_MS_rank_75 rfl rfl ?_
        refine wm_iload_n d_MS_rank_76 rfl rfl ?_
        refine cf_MS_226 rfl d_MS_rank_77 h37 (Nat.le_of_ble_eq_true rfl) (Ci.mono h (fun x39 M38 h => ?_))
        obtain ⟨h40, hOM38, h⟩ := h
        obtain ⟨s47, h⟩ := h
        have hJ : ∀ v45 : Int, v45 = (if (x39 = 0) then l1 else 1) → ∀ M46 : mM, M46 = (if (x39 = 0) then M38 else (mUI M38 (mR M38 a0 16) (Int.toNat l3) l2)) → mWm G y_MS_rank (d + 1) 92 [vr a0, vi v45, vi l2, vi l3] [] M46 (fun r9 M9 => r9 = none ∧ Q M9) := by
          intro v45 e48
          intro M46 e49
          have h := h v45 e48 M46 e49
          have h50 : i32 v45 := by rw [e48]; (repeat' split) <;> first | exact hi_l1 | exact ⟨by decide, by decide⟩
          have h51 : mK M46 = mK M38 := by rw [e49]; (repeat' split) <;> rfl
          obtain ⟨hOM46, h⟩ := h
          refine wm_iinc d_MS_rank_92 (by decide) rfl (L' := [vr a0, vi v45, vi l2, vi (l3 + 1)]) rfl ?_
          refine wm_goto (tgt := 49) d_MS_rank_95 rfl ?_
          exact h
        clear h
        have s52 := s47
        refine wm_if_eq (tgt := 92) d_MS_rank_80 rfl h40 (fun c41 => ?_) (fun c41 => ?_)
        · exact hJ l1 (if_pos c41).symm M38 (if_pos c41).symm
        · have s52 := s52 c41
          obtain ⟨h42, h43, h44⟩ := s52
          refine wm_aload_n d_MS_rank_83 rfl rfl ?_
          refine gf_MS_57 rfl d_MS_rank_84 h42 ?_
          refine wm_iload_n d_MS_rank_87 rfl rfl ?_
          refine wm_iload_n d_MS_rank_88 rfl rfl ?_
          refine wm_iastE d_MS_rank_89 h43 h44 hi_l2 rfl ?_
          refine wm_iconst d_MS_rank_90 ?_
          refine wm_istore_n d_MS_rank_91 rfl (by decide) (L' := [vr a0, vi 1, vi l2, vi l3]) rfl ?_
          exact hJ 1 (if_neg c41).symm (mUI M38 (mR M38 a0 16) (Int.toNat l3) l2) (if_neg c41).symm
theorem k_MS_rank_106 {G : mG} {d : Nat} {a0 : Nat} {l2 : Int} {M : mM} {Q : mM → Prop} (hO : mOk M) (hi_l2 : i32 l2)
    (h : mK M a0 = 17 ∧ ((mI M a0 1 ≤ l2) → (Q M)) ∧ (¬ (mI M a0 1 ≤ l2) → (Ci G y_MS_many d [vr a0, vi l2] M (fun x59 M58 => i32 x59 ∧ mOk M58 ∧ (((x59 = 0) → (mK M58 (mR M a0 15) = 30 ∧ ((0 : Int) ≤ l2 ∧ l2 < (mN M58 (mR M a0 15) : Int)) ∧ ∀ M68, M68 = mUI M58 (mR M a0 15) (Int.toNat l2) (-1) → h_MS_rank_106 G d a0 (l2 + 1) M68 Q)) ∧ (¬ (x59 = 0) → (mK M58 a0 = 17 ∧ Ci G y_MS_choose d [vr a0, vi l2] M58 (fun x72 M71 => i32 x72 ∧ mOk M71 ∧ (mK M71 (mR M a0 15) = 30 ∧ ((0 : Int) ≤ l2 ∧ l2 < (mN M71 (mR M a0 15) : Int)) ∧ ∀ M76, M76 = mUI M71 (mR M a0 15) (Int.toNat l2) x72 → h_MS_rank_106 G d a0 (l2 + 1) M76 Q))))))))) :
    h_MS_rank_106 G d a0 l2 M Q := by
  unfold h_MS_rank_106
  obtain ⟨h55, h⟩ := h
  refine wm_iload_n d_MS_rank_106 rfl rfl ?_
  refine wm_aload_n d_MS_rank_107 rfl rfl ?_
  refine gf_MS_103 rfl d_MS_rank_108 h55 ?_
  refine wm_icmp_ge (tgt := 143) d_MS_rank_111 rfl hi_l2 (hO _ _).1 (fun c57 => ?_) (fun c57 => ?_)
  · replace h := h.1 c57
    refine wm_return d_MS_rank_143 rfl ?_
    exact ⟨rfl, h⟩
  · replace h := h.2 c57
    refine wm_aload_n d_MS_rank_114 rfl rfl ?_
    refine gf_MS_54 rfl d_MS_rank_115 h55 ?_
    refine wm_iload_n d_MS_rank_118 rfl rfl ?_
    refine wm_aload_n d_MS_rank_119 rfl rfl ?_
    refine wm_iload_n d_MS_rank_120 rfl rfl ?_
    refine cf_MS_116 rfl d_MS_rank_121 h55 (Nat.le_of_ble_eq_true rfl) (Ci.mono h (fun x59 M58 h => ?_))
    obtain ⟨h60, hOM58, h⟩ := h
    refine wm_if_ne (tgt := 131) d_MS_rank_124 rfl h60 (fun c65 => ?_) (fun c65 => ?_)
    · replace h := h.2 c65
      obtain ⟨h70, h⟩ := h
      refine wm_aload_n d_MS_rank_131 rfl rfl ?_
      refine wm_iload_n d_MS_rank_132 rfl rfl ?_
      refine cf_MS_229 rfl d_MS_rank_133 h70 (Nat.le_of_ble_eq_true rfl) (Ci.mono h (fun x72 M71 h => ?_))
      obtain ⟨h73, hOM71, h⟩ := h
      obtain ⟨h74, h⟩ := h
      obtain ⟨h75, h⟩ := h
      obtain ⟨M76, e77⟩ : ∃ M76, M76 = mUI M71 (mR M a0 15) (Int.toNat l2) x72 := ⟨_, rfl⟩
      replace h := h M76 e77
      have hOM76 : mOk M76 := by rw [e77]; exact mOk_UI hOM71 h73
      refine wm_iastE d_MS_rank_136 h74 h75 h73 e77 ?_
      refine wm_iinc d_MS_rank_137 (by decide) rfl (L' := [vr a0, vd, vi (l2 + 1), vd]) rfl ?_
      refine wm_goto (tgt := 106) d_MS_rank_140 rfl ?_
      exact h
    · replace c65 := Classical.not_not.mp c65
      replace h := h.1 c65
      obtain ⟨h66, h⟩ := h
      obtain ⟨h67, h⟩ := h
      obtain ⟨M68, e69⟩ : ∃ M68, M68 = mUI M58 (mR M a0 15) (Int.toNat l2) (-1) := ⟨_, rfl⟩
      replace h := h M68 e69
      refine wm_iconst d_MS_rank_127 ?_
      refine wm_goto (tgt := 136) d_MS_rank_128 rfl ?_
      have hOM68 : mOk M68 := by rw [e69]; exact mOk_UI hOM58 ⟨by decide, by decide⟩
      refine wm_iastE d_MS_rank_136 h66 h67 ⟨by decide, by decide⟩ e69 ?_
      refine wm_iinc d_MS_rank_137 (by decide) rfl (L' := [vr a0, vd, vi (l2 + 1), vd]) rfl ?_
      refine wm_goto (tgt := 106) d_MS_rank_140 rfl ?_
      exact h
theorem d_MS_choose_0 : decode y_MS_choose.2.1 0 = .ok (.iconst 0, 1) := by decide +kernel
theorem d_MS_choose_1 : decode y_MS_choose.2.1 1 = .ok (.istore_n 2, 1) := by decide +kernel
theorem d_MS_choose_2 : decode y_MS_choose.2.1 2 = .ok (.iload_n 2, 1) := by decide +kernel
theorem d_MS_choose_3 : decode y_MS_choose.2.1 3 = .ok (.aload_n 0, 1) := by decide +kernel
theorem d_MS_choose_4 : decode y_MS_choose.2.1 4 = .ok (.iload_n 1, 1) := by decide +kernel
theorem d_MS_choose_5 : decode y_MS_choose.2.1 5 = .ok (.invokevirtual 116, 3) := by decide +kernel
theorem d_MS_choose_8 : decode y_MS_choose.2.1 8 = .ok (.if_icmp .ge 72, 3) := by decide +kernel
theorem d_MS_choose_80 : decode y_MS_choose.2.1 80 = .ok (.iconst 0, 1) := by decide +kernel
theorem d_MS_choose_81 : decode y_MS_choose.2.1 81 = .ok (.ireturn, 1) := by decide +kernel
theorem d_MS_choose_11 : decode y_MS_choose.2.1 11 = .ok (.aload_n 0, 1) := by decide +kernel
theorem d_MS_choose_12 : decode y_MS_choose.2.1 12 = .ok (.getfield 16, 3) := by decide +kernel
theorem d_MS_choose_15 : decode y_MS_choose.2.1 15 = .ok (.iload_n 1, 1) := by decide +kernel
theorem d_MS_choose_16 : decode y_MS_choose.2.1 16 = .ok (.iaload, 1) := by decide +kernel
theorem d_MS_choose_17 : decode y_MS_choose.2.1 17 = .ok (.iconst 2, 1) := by decide +kernel
theorem d_MS_choose_18 : decode y_MS_choose.2.1 18 = .ok (.if_icmp .ne 12, 3) := by decide +kernel
theorem d_MS_choose_21 : decode y_MS_choose.2.1 21 = .ok (.aload_n 0, 1) := by decide +kernel
theorem d_MS_choose_22 : decode y_MS_choose.2.1 22 = .ok (.iload_n 1, 1) := by decide +kernel
theorem d_MS_choose_23 : decode y_MS_choose.2.1 23 = .ok (.iload_n 2, 1) := by decide +kernel
theorem d_MS_choose_30 : decode y_MS_choose.2.1 30 = .ok (.aload_n 0, 1) := by decide +kernel
theorem d_MS_choose_31 : decode y_MS_choose.2.1 31 = .ok (.iload_n 1, 1) := by decide +kernel
theorem d_MS_choose_24 : decode y_MS_choose.2.1 24 = .ok (.invokevirtual 215, 3) := by decide +kernel
theorem d_MS_choose_27 : decode y_MS_choose.2.1 27 = .ok (.goto 40, 3) := by decide +kernel
theorem d_MS_choose_67 : decode y_MS_choose.2.1 67 = .ok (.istore_n 3, 1) := by decide +kernel
theorem d_MS_choose_68 : decode y_MS_choose.2.1 68 = .ok (.iload_n 3, 1) := by decide +kernel
theorem d_MS_choose_69 : decode y_MS_choose.2.1 69 = .ok (.ifCond .eq 5, 3) := by decide +kernel
theorem d_MS_choose_74 : decode y_MS_choose.2.1 74 = .ok (.iinc 2 1, 3) := by decide +kernel
theorem d_MS_choose_77 : decode y_MS_choose.2.1 77 = .ok (.goto (-75), 3) := by decide +kernel
theorem d_MS_choose_72 : decode y_MS_choose.2.1 72 = .ok (.iload_n 2, 1) := by decide +kernel
theorem d_MS_choose_73 : decode y_MS_choose.2.1 73 = .ok (.ireturn, 1) := by decide +kernel
theorem d_MS_choose_32 : decode y_MS_choose.2.1 32 = .ok (.invokevirtual 222, 3) := by decide +kernel
theorem d_MS_choose_35 : decode y_MS_choose.2.1 35 = .ok (.ifCond .eq 31, 3) := by decide +kernel
theorem d_MS_choose_66 : decode y_MS_choose.2.1 66 = .ok (.iconst 0, 1) := by decide +kernel
theorem d_MS_choose_38 : decode y_MS_choose.2.1 38 = .ok (.aload_n 0, 1) := by decide +kernel
theorem d_MS_choose_39 : decode y_MS_choose.2.1 39 = .ok (.iload_n 1, 1) := by decide +kernel
theorem d_MS_choose_40 : decode y_MS_choose.2.1 40 = .ok (.iload_n 2, 1) := by decide +kernel
theorem d_MS_choose_41 : decode y_MS_choose.2.1 41 = .ok (.invokevirtual 215, 3) := by decide +kernel
theorem d_MS_choose_44 : decode y_MS_choose.2.1 44 = .ok (.ifCond .eq 22, 3) := by decide +kernel
theorem d_MS_choose_47 : decode y_MS_choose.2.1 47 = .ok (.aload_n 0, 1) := by decide +kernel
theorem d_MS_choose_48 : decode y_MS_choose.2.1 48 = .ok (.iload_n 1, 1) := by decide +kernel
theorem d_MS_choose_49 : decode y_MS_choose.2.1 49 = .ok (.iload_n 2, 1) := by decide +kernel
theorem d_MS_choose_50 : decode y_MS_choose.2.1 50 = .ok (.aload_n 0, 1) := by decide +kernel
theorem d_MS_choose_51 : decode y_MS_choose.2.1 51 = .ok (.getfield 57, 3) := by decide +kernel
theorem d_MS_choose_54 : decode y_MS_choose.2.1 54 = .ok (.iload_n 1, 1) := by decide +kernel
theorem d_MS_choose_55 : decode y_MS_choose.2.1 55 = .ok (.iaload, 1) := by decide +kernel
theorem d_MS_choose_56 : decode y_MS_choose.2.1 56 = .ok (.invokevirtual 218, 3) := by decide +kernel
theorem d_MS_choose_59 : decode y_MS_choose.2.1 59 = .ok (.ifCond .eq 7, 3) := by decide +kernel
theorem d_MS_choose_62 : decode y_MS_choose.2.1 62 = .ok (.iconst 1, 1) := by decide +kernel
theorem d_MS_choose_63 : decode y_MS_choose.2.1 63 = .ok (.goto 4, 3) := by decide +kernel
def h_MS_choose_2 (G : mG) (d : Nat) (a0 : Nat) (l1 : Int) (l2 : Int) (M : mM) (Q : Int → mM → Prop) : Prop := mWm G y_MS_choose (d + 1) 2 [vr a0, vi l1, vi l2, vd] [] M (fun r9 M9 => ∃ x9, r9 = some (vi x9) ∧ Q x9 M9)
theorem k_MS_choose {G : mG} {d : Nat} {a0 : Nat} {l1 : Int} {M : mM} {Q : Int → mM → Prop} (hO : mOk M) (hi_l1 : i32 l1)
    (h : h_MS_choose_2 G d a0 l1 0 M Q) :
    Ci G y_MS_choose (d + 1) [vr a0, vi l1] M Q := by
  refine wm_open (y := y_MS_choose) rfl (Nat.le_of_ble_eq_true rfl) (L := [vr a0, vi l1, vd, vd]) rfl ?_
  refine wm_iconst d_MS_choose_0 ?_
  refine wm_istore_n d_MS_choose_1 rfl (by decide) (L' := [vr a0, vi l1, vi 0, vd]) rfl ?_
  exact h
theorem k_MS_choose_2 {G : mG} {d : Nat} {a0 : Nat} {l1 : Int} {l2 : Int} {M : mM} {Q : Int → mM → Prop} (hO : mOk M) (hi_l1 : i32 l1) (hi_l2 : i32 l2)
    (h : mK M a0 = 17 ∧ Ci G y_MS_many d [vr a0, vi l1] M (fun x3 M2 => i32 x3 ∧ mOk M2 ∧ (((x3 ≤ l2) → (Q 0 M2)) ∧ (¬ (x3 ≤ l2) → (mK M2 a0 = 17 ∧ mK M2 (mR M2 a0 4) = 30 ∧ ((0 : Int) ≤ l1 ∧ l1 < (mN M2 (mR M2 a0 4) : Int)) ∧ ((mI M2 (mR M2 a0 4) (Int.toNat l1) = 2) → (Ci G y_MS_attains d [vr a0, vi l1, vi l2] M2 (fun x18 M17 => i32 x18 ∧ mOk M17 ∧ (((x18 = 0) → (h_MS_choose_2 G d a0 l1 (l2 + 1) M17 Q)) ∧ (¬ (x18 = 0) → (Q l2 M17)))))) ∧ (¬ (mI M2 (mR M2 a0 4) (Int.toNat l1) = 2) → (Ci G y_MS_isUnknown d [vr a0, vi l1] M2 (fun x23 M22 => i32 x23 ∧ mOk M22 ∧ (((x23 = 0) → ((((0 : Int) = 0) → (h_MS_choose_2 G d a0 l1 (l2 + 1) M22 Q)) ∧ (¬ ((0 : Int) = 0) → (Q l2 M22)))) ∧ (¬ (x23 = 0) → (mK M22 a0 = 17 ∧ Ci G y_MS_attains d [vr a0, vi l1, vi l2] M22 (fun x32 M31 => i32 x32 ∧ mOk M31 ∧ (((x32 = 0) → ((((0 : Int) = 0) → (h_MS_choose_2 G d a0 l1 (l2 + 1) M31 Q)) ∧ (¬ ((0 : Int) = 0) → (Q l2 M31)))) ∧ (¬ (x32 = 0) → (mK M31 a0 = 17 ∧ mK M31 (mR M31 a0 16) = 30 ∧ ((0 : Int) ≤ l1 ∧ l1 < (mN M31 (mR M31 a0 16) : Int)) ∧ Ci G y_MS_leadsBelow d [vr a0, vi l1, vi l2, vi (mI M31 (mR M31 a0 16) (Int.toNat l1))] M31 (fun x46 M45 => i32 x46 ∧ mOk M45 ∧ (∀ v49 : Int, v49 = (if (x46 = 0) then 0 else 1) → ((v49 = 0) → (h_MS_choose_2 G d a0 l1 (l2 + 1) M45 Q)) ∧ (¬ (v49 = 0) → (Q l2 M45))))))))))))))))))) :
    h_MS_choose_2 G d a0 l1 l2 M Q := by
  unfold h_MS_choose_2
  obtain ⟨h1, h⟩ := h
  refine wm_iload_n d_MS_choose_2 rfl rfl ?_
  refine wm_aload_n d_MS_choose_3 rfl rfl ?_
  refine wm_iload_n d_MS_choose_4 rfl rfl ?_
  refine cf_MS_116 rfl d_MS_choose_5 h1 (Nat.le_of_ble_eq_true rfl) (Ci.mono h (fun x3 M2 h => ?_))
  obtain ⟨h4, hOM2, h⟩ := h
  refine wm_icmp_ge (tgt := 80) d_MS_choose_8 rfl hi_l2 h4 (fun c10 => ?_) (fun c10 => ?_)
  · replace h := h.1 c10
    refine wm_iconst d_MS_choose_80 ?_
    refine wm_ireturn d_MS_choose_81 rfl rfl ?_
    exact ⟨_, rfl, h⟩
  · replace h := h.2 c10
    obtain ⟨h11, h⟩ := h
    obtain ⟨h12, h⟩ := h
    obtain ⟨h13, h⟩ := h
    refine wm_aload_n d_MS_choose_11 rfl rfl ?_
    refine gf_MS_16 rfl d_MS_choose_12 h11 ?_
    refine wm_iload_n d_MS_choose_15 rfl rfl ?_
    refine wm_iald d_MS_choose_16 h12 h13 ?_
    refine wm_iconst d_MS_choose_17 ?_
    refine wm_icmp_ne (tgt := 30) d_MS_choose_18 rfl (hOM2 _ _).1 ⟨by decide, by decide⟩ (fun c16 => ?_) (fun c16 => ?_)
    · replace h := h.2 c16
      refine wm_aload_n d_MS_choose_30 rfl rfl ?_
      refine wm_iload_n d_MS_choose_31 rfl rfl ?_
      refine cf_MS_222 rfl d_MS_choose_32 h11 (Nat.le_of_ble_eq_true rfl) (Ci.mono h (fun x23 M22 h => ?_))
      obtain ⟨h24, hOM22, h⟩ := h
      refine wm_if_eq (tgt := 66) d_MS_choose_35 rfl h24 (fun c27 => ?_) (fun c27 => ?_)
      · replace h := h.1 c27
        refine wm_iconst d_MS_choose_66 ?_
        refine wm_istore_n d_MS_choose_67 rfl (by decide) (L' := [vr a0, vi l1, vi l2, vi 0]) rfl ?_
        refine wm_iload_n d_MS_choose_68 rfl rfl ?_
        refine wm_if_eq (tgt := 74) d_MS_choose_69 rfl ⟨by decide, by decide⟩ (fun c29 => ?_) (fun c29 => ?_)
        · replace h := h.1 c29
          refine wm_iinc d_MS_choose_74 (by decide) rfl (L' := [vr a0, vi l1, vi (l2 + 1), vi 0]) rfl ?_
          refine wm_goto (tgt := 2) d_MS_choose_77 rfl ?_
          refine wm_less (L' := [vr a0, vi l1, vi (l2 + 1), vd]) ⟨Or.inr rfl, Or.inr rfl, Or.inr rfl, Or.inl rfl, trivial⟩ ?_
          exact h
        · replace h := h.2 c29
          refine wm_iload_n d_MS_choose_72 rfl rfl ?_
          refine wm_ireturn d_MS_choose_73 rfl rfl ?_
          exact ⟨_, rfl, h⟩
      · replace h := h.2 c27
        obtain ⟨h30, h⟩ := h
        refine wm_aload_n d_MS_choose_38 rfl rfl ?_
        refine wm_iload_n d_MS_choose_39 rfl rfl ?_
        refine wm_iload_n d_MS_choose_40 rfl rfl ?_
        refine cf_MS_215 rfl d_MS_choose_41 h30 (Nat.le_of_ble_eq_true rfl) (Ci.mono h (fun x32 M31 h => ?_))
        obtain ⟨h33, hOM31, h⟩ := h
        refine wm_if_eq (tgt := 66) d_MS_choose_44 rfl h33 (fun c39 => ?_) (fun c39 => ?_)
        · replace h := h.1 c39
          refine wm_iconst d_MS_choose_66 ?_
          refine wm_istore_n d_MS_choose_67 rfl (by decide) (L' := [vr a0, vi l1, vi l2, vi 0]) rfl ?_
          refine wm_iload_n d_MS_choose_68 rfl rfl ?_
          refine wm_if_eq (tgt := 74) d_MS_choose_69 rfl ⟨by decide, by decide⟩ (fun c41 => ?_) (fun c41 => ?_)
          · replace h := h.1 c41
            refine wm_iinc d_MS_choose_74 (by decide) rfl (L' := [vr a0, vi l1, vi (l2 + 1), vi 0]) rfl ?_
            refine wm_goto (tgt := 2) d_MS_choose_77 rfl ?_
            refine wm_less (L' := [vr a0, vi l1, vi (l2 + 1), vd]) ⟨Or.inr rfl, Or.inr rfl, Or.inr rfl, Or.inl rfl, trivial⟩ ?_
            exact h
          · replace h := h.2 c41
            refine wm_iload_n d_MS_choose_72 rfl rfl ?_
            refine wm_ireturn d_MS_choose_73 rfl rfl ?_
            exact ⟨_, rfl, h⟩
        · replace h := h.2 c39
          obtain ⟨h42, h⟩ := h
          obtain ⟨h43, h⟩ := h
          obtain ⟨h44, h⟩ := h
          refine wm_aload_n d_MS_choose_47 rfl rfl ?_
          refine wm_iload_n d_MS_choose_48 rfl rfl ?_
          refine wm_iload_n d_MS_choose_49 rfl rfl ?_
          refine wm_aload_n d_MS_choose_50 rfl rfl ?_
          refine gf_MS_57 rfl d_MS_choose_51 h42 ?_
          refine wm_iload_n d_MS_choose_54 rfl rfl ?_
          refine wm_iald d_MS_choose_55 h43 h44 ?_
          refine cf_MS_218 rfl d_MS_choose_56 h42 (Nat.le_of_ble_eq_true rfl) (Ci.mono h (fun x46 M45 h => ?_))
          obtain ⟨h47, hOM45, h⟩ := h
          have hJ : ∀ v49 : Int, v49 = (if (x46 = 0) then 0 else 1) → mWm G y_MS_choose (d + 1) 67 [vr a0, vi l1, vi l2, vd] [vi v49] M45 (fun r9 M9 => ∃ x9, r9 = some (vi x9) ∧ Q x9 M9) := by
            intro v49 e51
            have h := h v49 e51
            have h52 : i32 v49 := by rw [e51]; (repeat' split) <;> first | exact ⟨by decide, by decide⟩ | exact ⟨by decide, by decide⟩
            have h53 : (v49 = 0 ∨ v49 = 1) := by rw [e51]; (repeat' split) <;> decide
            refine wm_istore_n d_MS_choose_67 rfl (by decide) (L' := [vr a0, vi l1, vi l2, vi v49]) rfl ?_
            refine wm_iload_n d_MS_choose_68 rfl rfl ?_
            refine wm_if_eq (tgt := 74) d_MS_choose_69 rfl h52 (fun c55 => ?_) (fun c55 => ?_)
            · replace h := h.1 c55
              refine wm_iinc d_MS_choose_74 (by decide) rfl (L' := [vr a0, vi l1, vi (l2 + 1), vi v49]) rfl ?_
              refine wm_goto (tgt := 2) d_MS_choose_77 rfl ?_
              refine wm_less (L' := [vr a0, vi l1, vi (l2 + 1), vd]) ⟨Or.inr rfl, Or.inr rfl, Or.inr rfl, Or.inl rfl, trivial⟩ ?_
              exact h
            · replace h := h.2 c55
              refine wm_iload_n d_MS_choose_72 rfl rfl ?_
              refine wm_ireturn d_MS_choose_73 rfl rfl ?_
              exact ⟨_, rfl, h⟩
          clear h
          refine wm_if_eq (tgt := 66) d_MS_choose_59 rfl h47 (fun c48 => ?_) (fun c48 => ?_)
          · refine wm_iconst d_MS_choose_66 ?_
            exact hJ 0 (if_pos c48).symm
          · refine wm_iconst d_MS_choose_62 ?_
            refine wm_goto (tgt := 67) d_MS_choose_63 rfl ?_
            exact hJ 1 (if_neg c48).symm
    · replace c16 := Classical.not_not.mp c16
      replace h := h.1 c16
      refine wm_aload_n d_MS_choose_21 rfl rfl ?_
      refine wm_iload_n d_MS_choose_22 rfl rfl ?_
      refine wm_iload_n d_MS_choose_23 rfl rfl ?_
      refine cf_MS_215 rfl d_MS_choose_24 h11 (Nat.le_of_ble_eq_true rfl) (Ci.mono h (fun x18 M17 h => ?_))
      obtain ⟨h19, hOM17, h⟩ := h
      refine wm_goto (tgt := 67) d_MS_choose_27 rfl ?_
      refine wm_istore_n d_MS_choose_67 rfl (by decide) (L' := [vr a0, vi l1, vi l2, vi x18]) rfl ?_
      refine wm_iload_n d_MS_choose_68 rfl rfl ?_
      refine wm_if_eq (tgt := 74) d_MS_choose_69 rfl h19 (fun c21 => ?_) (fun c21 => ?_)
      · replace h := h.1 c21
        refine wm_iinc d_MS_choose_74 (by decide) rfl (L' := [vr a0, vi l1, vi (l2 + 1), vi x18]) rfl ?_
        refine wm_goto (tgt := 2) d_MS_choose_77 rfl ?_
        refine wm_less (L' := [vr a0, vi l1, vi (l2 + 1), vd]) ⟨Or.inr rfl, Or.inr rfl, Or.inr rfl, Or.inl rfl, trivial⟩ ?_
        exact h
      · replace h := h.2 c21
        refine wm_iload_n d_MS_choose_72 rfl rfl ?_
        refine wm_ireturn d_MS_choose_73 rfl rfl ?_
        exact ⟨_, rfl, h⟩
theorem d_MS_move_0 : decode y_MS_move.2.1 0 = .ok (.aload_n 0, 1) := by decide +kernel
theorem d_MS_move_1 : decode y_MS_move.2.1 1 = .ok (.getfield 97, 3) := by decide +kernel
theorem d_MS_move_4 : decode y_MS_move.2.1 4 = .ok (.aload_n 0, 1) := by decide +kernel
theorem d_MS_move_5 : decode y_MS_move.2.1 5 = .ok (.getfield 16, 3) := by decide +kernel
theorem d_MS_move_8 : decode y_MS_move.2.1 8 = .ok (.iload_n 1, 1) := by decide +kernel
theorem d_MS_move_9 : decode y_MS_move.2.1 9 = .ok (.iaload, 1) := by decide +kernel
theorem d_MS_move_10 : decode y_MS_move.2.1 10 = .ok (.iconst 3, 1) := by decide +kernel
theorem d_MS_move_11 : decode y_MS_move.2.1 11 = .ok (.if_icmp .ne 7, 3) := by decide +kernel
theorem d_MS_move_14 : decode y_MS_move.2.1 14 = .ok (.lconst 1, 1) := by decide +kernel
theorem d_MS_move_15 : decode y_MS_move.2.1 15 = .ok (.goto 4, 3) := by decide +kernel
theorem d_MS_move_18 : decode y_MS_move.2.1 18 = .ok (.lconst 0, 1) := by decide +kernel
theorem d_MS_move_19 : decode y_MS_move.2.1 19 = .ok (.lconst 1, 1) := by decide +kernel
theorem d_MS_move_20 : decode y_MS_move.2.1 20 = .ok (.invokevirtual 141, 3) := by decide +kernel
theorem d_MS_move_23 : decode y_MS_move.2.1 23 = .ok (.iconst 0, 1) := by decide +kernel
theorem d_MS_move_24 : decode y_MS_move.2.1 24 = .ok (.istore_n 2, 1) := by decide +kernel
theorem d_MS_move_25 : decode y_MS_move.2.1 25 = .ok (.iload_n 2, 1) := by decide +kernel
theorem d_MS_move_26 : decode y_MS_move.2.1 26 = .ok (.aload_n 0, 1) := by decide +kernel
theorem d_MS_move_27 : decode y_MS_move.2.1 27 = .ok (.iload_n 1, 1) := by decide +kernel
theorem d_MS_move_28 : decode y_MS_move.2.1 28 = .ok (.invokevirtual 116, 3) := by decide +kernel
theorem d_MS_move_31 : decode y_MS_move.2.1 31 = .ok (.if_icmp .ge 73, 3) := by decide +kernel
theorem d_MS_move_104 : decode y_MS_move.2.1 104 = .ok (.aload_n 0, 1) := by decide +kernel
theorem d_MS_move_105 : decode y_MS_move.2.1 105 = .ok (.getfield 97, 3) := by decide +kernel
theorem d_MS_move_108 : decode y_MS_move.2.1 108 = .ok (.getfield 232, 3) := by decide +kernel
theorem d_MS_move_34 : decode y_MS_move.2.1 34 = .ok (.aload_n 0, 1) := by decide +kernel
theorem d_MS_move_35 : decode y_MS_move.2.1 35 = .ok (.iload_n 1, 1) := by decide +kernel
theorem d_MS_move_36 : decode y_MS_move.2.1 36 = .ok (.iload_n 2, 1) := by decide +kernel
theorem d_MS_move_37 : decode y_MS_move.2.1 37 = .ok (.aload_n 0, 1) := by decide +kernel
theorem d_MS_move_38 : decode y_MS_move.2.1 38 = .ok (.getfield 69, 3) := by decide +kernel
theorem d_MS_move_41 : decode y_MS_move.2.1 41 = .ok (.iconst 0, 1) := by decide +kernel
theorem d_MS_move_42 : decode y_MS_move.2.1 42 = .ok (.iconst 1, 1) := by decide +kernel
theorem d_MS_move_111 : decode y_MS_move.2.1 111 = .ok (.invokevirtual 236, 3) := by decide +kernel
theorem d_MS_move_114 : decode y_MS_move.2.1 114 = .ok (.sipush 480, 3) := by decide +kernel
theorem d_MS_move_117 : decode y_MS_move.2.1 117 = .ok (.if_icmp .gt 23, 3) := by decide +kernel
theorem d_MS_move_120 : decode y_MS_move.2.1 120 = .ok (.aload_n 0, 1) := by decide +kernel
theorem d_MS_move_121 : decode y_MS_move.2.1 121 = .ok (.getfield 97, 3) := by decide +kernel
theorem d_MS_move_124 : decode y_MS_move.2.1 124 = .ok (.getfield 241, 3) := by decide +kernel
theorem d_MS_move_140 : decode y_MS_move.2.1 140 = .ok (.iconst 0, 1) := by decide +kernel
theorem d_MS_move_127 : decode y_MS_move.2.1 127 = .ok (.invokevirtual 236, 3) := by decide +kernel
theorem d_MS_move_130 : decode y_MS_move.2.1 130 = .ok (.sipush 480, 3) := by decide +kernel
theorem d_MS_move_133 : decode y_MS_move.2.1 133 = .ok (.if_icmp .gt 7, 3) := by decide +kernel
theorem d_MS_move_136 : decode y_MS_move.2.1 136 = .ok (.iconst 1, 1) := by decide +kernel
theorem d_MS_move_137 : decode y_MS_move.2.1 137 = .ok (.goto 4, 3) := by decide +kernel
theorem d_MS_move_43 : decode y_MS_move.2.1 43 = .ok (.invokevirtual 190, 3) := by decide +kernel
theorem d_MS_move_46 : decode y_MS_move.2.1 46 = .ok (.aload_n 0, 1) := by decide +kernel
theorem d_MS_move_47 : decode y_MS_move.2.1 47 = .ok (.getfield 10, 3) := by decide +kernel
theorem d_MS_move_50 : decode y_MS_move.2.1 50 = .ok (.aload_n 0, 1) := by decide +kernel
theorem d_MS_move_51 : decode y_MS_move.2.1 51 = .ok (.getfield 91, 3) := by decide +kernel
theorem d_MS_move_54 : decode y_MS_move.2.1 54 = .ok (.aload_n 0, 1) := by decide +kernel
theorem d_MS_move_55 : decode y_MS_move.2.1 55 = .ok (.getfield 97, 3) := by decide +kernel
theorem d_MS_move_58 : decode y_MS_move.2.1 58 = .ok (.invokevirtual 194, 3) := by decide +kernel
theorem d_MS_move_61 : decode y_MS_move.2.1 61 = .ok (.istore_n 3, 1) := by decide +kernel
theorem d_MS_move_62 : decode y_MS_move.2.1 62 = .ok (.iload_n 2, 1) := by decide +kernel
theorem d_MS_move_63 : decode y_MS_move.2.1 63 = .ok (.ifCond .eq 24, 3) := by decide +kernel
theorem d_MS_move_66 : decode y_MS_move.2.1 66 = .ok (.aload_n 0, 1) := by decide +kernel
theorem d_MS_move_67 : decode y_MS_move.2.1 67 = .ok (.getfield 16, 3) := by decide +kernel
theorem d_MS_move_70 : decode y_MS_move.2.1 70 = .ok (.iload_n 1, 1) := by decide +kernel
theorem d_MS_move_71 : decode y_MS_move.2.1 71 = .ok (.iaload, 1) := by decide +kernel
theorem d_MS_move_72 : decode y_MS_move.2.1 72 = .ok (.iconst 1, 1) := by decide +kernel
theorem d_MS_move_73 : decode y_MS_move.2.1 73 = .ok (.if_icmp .ne 10, 3) := by decide +kernel
theorem d_MS_move_76 : decode y_MS_move.2.1 76 = .ok (.iload_n 3, 1) := by decide +kernel
theorem d_MS_move_83 : decode y_MS_move.2.1 83 = .ok (.iload_n 3, 1) := by decide +kernel
theorem d_MS_move_77 : decode y_MS_move.2.1 77 = .ok (.ifCond .le 21, 3) := by decide +kernel
theorem d_MS_move_80 : decode y_MS_move.2.1 80 = .ok (.goto 7, 3) := by decide +kernel
theorem d_MS_move_87 : decode y_MS_move.2.1 87 = .ok (.aload_n 0, 1) := by decide +kernel
theorem d_MS_move_88 : decode y_MS_move.2.1 88 = .ok (.getfield 97, 3) := by decide +kernel
theorem d_MS_move_91 : decode y_MS_move.2.1 91 = .ok (.aload_n 0, 1) := by decide +kernel
theorem d_MS_move_92 : decode y_MS_move.2.1 92 = .ok (.getfield 91, 3) := by decide +kernel
theorem d_MS_move_84 : decode y_MS_move.2.1 84 = .ok (.ifCond .ge 14, 3) := by decide +kernel
theorem d_MS_move_95 : decode y_MS_move.2.1 95 = .ok (.invokevirtual 152, 3) := by decide +kernel
theorem d_MS_move_98 : decode y_MS_move.2.1 98 = .ok (.iinc 2 1, 3) := by decide +kernel
theorem d_MS_move_101 : decode y_MS_move.2.1 101 = .ok (.goto (-76), 3) := by decide +kernel
theorem d_MS_move_141 : decode y_MS_move.2.1 141 = .ok (.istore_n 2, 1) := by decide +kernel
theorem d_MS_move_142 : decode y_MS_move.2.1 142 = .ok (.iload_n 2, 1) := by decide +kernel
theorem d_MS_move_143 : decode y_MS_move.2.1 143 = .ok (.ifCond .eq 16, 3) := by decide +kernel
theorem d_MS_move_146 : decode y_MS_move.2.1 146 = .ok (.aload_n 0, 1) := by decide +kernel
theorem d_MS_move_147 : decode y_MS_move.2.1 147 = .ok (.getfield 48, 3) := by decide +kernel
theorem d_MS_move_150 : decode y_MS_move.2.1 150 = .ok (.iload_n 1, 1) := by decide +kernel
theorem d_MS_move_151 : decode y_MS_move.2.1 151 = .ok (.aaload, 1) := by decide +kernel
theorem d_MS_move_152 : decode y_MS_move.2.1 152 = .ok (.aload_n 0, 1) := by decide +kernel
theorem d_MS_move_153 : decode y_MS_move.2.1 153 = .ok (.getfield 97, 3) := by decide +kernel
theorem d_MS_move_159 : decode y_MS_move.2.1 159 = .ok (.iload_n 2, 1) := by decide +kernel
theorem d_MS_move_160 : decode y_MS_move.2.1 160 = .ok (.ireturn, 1) := by decide +kernel
theorem d_MS_move_156 : decode y_MS_move.2.1 156 = .ok (.invokevirtual 152, 3) := by decide +kernel
def h_MS_move_25 (G : mG) (d : Nat) (a0 : Nat) (l1 : Int) (l2 : Int) (M : mM) (Q : Int → mM → Prop) : Prop := mWm G y_MS_move (d + 1) 25 [vr a0, vi l1, vi l2, vd] [] M (fun r9 M9 => ∃ x9, r9 = some (vi x9) ∧ Q x9 M9)
def h_MS_move_98 (G : mG) (d : Nat) (a0 : Nat) (l1 : Int) (l2 : Int) (M : mM) (Q : Int → mM → Prop) : Prop := mWm G y_MS_move (d + 1) 98 [vr a0, vi l1, vi l2, vd] [] M (fun r9 M9 => ∃ x9, r9 = some (vi x9) ∧ Q x9 M9)
def h_MS_move_141 (G : mG) (d : Nat) (a0 : Nat) (l1 : Int) (k0 : Int) (M : mM) (Q : Int → mM → Prop) : Prop := mWm G y_MS_move (d + 1) 141 [vr a0, vi l1, vd, vd] [vi k0] M (fun r9 M9 => ∃ x9, r9 = some (vi x9) ∧ Q x9 M9)
theorem k_MS_move {G : mG} {d : Nat} {a0 : Nat} {l1 : Int} {M : mM} {Q : Int → mM → Prop} (hO : mOk M) (hi_l1 : i32 l1)
    (h : mK M a0 = 17 ∧ mK M (mR M a0 4) = 30 ∧ ((0 : Int) ≤ l1 ∧ l1 < (mN M (mR M a0 4) : Int)) ∧ ∀ v5 : Int, v5 = (if (mI M (mR M a0 4) (Int.toNat l1) = 3) then 1 else 0) → mK M (mR M a0 30) = 19 ∧ Cv G y_MF_set d [vr (mR M a0 30), vl v5, vl 1] M (fun M10 => mOk M10 ∧ (h_MS_move_25 G d a0 l1 0 M10 Q))) :
    Ci G y_MS_move (d + 1) [vr a0, vi l1] M Q := by
  refine wm_open (y := y_MS_move) rfl (Nat.le_of_ble_eq_true rfl) (L := [vr a0, vi l1, vd, vd]) rfl ?_
  obtain ⟨h1, h⟩ := h
  obtain ⟨h2, h⟩ := h
  obtain ⟨h3, h⟩ := h
  refine wm_aload_n d_MS_move_0 rfl rfl ?_
  refine gf_MS_97 rfl d_MS_move_1 h1 ?_
  refine wm_aload_n d_MS_move_4 rfl rfl ?_
  refine gf_MS_16 rfl d_MS_move_5 h1 ?_
  refine wm_iload_n d_MS_move_8 rfl rfl ?_
  refine wm_iald d_MS_move_9 h2 h3 ?_
  refine wm_iconst d_MS_move_10 ?_
  have hJ : ∀ v5 : Int, v5 = (if (mI M (mR M a0 4) (Int.toNat l1) = 3) then 1 else 0) → mWm G y_MS_move (d + 1) 19 [vr a0, vi l1, vd, vd] [vl v5, vr (mR M a0 30)] M (fun r9 M9 => ∃ x9, r9 = some (vi x9) ∧ Q x9 M9) := by
    intro v5 e7
    have h := h v5 e7
    have h8 : (v5 = 0 ∨ v5 = 1) := by rw [e7]; (repeat' split) <;> decide
    obtain ⟨h9, h⟩ := h
    refine wm_lconst (x := 1) d_MS_move_19 rfl ?_
    refine cf_MS_141 rfl d_MS_move_20 h9 (Nat.le_of_ble_eq_true rfl) (Cv.mono h (fun M10 h => ?_))
    obtain ⟨hOM10, h⟩ := h
    refine wm_iconst d_MS_move_23 ?_
    refine wm_istore_n d_MS_move_24 rfl (by decide) (L' := [vr a0, vi l1, vi 0, vd]) rfl ?_
    exact h
  clear h
  refine wm_icmp_ne (tgt := 18) d_MS_move_11 rfl (hO _ _).1 ⟨by decide, by decide⟩ (fun c4 => ?_) (fun c4 => ?_)
  · refine wm_lconst (x := 0) d_MS_move_18 rfl ?_
    exact hJ 0 (if_neg c4).symm
  · replace c4 := Classical.not_not.mp c4
    refine wm_lconst (x := 1) d_MS_move_14 rfl ?_
    refine wm_goto (tgt := 19) d_MS_move_15 rfl ?_
    exact hJ 1 (if_pos c4).symm
theorem k_MS_move_25 {G : mG} {d : Nat} {a0 : Nat} {l1 : Int} {l2 : Int} {M : mM} {Q : Int → mM → Prop} (hO : mOk M) (hi_l1 : i32 l1) (hi_l2 : i32 l2)
    (h : mK M a0 = 17 ∧ Ci G y_MS_many d [vr a0, vi l1] M (fun x16 M15 => i32 x16 ∧ mOk M15 ∧ (((x16 ≤ l2) → (mK M15 a0 = 17 ∧ mK M15 (mR M15 a0 30) = 19 ∧ mK M15 (mR M15 (mR M15 a0 30) 0) = 20 ∧ Ci G y_MW_places d [vr (mR M15 (mR M15 a0 30) 0)] M15 (fun x24 M23 => i32 x24 ∧ mOk M23 ∧ (((480 < x24) → (h_MS_move_141 G d a0 l1 0 M23 Q)) ∧ (¬ (480 < x24) → (mK M23 a0 = 17 ∧ mK M23 (mR M23 a0 30) = 19 ∧ mK M23 (mR M23 (mR M23 a0 30) 1) = 20 ∧ Ci G y_MW_places d [vr (mR M23 (mR M23 a0 30) 1)] M23 (fun x32 M31 => i32 x32 ∧ mOk M31 ∧ (((480 < x32) → (h_MS_move_141 G d a0 l1 0 M31 Q)) ∧ (¬ (480 < x32) → (h_MS_move_141 G d a0 l1 1 M31 Q)))))))))) ∧ (¬ (x16 ≤ l2) → (mK M15 a0 = 17 ∧ Cv G y_MS_worthOf d [vr a0, vi l1, vi l2, vr (mR M15 a0 21), vi 0, vi 1] M15 (fun M37 => mOk M37 ∧ (mK M37 a0 = 17 ∧ mK M37 (mR M37 a0 0) = 18 ∧ Ci G y_MU_compare d [vr (mR M37 a0 0), vr (mR M37 a0 28), vr (mR M37 a0 30)] M37 (fun x43 M42 => i32 x43 ∧ mOk M42 ∧ (((l2 = 0) → (mK M42 a0 = 17 ∧ mK M42 (mR M42 a0 30) = 19 ∧ Cv G y_MF_copy d [vr (mR M42 a0 30), vr (mR M42 a0 28)] M42 (fun M57 => mOk M57 ∧ (h_MS_move_98 G d a0 l1 l2 M57 Q)))) ∧ (¬ (l2 = 0) → (mK M42 a0 = 17 ∧ mK M42 (mR M42 a0 4) = 30 ∧ ((0 : Int) ≤ l1 ∧ l1 < (mN M42 (mR M42 a0 4) : Int)) ∧ ((mI M42 (mR M42 a0 4) (Int.toNat l1) = 1) → (((x43 ≤ 0) → (h_MS_move_98 G d a0 l1 l2 M42 Q)) ∧ (¬ (x43 ≤ 0) → (mK M42 (mR M42 a0 30) = 19 ∧ Cv G y_MF_copy d [vr (mR M42 a0 30), vr (mR M42 a0 28)] M42 (fun M72 => mOk M72 ∧ (h_MS_move_98 G d a0 l1 l2 M72 Q)))))) ∧ (¬ (mI M42 (mR M42 a0 4) (Int.toNat l1) = 1) → (((0 ≤ x43) → (h_MS_move_98 G d a0 l1 l2 M42 Q)) ∧ (¬ (0 ≤ x43) → (mK M42 (mR M42 a0 30) = 19 ∧ Cv G y_MF_copy d [vr (mR M42 a0 30), vr (mR M42 a0 28)] M42 (fun M78 => mOk M78 ∧ (h_MS_move_98 G d a0 l1 l2 M78 Q))))))))))))))))) :
    h_MS_move_25 G d a0 l1 l2 M Q := by
  unfold h_MS_move_25
  obtain ⟨h14, h⟩ := h
  refine wm_iload_n d_MS_move_25 rfl rfl ?_
  refine wm_aload_n d_MS_move_26 rfl rfl ?_
  refine wm_iload_n d_MS_move_27 rfl rfl ?_
  refine cf_MS_116 rfl d_MS_move_28 h14 (Nat.le_of_ble_eq_true rfl) (Ci.mono h (fun x16 M15 h => ?_))
  obtain ⟨h17, hOM15, h⟩ := h
  refine wm_icmp_ge (tgt := 104) d_MS_move_31 rfl hi_l2 h17 (fun c19 => ?_) (fun c19 => ?_)
  · replace h := h.1 c19
    obtain ⟨h20, h⟩ := h
    obtain ⟨h21, h⟩ := h
    obtain ⟨h22, h⟩ := h
    refine wm_aload_n d_MS_move_104 rfl rfl ?_
    refine gf_MS_97 rfl d_MS_move_105 h20 ?_
    refine gf_MS_232 rfl d_MS_move_108 h21 ?_
    refine cf_MS_236 rfl d_MS_move_111 h22 (Nat.le_of_ble_eq_true rfl) (Ci.mono h (fun x24 M23 h => ?_))
    obtain ⟨h25, hOM23, h⟩ := h
    refine wm_sipush d_MS_move_114 (by decide) ?_
    refine wm_icmp_gt (tgt := 140) d_MS_move_117 rfl h25 ⟨by decide, by decide⟩ (fun c27 => ?_) (fun c27 => ?_)
    · replace h := h.1 c27
      refine wm_iconst d_MS_move_140 ?_
      refine wm_less (L' := [vr a0, vi l1, vd, vd]) ⟨Or.inr rfl, Or.inr rfl, Or.inl rfl, Or.inl rfl, trivial⟩ ?_
      exact h
    · replace h := h.2 c27
      obtain ⟨h28, h⟩ := h
      obtain ⟨h29, h⟩ := h
      obtain ⟨h30, h⟩ := h
      refine wm_aload_n d_MS_move_120 rfl rfl ?_
      refine gf_MS_97 rfl d_MS_move_121 h28 ?_
      refine gf_MS_241 rfl d_MS_move_124 h29 ?_
      refine cf_MS_236 rfl d_MS_move_127 h30 (Nat.le_of_ble_eq_true rfl) (Ci.mono h (fun x32 M31 h => ?_))
      obtain ⟨h33, hOM31, h⟩ := h
      refine wm_sipush d_MS_move_130 (by decide) ?_
      refine wm_icmp_gt (tgt := 140) d_MS_move_133 rfl h33 ⟨by decide, by decide⟩ (fun c35 => ?_) (fun c35 => ?_)
      · replace h := h.1 c35
        refine wm_iconst d_MS_move_140 ?_
        refine wm_less (L' := [vr a0, vi l1, vd, vd]) ⟨Or.inr rfl, Or.inr rfl, Or.inl rfl, Or.inl rfl, trivial⟩ ?_
        exact h
      · replace h := h.2 c35
        refine wm_iconst d_MS_move_136 ?_
        refine wm_goto (tgt := 141) d_MS_move_137 rfl ?_
        refine wm_less (L' := [vr a0, vi l1, vd, vd]) ⟨Or.inr rfl, Or.inr rfl, Or.inl rfl, Or.inl rfl, trivial⟩ ?_
        exact h
  · replace h := h.2 c19
    obtain ⟨h36, h⟩ := h
    refine wm_aload_n d_MS_move_34 rfl rfl ?_
    refine wm_iload_n d_MS_move_35 rfl rfl ?_
    refine wm_iload_n d_MS_move_36 rfl rfl ?_
    refine wm_aload_n d_MS_move_37 rfl rfl ?_
    refine gf_MS_69 rfl d_MS_move_38 h36 ?_
    refine wm_iconst d_MS_move_41 ?_
    refine wm_iconst d_MS_move_42 ?_
    refine cf_MS_190 rfl d_MS_move_43 h36 (Nat.le_of_ble_eq_true rfl) (Cv.mono h (fun M37 h => ?_))
    obtain ⟨hOM37, h⟩ := h
    obtain ⟨h40, h⟩ := h
    obtain ⟨h41, h⟩ := h
    refine wm_aload_n d_MS_move_46 rfl rfl ?_
    refine gf_MS_10 rfl d_MS_move_47 h40 ?_
    refine wm_aload_n d_MS_move_50 rfl rfl ?_
    refine gf_MS_91 rfl d_MS_move_51 h40 ?_
    refine wm_aload_n d_MS_move_54 rfl rfl ?_
    refine gf_MS_97 rfl d_MS_move_55 h40 ?_
    refine cf_MS_194 rfl d_MS_move_58 h41 (Nat.le_of_ble_eq_true rfl) (Ci.mono h (fun x43 M42 h => ?_))
    obtain ⟨h44, hOM42, h⟩ := h
    refine wm_istore_n d_MS_move_61 rfl (by decide) (L' := [vr a0, vi l1, vi l2, vi x43]) rfl ?_
    refine wm_iload_n d_MS_move_62 rfl rfl ?_
    refine wm_if_eq (tgt := 87) d_MS_move_63 rfl hi_l2 (fun c54 => ?_) (fun c54 => ?_)
    · replace h := h.1 c54
      obtain ⟨h55, h⟩ := h
      obtain ⟨h56, h⟩ := h
      refine wm_aload_n d_MS_move_87 rfl rfl ?_
      refine gf_MS_97 rfl d_MS_move_88 h55 ?_
      refine wm_aload_n d_MS_move_91 rfl rfl ?_
      refine gf_MS_91 rfl d_MS_move_92 h55 ?_
      refine cf_MS_152 rfl d_MS_move_95 h56 (Nat.le_of_ble_eq_true rfl) (Cv.mono h (fun M57 h => ?_))
      obtain ⟨hOM57, h⟩ := h
      refine wm_less (L' := [vr a0, vi l1, vi l2, vd]) ⟨Or.inr rfl, Or.inr rfl, Or.inr rfl, Or.inl rfl, trivial⟩ ?_
      exact h
    · replace h := h.2 c54
      obtain ⟨h60, h⟩ := h
      obtain ⟨h61, h⟩ := h
      obtain ⟨h62, h⟩ := h
      refine wm_aload_n d_MS_move_66 rfl rfl ?_
      refine gf_MS_16 rfl d_MS_move_67 h60 ?_
      refine wm_iload_n d_MS_move_70 rfl rfl ?_
      refine wm_iald d_MS_move_71 h61 h62 ?_
      refine wm_iconst d_MS_move_72 ?_
      refine wm_icmp_ne (tgt := 83) d_MS_move_73 rfl (hOM42 _ _).1 ⟨by decide, by decide⟩ (fun c68 => ?_) (fun c68 => ?_)
      · replace h := h.2 c68
        refine wm_iload_n d_MS_move_83 rfl rfl ?_
        refine wm_if_ge (tgt := 98) d_MS_move_84 rfl h44 (fun c76 => ?_) (fun c76 => ?_)
        · replace h := h.1 c76
          refine wm_less (L' := [vr a0, vi l1, vi l2, vd]) ⟨Or.inr rfl, Or.inr rfl, Or.inr rfl, Or.inl rfl, trivial⟩ ?_
          exact h
        · replace h := h.2 c76
          obtain ⟨h77, h⟩ := h
          refine wm_aload_n d_MS_move_87 rfl rfl ?_
          refine gf_MS_97 rfl d_MS_move_88 h60 ?_
          refine wm_aload_n d_MS_move_91 rfl rfl ?_
          refine gf_MS_91 rfl d_MS_move_92 h60 ?_
          refine cf_MS_152 rfl d_MS_move_95 h77 (Nat.le_of_ble_eq_true rfl) (Cv.mono h (fun M78 h => ?_))
          obtain ⟨hOM78, h⟩ := h
          refine wm_less (L' := [vr a0, vi l1, vi l2, vd]) ⟨Or.inr rfl, Or.inr rfl, Or.inr rfl, Or.inl rfl, trivial⟩ ?_
          exact h
      · replace c68 := Classical.not_not.mp c68
        replace h := h.1 c68
        refine wm_iload_n d_MS_move_76 rfl rfl ?_
        refine wm_if_le (tgt := 98) d_MS_move_77 rfl h44 (fun c70 => ?_) (fun c70 => ?_)
        · replace h := h.1 c70
          refine wm_less (L' := [vr a0, vi l1, vi l2, vd]) ⟨Or.inr rfl, Or.inr rfl, Or.inr rfl, Or.inl rfl, trivial⟩ ?_
          exact h
        · replace h := h.2 c70
          obtain ⟨h71, h⟩ := h
          refine wm_goto (tgt := 87) d_MS_move_80 rfl ?_
          refine wm_aload_n d_MS_move_87 rfl rfl ?_
          refine gf_MS_97 rfl d_MS_move_88 h60 ?_
          refine wm_aload_n d_MS_move_91 rfl rfl ?_
          refine gf_MS_91 rfl d_MS_move_92 h60 ?_
          refine cf_MS_152 rfl d_MS_move_95 h71 (Nat.le_of_ble_eq_true rfl) (Cv.mono h (fun M72 h => ?_))
          obtain ⟨hOM72, h⟩ := h
          refine wm_less (L' := [vr a0, vi l1, vi l2, vd]) ⟨Or.inr rfl, Or.inr rfl, Or.inr rfl, Or.inl rfl, trivial⟩ ?_
          exact h
theorem k_MS_move_98 {G : mG} {d : Nat} {a0 : Nat} {l1 : Int} {l2 : Int} {M : mM} {Q : Int → mM → Prop} (hO : mOk M) (hi_l1 : i32 l1) (hi_l2 : i32 l2)
    (h : h_MS_move_25 G d a0 l1 (l2 + 1) M Q) :
    h_MS_move_98 G d a0 l1 l2 M Q := by
  unfold h_MS_move_98
  refine wm_iinc d_MS_move_98 (by decide) rfl (L' := [vr a0, vi l1, vi (l2 + 1), vd]) rfl ?_
  refine wm_goto (tgt := 25) d_MS_move_101 rfl ?_
  exact h
theorem k_MS_move_141 {G : mG} {d : Nat} {a0 : Nat} {l1 : Int} {k0 : Int} {M : mM} {Q : Int → mM → Prop} (hO : mOk M) (hi_l1 : i32 l1) (hi_k0 : i32 k0)
    (h : ((k0 = 0) → ((k0 = 0 ∨ k0 = 1) ∧ Q k0 M)) ∧ (¬ (k0 = 0) → (mK M a0 = 17 ∧ mK M (mR M a0 13) = 36 ∧ ((0 : Int) ≤ l1 ∧ l1 < (mN M (mR M a0 13) : Int)) ∧ mK M (mR M (mR M a0 13) (Int.toNat l1)) = 19 ∧ Cv G y_MF_copy d [vr (mR M (mR M a0 13) (Int.toNat l1)), vr (mR M a0 30)] M (fun M92 => mOk M92 ∧ ((k0 = 0 ∨ k0 = 1) ∧ Q k0 M92))))) :
    h_MS_move_141 G d a0 l1 k0 M Q := by
  unfold h_MS_move_141
  refine wm_istore_n d_MS_move_141 rfl (by decide) (L' := [vr a0, vi l1, vi k0, vd]) rfl ?_
  refine wm_iload_n d_MS_move_142 rfl rfl ?_
  refine wm_if_eq (tgt := 159) d_MS_move_143 rfl hi_k0 (fun c86 => ?_) (fun c86 => ?_)
  · replace h := h.1 c86
    obtain ⟨h87, h⟩ := h
    refine wm_iload_n d_MS_move_159 rfl rfl ?_
    refine wm_ireturn d_MS_move_160 rfl (m_nb h87) ?_
    exact ⟨_, rfl, h⟩
  · replace h := h.2 c86
    obtain ⟨h88, h⟩ := h
    obtain ⟨h89, h⟩ := h
    obtain ⟨h90, h⟩ := h
    obtain ⟨h91, h⟩ := h
    refine wm_aload_n d_MS_move_146 rfl rfl ?_
    refine gf_MS_48 rfl d_MS_move_147 h88 ?_
    refine wm_iload_n d_MS_move_150 rfl rfl ?_
    refine wm_aald6 d_MS_move_151 h89 h90 ?_
    refine wm_aload_n d_MS_move_152 rfl rfl ?_
    refine gf_MS_97 rfl d_MS_move_153 h88 ?_
    refine cf_MS_152 rfl d_MS_move_156 h91 (Nat.le_of_ble_eq_true rfl) (Cv.mono h (fun M92 h => ?_))
    obtain ⟨hOM92, h⟩ := h
    obtain ⟨h95, h⟩ := h
    refine wm_iload_n d_MS_move_159 rfl rfl ?_
    refine wm_ireturn d_MS_move_160 rfl (m_nb h95) ?_
    exact ⟨_, rfl, h⟩
