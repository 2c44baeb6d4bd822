theorem d_MM_state0_0 : decode y_MM_state0.2.1 0 = .ok (.aload_n 0, 1) := by decide +kernel
theorem d_MM_state0_1 : decode y_MM_state0.2.1 1 = .ok (.iload_n 1, 1) := by decide +kernel
theorem d_MM_state0_2 : decode y_MM_state0.2.1 2 = .ok (.invokevirtual 545, 3) := by decide +kernel
theorem d_MM_state0_5 : decode y_MM_state0.2.1 5 = .ok (.aload_n 0, 1) := by decide +kernel
theorem d_MM_state0_6 : decode y_MM_state0.2.1 6 = .ok (.getfield 93, 3) := by decide +kernel
theorem d_MM_state0_9 : decode y_MM_state0.2.1 9 = .ok (.iload_n 1, 1) := by decide +kernel
theorem d_MM_state0_10 : decode y_MM_state0.2.1 10 = .ok (.iconst 0, 1) := by decide +kernel
theorem d_MM_state0_11 : decode y_MM_state0.2.1 11 = .ok (.iastore, 1) := by decide +kernel
theorem d_MM_state0_12 : decode y_MM_state0.2.1 12 = .ok (.aload_n 0, 1) := by decide +kernel
theorem d_MM_state0_13 : decode y_MM_state0.2.1 13 = .ok (.getfield 96, 3) := by decide +kernel
theorem d_MM_state0_16 : decode y_MM_state0.2.1 16 = .ok (.iload_n 1, 1) := by decide +kernel
theorem d_MM_state0_17 : decode y_MM_state0.2.1 17 = .ok (.aload_n 0, 1) := by decide +kernel
theorem d_MM_state0_18 : decode y_MM_state0.2.1 18 = .ok (.getfield 102, 3) := by decide +kernel
theorem d_MM_state0_21 : decode y_MM_state0.2.1 21 = .ok (.getfield 145, 3) := by decide +kernel
theorem d_MM_state0_24 : decode y_MM_state0.2.1 24 = .ok (.iastore, 1) := by decide +kernel
theorem d_MM_state0_25 : decode y_MM_state0.2.1 25 = .ok (.aload_n 0, 1) := by decide +kernel
theorem d_MM_state0_26 : decode y_MM_state0.2.1 26 = .ok (.getfield 99, 3) := by decide +kernel
theorem d_MM_state0_29 : decode y_MM_state0.2.1 29 = .ok (.iload_n 1, 1) := by decide +kernel
theorem d_MM_state0_30 : decode y_MM_state0.2.1 30 = .ok (.iconst 0, 1) := by decide +kernel
theorem d_MM_state0_31 : decode y_MM_state0.2.1 31 = .ok (.iastore, 1) := by decide +kernel
theorem d_MM_state0_32 : decode y_MM_state0.2.1 32 = .ok (.aload_n 0, 1) := by decide +kernel
theorem d_MM_state0_33 : decode y_MM_state0.2.1 33 = .ok (.aload_n 0, 1) := by decide +kernel
theorem d_MM_state0_34 : decode y_MM_state0.2.1 34 = .ok (.getfield 34, 3) := by decide +kernel
theorem d_MM_state0_37 : decode y_MM_state0.2.1 37 = .ok (.getfield 439, 3) := by decide +kernel
theorem d_MM_state0_40 : decode y_MM_state0.2.1 40 = .ok (.invokevirtual 548, 3) := by decide +kernel
theorem d_MM_state0_43 : decode y_MM_state0.2.1 43 = .ok (.aload_n 0, 1) := by decide +kernel
theorem d_MM_state0_44 : decode y_MM_state0.2.1 44 = .ok (.getfield 267, 3) := by decide +kernel
theorem d_MM_state0_47 : decode y_MM_state0.2.1 47 = .ok (.ifCond .eq 4, 3) := by decide +kernel
theorem d_MM_state0_51 : decode y_MM_state0.2.1 51 = .ok (.aload_n 0, 1) := by decide +kernel
theorem d_MM_state0_52 : decode y_MM_state0.2.1 52 = .ok (.getfield 63, 3) := by decide +kernel
theorem d_MM_state0_55 : decode y_MM_state0.2.1 55 = .ok (.iconst 0, 1) := by decide +kernel
theorem d_MM_state0_56 : decode y_MM_state0.2.1 56 = .ok (.laload, 1) := by decide +kernel
theorem d_MM_state0_57 : decode y_MM_state0.2.1 57 = .ok (.lconst 1, 1) := by decide +kernel
theorem d_MM_state0_58 : decode y_MM_state0.2.1 58 = .ok (.lcmp, 1) := by decide +kernel
theorem d_MM_state0_50 : decode y_MM_state0.2.1 50 = .ok (.return_, 1) := by decide +kernel
theorem d_MM_state0_59 : decode y_MM_state0.2.1 59 = .ok (.ifCond .ne 11, 3) := by decide +kernel
theorem d_MM_state0_62 : decode y_MM_state0.2.1 62 = .ok (.aload_n 0, 1) := by decide +kernel
theorem d_MM_state0_63 : decode y_MM_state0.2.1 63 = .ok (.getfield 93, 3) := by decide +kernel
theorem d_MM_state0_66 : decode y_MM_state0.2.1 66 = .ok (.iload_n 1, 1) := by decide +kernel
theorem d_MM_state0_67 : decode y_MM_state0.2.1 67 = .ok (.iconst 3, 1) := by decide +kernel
theorem d_MM_state0_68 : decode y_MM_state0.2.1 68 = .ok (.iastore, 1) := by decide +kernel
theorem d_MM_state0_69 : decode y_MM_state0.2.1 69 = .ok (.return_, 1) := by decide +kernel
theorem d_MM_state0_70 : decode y_MM_state0.2.1 70 = .ok (.iconst 0, 1) := by decide +kernel
theorem d_MM_state0_71 : decode y_MM_state0.2.1 71 = .ok (.istore_n 2, 1) := by decide +kernel
theorem d_MM_state0_72 : decode y_MM_state0.2.1 72 = .ok (.iload_n 2, 1) := by decide +kernel
theorem d_MM_state0_73 : decode y_MM_state0.2.1 73 = .ok (.aload_n 0, 1) := by decide +kernel
theorem d_MM_state0_74 : decode y_MM_state0.2.1 74 = .ok (.getfield 34, 3) := by decide +kernel
theorem d_MM_state0_77 : decode y_MM_state0.2.1 77 = .ok (.getfield 474, 3) := by decide +kernel
theorem d_MM_state0_80 : decode y_MM_state0.2.1 80 = .ok (.if_icmp .ge 53, 3) := by decide +kernel
theorem d_MM_state0_83 : decode y_MM_state0.2.1 83 = .ok (.aload_n 0, 1) := by decide +kernel
theorem d_MM_state0_84 : decode y_MM_state0.2.1 84 = .ok (.getfield 267, 3) := by decide +kernel
theorem d_MM_state0_87 : decode y_MM_state0.2.1 87 = .ok (.ifCond .ne 46, 3) := by decide +kernel
theorem d_MM_state0_90 : decode y_MM_state0.2.1 90 = .ok (.aload_n 0, 1) := by decide +kernel
theorem d_MM_state0_91 : decode y_MM_state0.2.1 91 = .ok (.aload_n 0, 1) := by decide +kernel
theorem d_MM_state0_92 : decode y_MM_state0.2.1 92 = .ok (.getfield 34, 3) := by decide +kernel
theorem d_MM_state0_95 : decode y_MM_state0.2.1 95 = .ok (.getfield 483, 3) := by decide +kernel
theorem d_MM_state0_98 : decode y_MM_state0.2.1 98 = .ok (.iload_n 2, 1) := by decide +kernel
theorem d_MM_state0_99 : decode y_MM_state0.2.1 99 = .ok (.iaload, 1) := by decide +kernel
theorem d_MM_state0_133 : decode y_MM_state0.2.1 133 = .ok (.return_, 1) := by decide +kernel
theorem d_MM_state0_100 : decode y_MM_state0.2.1 100 = .ok (.invokevirtual 548, 3) := by decide +kernel
theorem d_MM_state0_103 : decode y_MM_state0.2.1 103 = .ok (.aload_n 0, 1) := by decide +kernel
theorem d_MM_state0_104 : decode y_MM_state0.2.1 104 = .ok (.getfield 267, 3) := by decide +kernel
theorem d_MM_state0_107 : decode y_MM_state0.2.1 107 = .ok (.ifCond .ne 20, 3) := by decide +kernel
theorem d_MM_state0_110 : decode y_MM_state0.2.1 110 = .ok (.aload_n 0, 1) := by decide +kernel
theorem d_MM_state0_111 : decode y_MM_state0.2.1 111 = .ok (.getfield 63, 3) := by decide +kernel
theorem d_MM_state0_114 : decode y_MM_state0.2.1 114 = .ok (.iconst 0, 1) := by decide +kernel
theorem d_MM_state0_115 : decode y_MM_state0.2.1 115 = .ok (.laload, 1) := by decide +kernel
theorem d_MM_state0_116 : decode y_MM_state0.2.1 116 = .ok (.lconst 1, 1) := by decide +kernel
theorem d_MM_state0_117 : decode y_MM_state0.2.1 117 = .ok (.lcmp, 1) := by decide +kernel
theorem d_MM_state0_118 : decode y_MM_state0.2.1 118 = .ok (.ifCond .ne 9, 3) := by decide +kernel
theorem d_MM_state0_121 : decode y_MM_state0.2.1 121 = .ok (.aload_n 0, 1) := by decide +kernel
theorem d_MM_state0_122 : decode y_MM_state0.2.1 122 = .ok (.iload_n 1, 1) := by decide +kernel
theorem d_MM_state0_123 : decode y_MM_state0.2.1 123 = .ok (.iload_n 2, 1) := by decide +kernel
theorem d_MM_state0_124 : decode y_MM_state0.2.1 124 = .ok (.invokevirtual 551, 3) := by decide +kernel
theorem d_MM_state0_127 : decode y_MM_state0.2.1 127 = .ok (.iinc 2 1, 3) := by decide +kernel
theorem d_MM_state0_130 : decode y_MM_state0.2.1 130 = .ok (.goto (-58), 3) := by decide +kernel
def h_MM_state0_72 (G : mG) (d : Nat) (a0 : Nat) (l1 : Int) (l2 : Int) (M : mM) (Q : mM → Prop) : Prop := mWm G y_MM_state0 (d + 1) 72 [vr a0, vi l1, vi l2] [] M (fun r9 M9 => r9 = none ∧ Q M9)
theorem k_MM_state0 {G : mG} {d : Nat} {a0 : Nat} {l1 : Int} {M : mM} {Q : mM → Prop} (hO : mOk M) (hi_l1 : i32 l1)
    (h : mK M a0 = 14 ∧ Cv G y_MM_enter d [vr a0, vi l1] M (fun M2 => mOk M2 ∧ (mK M2 a0 = 14 ∧ mK M2 (mR M2 a0 32) = 30 ∧ ((0 : Int) ≤ l1 ∧ l1 < (mN M2 (mR M2 a0 32) : Int)) ∧ ∀ M8, M8 = mUI M2 (mR M2 a0 32) (Int.toNat l1) 0 → mK M8 (mR M8 a0 35) = 15 ∧ mK M8 (mR M8 a0 33) = 30 ∧ ((0 : Int) ≤ l1 ∧ l1 < (mN M8 (mR M8 a0 33) : Int)) ∧ ∀ M13, M13 = mUI M8 (mR M8 a0 33) (Int.toNat l1) (mI M8 (mR M8 a0 35) 1) → mK M13 (mR M13 a0 34) = 30 ∧ ((0 : Int) ≤ l1 ∧ l1 < (mN M13 (mR M13 a0 34) : Int)) ∧ ∀ M17, M17 = mUI M13 (mR M13 a0 34) (Int.toNat l1) 0 → mK M17 (mR M17 a0 9) = 16 ∧ Cv G y_MM_reach d [vr a0, vi (mI M17 (mR M17 a0 9) 17)] M17 (fun M20 => mOk M20 ∧ (mK M20 a0 = 14 ∧ ((mI M20 a0 16 = 0) → (mK M20 (mR M20 a0 21) = 33 ∧ ((0 : Int) ≤ 0 ∧ 0 < (mN M20 (mR M20 a0 21) : Int)) ∧ ((cmpL (mL M20 (mR M20 a0 21) 0) 1 = 0) → (mK M20 (mR M20 a0 32) = 30 ∧ ((0 : Int) ≤ l1 ∧ l1 < (mN M20 (mR M20 a0 32) : Int)) ∧ ∀ M39, M39 = mUI M20 (mR M20 a0 32) (Int.toNat l1) 3 → Q M39)) ∧ (¬ (cmpL (mL M20 (mR M20 a0 21) 0) 1 = 0) → (h_MM_state0_72 G d a0 l1 0 M20 Q)))) ∧ (¬ (mI M20 a0 16 = 0) → (Q M20))))))) :
    Cv G y_MM_state0 (d + 1) [vr a0, vi l1] M Q := by
  refine wm_open (y := y_MM_state0) rfl (Nat.le_of_ble_eq_true rfl) (L := [vr a0, vi l1, vd]) rfl ?_
  obtain ⟨h1, h⟩ := h
  refine wm_aload_n d_MM_state0_0 rfl rfl ?_
  refine wm_iload_n d_MM_state0_1 rfl rfl ?_
  refine cf_MM_545 rfl d_MM_state0_2 h1 (Nat.le_of_ble_eq_true rfl) (Cv.mono h (fun M2 h => ?_))
  obtain ⟨hOM2, h⟩ := h
  obtain ⟨h5, h⟩ := h
  obtain ⟨h6, h⟩ := h
  obtain ⟨h7, h⟩ := h
  obtain ⟨M8, e9⟩ : ∃ M8, M8 = mUI M2 (mR M2 a0 32) (Int.toNat l1) 0 := ⟨_, rfl⟩
  replace h := h M8 e9
  obtain ⟨h10, h⟩ := h
  obtain ⟨h11, h⟩ := h
  obtain ⟨h12, h⟩ := h
  obtain ⟨M13, e14⟩ : ∃ M13, M13 = mUI M8 (mR M8 a0 33) (Int.toNat l1) (mI M8 (mR M8 a0 35) 1) := ⟨_, rfl⟩
  replace h := h M13 e14
  obtain ⟨h15, h⟩ := h
  obtain ⟨h16, h⟩ := h
  obtain ⟨M17, e18⟩ : ∃ M17, M17 = mUI M13 (mR M13 a0 34) (Int.toNat l1) 0 := ⟨_, rfl⟩
  replace h := h M17 e18
  obtain ⟨h19, h⟩ := h
  refine wm_aload_n d_MM_state0_5 rfl rfl ?_
  refine gf_MM_93 rfl d_MM_state0_6 h5 ?_
  refine wm_iload_n d_MM_state0_9 rfl rfl ?_
  refine wm_iconst d_MM_state0_10 ?_
  have hOM8 : mOk M8 := by rw [e9]; exact mOk_UI hOM2 ⟨by decide, by decide⟩
  refine wm_iastE d_MM_state0_11 h6 h7 ⟨by decide, by decide⟩ e9 ?_
  refine wm_aload_n d_MM_state0_12 rfl rfl ?_
  refine gf_MM_96 rfl d_MM_state0_13 (by rw [e9]; exact h5) ?_
  refine wm_iload_n d_MM_state0_16 rfl rfl ?_
  refine wm_aload_n d_MM_state0_17 rfl rfl ?_
  refine gf_MM_102 rfl d_MM_state0_18 (by rw [e9]; exact h5) ?_
  refine gf_MM_145 rfl d_MM_state0_21 h10 ?_
  have hOM13 : mOk M13 := by rw [e14]; exact mOk_UI hOM8 (hOM8 _ _).1
  refine wm_iastE d_MM_state0_24 h11 h12 (hOM8 _ _).1 e14 ?_
  refine wm_aload_n d_MM_state0_25 rfl rfl ?_
  refine gf_MM_99 rfl d_MM_state0_26 (by rw [e14, e9]; exact h5) ?_
  refine wm_iload_n d_MM_state0_29 rfl rfl ?_
  refine wm_iconst d_MM_state0_30 ?_
  have hOM17 : mOk M17 := by rw [e18]; exact mOk_UI hOM13 ⟨by decide, by decide⟩
  refine wm_iastE d_MM_state0_31 h15 h16 ⟨by decide, by decide⟩ e18 ?_
  refine wm_aload_n d_MM_state0_32 rfl rfl ?_
  refine wm_aload_n d_MM_state0_33 rfl rfl ?_
  refine gf_MM_34 rfl d_MM_state0_34 (by rw [e18, e14, e9]; exact h5) ?_
  refine gf_MM_439 rfl d_MM_state0_37 h19 ?_
  refine cf_MM_548 rfl d_MM_state0_40 (by rw [e18, e14, e9]; exact h5) (Nat.le_of_ble_eq_true rfl) (Cv.mono h (fun M20 h => ?_))
  obtain ⟨hOM20, h⟩ := h
  obtain ⟨h23, h⟩ := h
  refine wm_aload_n d_MM_state0_43 rfl rfl ?_
  refine gf_MM_267 rfl d_MM_state0_44 h23 ?_
  refine wm_if_eq (tgt := 51) d_MM_state0_47 rfl (hOM20 _ _).1 (fun c30 => ?_) (fun c30 => ?_)
  · replace h := h.1 c30
    obtain ⟨h31, h⟩ := h
    obtain ⟨h32, h⟩ := h
    refine wm_aload_n d_MM_state0_51 rfl rfl ?_
    refine gf_MM_63 rfl d_MM_state0_52 h23 ?_
    refine wm_iconst d_MM_state0_55 ?_
    refine wm_lald d_MM_state0_56 h31 h32 ?_
    refine wm_lconst (x := 1) d_MM_state0_57 rfl ?_
    refine wm_lcmp d_MM_state0_58 (hOM20 _ _).2 ⟨by decide, by decide⟩ ?_
    refine wm_if_ne (tgt := 70) d_MM_state0_59 rfl (m_cmp32 _ _) (fun c36 => ?_) (fun c36 => ?_)
    · replace h := h.2 c36
      refine wm_iconst d_MM_state0_70 ?_
      refine wm_istore_n d_MM_state0_71 rfl (by decide) (L' := [vr a0, vi l1, vi 0]) rfl ?_
      exact h
    · replace c36 := Classical.not_not.mp c36
      replace h := h.1 c36
      obtain ⟨h37, h⟩ := h
      obtain ⟨h38, h⟩ := h
      obtain ⟨M39, e40⟩ : ∃ M39, M39 = mUI M20 (mR M20 a0 32) (Int.toNat l1) 3 := ⟨_, rfl⟩
      replace h := h M39 e40
      refine wm_aload_n d_MM_state0_62 rfl rfl ?_
      refine gf_MM_93 rfl d_MM_state0_63 h23 ?_
      refine wm_iload_n d_MM_state0_66 rfl rfl ?_
      refine wm_iconst d_MM_state0_67 ?_
      have hOM39 : mOk M39 := by rw [e40]; exact mOk_UI hOM20 ⟨by decide, by decide⟩
      refine wm_iastE d_MM_state0_68 h37 h38 ⟨by decide, by decide⟩ e40 ?_
      refine wm_return d_MM_state0_69 rfl ?_
      exact ⟨rfl, h⟩
  · replace h := h.2 c30
    refine wm_return d_MM_state0_50 rfl ?_
    exact ⟨rfl, h⟩
theorem k_MM_state0_72 {G : mG} {d : Nat} {a0 : Nat} {l1 : Int} {l2 : Int} {M : mM} {Q : mM → Prop} (hO : mOk M) (hi_l1 : i32 l1) (hi_l2 : i32 l2)
    (h : mK M a0 = 14 ∧ mK M (mR M a0 9) = 16 ∧ (((mI M (mR M a0 9) 18 ≤ l2) ∨ (¬ (mI M a0 16 = 0))) → (Q M)) ∧ (¬ ((mI M (mR M a0 9) 18 ≤ l2) ∨ (¬ (mI M a0 16 = 0))) → (mK M (mR M (mR M a0 9) 21) = 30 ∧ ((0 : Int) ≤ l2 ∧ l2 < (mN M (mR M (mR M a0 9) 21) : Int)) ∧ Cv G y_MM_reach d [vr a0, vi (mI M (mR M (mR M a0 9) 21) (Int.toNat l2))] M (fun M50 => mOk M50 ∧ (mK M50 a0 = 14 ∧ ((mI M50 a0 16 = 0) → (mK M50 (mR M50 a0 21) = 33 ∧ ((0 : Int) ≤ 0 ∧ 0 < (mN M50 (mR M50 a0 21) : Int)))) ∧ (((mI M50 a0 16 = 0) ∧ (cmpL (mL M50 (mR M50 a0 21) 0) 1 = 0)) → (Cv G y_MM_enabled d [vr a0, vi l1, vi l2] M50 (fun M64 => mOk M64 ∧ (h_MM_state0_72 G d a0 l1 (l2 + 1) M64 Q)))) ∧ (¬ ((mI M50 a0 16 = 0) ∧ (cmpL (mL M50 (mR M50 a0 21) 0) 1 = 0)) → (h_MM_state0_72 G d a0 l1 (l2 + 1) M50 Q))))))) :
    h_MM_state0_72 G d a0 l1 l2 M Q := by
  unfold h_MM_state0_72
  obtain ⟨h41, h⟩ := h
  obtain ⟨h42, h⟩ := h
  refine wm_iload_n d_MM_state0_72 rfl rfl ?_
  refine wm_aload_n d_MM_state0_73 rfl rfl ?_
  refine gf_MM_34 rfl d_MM_state0_74 h41 ?_
  refine gf_MM_474 rfl d_MM_state0_77 h42 ?_
  have hE0 : ((mI M (mR M a0 9) 18 ≤ l2) ∨ (¬ (mI M a0 16 = 0))) → mWm G y_MM_state0 (d + 1) 133 [vr a0, vi l1, vi l2] [] M (fun r9 M9 => r9 = none ∧ Q M9) := by
    intro q46
    have h := h.1 q46
    refine wm_return d_MM_state0_133 rfl ?_
    exact ⟨rfl, h⟩
  have hE1 : ¬ ((mI M (mR M a0 9) 18 ≤ l2) ∨ (¬ (mI M a0 16 = 0))) → mWm G y_MM_state0 (d + 1) 90 [vr a0, vi l1, vi l2] [] M (fun r9 M9 => r9 = none ∧ Q M9) := by
    intro q47
    have h := h.2 q47
    obtain ⟨h48, h⟩ := h
    obtain ⟨h49, h⟩ := h
    refine wm_aload_n d_MM_state0_90 rfl rfl ?_
    refine wm_aload_n d_MM_state0_91 rfl rfl ?_
    refine gf_MM_34 rfl d_MM_state0_92 h41 ?_
    refine gf_MM_483 rfl d_MM_state0_95 h42 ?_
    refine wm_iload_n d_MM_state0_98 rfl rfl ?_
    refine wm_iald d_MM_state0_99 h48 h49 ?_
    refine cf_MM_548 rfl d_MM_state0_100 h41 (Nat.le_of_ble_eq_true rfl) (Cv.mono h (fun M50 h => ?_))
    obtain ⟨hOM50, h⟩ := h
    obtain ⟨h53, h⟩ := h
    refine wm_aload_n d_MM_state0_103 rfl rfl ?_
    refine gf_MM_267 rfl d_MM_state0_104 h53 ?_
    obtain ⟨s62, h⟩ := h
    have hE0 : ((mI M50 a0 16 = 0) ∧ (cmpL (mL M50 (mR M50 a0 21) 0) 1 = 0)) → mWm G y_MM_state0 (d + 1) 121 [vr a0, vi l1, vi l2] [] M50 (fun r9 M9 => r9 = none ∧ Q M9) := by
      intro q63
      have h := h.1 q63
      refine wm_aload_n d_MM_state0_121 rfl rfl ?_
      refine wm_iload_n d_MM_state0_122 rfl rfl ?_
      refine wm_iload_n d_MM_state0_123 rfl rfl ?_
      refine cf_MM_551 rfl d_MM_state0_124 h53 (Nat.le_of_ble_eq_true rfl) (Cv.mono h (fun M64 h => ?_))
      obtain ⟨hOM64, h⟩ := h
      refine wm_iinc d_MM_state0_127 (by decide) rfl (L' := [vr a0, vi l1, vi (l2 + 1)]) rfl ?_
      refine wm_goto (tgt := 72) d_MM_state0_130 rfl ?_
      exact h
    have hE1 : ¬ ((mI M50 a0 16 = 0) ∧ (cmpL (mL M50 (mR M50 a0 21) 0) 1 = 0)) → mWm G y_MM_state0 (d + 1) 127 [vr a0, vi l1, vi l2] [] M50 (fun r9 M9 => r9 = none ∧ Q M9) := by
      intro q67
      have h := h.2 q67
      refine wm_iinc d_MM_state0_127 (by decide) rfl (L' := [vr a0, vi l1, vi (l2 + 1)]) rfl ?_
      refine wm_goto (tgt := 72) d_MM_state0_130 rfl ?_
      exact h
    clear h
    have s68 := s62
    refine wm_if_ne (tgt := 127) d_MM_state0_107 rfl (hOM50 _ _).1 (fun c61 => ?_) (fun c61 => ?_)
    · exact hE1 (fun z71 => c61 z71.1)
    · replace c61 := Classical.not_not.mp c61
      have s68 := s68 c61
      obtain ⟨h58, h59⟩ := s68
      refine wm_aload_n d_MM_state0_110 rfl rfl ?_
      refine gf_MM_63 rfl d_MM_state0_111 h53 ?_
      refine wm_iconst d_MM_state0_114 ?_
      refine wm_lald d_MM_state0_115 h58 h59 ?_
      refine wm_lconst (x := 1) d_MM_state0_116 rfl ?_
      refine wm_lcmp d_MM_state0_117 (hOM50 _ _).2 ⟨by decide, by decide⟩ ?_
      refine wm_if_ne (tgt := 127) d_MM_state0_118 rfl (m_cmp32 _ _) (fun c60 => ?_) (fun c60 => ?_)
      · exact hE1 (fun z69 => c60 z69.2)
      · replace c60 := Classical.not_not.mp c60
        exact hE0 ⟨c61, c60⟩
  clear h
  refine wm_icmp_ge (tgt := 133) d_MM_state0_80 rfl hi_l2 (hO _ _).1 (fun c44 => ?_) (fun c44 => ?_)
  · exact hE0 (Or.inl c44)
  · refine wm_aload_n d_MM_state0_83 rfl rfl ?_
    refine gf_MM_267 rfl d_MM_state0_84 h41 ?_
    refine wm_if_ne (tgt := 133) d_MM_state0_87 rfl (hO _ _).1 (fun c43 => ?_) (fun c43 => ?_)
    · exact hE0 (Or.inr c43)
    · replace c43 := Classical.not_not.mp c43
      exact hE1 (fun z72 => Or.elim z72 c44 (fun z73 => z73 c43))
theorem d_MM_enabled_0 : decode y_MM_enabled.2.1 0 = .ok (.aload_n 0, 1) := by decide +kernel
theorem d_MM_enabled_1 : decode y_MM_enabled.2.1 1 = .ok (.getfield 34, 3) := by decide +kernel
theorem d_MM_enabled_4 : decode y_MM_enabled.2.1 4 = .ok (.getfield 477, 3) := by decide +kernel
theorem d_MM_enabled_7 : decode y_MM_enabled.2.1 7 = .ok (.iload_n 2, 1) := by decide +kernel
theorem d_MM_enabled_8 : decode y_MM_enabled.2.1 8 = .ok (.baload, 1) := by decide +kernel
theorem d_MM_enabled_9 : decode y_MM_enabled.2.1 9 = .ok (.ifCond .eq 7, 3) := by decide +kernel
theorem d_MM_enabled_16 : decode y_MM_enabled.2.1 16 = .ok (.iconst 1, 1) := by decide +kernel
theorem d_MM_enabled_12 : decode y_MM_enabled.2.1 12 = .ok (.iconst 2, 1) := by decide +kernel
theorem d_MM_enabled_13 : decode y_MM_enabled.2.1 13 = .ok (.goto 4, 3) := by decide +kernel
theorem d_MM_enabled_17 : decode y_MM_enabled.2.1 17 = .ok (.istore_n 3, 1) := by decide +kernel
theorem d_MM_enabled_18 : decode y_MM_enabled.2.1 18 = .ok (.aload_n 0, 1) := by decide +kernel
theorem d_MM_enabled_19 : decode y_MM_enabled.2.1 19 = .ok (.getfield 34, 3) := by decide +kernel
theorem d_MM_enabled_22 : decode y_MM_enabled.2.1 22 = .ok (.getfield 480, 3) := by decide +kernel
theorem d_MM_enabled_25 : decode y_MM_enabled.2.1 25 = .ok (.iload_n 2, 1) := by decide +kernel
theorem d_MM_enabled_26 : decode y_MM_enabled.2.1 26 = .ok (.iaload, 1) := by decide +kernel
theorem d_MM_enabled_27 : decode y_MM_enabled.2.1 27 = .ok (.istore 4, 2) := by decide +kernel
theorem d_MM_enabled_29 : decode y_MM_enabled.2.1 29 = .ok (.aload_n 0, 1) := by decide +kernel
theorem d_MM_enabled_30 : decode y_MM_enabled.2.1 30 = .ok (.getfield 93, 3) := by decide +kernel
theorem d_MM_enabled_33 : decode y_MM_enabled.2.1 33 = .ok (.iload_n 1, 1) := by decide +kernel
theorem d_MM_enabled_34 : decode y_MM_enabled.2.1 34 = .ok (.iaload, 1) := by decide +kernel
theorem d_MM_enabled_35 : decode y_MM_enabled.2.1 35 = .ok (.ifCond .eq 22, 3) := by decide +kernel
theorem d_MM_enabled_38 : decode y_MM_enabled.2.1 38 = .ok (.aload_n 0, 1) := by decide +kernel
theorem d_MM_enabled_39 : decode y_MM_enabled.2.1 39 = .ok (.getfield 93, 3) := by decide +kernel
theorem d_MM_enabled_42 : decode y_MM_enabled.2.1 42 = .ok (.iload_n 1, 1) := by decide +kernel
theorem d_MM_enabled_43 : decode y_MM_enabled.2.1 43 = .ok (.iaload, 1) := by decide +kernel
theorem d_MM_enabled_44 : decode y_MM_enabled.2.1 44 = .ok (.iload_n 3, 1) := by decide +kernel
theorem d_MM_enabled_45 : decode y_MM_enabled.2.1 45 = .ok (.if_icmp .eq 12, 3) := by decide +kernel
theorem d_MM_enabled_48 : decode y_MM_enabled.2.1 48 = .ok (.aload_n 0, 1) := by decide +kernel
theorem d_MM_enabled_49 : decode y_MM_enabled.2.1 49 = .ok (.bipush 13, 2) := by decide +kernel
theorem d_MM_enabled_51 : decode y_MM_enabled.2.1 51 = .ok (.iload 4, 2) := by decide +kernel
theorem d_MM_enabled_57 : decode y_MM_enabled.2.1 57 = .ok (.aload_n 0, 1) := by decide +kernel
theorem d_MM_enabled_58 : decode y_MM_enabled.2.1 58 = .ok (.getfield 93, 3) := by decide +kernel
theorem d_MM_enabled_61 : decode y_MM_enabled.2.1 61 = .ok (.iload_n 1, 1) := by decide +kernel
theorem d_MM_enabled_62 : decode y_MM_enabled.2.1 62 = .ok (.iload_n 3, 1) := by decide +kernel
theorem d_MM_enabled_63 : decode y_MM_enabled.2.1 63 = .ok (.iastore, 1) := by decide +kernel
theorem d_MM_enabled_64 : decode y_MM_enabled.2.1 64 = .ok (.aload_n 0, 1) := by decide +kernel
theorem d_MM_enabled_65 : decode y_MM_enabled.2.1 65 = .ok (.iload_n 2, 1) := by decide +kernel
theorem d_MM_enabled_66 : decode y_MM_enabled.2.1 66 = .ok (.iload 4, 2) := by decide +kernel
theorem d_MM_enabled_68 : decode y_MM_enabled.2.1 68 = .ok (.invokevirtual 554, 3) := by decide +kernel
theorem d_MM_enabled_71 : decode y_MM_enabled.2.1 71 = .ok (.lstore 5, 2) := by decide +kernel
theorem d_MM_enabled_73 : decode y_MM_enabled.2.1 73 = .ok (.aload_n 0, 1) := by decide +kernel
theorem d_MM_enabled_74 : decode y_MM_enabled.2.1 74 = .ok (.getfield 267, 3) := by decide +kernel
theorem d_MM_enabled_77 : decode y_MM_enabled.2.1 77 = .ok (.ifCond .eq 4, 3) := by decide +kernel
theorem d_MM_enabled_81 : decode y_MM_enabled.2.1 81 = .ok (.lconst 0, 1) := by decide +kernel
theorem d_MM_enabled_82 : decode y_MM_enabled.2.1 82 = .ok (.lstore 7, 2) := by decide +kernel
theorem d_MM_enabled_84 : decode y_MM_enabled.2.1 84 = .ok (.iconst 0, 1) := by decide +kernel
theorem d_MM_enabled_85 : decode y_MM_enabled.2.1 85 = .ok (.istore 9, 2) := by decide +kernel
theorem d_MM_enabled_80 : decode y_MM_enabled.2.1 80 = .ok (.return_, 1) := by decide +kernel
theorem d_MM_enabled_53 : decode y_MM_enabled.2.1 53 = .ok (.invokevirtual 351, 3) := by decide +kernel
theorem d_MM_enabled_56 : decode y_MM_enabled.2.1 56 = .ok (.return_, 1) := by decide +kernel
theorem d_MM_enabled_87 : decode y_MM_enabled.2.1 87 = .ok (.iload 9, 2) := by decide +kernel
theorem d_MM_enabled_89 : decode y_MM_enabled.2.1 89 = .ok (.aload_n 0, 1) := by decide +kernel
theorem d_MM_enabled_90 : decode y_MM_enabled.2.1 90 = .ok (.getfield 34, 3) := by decide +kernel
theorem d_MM_enabled_93 : decode y_MM_enabled.2.1 93 = .ok (.getfield 486, 3) := by decide +kernel
theorem d_MM_enabled_96 : decode y_MM_enabled.2.1 96 = .ok (.iload_n 2, 1) := by decide +kernel
theorem d_MM_enabled_97 : decode y_MM_enabled.2.1 97 = .ok (.iaload, 1) := by decide +kernel
theorem d_MM_enabled_98 : decode y_MM_enabled.2.1 98 = .ok (.if_icmp .ge 32, 3) := by decide +kernel
theorem d_MM_enabled_130 : decode y_MM_enabled.2.1 130 = .ok (.lload 7, 2) := by decide +kernel
theorem d_MM_enabled_132 : decode y_MM_enabled.2.1 132 = .ok (.lload 5, 2) := by decide +kernel
theorem d_MM_enabled_134 : decode y_MM_enabled.2.1 134 = .ok (.lcmp, 1) := by decide +kernel
theorem d_MM_enabled_101 : decode y_MM_enabled.2.1 101 = .ok (.lload 7, 2) := by decide +kernel
theorem d_MM_enabled_103 : decode y_MM_enabled.2.1 103 = .ok (.aload_n 0, 1) := by decide +kernel
theorem d_MM_enabled_104 : decode y_MM_enabled.2.1 104 = .ok (.getfield 133, 3) := by decide +kernel
theorem d_MM_enabled_107 : decode y_MM_enabled.2.1 107 = .ok (.iload 9, 2) := by decide +kernel
theorem d_MM_enabled_109 : decode y_MM_enabled.2.1 109 = .ok (.laload, 1) := by decide +kernel
theorem d_MM_enabled_110 : decode y_MM_enabled.2.1 110 = .ok (.lload 5, 2) := by decide +kernel
theorem d_MM_enabled_112 : decode y_MM_enabled.2.1 112 = .ok (.aload_n 0, 1) := by decide +kernel
theorem d_MM_enabled_113 : decode y_MM_enabled.2.1 113 = .ok (.getfield 136, 3) := by decide +kernel
theorem d_MM_enabled_116 : decode y_MM_enabled.2.1 116 = .ok (.iload 9, 2) := by decide +kernel
theorem d_MM_enabled_118 : decode y_MM_enabled.2.1 118 = .ok (.laload, 1) := by decide +kernel
theorem d_MM_enabled_119 : decode y_MM_enabled.2.1 119 = .ok (.ldiv, 1) := by decide +kernel
theorem d_MM_enabled_120 : decode y_MM_enabled.2.1 120 = .ok (.lmul, 1) := by decide +kernel
theorem d_MM_enabled_121 : decode y_MM_enabled.2.1 121 = .ok (.ladd, 1) := by decide +kernel
theorem d_MM_enabled_122 : decode y_MM_enabled.2.1 122 = .ok (.lstore 7, 2) := by decide +kernel
theorem d_MM_enabled_124 : decode y_MM_enabled.2.1 124 = .ok (.iinc 9 1, 3) := by decide +kernel
theorem d_MM_enabled_127 : decode y_MM_enabled.2.1 127 = .ok (.goto (-40), 3) := by decide +kernel
theorem d_MM_enabled_135 : decode y_MM_enabled.2.1 135 = .ok (.ifCond .eq 12, 3) := by decide +kernel
theorem d_MM_enabled_147 : decode y_MM_enabled.2.1 147 = .ok (.aload_n 0, 1) := by decide +kernel
theorem d_MM_enabled_148 : decode y_MM_enabled.2.1 148 = .ok (.getfield 102, 3) := by decide +kernel
theorem d_MM_enabled_151 : decode y_MM_enabled.2.1 151 = .ok (.iload_n 2, 1) := by decide +kernel
theorem d_MM_enabled_138 : decode y_MM_enabled.2.1 138 = .ok (.aload_n 0, 1) := by decide +kernel
theorem d_MM_enabled_139 : decode y_MM_enabled.2.1 139 = .ok (.bipush 11, 2) := by decide +kernel
theorem d_MM_enabled_141 : decode y_MM_enabled.2.1 141 = .ok (.iload 4, 2) := by decide +kernel
theorem d_MM_enabled_152 : decode y_MM_enabled.2.1 152 = .ok (.invokevirtual 152, 3) := by decide +kernel
theorem d_MM_enabled_155 : decode y_MM_enabled.2.1 155 = .ok (.aload_n 0, 1) := by decide +kernel
theorem d_MM_enabled_156 : decode y_MM_enabled.2.1 156 = .ok (.getfield 111, 3) := by decide +kernel
theorem d_MM_enabled_159 : decode y_MM_enabled.2.1 159 = .ok (.lload 5, 2) := by decide +kernel
theorem d_MM_enabled_161 : decode y_MM_enabled.2.1 161 = .ok (.l2i, 1) := by decide +kernel
theorem d_MM_enabled_162 : decode y_MM_enabled.2.1 162 = .ok (.invokevirtual 152, 3) := by decide +kernel
theorem d_MM_enabled_165 : decode y_MM_enabled.2.1 165 = .ok (.aload_n 0, 1) := by decide +kernel
theorem d_MM_enabled_166 : decode y_MM_enabled.2.1 166 = .ok (.getfield 105, 3) := by decide +kernel
theorem d_MM_enabled_169 : decode y_MM_enabled.2.1 169 = .ok (.aload_n 0, 1) := by decide +kernel
theorem d_MM_enabled_170 : decode y_MM_enabled.2.1 170 = .ok (.getfield 536, 3) := by decide +kernel
theorem d_MM_enabled_173 : decode y_MM_enabled.2.1 173 = .ok (.invokevirtual 152, 3) := by decide +kernel
theorem d_MM_enabled_176 : decode y_MM_enabled.2.1 176 = .ok (.aload_n 0, 1) := by decide +kernel
theorem d_MM_enabled_177 : decode y_MM_enabled.2.1 177 = .ok (.getfield 108, 3) := by decide +kernel
theorem d_MM_enabled_180 : decode y_MM_enabled.2.1 180 = .ok (.iconst 0, 1) := by decide +kernel
theorem d_MM_enabled_181 : decode y_MM_enabled.2.1 181 = .ok (.invokevirtual 152, 3) := by decide +kernel
theorem d_MM_enabled_184 : decode y_MM_enabled.2.1 184 = .ok (.aload_n 0, 1) := by decide +kernel
theorem d_MM_enabled_185 : decode y_MM_enabled.2.1 185 = .ok (.getfield 99, 3) := by decide +kernel
theorem d_MM_enabled_188 : decode y_MM_enabled.2.1 188 = .ok (.iload_n 1, 1) := by decide +kernel
theorem d_MM_enabled_189 : decode y_MM_enabled.2.1 189 = .ok (.aload_n 0, 1) := by decide +kernel
theorem d_MM_enabled_190 : decode y_MM_enabled.2.1 190 = .ok (.getfield 99, 3) := by decide +kernel
theorem d_MM_enabled_193 : decode y_MM_enabled.2.1 193 = .ok (.iload_n 1, 1) := by decide +kernel
theorem d_MM_enabled_194 : decode y_MM_enabled.2.1 194 = .ok (.iaload, 1) := by decide +kernel
theorem d_MM_enabled_195 : decode y_MM_enabled.2.1 195 = .ok (.iconst 1, 1) := by decide +kernel
theorem d_MM_enabled_196 : decode y_MM_enabled.2.1 196 = .ok (.iadd, 1) := by decide +kernel
theorem d_MM_enabled_197 : decode y_MM_enabled.2.1 197 = .ok (.iastore, 1) := by decide +kernel
theorem d_MM_enabled_198 : decode y_MM_enabled.2.1 198 = .ok (.iconst 0, 1) := by decide +kernel
theorem d_MM_enabled_199 : decode y_MM_enabled.2.1 199 = .ok (.istore 9, 2) := by decide +kernel
theorem d_MM_enabled_143 : decode y_MM_enabled.2.1 143 = .ok (.invokevirtual 351, 3) := by decide +kernel
theorem d_MM_enabled_146 : decode y_MM_enabled.2.1 146 = .ok (.return_, 1) := by decide +kernel
theorem d_MM_enabled_201 : decode y_MM_enabled.2.1 201 = .ok (.iload 9, 2) := by decide +kernel
theorem d_MM_enabled_203 : decode y_MM_enabled.2.1 203 = .ok (.aload_n 0, 1) := by decide +kernel
theorem d_MM_enabled_204 : decode y_MM_enabled.2.1 204 = .ok (.getfield 34, 3) := by decide +kernel
theorem d_MM_enabled_207 : decode y_MM_enabled.2.1 207 = .ok (.getfield 486, 3) := by decide +kernel
theorem d_MM_enabled_210 : decode y_MM_enabled.2.1 210 = .ok (.iload_n 2, 1) := by decide +kernel
theorem d_MM_enabled_211 : decode y_MM_enabled.2.1 211 = .ok (.iaload, 1) := by decide +kernel
theorem d_MM_enabled_212 : decode y_MM_enabled.2.1 212 = .ok (.if_icmp .ge 37, 3) := by decide +kernel
theorem d_MM_enabled_215 : decode y_MM_enabled.2.1 215 = .ok (.aload_n 0, 1) := by decide +kernel
theorem d_MM_enabled_216 : decode y_MM_enabled.2.1 216 = .ok (.getfield 267, 3) := by decide +kernel
theorem d_MM_enabled_219 : decode y_MM_enabled.2.1 219 = .ok (.ifCond .ne 30, 3) := by decide +kernel
theorem d_MM_enabled_222 : decode y_MM_enabled.2.1 222 = .ok (.aload_n 0, 1) := by decide +kernel
theorem d_MM_enabled_223 : decode y_MM_enabled.2.1 223 = .ok (.getfield 133, 3) := by decide +kernel
theorem d_MM_enabled_226 : decode y_MM_enabled.2.1 226 = .ok (.iload 9, 2) := by decide +kernel
theorem d_MM_enabled_228 : decode y_MM_enabled.2.1 228 = .ok (.laload, 1) := by decide +kernel
theorem d_MM_enabled_229 : decode y_MM_enabled.2.1 229 = .ok (.lconst 0, 1) := by decide +kernel
theorem d_MM_enabled_230 : decode y_MM_enabled.2.1 230 = .ok (.lcmp, 1) := by decide +kernel
theorem d_MM_enabled_231 : decode y_MM_enabled.2.1 231 = .ok (.ifCond .eq 12, 3) := by decide +kernel
theorem d_MM_enabled_234 : decode y_MM_enabled.2.1 234 = .ok (.aload_n 0, 1) := by decide +kernel
theorem d_MM_enabled_235 : decode y_MM_enabled.2.1 235 = .ok (.iload_n 2, 1) := by decide +kernel
theorem d_MM_enabled_236 : decode y_MM_enabled.2.1 236 = .ok (.iload 9, 2) := by decide +kernel
theorem d_MM_enabled_238 : decode y_MM_enabled.2.1 238 = .ok (.iload 4, 2) := by decide +kernel
theorem d_MM_enabled_249 : decode y_MM_enabled.2.1 249 = .ok (.return_, 1) := by decide +kernel
theorem d_MM_enabled_243 : decode y_MM_enabled.2.1 243 = .ok (.iinc 9 1, 3) := by decide +kernel
theorem d_MM_enabled_246 : decode y_MM_enabled.2.1 246 = .ok (.goto (-45), 3) := by decide +kernel
theorem d_MM_enabled_240 : decode y_MM_enabled.2.1 240 = .ok (.invokevirtual 558, 3) := by decide +kernel
def h_MM_enabled_87 (G : mG) (d : Nat) (a0 : Nat) (l1 : Int) (l2 : Int) (l4 : Int) (j5 : Int) (j7 : Int) (l9 : Int) (M : mM) (Q : mM → Prop) : Prop := mWm G y_MM_enabled (d + 1) 87 [vr a0, vi l1, vi l2, vd, vi l4, vl j5, vd, vl j7, vd, vi l9] [] M (fun r9 M9 => r9 = none ∧ Q M9)
def h_MM_enabled_201 (G : mG) (d : Nat) (a0 : Nat) (l2 : Int) (l4 : Int) (l9 : Int) (M : mM) (Q : mM → Prop) : Prop := mWm G y_MM_enabled (d + 1) 201 [vr a0, vd, vi l2, vd, vi l4, vd, vd, vd, vd, vi l9] [] M (fun r9 M9 => r9 = none ∧ Q M9)
theorem k_MM_enabled {G : mG} {d : Nat} {a0 : Nat} {l1 : Int} {l2 : Int} {M : mM} {Q : mM → Prop} (hO : mOk M) (hi_l1 : i32 l1) (hi_l2 : i32 l2)
    (h : mK M a0 = 14 ∧ mK M (mR M a0 9) = 16 ∧ mK M (mR M (mR M a0 9) 19) = 31 ∧ ((0 : Int) ≤ l2 ∧ l2 < (mN M (mR M (mR M a0 9) 19) : Int)) ∧ ∀ v6 : Int, v6 = (if (mI M (mR M (mR M a0 9) 19) (Int.toNat l2) = 0) then 1 else 2) → mK M (mR M (mR M a0 9) 20) = 30 ∧ ((0 : Int) ≤ l2 ∧ l2 < (mN M (mR M (mR M a0 9) 20) : Int)) ∧ mK M (mR M a0 32) = 30 ∧ ((0 : Int) ≤ l1 ∧ l1 < (mN M (mR M a0 32) : Int)) ∧ (¬ (mI M (mR M a0 32) (Int.toNat l1) = 0) → ((0 : Int) ≤ l1 ∧ l1 < (mN M (mR M a0 32) : Int))) ∧ (((mI M (mR M a0 32) (Int.toNat l1) = 0) ∨ (mI M (mR M a0 32) (Int.toNat l1) = v6)) → (((0 : Int) ≤ l1 ∧ l1 < (mN M (mR M a0 32) : Int)) ∧ ∀ M20, M20 = mUI M (mR M a0 32) (Int.toNat l1) v6 → Cj G y_MM_chances d [vr a0, vi l2, vi (mI M (mR M (mR M a0 9) 20) (Int.toNat l2))] M20 (fun x23 M22 => i64 x23 ∧ mOk M22 ∧ (mK M22 a0 = 14 ∧ ((mI M22 a0 16 = 0) → (h_MM_enabled_87 G d a0 l1 l2 (mI M (mR M (mR M a0 9) 20) (Int.toNat l2)) x23 0 0 M22 Q)) ∧ (¬ (mI M22 a0 16 = 0) → (Q M22)))))) ∧ (¬ ((mI M (mR M a0 32) (Int.toNat l1) = 0) ∨ (mI M (mR M a0 32) (Int.toNat l1) = v6)) → (Cv G y_MM_stop d [vr a0, vi 13, vi (mI M (mR M (mR M a0 9) 20) (Int.toNat l2))] M (fun M29 => mOk M29 ∧ (Q M29))))) :
    Cv G y_MM_enabled (d + 1) [vr a0, vi l1, vi l2] M Q := by
  refine wm_open (y := y_MM_enabled) rfl (Nat.le_of_ble_eq_true rfl) (L := [vr a0, vi l1, vi l2, vd, vd, vd, vd, vd, vd, vd]) rfl ?_
  obtain ⟨h1, h⟩ := h
  obtain ⟨h2, h⟩ := h
  obtain ⟨h3, h⟩ := h
  obtain ⟨h4, h⟩ := h
  refine wm_aload_n d_MM_enabled_0 rfl rfl ?_
  refine gf_MM_34 rfl d_MM_enabled_1 h1 ?_
  refine gf_MM_477 rfl d_MM_enabled_4 h2 ?_
  refine wm_iload_n d_MM_enabled_7 rfl rfl ?_
  refine wm_zald d_MM_enabled_8 h3 h4 ?_
  have hJ : ∀ v6 : Int, v6 = (if (mI M (mR M (mR M a0 9) 19) (Int.toNat l2) = 0) then 1 else 2) → mWm G y_MM_enabled (d + 1) 17 [vr a0, vi l1, vi l2, vd, vd, vd, vd, vd, vd, vd] [vi v6] M (fun r9 M9 => r9 = none ∧ Q M9) := by
    intro v6 e8
    have h := h v6 e8
    have h9 : i32 v6 := by rw [e8]; (repeat' split) <;> first | exact ⟨by decide, by decide⟩ | exact ⟨by decide, by decide⟩
    obtain ⟨h10, h⟩ := h
    obtain ⟨h11, h⟩ := h
    obtain ⟨h12, h⟩ := h
    obtain ⟨h13, h⟩ := h
    refine wm_istore_n d_MM_enabled_17 rfl (by decide) (L' := [vr a0, vi l1, vi l2, vi v6, vd, vd, vd, vd, vd, vd]) rfl ?_
    refine wm_aload_n d_MM_enabled_18 rfl rfl ?_
    refine gf_MM_34 rfl d_MM_enabled_19 h1 ?_
    refine gf_MM_480 rfl d_MM_enabled_22 h2 ?_
    refine wm_iload_n d_MM_enabled_25 rfl rfl ?_
    refine wm_iald d_MM_enabled_26 h10 h11 ?_
    refine wm_istore d_MM_enabled_27 (by decide) (L' := [vr a0, vi l1, vi l2, vi v6, vi (mI M (mR M (mR M a0 9) 20) (Int.toNat l2)), vd, vd, vd, vd, vd]) rfl ?_
    refine wm_aload_n d_MM_enabled_29 rfl rfl ?_
    refine gf_MM_93 rfl d_MM_enabled_30 h1 ?_
    refine wm_iload_n d_MM_enabled_33 rfl rfl ?_
    refine wm_iald d_MM_enabled_34 h12 h13 ?_
    obtain ⟨s17, h⟩ := h
    have hE0 : ((mI M (mR M a0 32) (Int.toNat l1) = 0) ∨ (mI M (mR M a0 32) (Int.toNat l1) = v6)) → mWm G y_MM_enabled (d + 1) 57 [vr a0, vi l1, vi l2, vi v6, vi (mI M (mR M (mR M a0 9) 20) (Int.toNat l2)), vd, vd, vd, vd, vd] [] M (fun r9 M9 => r9 = none ∧ Q M9) := by
      intro q18
      have h := h.1 q18
      obtain ⟨h19, h⟩ := h
      obtain ⟨M20, e21⟩ : ∃ M20, M20 = mUI M (mR M a0 32) (Int.toNat l1) v6 := ⟨_, rfl⟩
      replace h := h M20 e21
      refine wm_aload_n d_MM_enabled_57 rfl rfl ?_
      refine gf_MM_93 rfl d_MM_enabled_58 h1 ?_
      refine wm_iload_n d_MM_enabled_61 rfl rfl ?_
      refine wm_iload_n d_MM_enabled_62 rfl rfl ?_
      have hOM20 : mOk M20 := by rw [e21]; exact mOk_UI hO h9
      refine wm_iastE d_MM_enabled_63 h12 h19 h9 e21 ?_
      refine wm_aload_n d_MM_enabled_64 rfl rfl ?_
      refine wm_iload_n d_MM_enabled_65 rfl rfl ?_
      refine wm_iload d_MM_enabled_66 rfl ?_
      refine cf_MM_554 rfl d_MM_enabled_68 (by rw [e21]; exact h1) (Nat.le_of_ble_eq_true rfl) (Cj.mono h (fun x23 M22 h => ?_))
      obtain ⟨h24, hOM22, h⟩ := h
      obtain ⟨h25, h⟩ := h
      refine wm_lstore d_MM_enabled_71 (by decide) (L' := [vr a0, vi l1, vi l2, vi v6, vi (mI M (mR M (mR M a0 9) 20) (Int.toNat l2)), vl x23, vd, vd, vd, vd]) rfl ?_
      refine wm_aload_n d_MM_enabled_73 rfl rfl ?_
      refine gf_MM_267 rfl d_MM_enabled_74 h25 ?_
      refine wm_if_eq (tgt := 81) d_MM_enabled_77 rfl (hOM22 _ _).1 (fun c27 => ?_) (fun c27 => ?_)
      · replace h := h.1 c27
        refine wm_lconst (x := 0) d_MM_enabled_81 rfl ?_
        refine wm_lstore d_MM_enabled_82 (by decide) (L' := [vr a0, vi l1, vi l2, vi v6, vi (mI M (mR M (mR M a0 9) 20) (Int.toNat l2)), vl x23, vd, vl 0, vd, vd]) rfl ?_
        refine wm_iconst d_MM_enabled_84 ?_
        refine wm_istore d_MM_enabled_85 (by decide) (L' := [vr a0, vi l1, vi l2, vi v6, vi (mI M (mR M (mR M a0 9) 20) (Int.toNat l2)), vl x23, vd, vl 0, vd, vi 0]) rfl ?_
        refine wm_less (L' := [vr a0, vi l1, vi l2, vd, vi (mI M (mR M (mR M a0 9) 20) (Int.toNat l2)), vl x23, vd, vl 0, vd, vi 0]) ⟨Or.inr rfl, Or.inr rfl, Or.inr rfl, Or.inl rfl, Or.inr rfl, Or.inr rfl, Or.inl rfl, Or.inr rfl, Or.inl rfl, Or.inr rfl, trivial⟩ ?_
        exact h
      · replace h := h.2 c27
        refine wm_return d_MM_enabled_80 rfl ?_
        exact ⟨rfl, h⟩
    have hE1 : ¬ ((mI M (mR M a0 32) (Int.toNat l1) = 0) ∨ (mI M (mR M a0 32) (Int.toNat l1) = v6)) → mWm G y_MM_enabled (d + 1) 48 [vr a0, vi l1, vi l2, vi v6, vi (mI M (mR M (mR M a0 9) 20) (Int.toNat l2)), vd, vd, vd, vd, vd] [] M (fun r9 M9 => r9 = none ∧ Q M9) := by
      intro q28
      have h := h.2 q28
      refine wm_aload_n d_MM_enabled_48 rfl rfl ?_
      refine wm_bipush d_MM_enabled_49 (by decide) ?_
      refine wm_iload d_MM_enabled_51 rfl ?_
      refine cf_MM_351 rfl d_MM_enabled_53 h1 (Nat.le_of_ble_eq_true rfl) (Cv.mono h (fun M29 h => ?_))
      obtain ⟨hOM29, h⟩ := h
      refine wm_return d_MM_enabled_56 rfl ?_
      exact ⟨rfl, h⟩
    clear h
    have s32 := s17
    refine wm_if_eq (tgt := 57) d_MM_enabled_35 rfl (hO _ _).1 (fun c16 => ?_) (fun c16 => ?_)
    · exact hE0 (Or.inl c16)
    · have s32 := s32 c16
      have h14 := s32
      refine wm_aload_n d_MM_enabled_38 rfl rfl ?_
      refine gf_MM_93 rfl d_MM_enabled_39 h1 ?_
      refine wm_iload_n d_MM_enabled_42 rfl rfl ?_
      refine wm_iald d_MM_enabled_43 h12 h14 ?_
      refine wm_iload_n d_MM_enabled_44 rfl rfl ?_
      refine wm_icmp_eq (tgt := 57) d_MM_enabled_45 rfl (hO _ _).1 h9 (fun c15 => ?_) (fun c15 => ?_)
      · exact hE0 (Or.inr c15)
      · exact hE1 (fun z33 => Or.elim z33 c16 c15)
  clear h
  refine wm_if_eq (tgt := 16) d_MM_enabled_9 rfl (hO _ _).1 (fun c5 => ?_) (fun c5 => ?_)
  · refine wm_iconst d_MM_enabled_16 ?_
    exact hJ 1 (if_pos c5).symm
  · refine wm_iconst d_MM_enabled_12 ?_
    refine wm_goto (tgt := 17) d_MM_enabled_13 rfl ?_
    exact hJ 2 (if_neg c5).symm
theorem k_MM_enabled_87 {G : mG} {d : Nat} {a0 : Nat} {l1 : Int} {l2 : Int} {l4 : Int} {j5 : Int} {j7 : Int} {l9 : Int} {M : mM} {Q : mM → Prop} (hO : mOk M) (hi_l1 : i32 l1) (hi_l2 : i32 l2) (hi_l4 : i32 l4) (hi_j5 : i64 j5) (hi_j7 : i64 j7) (hi_l9 : i32 l9)
    (h : mK M a0 = 14 ∧ mK M (mR M a0 9) = 16 ∧ mK M (mR M (mR M a0 9) 22) = 30 ∧ ((0 : Int) ≤ l2 ∧ l2 < (mN M (mR M (mR M a0 9) 22) : Int)) ∧ ((mI M (mR M (mR M a0 9) 22) (Int.toNat l2) ≤ l9) → (((cmpL j7 j5 = 0) → (mK M (mR M a0 35) = 15 ∧ Cv G y_MN_add d [vr (mR M a0 35), vi l2] M (fun M51 => mOk M51 ∧ (mK M51 a0 = 14 ∧ mK M51 (mR M51 a0 38) = 15 ∧ Cv G y_MN_add d [vr (mR M51 a0 38), vi j5] M51 (fun M56 => mOk M56 ∧ (mK M56 a0 = 14 ∧ mK M56 (mR M56 a0 36) = 15 ∧ Cv G y_MN_add d [vr (mR M56 a0 36), vi (mI M56 a0 40)] M56 (fun M61 => mOk M61 ∧ (mK M61 a0 = 14 ∧ mK M61 (mR M61 a0 37) = 15 ∧ Cv G y_MN_add d [vr (mR M61 a0 37), vi 0] M61 (fun M66 => mOk M66 ∧ (mK M66 a0 = 14 ∧ mK M66 (mR M66 a0 34) = 30 ∧ ((0 : Int) ≤ l1 ∧ l1 < (mN M66 (mR M66 a0 34) : Int)) ∧ ((0 : Int) ≤ l1 ∧ l1 < (mN M66 (mR M66 a0 34) : Int)) ∧ i32 ((mI M66 (mR M66 a0 34) (Int.toNat l1)) + 1) ∧ ∀ M74, M74 = mUI M66 (mR M66 a0 34) (Int.toNat l1) ((mI M66 (mR M66 a0 34) (Int.toNat l1)) + 1) → h_MM_enabled_201 G d a0 l2 l4 0 M74 Q)))))))))) ∧ (¬ (cmpL j7 j5 = 0) → (Cv G y_MM_stop d [vr a0, vi 11, vi l4] M (fun M76 => mOk M76 ∧ (Q M76)))))) ∧ (¬ (mI M (mR M (mR M a0 9) 22) (Int.toNat l2) ≤ l9) → (mK M (mR M a0 45) = 33 ∧ ((0 : Int) ≤ l9 ∧ l9 < (mN M (mR M a0 45) : Int)) ∧ mK M (mR M a0 46) = 33 ∧ ((0 : Int) ≤ l9 ∧ l9 < (mN M (mR M a0 46) : Int)) ∧ (mL M (mR M a0 46) (Int.toNat l9)) ≠ 0 ∧ h_MM_enabled_87 G d a0 l1 l2 l4 j5 (j7 + ((mL M (mR M a0 45) (Int.toNat l9)) * (Int.tdiv j5 (mL M (mR M a0 46) (Int.toNat l9))))) (l9 + 1) M Q))) :
    h_MM_enabled_87 G d a0 l1 l2 l4 j5 j7 l9 M Q := by
  unfold h_MM_enabled_87
  obtain ⟨h36, h⟩ := h
  obtain ⟨h37, h⟩ := h
  obtain ⟨h38, h⟩ := h
  obtain ⟨h39, h⟩ := h
  refine wm_iload d_MM_enabled_87 rfl ?_
  refine wm_aload_n d_MM_enabled_89 rfl rfl ?_
  refine gf_MM_34 rfl d_MM_enabled_90 h36 ?_
  refine gf_MM_486 rfl d_MM_enabled_93 h37 ?_
  refine wm_iload_n d_MM_enabled_96 rfl rfl ?_
  refine wm_iald d_MM_enabled_97 h38 h39 ?_
  refine wm_icmp_ge (tgt := 130) d_MM_enabled_98 rfl hi_l9 (hO _ _).1 (fun c47 => ?_) (fun c47 => ?_)
  · replace h := h.1 c47
    refine wm_lload d_MM_enabled_130 rfl ?_
    refine wm_lload d_MM_enabled_132 rfl ?_
    refine wm_lcmp d_MM_enabled_134 hi_j7 hi_j5 ?_
    refine wm_if_eq (tgt := 147) d_MM_enabled_135 rfl (m_cmp32 _ _) (fun c49 => ?_) (fun c49 => ?_)
    · replace h := h.1 c49
      obtain ⟨h50, h⟩ := h
      refine wm_aload_n d_MM_enabled_147 rfl rfl ?_
      refine gf_MM_102 rfl d_MM_enabled_148 h36 ?_
      refine wm_iload_n d_MM_enabled_151 rfl rfl ?_
      refine cf_MM_152 rfl d_MM_enabled_152 h50 (Nat.le_of_ble_eq_true rfl) (Cv.mono h (fun M51 h => ?_))
      obtain ⟨hOM51, h⟩ := h
      obtain ⟨h54, h⟩ := h
      obtain ⟨h55, h⟩ := h
      refine wm_aload_n d_MM_enabled_155 rfl rfl ?_
      refine gf_MM_111 rfl d_MM_enabled_156 h54 ?_
      refine wm_lload d_MM_enabled_159 rfl ?_
      refine wm_l2i d_MM_enabled_161 ?_
      refine cf_MM_152 rfl d_MM_enabled_162 h55 (Nat.le_of_ble_eq_true rfl) (Cv.mono h (fun M56 h => ?_))
      obtain ⟨hOM56, h⟩ := h
      obtain ⟨h59, h⟩ := h
      obtain ⟨h60, h⟩ := h
      refine wm_aload_n d_MM_enabled_165 rfl rfl ?_
      refine gf_MM_105 rfl d_MM_enabled_166 h59 ?_
      refine wm_aload_n d_MM_enabled_169 rfl rfl ?_
      refine gf_MM_536 rfl d_MM_enabled_170 h59 ?_
      refine cf_MM_152 rfl d_MM_enabled_173 h60 (Nat.le_of_ble_eq_true rfl) (Cv.mono h (fun M61 h => ?_))
      obtain ⟨hOM61, h⟩ := h
      obtain ⟨h64, h⟩ := h
      obtain ⟨h65, h⟩ := h
      refine wm_aload_n d_MM_enabled_176 rfl rfl ?_
      refine gf_MM_108 rfl d_MM_enabled_177 h64 ?_
      refine wm_iconst d_MM_enabled_180 ?_
      refine cf_MM_152 rfl d_MM_enabled_181 h65 (Nat.le_of_ble_eq_true rfl) (Cv.mono h (fun M66 h => ?_))
      obtain ⟨hOM66, h⟩ := h
      obtain ⟨h69, h⟩ := h
      obtain ⟨h70, h⟩ := h
      obtain ⟨h71, h⟩ := h
      obtain ⟨h72, h⟩ := h
      obtain ⟨h73, h⟩ := h
      obtain ⟨M74, e75⟩ : ∃ M74, M74 = mUI M66 (mR M66 a0 34) (Int.toNat l1) ((mI M66 (mR M66 a0 34) (Int.toNat l1)) + 1) := ⟨_, rfl⟩
      replace h := h M74 e75
      refine wm_aload_n d_MM_enabled_184 rfl rfl ?_
      refine gf_MM_99 rfl d_MM_enabled_185 h69 ?_
      refine wm_iload_n d_MM_enabled_188 rfl rfl ?_
      refine wm_aload_n d_MM_enabled_189 rfl rfl ?_
      refine gf_MM_99 rfl d_MM_enabled_190 h69 ?_
      refine wm_iload_n d_MM_enabled_193 rfl rfl ?_
      refine wm_iald d_MM_enabled_194 h70 h71 ?_
      refine wm_iconst d_MM_enabled_195 ?_
      refine wm_iadd d_MM_enabled_196 ?_
      have hOM74 : mOk M74 := by rw [e75]; exact mOk_UI hOM66 h73
      refine wm_iastE d_MM_enabled_197 h70 h72 h73 e75 ?_
      refine wm_iconst d_MM_enabled_198 ?_
      refine wm_istore d_MM_enabled_199 (by decide) (L' := [vr a0, vi l1, vi l2, vd, vi l4, vl j5, vd, vl j7, vd, vi 0]) rfl ?_
      refine wm_less (L' := [vr a0, vd, vi l2, vd, vi l4, vd, vd, vd, vd, vi 0]) ⟨Or.inr rfl, Or.inl rfl, Or.inr rfl, Or.inl rfl, Or.inr rfl, Or.inl rfl, Or.inl rfl, Or.inl rfl, Or.inl rfl, Or.inr rfl, trivial⟩ ?_
      exact h
    · replace h := h.2 c49
      refine wm_aload_n d_MM_enabled_138 rfl rfl ?_
      refine wm_bipush d_MM_enabled_139 (by decide) ?_
      refine wm_iload d_MM_enabled_141 rfl ?_
      refine cf_MM_351 rfl d_MM_enabled_143 h36 (Nat.le_of_ble_eq_true rfl) (Cv.mono h (fun M76 h => ?_))
      obtain ⟨hOM76, h⟩ := h
      refine wm_return d_MM_enabled_146 rfl ?_
      exact ⟨rfl, h⟩
  · replace h := h.2 c47
    obtain ⟨h79, h⟩ := h
    obtain ⟨h80, h⟩ := h
    obtain ⟨h81, h⟩ := h
    obtain ⟨h82, h⟩ := h
    obtain ⟨h83, h⟩ := h
    refine wm_lload d_MM_enabled_101 rfl ?_
    refine wm_aload_n d_MM_enabled_103 rfl rfl ?_
    refine gf_MM_133 rfl d_MM_enabled_104 h36 ?_
    refine wm_iload d_MM_enabled_107 rfl ?_
    refine wm_lald d_MM_enabled_109 h79 h80 ?_
    refine wm_lload d_MM_enabled_110 rfl ?_
    refine wm_aload_n d_MM_enabled_112 rfl rfl ?_
    refine gf_MM_136 rfl d_MM_enabled_113 h36 ?_
    refine wm_iload d_MM_enabled_116 rfl ?_
    refine wm_lald d_MM_enabled_118 h81 h82 ?_
    refine wm_ldiv d_MM_enabled_119 hi_j5 (hO _ _).2 h83 ?_
    refine wm_lmul d_MM_enabled_120 ?_
    refine wm_ladd d_MM_enabled_121 ?_
    refine wm_lstore d_MM_enabled_122 (by decide) (L' := [vr a0, vi l1, vi l2, vd, vi l4, vl j5, vd, vl (j7 + ((mL M (mR M a0 45) (Int.toNat l9)) * (Int.tdiv j5 (mL M (mR M a0 46) (Int.toNat l9))))), vd, vi l9]) rfl ?_
    refine wm_iinc d_MM_enabled_124 (by decide) rfl (L' := [vr a0, vi l1, vi l2, vd, vi l4, vl j5, vd, vl (j7 + ((mL M (mR M a0 45) (Int.toNat l9)) * (Int.tdiv j5 (mL M (mR M a0 46) (Int.toNat l9))))), vd, vi (l9 + 1)]) rfl ?_
    refine wm_goto (tgt := 87) d_MM_enabled_127 rfl ?_
    exact h
theorem k_MM_enabled_201 {G : mG} {d : Nat} {a0 : Nat} {l2 : Int} {l4 : Int} {l9 : Int} {M : mM} {Q : mM → Prop} (hO : mOk M) (hi_l2 : i32 l2) (hi_l4 : i32 l4) (hi_l9 : i32 l9)
    (h : mK M a0 = 14 ∧ mK M (mR M a0 9) = 16 ∧ mK M (mR M (mR M a0 9) 22) = 30 ∧ ((0 : Int) ≤ l2 ∧ l2 < (mN M (mR M (mR M a0 9) 22) : Int)) ∧ (((mI M (mR M (mR M a0 9) 22) (Int.toNat l2) ≤ l9) ∨ (¬ (mI M a0 16 = 0))) → (Q M)) ∧ (¬ ((mI M (mR M (mR M a0 9) 22) (Int.toNat l2) ≤ l9) ∨ (¬ (mI M a0 16 = 0))) → (mK M (mR M a0 45) = 33 ∧ ((0 : Int) ≤ l9 ∧ l9 < (mN M (mR M a0 45) : Int)) ∧ ((cmpL (mL M (mR M a0 45) (Int.toNat l9)) 0 = 0) → (h_MM_enabled_201 G d a0 l2 l4 (l9 + 1) M Q)) ∧ (¬ (cmpL (mL M (mR M a0 45) (Int.toNat l9)) 0 = 0) → (Cv G y_MM_way d [vr a0, vi l2, vi l9, vi l4] M (fun M101 => mOk M101 ∧ (h_MM_enabled_201 G d a0 l2 l4 (l9 + 1) M101 Q))))))) :
    h_MM_enabled_201 G d a0 l2 l4 l9 M Q := by
  unfold h_MM_enabled_201
  obtain ⟨h84, h⟩ := h
  obtain ⟨h85, h⟩ := h
  obtain ⟨h86, h⟩ := h
  obtain ⟨h87, h⟩ := h
  refine wm_iload d_MM_enabled_201 rfl ?_
  refine wm_aload_n d_MM_enabled_203 rfl rfl ?_
  refine gf_MM_34 rfl d_MM_enabled_204 h84 ?_
  refine gf_MM_486 rfl d_MM_enabled_207 h85 ?_
  refine wm_iload_n d_MM_enabled_210 rfl rfl ?_
  refine wm_iald d_MM_enabled_211 h86 h87 ?_
  have hE0 : ((mI M (mR M (mR M a0 9) 22) (Int.toNat l2) ≤ l9) ∨ (¬ (mI M a0 16 = 0))) → mWm G y_MM_enabled (d + 1) 249 [vr a0, vd, vi l2, vd, vi l4, vd, vd, vd, vd, vi l9] [] M (fun r9 M9 => r9 = none ∧ Q M9) := by
    intro q94
    have h := h.1 q94
    refine wm_return d_MM_enabled_249 rfl ?_
    exact ⟨rfl, h⟩
  have hE1 : ¬ ((mI M (mR M (mR M a0 9) 22) (Int.toNat l2) ≤ l9) ∨ (¬ (mI M a0 16 = 0))) → mWm G y_MM_enabled (d + 1) 222 [vr a0, vd, vi l2, vd, vi l4, vd, vd, vd, vd, vi l9] [] M (fun r9 M9 => r9 = none ∧ Q M9) := by
    intro q95
    have h := h.2 q95
    obtain ⟨h96, h⟩ := h
    obtain ⟨h97, h⟩ := h
    refine wm_aload_n d_MM_enabled_222 rfl rfl ?_
    refine gf_MM_133 rfl d_MM_enabled_223 h84 ?_
    refine wm_iload d_MM_enabled_226 rfl ?_
    refine wm_lald d_MM_enabled_228 h96 h97 ?_
    refine wm_lconst (x := 0) d_MM_enabled_229 rfl ?_
    refine wm_lcmp d_MM_enabled_230 (hO _ _).2 ⟨by decide, by decide⟩ ?_
    refine wm_if_eq (tgt := 243) d_MM_enabled_231 rfl (m_cmp32 _ _) (fun c100 => ?_) (fun c100 => ?_)
    · replace h := h.1 c100
      refine wm_iinc d_MM_enabled_243 (by decide) rfl (L' := [vr a0, vd, vi l2, vd, vi l4, vd, vd, vd, vd, vi (l9 + 1)]) rfl ?_
      refine wm_goto (tgt := 201) d_MM_enabled_246 rfl ?_
      exact h
    · replace h := h.2 c100
      refine wm_aload_n d_MM_enabled_234 rfl rfl ?_
      refine wm_iload_n d_MM_enabled_235 rfl rfl ?_
      refine wm_iload d_MM_enabled_236 rfl ?_
      refine wm_iload d_MM_enabled_238 rfl ?_
      refine cf_MM_558 rfl d_MM_enabled_240 h84 (Nat.le_of_ble_eq_true rfl) (Cv.mono h (fun M101 h => ?_))
      obtain ⟨hOM101, h⟩ := h
      refine wm_iinc d_MM_enabled_243 (by decide) rfl (L' := [vr a0, vd, vi l2, vd, vi l4, vd, vd, vd, vd, vi (l9 + 1)]) rfl ?_
      refine wm_goto (tgt := 201) d_MM_enabled_246 rfl ?_
      exact h
  clear h
  refine wm_icmp_ge (tgt := 249) d_MM_enabled_212 rfl hi_l9 (hO _ _).1 (fun c92 => ?_) (fun c92 => ?_)
  · exact hE0 (Or.inl c92)
  · refine wm_aload_n d_MM_enabled_215 rfl rfl ?_
    refine gf_MM_267 rfl d_MM_enabled_216 h84 ?_
    refine wm_if_ne (tgt := 249) d_MM_enabled_219 rfl (hO _ _).1 (fun c91 => ?_) (fun c91 => ?_)
    · exact hE0 (Or.inr c91)
    · replace c91 := Classical.not_not.mp c91
      exact hE1 (fun z104 => Or.elim z104 c92 (fun z105 => z105 c91))
theorem d_MM_chances_0 : decode y_MM_chances.2.1 0 = .ok (.iconst 0, 1) := by decide +kernel
theorem d_MM_chances_1 : decode y_MM_chances.2.1 1 = .ok (.istore_n 3, 1) := by decide +kernel
theorem d_MM_chances_2 : decode y_MM_chances.2.1 2 = .ok (.iload_n 3, 1) := by decide +kernel
theorem d_MM_chances_3 : decode y_MM_chances.2.1 3 = .ok (.aload_n 0, 1) := by decide +kernel
theorem d_MM_chances_4 : decode y_MM_chances.2.1 4 = .ok (.getfield 34, 3) := by decide +kernel
theorem d_MM_chances_7 : decode y_MM_chances.2.1 7 = .ok (.getfield 486, 3) := by decide +kernel
theorem d_MM_chances_10 : decode y_MM_chances.2.1 10 = .ok (.iload_n 1, 1) := by decide +kernel
theorem d_MM_chances_11 : decode y_MM_chances.2.1 11 = .ok (.iaload, 1) := by decide +kernel
theorem d_MM_chances_12 : decode y_MM_chances.2.1 12 = .ok (.if_icmp .ge 112, 3) := by decide +kernel
theorem d_MM_chances_15 : decode y_MM_chances.2.1 15 = .ok (.aload_n 0, 1) := by decide +kernel
theorem d_MM_chances_16 : decode y_MM_chances.2.1 16 = .ok (.getfield 267, 3) := by decide +kernel
theorem d_MM_chances_19 : decode y_MM_chances.2.1 19 = .ok (.ifCond .ne 105, 3) := by decide +kernel
theorem d_MM_chances_22 : decode y_MM_chances.2.1 22 = .ok (.aload_n 0, 1) := by decide +kernel
theorem d_MM_chances_23 : decode y_MM_chances.2.1 23 = .ok (.aload_n 0, 1) := by decide +kernel
theorem d_MM_chances_24 : decode y_MM_chances.2.1 24 = .ok (.getfield 34, 3) := by decide +kernel
theorem d_MM_chances_27 : decode y_MM_chances.2.1 27 = .ok (.getfield 492, 3) := by decide +kernel
theorem d_MM_chances_30 : decode y_MM_chances.2.1 30 = .ok (.bipush 8, 2) := by decide +kernel
theorem d_MM_chances_32 : decode y_MM_chances.2.1 32 = .ok (.iload_n 1, 1) := by decide +kernel
theorem d_MM_chances_33 : decode y_MM_chances.2.1 33 = .ok (.imul, 1) := by decide +kernel
theorem d_MM_chances_34 : decode y_MM_chances.2.1 34 = .ok (.iload_n 3, 1) := by decide +kernel
theorem d_MM_chances_35 : decode y_MM_chances.2.1 35 = .ok (.iadd, 1) := by decide +kernel
theorem d_MM_chances_36 : decode y_MM_chances.2.1 36 = .ok (.iaload, 1) := by decide +kernel
theorem d_MM_chances_124 : decode y_MM_chances.2.1 124 = .ok (.lconst 1, 1) := by decide +kernel
theorem d_MM_chances_125 : decode y_MM_chances.2.1 125 = .ok (.lstore_n 3, 1) := by decide +kernel
theorem d_MM_chances_126 : decode y_MM_chances.2.1 126 = .ok (.iconst 0, 1) := by decide +kernel
theorem d_MM_chances_127 : decode y_MM_chances.2.1 127 = .ok (.istore 5, 2) := by decide +kernel
theorem d_MM_chances_37 : decode y_MM_chances.2.1 37 = .ok (.invokevirtual 548, 3) := by decide +kernel
theorem d_MM_chances_40 : decode y_MM_chances.2.1 40 = .ok (.aload_n 0, 1) := by decide +kernel
theorem d_MM_chances_41 : decode y_MM_chances.2.1 41 = .ok (.getfield 133, 3) := by decide +kernel
theorem d_MM_chances_44 : decode y_MM_chances.2.1 44 = .ok (.iload_n 3, 1) := by decide +kernel
theorem d_MM_chances_45 : decode y_MM_chances.2.1 45 = .ok (.aload_n 0, 1) := by decide +kernel
theorem d_MM_chances_46 : decode y_MM_chances.2.1 46 = .ok (.getfield 63, 3) := by decide +kernel
theorem d_MM_chances_49 : decode y_MM_chances.2.1 49 = .ok (.iconst 0, 1) := by decide +kernel
theorem d_MM_chances_50 : decode y_MM_chances.2.1 50 = .ok (.laload, 1) := by decide +kernel
theorem d_MM_chances_51 : decode y_MM_chances.2.1 51 = .ok (.lastore, 1) := by decide +kernel
theorem d_MM_chances_52 : decode y_MM_chances.2.1 52 = .ok (.aload_n 0, 1) := by decide +kernel
theorem d_MM_chances_53 : decode y_MM_chances.2.1 53 = .ok (.getfield 136, 3) := by decide +kernel
theorem d_MM_chances_56 : decode y_MM_chances.2.1 56 = .ok (.iload_n 3, 1) := by decide +kernel
theorem d_MM_chances_57 : decode y_MM_chances.2.1 57 = .ok (.aload_n 0, 1) := by decide +kernel
theorem d_MM_chances_58 : decode y_MM_chances.2.1 58 = .ok (.getfield 67, 3) := by decide +kernel
theorem d_MM_chances_61 : decode y_MM_chances.2.1 61 = .ok (.iconst 0, 1) := by decide +kernel
theorem d_MM_chances_62 : decode y_MM_chances.2.1 62 = .ok (.laload, 1) := by decide +kernel
theorem d_MM_chances_63 : decode y_MM_chances.2.1 63 = .ok (.lastore, 1) := by decide +kernel
theorem d_MM_chances_64 : decode y_MM_chances.2.1 64 = .ok (.aload_n 0, 1) := by decide +kernel
theorem d_MM_chances_65 : decode y_MM_chances.2.1 65 = .ok (.getfield 267, 3) := by decide +kernel
theorem d_MM_chances_68 : decode y_MM_chances.2.1 68 = .ok (.ifCond .ne 50, 3) := by decide +kernel
theorem d_MM_chances_71 : decode y_MM_chances.2.1 71 = .ok (.aload_n 0, 1) := by decide +kernel
theorem d_MM_chances_72 : decode y_MM_chances.2.1 72 = .ok (.getfield 63, 3) := by decide +kernel
theorem d_MM_chances_75 : decode y_MM_chances.2.1 75 = .ok (.iconst 0, 1) := by decide +kernel
theorem d_MM_chances_76 : decode y_MM_chances.2.1 76 = .ok (.laload, 1) := by decide +kernel
theorem d_MM_chances_77 : decode y_MM_chances.2.1 77 = .ok (.lconst 0, 1) := by decide +kernel
theorem d_MM_chances_78 : decode y_MM_chances.2.1 78 = .ok (.lcmp, 1) := by decide +kernel
theorem d_MM_chances_79 : decode y_MM_chances.2.1 79 = .ok (.ifCond .lt 19, 3) := by decide +kernel
theorem d_MM_chances_82 : decode y_MM_chances.2.1 82 = .ok (.aload_n 0, 1) := by decide +kernel
theorem d_MM_chances_83 : decode y_MM_chances.2.1 83 = .ok (.getfield 63, 3) := by decide +kernel
theorem d_MM_chances_86 : decode y_MM_chances.2.1 86 = .ok (.iconst 0, 1) := by decide +kernel
theorem d_MM_chances_87 : decode y_MM_chances.2.1 87 = .ok (.laload, 1) := by decide +kernel
theorem d_MM_chances_88 : decode y_MM_chances.2.1 88 = .ok (.aload_n 0, 1) := by decide +kernel
theorem d_MM_chances_89 : decode y_MM_chances.2.1 89 = .ok (.getfield 67, 3) := by decide +kernel
theorem d_MM_chances_92 : decode y_MM_chances.2.1 92 = .ok (.iconst 0, 1) := by decide +kernel
theorem d_MM_chances_93 : decode y_MM_chances.2.1 93 = .ok (.laload, 1) := by decide +kernel
theorem d_MM_chances_94 : decode y_MM_chances.2.1 94 = .ok (.lcmp, 1) := by decide +kernel
theorem d_MM_chances_95 : decode y_MM_chances.2.1 95 = .ok (.ifCond .le 23, 3) := by decide +kernel
theorem d_MM_chances_98 : decode y_MM_chances.2.1 98 = .ok (.aload_n 0, 1) := by decide +kernel
theorem d_MM_chances_99 : decode y_MM_chances.2.1 99 = .ok (.bipush 11, 2) := by decide +kernel
theorem d_MM_chances_101 : decode y_MM_chances.2.1 101 = .ok (.aload_n 0, 1) := by decide +kernel
theorem d_MM_chances_102 : decode y_MM_chances.2.1 102 = .ok (.getfield 34, 3) := by decide +kernel
theorem d_MM_chances_105 : decode y_MM_chances.2.1 105 = .ok (.getfield 495, 3) := by decide +kernel
theorem d_MM_chances_108 : decode y_MM_chances.2.1 108 = .ok (.bipush 8, 2) := by decide +kernel
theorem d_MM_chances_110 : decode y_MM_chances.2.1 110 = .ok (.iload_n 1, 1) := by decide +kernel
theorem d_MM_chances_111 : decode y_MM_chances.2.1 111 = .ok (.imul, 1) := by decide +kernel
theorem d_MM_chances_112 : decode y_MM_chances.2.1 112 = .ok (.iload_n 3, 1) := by decide +kernel
theorem d_MM_chances_113 : decode y_MM_chances.2.1 113 = .ok (.iadd, 1) := by decide +kernel
theorem d_MM_chances_114 : decode y_MM_chances.2.1 114 = .ok (.iaload, 1) := by decide +kernel
theorem d_MM_chances_115 : decode y_MM_chances.2.1 115 = .ok (.invokevirtual 351, 3) := by decide +kernel
theorem d_MM_chances_118 : decode y_MM_chances.2.1 118 = .ok (.iinc 3 1, 3) := by decide +kernel
theorem d_MM_chances_121 : decode y_MM_chances.2.1 121 = .ok (.goto (-119), 3) := by decide +kernel
theorem d_MM_chances_129 : decode y_MM_chances.2.1 129 = .ok (.iload 5, 2) := by decide +kernel
theorem d_MM_chances_131 : decode y_MM_chances.2.1 131 = .ok (.aload_n 0, 1) := by decide +kernel
theorem d_MM_chances_132 : decode y_MM_chances.2.1 132 = .ok (.getfield 34, 3) := by decide +kernel
theorem d_MM_chances_135 : decode y_MM_chances.2.1 135 = .ok (.getfield 486, 3) := by decide +kernel
theorem d_MM_chances_138 : decode y_MM_chances.2.1 138 = .ok (.iload_n 1, 1) := by decide +kernel
theorem d_MM_chances_139 : decode y_MM_chances.2.1 139 = .ok (.iaload, 1) := by decide +kernel
theorem d_MM_chances_140 : decode y_MM_chances.2.1 140 = .ok (.if_icmp .ge 53, 3) := by decide +kernel
theorem d_MM_chances_143 : decode y_MM_chances.2.1 143 = .ok (.aload_n 0, 1) := by decide +kernel
theorem d_MM_chances_144 : decode y_MM_chances.2.1 144 = .ok (.getfield 267, 3) := by decide +kernel
theorem d_MM_chances_147 : decode y_MM_chances.2.1 147 = .ok (.ifCond .ne 46, 3) := by decide +kernel
theorem d_MM_chances_150 : decode y_MM_chances.2.1 150 = .ok (.lload_n 3, 1) := by decide +kernel
theorem d_MM_chances_151 : decode y_MM_chances.2.1 151 = .ok (.lload_n 3, 1) := by decide +kernel
theorem d_MM_chances_152 : decode y_MM_chances.2.1 152 = .ok (.aload_n 0, 1) := by decide +kernel
theorem d_MM_chances_153 : decode y_MM_chances.2.1 153 = .ok (.getfield 136, 3) := by decide +kernel
theorem d_MM_chances_156 : decode y_MM_chances.2.1 156 = .ok (.iload 5, 2) := by decide +kernel
theorem d_MM_chances_158 : decode y_MM_chances.2.1 158 = .ok (.laload, 1) := by decide +kernel
theorem d_MM_chances_193 : decode y_MM_chances.2.1 193 = .ok (.lload_n 3, 1) := by decide +kernel
theorem d_MM_chances_194 : decode y_MM_chances.2.1 194 = .ok (.lreturn, 1) := by decide +kernel
theorem d_MM_chances_159 : decode y_MM_chances.2.1 159 = .ok (.invokestatic 377, 3) := by decide +kernel
theorem d_MM_chances_162 : decode y_MM_chances.2.1 162 = .ok (.ldiv, 1) := by decide +kernel
theorem d_MM_chances_163 : decode y_MM_chances.2.1 163 = .ok (.aload_n 0, 1) := by decide +kernel
theorem d_MM_chances_164 : decode y_MM_chances.2.1 164 = .ok (.getfield 136, 3) := by decide +kernel
theorem d_MM_chances_167 : decode y_MM_chances.2.1 167 = .ok (.iload 5, 2) := by decide +kernel
theorem d_MM_chances_169 : decode y_MM_chances.2.1 169 = .ok (.laload, 1) := by decide +kernel
theorem d_MM_chances_170 : decode y_MM_chances.2.1 170 = .ok (.lmul, 1) := by decide +kernel
theorem d_MM_chances_171 : decode y_MM_chances.2.1 171 = .ok (.lstore_n 3, 1) := by decide +kernel
theorem d_MM_chances_172 : decode y_MM_chances.2.1 172 = .ok (.lload_n 3, 1) := by decide +kernel
theorem d_MM_chances_173 : decode y_MM_chances.2.1 173 = .ok (.ldc2_w 381, 3) := by decide +kernel
theorem d_MM_chances_176 : decode y_MM_chances.2.1 176 = .ok (.lcmp, 1) := by decide +kernel
theorem d_MM_chances_177 : decode y_MM_chances.2.1 177 = .ok (.ifCond .lt 10, 3) := by decide +kernel
theorem d_MM_chances_180 : decode y_MM_chances.2.1 180 = .ok (.aload_n 0, 1) := by decide +kernel
theorem d_MM_chances_181 : decode y_MM_chances.2.1 181 = .ok (.bipush 6, 2) := by decide +kernel
theorem d_MM_chances_183 : decode y_MM_chances.2.1 183 = .ok (.iload_n 2, 1) := by decide +kernel
theorem d_MM_chances_184 : decode y_MM_chances.2.1 184 = .ok (.invokevirtual 351, 3) := by decide +kernel
theorem d_MM_chances_187 : decode y_MM_chances.2.1 187 = .ok (.iinc 5 1, 3) := by decide +kernel
theorem d_MM_chances_190 : decode y_MM_chances.2.1 190 = .ok (.goto (-61), 3) := by decide +kernel
def h_MM_chances_2 (G : mG) (d : Nat) (a0 : Nat) (l1 : Int) (l2 : Int) (l3 : Int) (M : mM) (Q : Int → mM → Prop) : Prop := mWm G y_MM_chances (d + 1) 2 [vr a0, vi l1, vi l2, vi l3, vd, vd] [] M (fun r9 M9 => ∃ x9, r9 = some (vl x9) ∧ Q x9 M9)
def h_MM_chances_118 (G : mG) (d : Nat) (a0 : Nat) (l1 : Int) (l2 : Int) (l3 : Int) (M : mM) (Q : Int → mM → Prop) : Prop := mWm G y_MM_chances (d + 1) 118 [vr a0, vi l1, vi l2, vi l3, vd, vd] [] M (fun r9 M9 => ∃ x9, r9 = some (vl x9) ∧ Q x9 M9)
def h_MM_chances_129 (G : mG) (d : Nat) (a0 : Nat) (l1 : Int) (l2 : Int) (j3 : Int) (l5 : Int) (M : mM) (Q : Int → mM → Prop) : Prop := mWm G y_MM_chances (d + 1) 129 [vr a0, vi l1, vi l2, vl j3, vd, vi l5] [] M (fun r9 M9 => ∃ x9, r9 = some (vl x9) ∧ Q x9 M9)
def h_MM_chances_187 (G : mG) (d : Nat) (a0 : Nat) (l1 : Int) (l2 : Int) (j3 : Int) (l5 : Int) (M : mM) (Q : Int → mM → Prop) : Prop := mWm G y_MM_chances (d + 1) 187 [vr a0, vi l1, vi l2, vl j3, vd, vi l5] [] M (fun r9 M9 => ∃ x9, r9 = some (vl x9) ∧ Q x9 M9)
theorem k_MM_chances {G : mG} {d : Nat} {a0 : Nat} {l1 : Int} {l2 : Int} {M : mM} {Q : Int → mM → Prop} (hO : mOk M) (hi_l1 : i32 l1) (hi_l2 : i32 l2)
    (h : h_MM_chances_2 G d a0 l1 l2 0 M Q) :
    Cj G y_MM_chances (d + 1) [vr a0, vi l1, vi l2] M Q := by
  refine wm_open (y := y_MM_chances) rfl (Nat.le_of_ble_eq_true rfl) (L := [vr a0, vi l1, vi l2, vd, vd, vd]) rfl ?_
  refine wm_iconst d_MM_chances_0 ?_
  refine wm_istore_n d_MM_chances_1 rfl (by decide) (L' := [vr a0, vi l1, vi l2, vi 0, vd, vd]) rfl ?_
  exact h
theorem k_MM_chances_2 {G : mG} {d : Nat} {a0 : Nat} {l1 : Int} {l2 : Int} {l3 : Int} {M : mM} {Q : Int → mM → Prop} (hO : mOk M) (hi_l1 : i32 l1) (hi_l2 : i32 l2) (hi_l3 : i32 l3)
    (h : mK M a0 = 14 ∧ mK M (mR M a0 9) = 16 ∧ mK M (mR M (mR M a0 9) 22) = 30 ∧ ((0 : Int) ≤ l1 ∧ l1 < (mN M (mR M (mR M a0 9) 22) : Int)) ∧ (((mI M (mR M (mR M a0 9) 22) (Int.toNat l1) ≤ l3) ∨ (¬ (mI M a0 16 = 0))) → (h_MM_chances_129 G d a0 l1 l2 1 0 M Q)) ∧ (¬ ((mI M (mR M (mR M a0 9) 22) (Int.toNat l1) ≤ l3) ∨ (¬ (mI M a0 16 = 0))) → (mK M (mR M (mR M a0 9) 23) = 30 ∧ ((0 : Int) ≤ (8 * l1) + l3 ∧ (8 * l1) + l3 < (mN M (mR M (mR M a0 9) 23) : Int)) ∧ Cv G y_MM_reach d [vr a0, vi (mI M (mR M (mR M a0 9) 23) (Int.toNat ((8 * l1) + l3)))] M (fun M12 => mOk M12 ∧ (mK M12 a0 = 14 ∧ mK M12 (mR M12 a0 21) = 33 ∧ ((0 : Int) ≤ 0 ∧ 0 < (mN M12 (mR M12 a0 21) : Int)) ∧ mK M12 (mR M12 a0 45) = 33 ∧ ((0 : Int) ≤ l3 ∧ l3 < (mN M12 (mR M12 a0 45) : Int)) ∧ ∀ M20, M20 = mUL M12 (mR M12 a0 45) (Int.toNat l3) (mL M12 (mR M12 a0 21) 0) → mK M20 (mR M20 a0 22) = 33 ∧ ((0 : Int) ≤ 0 ∧ 0 < (mN M20 (mR M20 a0 22) : Int)) ∧ mK M20 (mR M20 a0 46) = 33 ∧ ((0 : Int) ≤ l3 ∧ l3 < (mN M20 (mR M20 a0 46) : Int)) ∧ ∀ M26, M26 = mUL M20 (mR M20 a0 46) (Int.toNat l3) (mL M20 (mR M20 a0 22) 0) → ((mI M26 a0 16 = 0) → (mK M26 (mR M26 a0 21) = 33 ∧ ((0 : Int) ≤ 0 ∧ 0 < (mN M26 (mR M26 a0 21) : Int)) ∧ (¬ (cmpL (mL M26 (mR M26 a0 21) 0) 0 < 0) → (((0 : Int) ≤ 0 ∧ 0 < (mN M26 (mR M26 a0 21) : Int)) ∧ mK M26 (mR M26 a0 22) = 33 ∧ ((0 : Int) ≤ 0 ∧ 0 < (mN M26 (mR M26 a0 22) : Int)))))) ∧ (((mI M26 a0 16 = 0) ∧ ((cmpL (mL M26 (mR M26 a0 21) 0) 0 < 0) ∨ (¬ (cmpL (mL M26 (mR M26 a0 21) 0) (mL M26 (mR M26 a0 22) 0) ≤ 0)))) → (mK M26 (mR M26 a0 9) = 16 ∧ mK M26 (mR M26 (mR M26 a0 9) 24) = 30 ∧ ((0 : Int) ≤ (8 * l1) + l3 ∧ (8 * l1) + l3 < (mN M26 (mR M26 (mR M26 a0 9) 24) : Int)) ∧ Cv G y_MM_stop d [vr a0, vi 11, vi (mI M26 (mR M26 (mR M26 a0 9) 24) (Int.toNat ((8 * l1) + l3)))] M26 (fun M41 => mOk M41 ∧ (h_MM_chances_118 G d a0 l1 l2 l3 M41 Q)))) ∧ (¬ ((mI M26 a0 16 = 0) ∧ ((cmpL (mL M26 (mR M26 a0 21) 0) 0 < 0) ∨ (¬ (cmpL (mL M26 (mR M26 a0 21) 0) (mL M26 (mR M26 a0 22) 0) ≤ 0)))) → (h_MM_chances_118 G d a0 l1 l2 l3 M26 Q))))))) :
    h_MM_chances_2 G d a0 l1 l2 l3 M Q := by
  unfold h_MM_chances_2
  obtain ⟨h1, h⟩ := h
  obtain ⟨h2, h⟩ := h
  obtain ⟨h3, h⟩ := h
  obtain ⟨h4, h⟩ := h
  refine wm_iload_n d_MM_chances_2 rfl rfl ?_
  refine wm_aload_n d_MM_chances_3 rfl rfl ?_
  refine gf_MM_34 rfl d_MM_chances_4 h1 ?_
  refine gf_MM_486 rfl d_MM_chances_7 h2 ?_
  refine wm_iload_n d_MM_chances_10 rfl rfl ?_
  refine wm_iald d_MM_chances_11 h3 h4 ?_
  have hE0 : ((mI M (mR M (mR M a0 9) 22) (Int.toNat l1) ≤ l3) ∨ (¬ (mI M a0 16 = 0))) → mWm G y_MM_chances (d + 1) 124 [vr a0, vi l1, vi l2, vi l3, vd, vd] [] M (fun r9 M9 => ∃ x9, r9 = some (vl x9) ∧ Q x9 M9) := by
    intro q8
    have h := h.1 q8
    refine wm_lconst (x := 1) d_MM_chances_124 rfl ?_
    refine wm_lstore_n d_MM_chances_125 rfl (by decide) (L' := [vr a0, vi l1, vi l2, vl 1, vd, vd]) rfl ?_
    refine wm_iconst d_MM_chances_126 ?_
    refine wm_istore d_MM_chances_127 (by decide) (L' := [vr a0, vi l1, vi l2, vl 1, vd, vi 0]) rfl ?_
    exact h
  have hE1 : ¬ ((mI M (mR M (mR M a0 9) 22) (Int.toNat l1) ≤ l3) ∨ (¬ (mI M a0 16 = 0))) → mWm G y_MM_chances (d + 1) 22 [vr a0, vi l1, vi l2, vi l3, vd, vd] [] M (fun r9 M9 => ∃ x9, r9 = some (vl x9) ∧ Q x9 M9) := by
    intro q9
    have h := h.2 q9
    obtain ⟨h10, h⟩ := h
    obtain ⟨h11, h⟩ := h
    refine wm_aload_n d_MM_chances_22 rfl rfl ?_
    refine wm_aload_n d_MM_chances_23 rfl rfl ?_
    refine gf_MM_34 rfl d_MM_chances_24 h1 ?_
    refine gf_MM_492 rfl d_MM_chances_27 h2 ?_
    refine wm_bipush d_MM_chances_30 (by decide) ?_
    refine wm_iload_n d_MM_chances_32 rfl rfl ?_
    refine wm_imul d_MM_chances_33 ?_
    refine wm_iload_n d_MM_chances_34 rfl rfl ?_
    refine wm_iadd d_MM_chances_35 ?_
    refine wm_iald d_MM_chances_36 h10 h11 ?_
    refine cf_MM_548 rfl d_MM_chances_37 h1 (Nat.le_of_ble_eq_true rfl) (Cv.mono h (fun M12 h => ?_))
    obtain ⟨hOM12, h⟩ := h
    obtain ⟨h15, h⟩ := h
    obtain ⟨h16, h⟩ := h
    obtain ⟨h17, h⟩ := h
    obtain ⟨h18, h⟩ := h
    obtain ⟨h19, h⟩ := h
    obtain ⟨M20, e21⟩ : ∃ M20, M20 = mUL M12 (mR M12 a0 45) (Int.toNat l3) (mL M12 (mR M12 a0 21) 0) := ⟨_, rfl⟩
    replace h := h M20 e21
    obtain ⟨h22, h⟩ := h
    obtain ⟨h23, h⟩ := h
    obtain ⟨h24, h⟩ := h
    obtain ⟨h25, h⟩ := h
    obtain ⟨M26, e27⟩ : ∃ M26, M26 = mUL M20 (mR M20 a0 46) (Int.toNat l3) (mL M20 (mR M20 a0 22) 0) := ⟨_, rfl⟩
    replace h := h M26 e27
    refine wm_aload_n d_MM_chances_40 rfl rfl ?_
    refine gf_MM_133 rfl d_MM_chances_41 h15 ?_
    refine wm_iload_n d_MM_chances_44 rfl rfl ?_
    refine wm_aload_n d_MM_chances_45 rfl rfl ?_
    refine gf_MM_63 rfl d_MM_chances_46 h15 ?_
    refine wm_iconst d_MM_chances_49 ?_
    refine wm_lald d_MM_chances_50 h16 h17 ?_
    have hOM20 : mOk M20 := by rw [e21]; exact mOk_UL hOM12 (hOM12 _ _).2
    refine wm_lastE d_MM_chances_51 h18 h19 (hOM12 _ _).2 e21 ?_
    refine wm_aload_n d_MM_chances_52 rfl rfl ?_
    refine gf_MM_136 rfl d_MM_chances_53 (by rw [e21]; exact h15) ?_
    refine wm_iload_n d_MM_chances_56 rfl rfl ?_
    refine wm_aload_n d_MM_chances_57 rfl rfl ?_
    refine gf_MM_67 rfl d_MM_chances_58 (by rw [e21]; exact h15) ?_
    refine wm_iconst d_MM_chances_61 ?_
    refine wm_lald d_MM_chances_62 h22 h23 ?_
    have hOM26 : mOk M26 := by rw [e27]; exact mOk_UL hOM20 (hOM20 _ _).2
    refine wm_lastE d_MM_chances_63 h24 h25 (hOM20 _ _).2 e27 ?_
    refine wm_aload_n d_MM_chances_64 rfl rfl ?_
    refine gf_MM_267 rfl d_MM_chances_65 (by rw [e27, e21]; exact h15) ?_
    obtain ⟨s36, h⟩ := h
    have hE0 : ((mI M26 a0 16 = 0) ∧ ((cmpL (mL M26 (mR M26 a0 21) 0) 0 < 0) ∨ (¬ (cmpL (mL M26 (mR M26 a0 21) 0) (mL M26 (mR M26 a0 22) 0) ≤ 0)))) → mWm G y_MM_chances (d + 1) 98 [vr a0, vi l1, vi l2, vi l3, vd, vd] [] M26 (fun r9 M9 => ∃ x9, r9 = some (vl x9) ∧ Q x9 M9) := by
      intro q37
      have h := h.1 q37
      obtain ⟨h38, h⟩ := h
      obtain ⟨h39, h⟩ := h
      obtain ⟨h40, h⟩ := h
      refine wm_aload_n d_MM_chances_98 rfl rfl ?_
      refine wm_bipush d_MM_chances_99 (by decide) ?_
      refine wm_aload_n d_MM_chances_101 rfl rfl ?_
      refine gf_MM_34 rfl d_MM_chances_102 (by rw [e27, e21]; exact h15) ?_
      refine gf_MM_495 rfl d_MM_chances_105 h38 ?_
      refine wm_bipush d_MM_chances_108 (by decide) ?_
      refine wm_iload_n d_MM_chances_110 rfl rfl ?_
      refine wm_imul d_MM_chances_111 ?_
      refine wm_iload_n d_MM_chances_112 rfl rfl ?_
      refine wm_iadd d_MM_chances_113 ?_
      refine wm_iald d_MM_chances_114 h39 h40 ?_
      refine cf_MM_351 rfl d_MM_chances_115 (by rw [e27, e21]; exact h15) (Nat.le_of_ble_eq_true rfl) (Cv.mono h (fun M41 h => ?_))
      obtain ⟨hOM41, h⟩ := h
      exact h
    have hE1 : ¬ ((mI M26 a0 16 = 0) ∧ ((cmpL (mL M26 (mR M26 a0 21) 0) 0 < 0) ∨ (¬ (cmpL (mL M26 (mR M26 a0 21) 0) (mL M26 (mR M26 a0 22) 0) ≤ 0)))) → mWm G y_MM_chances (d + 1) 118 [vr a0, vi l1, vi l2, vi l3, vd, vd] [] M26 (fun r9 M9 => ∃ x9, r9 = some (vl x9) ∧ Q x9 M9) := by
      intro q44
      have h := h.2 q44
      exact h
    clear h
    have s45 := s36
    refine wm_if_ne (tgt := 118) d_MM_chances_68 rfl (hOM26 _ _).1 (fun c35 => ?_) (fun c35 => ?_)
    · exact hE1 (fun z50 => c35 z50.1)
    · replace c35 := Classical.not_not.mp c35
      have s45 := s45 c35
      obtain ⟨h28, h29, s46⟩ := s45
      refine wm_aload_n d_MM_chances_71 rfl rfl ?_
      refine gf_MM_63 rfl d_MM_chances_72 (by rw [e27, e21]; exact h15) ?_
      refine wm_iconst d_MM_chances_75 ?_
      refine wm_lald d_MM_chances_76 h28 h29 ?_
      refine wm_lconst (x := 0) d_MM_chances_77 rfl ?_
      refine wm_lcmp d_MM_chances_78 (hOM26 _ _).2 ⟨by decide, by decide⟩ ?_
      refine wm_if_lt (tgt := 98) d_MM_chances_79 rfl (m_cmp32 _ _) (fun c34 => ?_) (fun c34 => ?_)
      · exact hE0 ⟨c35, (Or.inl c34)⟩
      · have s46 := s46 c34
        obtain ⟨h30, h31, h32⟩ := s46
        refine wm_aload_n d_MM_chances_82 rfl rfl ?_
        refine gf_MM_63 rfl d_MM_chances_83 (by rw [e27, e21]; exact h15) ?_
        refine wm_iconst d_MM_chances_86 ?_
        refine wm_lald d_MM_chances_87 h28 h30 ?_
        refine wm_aload_n d_MM_chances_88 rfl rfl ?_
        refine gf_MM_67 rfl d_MM_chances_89 (by rw [e27, e21]; exact h15) ?_
        refine wm_iconst d_MM_chances_92 ?_
        refine wm_lald d_MM_chances_93 h31 h32 ?_
        refine wm_lcmp d_MM_chances_94 (hOM26 _ _).2 (hOM26 _ _).2 ?_
        refine wm_if_le (tgt := 118) d_MM_chances_95 rfl (m_cmp32 _ _) (fun c33 => ?_) (fun c33 => ?_)
        · exact hE1 (fun z47 => (fun z48 => Or.elim z48 c34 (fun z49 => z49 c33)) z47.2)
        · exact hE0 ⟨c35, (Or.inr c33)⟩
  clear h
  refine wm_icmp_ge (tgt := 124) d_MM_chances_12 rfl hi_l3 (hO _ _).1 (fun c6 => ?_) (fun c6 => ?_)
  · exact hE0 (Or.inl c6)
  · refine wm_aload_n d_MM_chances_15 rfl rfl ?_
    refine gf_MM_267 rfl d_MM_chances_16 h1 ?_
    refine wm_if_ne (tgt := 124) d_MM_chances_19 rfl (hO _ _).1 (fun c5 => ?_) (fun c5 => ?_)
    · exact hE0 (Or.inr c5)
    · replace c5 := Classical.not_not.mp c5
      exact hE1 (fun z51 => Or.elim z51 c6 (fun z52 => z52 c5))
theorem k_MM_chances_118 {G : mG} {d : Nat} {a0 : Nat} {l1 : Int} {l2 : Int} {l3 : Int} {M : mM} {Q : Int → mM → Prop} (hO : mOk M) (hi_l1 : i32 l1) (hi_l2 : i32 l2) (hi_l3 : i32 l3)
    (h : h_MM_chances_2 G d a0 l1 l2 (l3 + 1) M Q) :
    h_MM_chances_118 G d a0 l1 l2 l3 M Q := by
  unfold h_MM_chances_118
  refine wm_iinc d_MM_chances_118 (by decide) rfl (L' := [vr a0, vi l1, vi l2, vi (l3 + 1), vd, vd]) rfl ?_
  refine wm_goto (tgt := 2) d_MM_chances_121 rfl ?_
  exact h
theorem k_MM_chances_129 {G : mG} {d : Nat} {a0 : Nat} {l1 : Int} {l2 : Int} {j3 : Int} {l5 : Int} {M : mM} {Q : Int → mM → Prop} (hO : mOk M) (hi_l1 : i32 l1) (hi_l2 : i32 l2) (hi_j3 : i64 j3) (hi_l5 : i32 l5)
    (h : mK M a0 = 14 ∧ mK M (mR M a0 9) = 16 ∧ mK M (mR M (mR M a0 9) 22) = 30 ∧ ((0 : Int) ≤ l1 ∧ l1 < (mN M (mR M (mR M a0 9) 22) : Int)) ∧ (((mI M (mR M (mR M a0 9) 22) (Int.toNat l1) ≤ l5) ∨ (¬ (mI M a0 16 = 0))) → (Q j3 M)) ∧ (¬ ((mI M (mR M (mR M a0 9) 22) (Int.toNat l1) ≤ l5) ∨ (¬ (mI M a0 16 = 0))) → (mK M (mR M a0 46) = 33 ∧ ((0 : Int) ≤ l5 ∧ l5 < (mN M (mR M a0 46) : Int)) ∧ Cj G y_MM_divisor d [vl j3, vl (mL M (mR M a0 46) (Int.toNat l5))] M (fun x65 M64 => i64 x65 ∧ mOk M64 ∧ (x65 ≠ 0 ∧ mK M64 a0 = 14 ∧ mK M64 (mR M64 a0 46) = 33 ∧ ((0 : Int) ≤ l5 ∧ l5 < (mN M64 (mR M64 a0 46) : Int)) ∧ i64 ((Int.tdiv j3 x65) * (mL M64 (mR M64 a0 46) (Int.toNat l5))) ∧ ((cmpL ((Int.tdiv j3 x65) * (mL M64 (mR M64 a0 46) (Int.toNat l5))) 1000000000 < 0) → (h_MM_chances_187 G d a0 l1 l2 ((Int.tdiv j3 x65) * (mL M64 (mR M64 a0 46) (Int.toNat l5))) l5 M64 Q)) ∧ (¬ (cmpL ((Int.tdiv j3 x65) * (mL M64 (mR M64 a0 46) (Int.toNat l5))) 1000000000 < 0) → (Cv G y_MM_stop d [vr a0, vi 6, vi l2] M64 (fun M74 => mOk M74 ∧ (h_MM_chances_187 G d a0 l1 l2 ((Int.tdiv j3 x65) * (mL M64 (mR M64 a0 46) (Int.toNat l5))) l5 M74 Q))))))))) :
    h_MM_chances_129 G d a0 l1 l2 j3 l5 M Q := by
  unfold h_MM_chances_129
  obtain ⟨h53, h⟩ := h
  obtain ⟨h54, h⟩ := h
  obtain ⟨h55, h⟩ := h
  obtain ⟨h56, h⟩ := h
  refine wm_iload d_MM_chances_129 rfl ?_
  refine wm_aload_n d_MM_chances_131 rfl rfl ?_
  refine gf_MM_34 rfl d_MM_chances_132 h53 ?_
  refine gf_MM_486 rfl d_MM_chances_135 h54 ?_
  refine wm_iload_n d_MM_chances_138 rfl rfl ?_
  refine wm_iald d_MM_chances_139 h55 h56 ?_
  have hE0 : ((mI M (mR M (mR M a0 9) 22) (Int.toNat l1) ≤ l5) ∨ (¬ (mI M a0 16 = 0))) → mWm G y_MM_chances (d + 1) 193 [vr a0, vi l1, vi l2, vl j3, vd, vi l5] [] M (fun r9 M9 => ∃ x9, r9 = some (vl x9) ∧ Q x9 M9) := by
    intro q60
    have h := h.1 q60
    refine wm_lload_n d_MM_chances_193 rfl rfl ?_
    refine wm_lreturn d_MM_chances_194 rfl ?_
    exact ⟨_, rfl, h⟩
  have hE1 : ¬ ((mI M (mR M (mR M a0 9) 22) (Int.toNat l1) ≤ l5) ∨ (¬ (mI M a0 16 = 0))) → mWm G y_MM_chances (d + 1) 150 [vr a0, vi l1, vi l2, vl j3, vd, vi l5] [] M (fun r9 M9 => ∃ x9, r9 = some (vl x9) ∧ Q x9 M9) := by
    intro q61
    have h := h.2 q61
    obtain ⟨h62, h⟩ := h
    obtain ⟨h63, h⟩ := h
    refine wm_lload_n d_MM_chances_150 rfl rfl ?_
    refine wm_lload_n d_MM_chances_151 rfl rfl ?_
    refine wm_aload_n d_MM_chances_152 rfl rfl ?_
    refine gf_MM_136 rfl d_MM_chances_153 h53 ?_
    refine wm_iload d_MM_chances_156 rfl ?_
    refine wm_lald d_MM_chances_158 h62 h63 ?_
    refine cf_MM_377 rfl d_MM_chances_159 (Nat.le_of_ble_eq_true rfl) (Cj.mono h (fun x65 M64 h => ?_))
    obtain ⟨h66, hOM64, h⟩ := h
    obtain ⟨h67, h⟩ := h
    obtain ⟨h68, h⟩ := h
    obtain ⟨h69, h⟩ := h
    obtain ⟨h70, h⟩ := h
    obtain ⟨h71, h⟩ := h
    refine wm_ldiv d_MM_chances_162 hi_j3 h66 h67 ?_
    refine wm_aload_n d_MM_chances_163 rfl rfl ?_
    refine gf_MM_136 rfl d_MM_chances_164 h68 ?_
    refine wm_iload d_MM_chances_167 rfl ?_
    refine wm_lald d_MM_chances_169 h69 h70 ?_
    refine wm_lmul d_MM_chances_170 ?_
    refine wm_lstore_n d_MM_chances_171 rfl (by decide) (L' := [vr a0, vi l1, vi l2, vl ((Int.tdiv j3 x65) * (mL M64 (mR M64 a0 46) (Int.toNat l5))), vd, vi l5]) rfl ?_
    refine wm_lload_n d_MM_chances_172 rfl rfl ?_
    refine wm_ldc2 (x := 1000000000) d_MM_chances_173 k12_27 (by decide) ?_
    refine wm_lcmp d_MM_chances_176 h71 ⟨by decide, by decide⟩ ?_
    refine wm_if_lt (tgt := 187) d_MM_chances_177 rfl (m_cmp32 _ _) (fun c73 => ?_) (fun c73 => ?_)
    · replace h := h.1 c73
      exact h
    · replace h := h.2 c73
      refine wm_aload_n d_MM_chances_180 rfl rfl ?_
      refine wm_bipush d_MM_chances_181 (by decide) ?_
      refine wm_iload_n d_MM_chances_183 rfl rfl ?_
      refine cf_MM_351 rfl d_MM_chances_184 h68 (Nat.le_of_ble_eq_true rfl) (Cv.mono h (fun M74 h => ?_))
      obtain ⟨hOM74, h⟩ := h
      exact h
  clear h
  refine wm_icmp_ge (tgt := 193) d_MM_chances_140 rfl hi_l5 (hO _ _).1 (fun c58 => ?_) (fun c58 => ?_)
  · exact hE0 (Or.inl c58)
  · refine wm_aload_n d_MM_chances_143 rfl rfl ?_
    refine gf_MM_267 rfl d_MM_chances_144 h53 ?_
    refine wm_if_ne (tgt := 193) d_MM_chances_147 rfl (hO _ _).1 (fun c57 => ?_) (fun c57 => ?_)
    · exact hE0 (Or.inr c57)
    · replace c57 := Classical.not_not.mp c57
      exact hE1 (fun z77 => Or.elim z77 c58 (fun z78 => z78 c57))
theorem k_MM_chances_187 {G : mG} {d : Nat} {a0 : Nat} {l1 : Int} {l2 : Int} {j3 : Int} {l5 : Int} {M : mM} {Q : Int → mM → Prop} (hO : mOk M) (hi_l1 : i32 l1) (hi_l2 : i32 l2) (hi_j3 : i64 j3) (hi_l5 : i32 l5)
    (h : h_MM_chances_129 G d a0 l1 l2 j3 (l5 + 1) M Q) :
    h_MM_chances_187 G d a0 l1 l2 j3 l5 M Q := by
  unfold h_MM_chances_187
  refine wm_iinc d_MM_chances_187 (by decide) rfl (L' := [vr a0, vi l1, vi l2, vl j3, vd, vi (l5 + 1)]) rfl ?_
  refine wm_goto (tgt := 129) d_MM_chances_190 rfl ?_
  exact h
theorem d_MM_way_0 : decode y_MM_way.2.1 0 = .ok (.bipush 8, 2) := by decide +kernel
theorem d_MM_way_2 : decode y_MM_way.2.1 2 = .ok (.iload_n 1, 1) := by decide +kernel
theorem d_MM_way_3 : decode y_MM_way.2.1 3 = .ok (.imul, 1) := by decide +kernel
theorem d_MM_way_4 : decode y_MM_way.2.1 4 = .ok (.iload_n 2, 1) := by decide +kernel
theorem d_MM_way_5 : decode y_MM_way.2.1 5 = .ok (.iadd, 1) := by decide +kernel
theorem d_MM_way_6 : decode y_MM_way.2.1 6 = .ok (.istore 4, 2) := by decide +kernel
theorem d_MM_way_8 : decode y_MM_way.2.1 8 = .ok (.iconst 0, 1) := by decide +kernel
theorem d_MM_way_9 : decode y_MM_way.2.1 9 = .ok (.istore 5, 2) := by decide +kernel
theorem d_MM_way_11 : decode y_MM_way.2.1 11 = .ok (.iload 5, 2) := by decide +kernel
theorem d_MM_way_13 : decode y_MM_way.2.1 13 = .ok (.aload_n 0, 1) := by decide +kernel
theorem d_MM_way_14 : decode y_MM_way.2.1 14 = .ok (.getfield 34, 3) := by decide +kernel
theorem d_MM_way_17 : decode y_MM_way.2.1 17 = .ok (.getfield 456, 3) := by decide +kernel
theorem d_MM_way_20 : decode y_MM_way.2.1 20 = .ok (.if_icmp .ge 23, 3) := by decide +kernel
theorem d_MM_way_43 : decode y_MM_way.2.1 43 = .ok (.aload_n 0, 1) := by decide +kernel
theorem d_MM_way_44 : decode y_MM_way.2.1 44 = .ok (.getfield 34, 3) := by decide +kernel
theorem d_MM_way_47 : decode y_MM_way.2.1 47 = .ok (.getfield 498, 3) := by decide +kernel
theorem d_MM_way_50 : decode y_MM_way.2.1 50 = .ok (.iload 4, 2) := by decide +kernel
theorem d_MM_way_52 : decode y_MM_way.2.1 52 = .ok (.iaload, 1) := by decide +kernel
theorem d_MM_way_53 : decode y_MM_way.2.1 53 = .ok (.istore 5, 2) := by decide +kernel
theorem d_MM_way_55 : decode y_MM_way.2.1 55 = .ok (.iload 5, 2) := by decide +kernel
theorem d_MM_way_57 : decode y_MM_way.2.1 57 = .ok (.istore 6, 2) := by decide +kernel
theorem d_MM_way_23 : decode y_MM_way.2.1 23 = .ok (.aload_n 0, 1) := by decide +kernel
theorem d_MM_way_24 : decode y_MM_way.2.1 24 = .ok (.getfield 130, 3) := by decide +kernel
theorem d_MM_way_27 : decode y_MM_way.2.1 27 = .ok (.iload 5, 2) := by decide +kernel
theorem d_MM_way_29 : decode y_MM_way.2.1 29 = .ok (.aload_n 0, 1) := by decide +kernel
theorem d_MM_way_30 : decode y_MM_way.2.1 30 = .ok (.getfield 73, 3) := by decide +kernel
theorem d_MM_way_33 : decode y_MM_way.2.1 33 = .ok (.iload 5, 2) := by decide +kernel
theorem d_MM_way_35 : decode y_MM_way.2.1 35 = .ok (.iaload, 1) := by decide +kernel
theorem d_MM_way_36 : decode y_MM_way.2.1 36 = .ok (.iastore, 1) := by decide +kernel
theorem d_MM_way_37 : decode y_MM_way.2.1 37 = .ok (.iinc 5 1, 3) := by decide +kernel
theorem d_MM_way_40 : decode y_MM_way.2.1 40 = .ok (.goto (-29), 3) := by decide +kernel
theorem d_MM_way_59 : decode y_MM_way.2.1 59 = .ok (.iload 6, 2) := by decide +kernel
theorem d_MM_way_61 : decode y_MM_way.2.1 61 = .ok (.iload 5, 2) := by decide +kernel
theorem d_MM_way_63 : decode y_MM_way.2.1 63 = .ok (.aload_n 0, 1) := by decide +kernel
theorem d_MM_way_64 : decode y_MM_way.2.1 64 = .ok (.getfield 34, 3) := by decide +kernel
theorem d_MM_way_67 : decode y_MM_way.2.1 67 = .ok (.getfield 507, 3) := by decide +kernel
theorem d_MM_way_70 : decode y_MM_way.2.1 70 = .ok (.iload 4, 2) := by decide +kernel
theorem d_MM_way_72 : decode y_MM_way.2.1 72 = .ok (.iaload, 1) := by decide +kernel
theorem d_MM_way_73 : decode y_MM_way.2.1 73 = .ok (.iadd, 1) := by decide +kernel
theorem d_MM_way_74 : decode y_MM_way.2.1 74 = .ok (.if_icmp .ge 56, 3) := by decide +kernel
theorem d_MM_way_77 : decode y_MM_way.2.1 77 = .ok (.aload_n 0, 1) := by decide +kernel
theorem d_MM_way_78 : decode y_MM_way.2.1 78 = .ok (.getfield 267, 3) := by decide +kernel
theorem d_MM_way_81 : decode y_MM_way.2.1 81 = .ok (.ifCond .ne 49, 3) := by decide +kernel
theorem d_MM_way_84 : decode y_MM_way.2.1 84 = .ok (.aload_n 0, 1) := by decide +kernel
theorem d_MM_way_85 : decode y_MM_way.2.1 85 = .ok (.aload_n 0, 1) := by decide +kernel
theorem d_MM_way_86 : decode y_MM_way.2.1 86 = .ok (.getfield 34, 3) := by decide +kernel
theorem d_MM_way_89 : decode y_MM_way.2.1 89 = .ok (.getfield 501, 3) := by decide +kernel
theorem d_MM_way_92 : decode y_MM_way.2.1 92 = .ok (.iload 6, 2) := by decide +kernel
theorem d_MM_way_130 : decode y_MM_way.2.1 130 = .ok (.aload_n 0, 1) := by decide +kernel
theorem d_MM_way_131 : decode y_MM_way.2.1 131 = .ok (.getfield 267, 3) := by decide +kernel
theorem d_MM_way_134 : decode y_MM_way.2.1 134 = .ok (.ifCond .eq 4, 3) := by decide +kernel
theorem d_MM_way_138 : decode y_MM_way.2.1 138 = .ok (.aload_n 0, 1) := by decide +kernel
theorem d_MM_way_137 : decode y_MM_way.2.1 137 = .ok (.return_, 1) := by decide +kernel
theorem d_MM_way_139 : decode y_MM_way.2.1 139 = .ok (.invokevirtual 563, 3) := by decide +kernel
theorem d_MM_way_142 : decode y_MM_way.2.1 142 = .ok (.istore 6, 2) := by decide +kernel
theorem d_MM_way_144 : decode y_MM_way.2.1 144 = .ok (.iload 6, 2) := by decide +kernel
theorem d_MM_way_146 : decode y_MM_way.2.1 146 = .ok (.ifCond .ge 19, 3) := by decide +kernel
theorem d_MM_way_165 : decode y_MM_way.2.1 165 = .ok (.aload_n 0, 1) := by decide +kernel
theorem d_MM_way_166 : decode y_MM_way.2.1 166 = .ok (.getfield 105, 3) := by decide +kernel
theorem d_MM_way_169 : decode y_MM_way.2.1 169 = .ok (.getfield 145, 3) := by decide +kernel
theorem d_MM_way_172 : decode y_MM_way.2.1 172 = .ok (.iconst 1, 1) := by decide +kernel
theorem d_MM_way_173 : decode y_MM_way.2.1 173 = .ok (.isub, 1) := by decide +kernel
theorem d_MM_way_174 : decode y_MM_way.2.1 174 = .ok (.istore 7, 2) := by decide +kernel
theorem d_MM_way_176 : decode y_MM_way.2.1 176 = .ok (.aload_n 0, 1) := by decide +kernel
theorem d_MM_way_177 : decode y_MM_way.2.1 177 = .ok (.getfield 105, 3) := by decide +kernel
theorem d_MM_way_180 : decode y_MM_way.2.1 180 = .ok (.iload 7, 2) := by decide +kernel
theorem d_MM_way_149 : decode y_MM_way.2.1 149 = .ok (.aload_n 0, 1) := by decide +kernel
theorem d_MM_way_150 : decode y_MM_way.2.1 150 = .ok (.iconst 5, 1) := by decide +kernel
theorem d_MM_way_151 : decode y_MM_way.2.1 151 = .ok (.aload_n 0, 1) := by decide +kernel
theorem d_MM_way_152 : decode y_MM_way.2.1 152 = .ok (.getfield 34, 3) := by decide +kernel
theorem d_MM_way_155 : decode y_MM_way.2.1 155 = .ok (.getfield 495, 3) := by decide +kernel
theorem d_MM_way_158 : decode y_MM_way.2.1 158 = .ok (.iload 4, 2) := by decide +kernel
theorem d_MM_way_160 : decode y_MM_way.2.1 160 = .ok (.iaload, 1) := by decide +kernel
theorem d_MM_way_182 : decode y_MM_way.2.1 182 = .ok (.invokevirtual 155, 3) := by decide +kernel
theorem d_MM_way_185 : decode y_MM_way.2.1 185 = .ok (.istore 8, 2) := by decide +kernel
theorem d_MM_way_161 : decode y_MM_way.2.1 161 = .ok (.invokevirtual 351, 3) := by decide +kernel
theorem d_MM_way_164 : decode y_MM_way.2.1 164 = .ok (.return_, 1) := by decide +kernel
theorem d_MM_way_94 : decode y_MM_way.2.1 94 = .ok (.invokevirtual 155, 3) := by decide +kernel
theorem d_MM_way_97 : decode y_MM_way.2.1 97 = .ok (.aload_n 0, 1) := by decide +kernel
theorem d_MM_way_98 : decode y_MM_way.2.1 98 = .ok (.getfield 34, 3) := by decide +kernel
theorem d_MM_way_101 : decode y_MM_way.2.1 101 = .ok (.getfield 516, 3) := by decide +kernel
theorem d_MM_way_104 : decode y_MM_way.2.1 104 = .ok (.iload 6, 2) := by decide +kernel
theorem d_MM_way_106 : decode y_MM_way.2.1 106 = .ok (.invokevirtual 155, 3) := by decide +kernel
theorem d_MM_way_109 : decode y_MM_way.2.1 109 = .ok (.aload_n 0, 1) := by decide +kernel
theorem d_MM_way_110 : decode y_MM_way.2.1 110 = .ok (.getfield 34, 3) := by decide +kernel
theorem d_MM_way_113 : decode y_MM_way.2.1 113 = .ok (.getfield 513, 3) := by decide +kernel
theorem d_MM_way_116 : decode y_MM_way.2.1 116 = .ok (.iload 6, 2) := by decide +kernel
theorem d_MM_way_118 : decode y_MM_way.2.1 118 = .ok (.invokevirtual 155, 3) := by decide +kernel
theorem d_MM_way_121 : decode y_MM_way.2.1 121 = .ok (.invokevirtual 561, 3) := by decide +kernel
theorem d_MM_way_124 : decode y_MM_way.2.1 124 = .ok (.iinc 6 1, 3) := by decide +kernel
theorem d_MM_way_127 : decode y_MM_way.2.1 127 = .ok (.goto (-68), 3) := by decide +kernel
theorem d_MM_way_187 : decode y_MM_way.2.1 187 = .ok (.iload 8, 2) := by decide +kernel
theorem d_MM_way_189 : decode y_MM_way.2.1 189 = .ok (.aload_n 0, 1) := by decide +kernel
theorem d_MM_way_190 : decode y_MM_way.2.1 190 = .ok (.getfield 536, 3) := by decide +kernel
theorem d_MM_way_193 : decode y_MM_way.2.1 193 = .ok (.if_icmp .ge 40, 3) := by decide +kernel
theorem d_MM_way_233 : decode y_MM_way.2.1 233 = .ok (.aload_n 0, 1) := by decide +kernel
theorem d_MM_way_234 : decode y_MM_way.2.1 234 = .ok (.getfield 536, 3) := by decide +kernel
theorem d_MM_way_237 : decode y_MM_way.2.1 237 = .ok (.sipush 4096, 3) := by decide +kernel
theorem d_MM_way_196 : decode y_MM_way.2.1 196 = .ok (.aload_n 0, 1) := by decide +kernel
theorem d_MM_way_197 : decode y_MM_way.2.1 197 = .ok (.getfield 121, 3) := by decide +kernel
theorem d_MM_way_200 : decode y_MM_way.2.1 200 = .ok (.iload 8, 2) := by decide +kernel
theorem d_MM_way_202 : decode y_MM_way.2.1 202 = .ok (.iaload, 1) := by decide +kernel
theorem d_MM_way_203 : decode y_MM_way.2.1 203 = .ok (.iload 6, 2) := by decide +kernel
theorem d_MM_way_240 : decode y_MM_way.2.1 240 = .ok (.if_icmp .ne 10, 3) := by decide +kernel
theorem d_MM_way_243 : decode y_MM_way.2.1 243 = .ok (.aload_n 0, 1) := by decide +kernel
theorem d_MM_way_244 : decode y_MM_way.2.1 244 = .ok (.iconst 5, 1) := by decide +kernel
theorem d_MM_way_245 : decode y_MM_way.2.1 245 = .ok (.iload_n 3, 1) := by decide +kernel
theorem d_MM_way_250 : decode y_MM_way.2.1 250 = .ok (.aload_n 0, 1) := by decide +kernel
theorem d_MM_way_251 : decode y_MM_way.2.1 251 = .ok (.getfield 121, 3) := by decide +kernel
theorem d_MM_way_254 : decode y_MM_way.2.1 254 = .ok (.aload_n 0, 1) := by decide +kernel
theorem d_MM_way_255 : decode y_MM_way.2.1 255 = .ok (.getfield 536, 3) := by decide +kernel
theorem d_MM_way_258 : decode y_MM_way.2.1 258 = .ok (.iload 6, 2) := by decide +kernel
theorem d_MM_way_260 : decode y_MM_way.2.1 260 = .ok (.iastore, 1) := by decide +kernel
theorem d_MM_way_261 : decode y_MM_way.2.1 261 = .ok (.aload_n 0, 1) := by decide +kernel
theorem d_MM_way_262 : decode y_MM_way.2.1 262 = .ok (.getfield 124, 3) := by decide +kernel
theorem d_MM_way_265 : decode y_MM_way.2.1 265 = .ok (.aload_n 0, 1) := by decide +kernel
theorem d_MM_way_266 : decode y_MM_way.2.1 266 = .ok (.getfield 536, 3) := by decide +kernel
theorem d_MM_way_269 : decode y_MM_way.2.1 269 = .ok (.aload_n 0, 1) := by decide +kernel
theorem d_MM_way_270 : decode y_MM_way.2.1 270 = .ok (.getfield 133, 3) := by decide +kernel
theorem d_MM_way_273 : decode y_MM_way.2.1 273 = .ok (.iload_n 2, 1) := by decide +kernel
theorem d_MM_way_274 : decode y_MM_way.2.1 274 = .ok (.laload, 1) := by decide +kernel
theorem d_MM_way_275 : decode y_MM_way.2.1 275 = .ok (.lastore, 1) := by decide +kernel
theorem d_MM_way_205 : decode y_MM_way.2.1 205 = .ok (.if_icmp .ne 22, 3) := by decide +kernel
theorem d_MM_way_208 : decode y_MM_way.2.1 208 = .ok (.aload_n 0, 1) := by decide +kernel
theorem d_MM_way_209 : decode y_MM_way.2.1 209 = .ok (.iload 8, 2) := by decide +kernel
theorem d_MM_way_211 : decode y_MM_way.2.1 211 = .ok (.aload_n 0, 1) := by decide +kernel
theorem d_MM_way_212 : decode y_MM_way.2.1 212 = .ok (.getfield 133, 3) := by decide +kernel
theorem d_MM_way_215 : decode y_MM_way.2.1 215 = .ok (.iload_n 2, 1) := by decide +kernel
theorem d_MM_way_216 : decode y_MM_way.2.1 216 = .ok (.laload, 1) := by decide +kernel
theorem d_MM_way_217 : decode y_MM_way.2.1 217 = .ok (.aload_n 0, 1) := by decide +kernel
theorem d_MM_way_218 : decode y_MM_way.2.1 218 = .ok (.getfield 136, 3) := by decide +kernel
theorem d_MM_way_221 : decode y_MM_way.2.1 221 = .ok (.iload_n 2, 1) := by decide +kernel
theorem d_MM_way_222 : decode y_MM_way.2.1 222 = .ok (.laload, 1) := by decide +kernel
theorem d_MM_way_227 : decode y_MM_way.2.1 227 = .ok (.iinc 8 1, 3) := by decide +kernel
theorem d_MM_way_230 : decode y_MM_way.2.1 230 = .ok (.goto (-43), 3) := by decide +kernel
theorem d_MM_way_246 : decode y_MM_way.2.1 246 = .ok (.invokevirtual 351, 3) := by decide +kernel
theorem d_MM_way_249 : decode y_MM_way.2.1 249 = .ok (.return_, 1) := by decide +kernel
theorem d_MM_way_276 : decode y_MM_way.2.1 276 = .ok (.aload_n 0, 1) := by decide +kernel
theorem d_MM_way_277 : decode y_MM_way.2.1 277 = .ok (.getfield 127, 3) := by decide +kernel
theorem d_MM_way_280 : decode y_MM_way.2.1 280 = .ok (.aload_n 0, 1) := by decide +kernel
theorem d_MM_way_281 : decode y_MM_way.2.1 281 = .ok (.getfield 536, 3) := by decide +kernel
theorem d_MM_way_284 : decode y_MM_way.2.1 284 = .ok (.aload_n 0, 1) := by decide +kernel
theorem d_MM_way_285 : decode y_MM_way.2.1 285 = .ok (.getfield 136, 3) := by decide +kernel
theorem d_MM_way_288 : decode y_MM_way.2.1 288 = .ok (.iload_n 2, 1) := by decide +kernel
theorem d_MM_way_289 : decode y_MM_way.2.1 289 = .ok (.laload, 1) := by decide +kernel
theorem d_MM_way_290 : decode y_MM_way.2.1 290 = .ok (.lastore, 1) := by decide +kernel
theorem d_MM_way_291 : decode y_MM_way.2.1 291 = .ok (.aload_n 0, 1) := by decide +kernel
theorem d_MM_way_292 : decode y_MM_way.2.1 292 = .ok (.aload_n 0, 1) := by decide +kernel
theorem d_MM_way_293 : decode y_MM_way.2.1 293 = .ok (.getfield 536, 3) := by decide +kernel
theorem d_MM_way_296 : decode y_MM_way.2.1 296 = .ok (.iconst 1, 1) := by decide +kernel
theorem d_MM_way_297 : decode y_MM_way.2.1 297 = .ok (.iadd, 1) := by decide +kernel
theorem d_MM_way_298 : decode y_MM_way.2.1 298 = .ok (.putfield 536, 3) := by decide +kernel
theorem d_MM_way_301 : decode y_MM_way.2.1 301 = .ok (.aload_n 0, 1) := by decide +kernel
theorem d_MM_way_302 : decode y_MM_way.2.1 302 = .ok (.getfield 108, 3) := by decide +kernel
theorem d_MM_way_305 : decode y_MM_way.2.1 305 = .ok (.getfield 293, 3) := by decide +kernel
theorem d_MM_way_308 : decode y_MM_way.2.1 308 = .ok (.iload 7, 2) := by decide +kernel
theorem d_MM_way_310 : decode y_MM_way.2.1 310 = .ok (.aload_n 0, 1) := by decide +kernel
theorem d_MM_way_311 : decode y_MM_way.2.1 311 = .ok (.getfield 108, 3) := by decide +kernel
theorem d_MM_way_314 : decode y_MM_way.2.1 314 = .ok (.getfield 293, 3) := by decide +kernel
theorem d_MM_way_317 : decode y_MM_way.2.1 317 = .ok (.iload 7, 2) := by decide +kernel
theorem d_MM_way_319 : decode y_MM_way.2.1 319 = .ok (.iaload, 1) := by decide +kernel
theorem d_MM_way_320 : decode y_MM_way.2.1 320 = .ok (.iconst 1, 1) := by decide +kernel
theorem d_MM_way_321 : decode y_MM_way.2.1 321 = .ok (.iadd, 1) := by decide +kernel
theorem d_MM_way_322 : decode y_MM_way.2.1 322 = .ok (.iastore, 1) := by decide +kernel
theorem d_MM_way_323 : decode y_MM_way.2.1 323 = .ok (.return_, 1) := by decide +kernel
theorem d_MM_way_223 : decode y_MM_way.2.1 223 = .ok (.invokevirtual 566, 3) := by decide +kernel
theorem d_MM_way_226 : decode y_MM_way.2.1 226 = .ok (.return_, 1) := by decide +kernel
def h_MM_way_11 (G : mG) (d : Nat) (a0 : Nat) (l2 : Int) (l3 : Int) (l4 : Int) (l5 : Int) (M : mM) (Q : mM → Prop) : Prop := mWm G y_MM_way (d + 1) 11 [vr a0, vd, vi l2, vi l3, vi l4, vi l5, vd, vd, vd] [] M (fun r9 M9 => r9 = none ∧ Q M9)
def h_MM_way_59 (G : mG) (d : Nat) (a0 : Nat) (l2 : Int) (l3 : Int) (l4 : Int) (l5 : Int) (l6 : Int) (M : mM) (Q : mM → Prop) : Prop := mWm G y_MM_way (d + 1) 59 [vr a0, vd, vi l2, vi l3, vi l4, vi l5, vi l6, vd, vd] [] M (fun r9 M9 => r9 = none ∧ Q M9)
def h_MM_way_187 (G : mG) (d : Nat) (a0 : Nat) (l2 : Int) (l3 : Int) (l6 : Int) (l7 : Int) (l8 : Int) (M : mM) (Q : mM → Prop) : Prop := mWm G y_MM_way (d + 1) 187 [vr a0, vd, vi l2, vi l3, vd, vd, vi l6, vi l7, vi l8] [] M (fun r9 M9 => r9 = none ∧ Q M9)
theorem k_MM_way {G : mG} {d : Nat} {a0 : Nat} {l1 : Int} {l2 : Int} {l3 : Int} {M : mM} {Q : mM → Prop} (hO : mOk M) (hi_l1 : i32 l1) (hi_l2 : i32 l2) (hi_l3 : i32 l3)
    (h : h_MM_way_11 G d a0 l2 l3 ((8 * l1) + l2) 0 M Q) :
    Cv G y_MM_way (d + 1) [vr a0, vi l1, vi l2, vi l3] M Q := by
  refine wm_open (y := y_MM_way) rfl (Nat.le_of_ble_eq_true rfl) (L := [vr a0, vi l1, vi l2, vi l3, vd, vd, vd, vd, vd]) rfl ?_
  refine wm_bipush d_MM_way_0 (by decide) ?_
  refine wm_iload_n d_MM_way_2 rfl rfl ?_
  refine wm_imul d_MM_way_3 ?_
  refine wm_iload_n d_MM_way_4 rfl rfl ?_
  refine wm_iadd d_MM_way_5 ?_
  refine wm_istore d_MM_way_6 (by decide) (L' := [vr a0, vi l1, vi l2, vi l3, vi ((8 * l1) + l2), vd, vd, vd, vd]) rfl ?_
  refine wm_iconst d_MM_way_8 ?_
  refine wm_istore d_MM_way_9 (by decide) (L' := [vr a0, vi l1, vi l2, vi l3, vi ((8 * l1) + l2), vi 0, vd, vd, vd]) rfl ?_
  refine wm_less (L' := [vr a0, vd, vi l2, vi l3, vi ((8 * l1) + l2), vi 0, vd, vd, vd]) ⟨Or.inr rfl, Or.inl rfl, Or.inr rfl, Or.inr rfl, Or.inr rfl, Or.inr rfl, Or.inl rfl, Or.inl rfl, Or.inl rfl, trivial⟩ ?_
  exact h
theorem k_MM_way_11 {G : mG} {d : Nat} {a0 : Nat} {l2 : Int} {l3 : Int} {l4 : Int} {l5 : Int} {M : mM} {Q : mM → Prop} (hO : mOk M) (hi_l2 : i32 l2) (hi_l3 : i32 l3) (hi_l4 : i32 l4) (hi_l5 : i32 l5)
    (h : mK M a0 = 14 ∧ mK M (mR M a0 9) = 16 ∧ ((mI M (mR M a0 9) 12 ≤ l5) → (mK M (mR M (mR M a0 9) 25) = 30 ∧ ((0 : Int) ≤ l4 ∧ l4 < (mN M (mR M (mR M a0 9) 25) : Int)) ∧ h_MM_way_59 G d a0 l2 l3 l4 (mI M (mR M (mR M a0 9) 25) (Int.toNat l4)) (mI M (mR M (mR M a0 9) 25) (Int.toNat l4)) M Q)) ∧ (¬ (mI M (mR M a0 9) 12 ≤ l5) → (mK M (mR M a0 25) = 30 ∧ ((0 : Int) ≤ l5 ∧ l5 < (mN M (mR M a0 25) : Int)) ∧ mK M (mR M a0 44) = 30 ∧ ((0 : Int) ≤ l5 ∧ l5 < (mN M (mR M a0 44) : Int)) ∧ ∀ M17, M17 = mUI M (mR M a0 44) (Int.toNat l5) (mI M (mR M a0 25) (Int.toNat l5)) → h_MM_way_11 G d a0 l2 l3 l4 (l5 + 1) M17 Q))) :
    h_MM_way_11 G d a0 l2 l3 l4 l5 M Q := by
  unfold h_MM_way_11
  obtain ⟨h1, h⟩ := h
  obtain ⟨h2, h⟩ := h
  refine wm_iload d_MM_way_11 rfl ?_
  refine wm_aload_n d_MM_way_13 rfl rfl ?_
  refine gf_MM_34 rfl d_MM_way_14 h1 ?_
  refine gf_MM_456 rfl d_MM_way_17 h2 ?_
  refine wm_icmp_ge (tgt := 43) d_MM_way_20 rfl hi_l5 (hO _ _).1 (fun c10 => ?_) (fun c10 => ?_)
  · replace h := h.1 c10
    obtain ⟨h11, h⟩ := h
    obtain ⟨h12, h⟩ := h
    refine wm_aload_n d_MM_way_43 rfl rfl ?_
    refine gf_MM_34 rfl d_MM_way_44 h1 ?_
    refine gf_MM_498 rfl d_MM_way_47 h2 ?_
    refine wm_iload d_MM_way_50 rfl ?_
    refine wm_iald d_MM_way_52 h11 h12 ?_
    refine wm_istore d_MM_way_53 (by decide) (L' := [vr a0, vd, vi l2, vi l3, vi l4, vi (mI M (mR M (mR M a0 9) 25) (Int.toNat l4)), vd, vd, vd]) rfl ?_
    refine wm_iload d_MM_way_55 rfl ?_
    refine wm_istore d_MM_way_57 (by decide) (L' := [vr a0, vd, vi l2, vi l3, vi l4, vi (mI M (mR M (mR M a0 9) 25) (Int.toNat l4)), vi (mI M (mR M (mR M a0 9) 25) (Int.toNat l4)), vd, vd]) rfl ?_
    exact h
  · replace h := h.2 c10
    obtain ⟨h13, h⟩ := h
    obtain ⟨h14, h⟩ := h
    obtain ⟨h15, h⟩ := h
    obtain ⟨h16, h⟩ := h
    obtain ⟨M17, e18⟩ : ∃ M17, M17 = mUI M (mR M a0 44) (Int.toNat l5) (mI M (mR M a0 25) (Int.toNat l5)) := ⟨_, rfl⟩
    replace h := h M17 e18
    refine wm_aload_n d_MM_way_23 rfl rfl ?_
    refine gf_MM_130 rfl d_MM_way_24 h1 ?_
    refine wm_iload d_MM_way_27 rfl ?_
    refine wm_aload_n d_MM_way_29 rfl rfl ?_
    refine gf_MM_73 rfl d_MM_way_30 h1 ?_
    refine wm_iload d_MM_way_33 rfl ?_
    refine wm_iald d_MM_way_35 h13 h14 ?_
    have hOM17 : mOk M17 := by rw [e18]; exact mOk_UI hO (hO _ _).1
    refine wm_iastE d_MM_way_36 h15 h16 (hO _ _).1 e18 ?_
    refine wm_iinc d_MM_way_37 (by decide) rfl (L' := [vr a0, vd, vi l2, vi l3, vi l4, vi (l5 + 1), vd, vd, vd]) rfl ?_
    refine wm_goto (tgt := 11) d_MM_way_40 rfl ?_
    exact h
theorem k_MM_way_59 {G : mG} {d : Nat} {a0 : Nat} {l2 : Int} {l3 : Int} {l4 : Int} {l5 : Int} {l6 : Int} {M : mM} {Q : mM → Prop} (hO : mOk M) (hi_l2 : i32 l2) (hi_l3 : i32 l3) (hi_l4 : i32 l4) (hi_l5 : i32 l5) (hi_l6 : i32 l6)
    (h : mK M a0 = 14 ∧ mK M (mR M a0 9) = 16 ∧ mK M (mR M (mR M a0 9) 26) = 30 ∧ ((0 : Int) ≤ l4 ∧ l4 < (mN M (mR M (mR M a0 9) 26) : Int)) ∧ i32 (l5 + (mI M (mR M (mR M a0 9) 26) (Int.toNat l4))) ∧ (((l5 + (mI M (mR M (mR M a0 9) 26) (Int.toNat l4)) ≤ l6) ∨ (¬ (mI M a0 16 = 0))) → (((mI M a0 16 = 0) → (Ci G y_MM_stateOf d [vr a0] M (fun x31 M30 => i32 x31 ∧ mOk M30 ∧ (((0 ≤ x31) → (mK M30 a0 = 14 ∧ mK M30 (mR M30 a0 36) = 15 ∧ Ci G y_MN_at d [vr (mR M30 a0 36), vi ((mI M30 (mR M30 a0 36) 1) - 1)] M30 (fun x38 M37 => i32 x38 ∧ mOk M37 ∧ (h_MM_way_187 G d a0 l2 l3 x31 ((mI M30 (mR M30 a0 36) 1) - 1) x38 M37 Q)))) ∧ (¬ (0 ≤ x31) → (mK M30 a0 = 14 ∧ mK M30 (mR M30 a0 9) = 16 ∧ mK M30 (mR M30 (mR M30 a0 9) 24) = 30 ∧ ((0 : Int) ≤ l4 ∧ l4 < (mN M30 (mR M30 (mR M30 a0 9) 24) : Int)) ∧ Cv G y_MM_stop d [vr a0, vi 5, vi (mI M30 (mR M30 (mR M30 a0 9) 24) (Int.toNat l4))] M30 (fun M44 => mOk M44 ∧ (Q M44)))))))) ∧ (¬ (mI M a0 16 = 0) → (Q M)))) ∧ (¬ ((l5 + (mI M (mR M (mR M a0 9) 26) (Int.toNat l4)) ≤ l6) ∨ (¬ (mI M a0 16 = 0))) → (mK M (mR M (mR M a0 9) 27) = 15 ∧ Ci G y_MN_at d [vr (mR M (mR M a0 9) 27), vi l6] M (fun x50 M49 => i32 x50 ∧ mOk M49 ∧ (mK M49 a0 = 14 ∧ mK M49 (mR M49 a0 9) = 16 ∧ mK M49 (mR M49 (mR M49 a0 9) 29) = 15 ∧ Ci G y_MN_at d [vr (mR M49 (mR M49 a0 9) 29), vi l6] M49 (fun x56 M55 => i32 x56 ∧ mOk M55 ∧ (mK M55 a0 = 14 ∧ mK M55 (mR M55 a0 9) = 16 ∧ mK M55 (mR M55 (mR M55 a0 9) 28) = 15 ∧ Ci G y_MN_at d [vr (mR M55 (mR M55 a0 9) 28), vi l6] M55 (fun x62 M61 => i32 x62 ∧ mOk M61 ∧ (mK M61 a0 = 14 ∧ Cv G y_MM_set1 d [vr a0, vi x50, vi x56, vi x62] M61 (fun M65 => mOk M65 ∧ (h_MM_way_59 G d a0 l2 l3 l4 l5 (l6 + 1) M65 Q))))))))))) :
    h_MM_way_59 G d a0 l2 l3 l4 l5 l6 M Q := by
  unfold h_MM_way_59
  obtain ⟨h19, h⟩ := h
  obtain ⟨h20, h⟩ := h
  obtain ⟨h21, h⟩ := h
  obtain ⟨h22, h⟩ := h
  obtain ⟨h23, h⟩ := h
  refine wm_iload d_MM_way_59 rfl ?_
  refine wm_iload d_MM_way_61 rfl ?_
  refine wm_aload_n d_MM_way_63 rfl rfl ?_
  refine gf_MM_34 rfl d_MM_way_64 h19 ?_
  refine gf_MM_507 rfl d_MM_way_67 h20 ?_
  refine wm_iload d_MM_way_70 rfl ?_
  refine wm_iald d_MM_way_72 h21 h22 ?_
  refine wm_iadd d_MM_way_73 ?_
  have hE0 : ((l5 + (mI M (mR M (mR M a0 9) 26) (Int.toNat l4)) ≤ l6) ∨ (¬ (mI M a0 16 = 0))) → mWm G y_MM_way (d + 1) 130 [vr a0, vd, vi l2, vi l3, vi l4, vi l5, vi l6, vd, vd] [] M (fun r9 M9 => r9 = none ∧ Q M9) := by
    intro q27
    have h := h.1 q27
    refine wm_aload_n d_MM_way_130 rfl rfl ?_
    refine gf_MM_267 rfl d_MM_way_131 h19 ?_
    refine wm_if_eq (tgt := 138) d_MM_way_134 rfl (hO _ _).1 (fun c29 => ?_) (fun c29 => ?_)
    · replace h := h.1 c29
      refine wm_aload_n d_MM_way_138 rfl rfl ?_
      refine cf_MM_563 rfl d_MM_way_139 h19 (Nat.le_of_ble_eq_true rfl) (Ci.mono h (fun x31 M30 h => ?_))
      obtain ⟨h32, hOM30, h⟩ := h
      refine wm_istore d_MM_way_142 (by decide) (L' := [vr a0, vd, vi l2, vi l3, vi l4, vi l5, vi x31, vd, vd]) rfl ?_
      refine wm_iload d_MM_way_144 rfl ?_
      refine wm_if_ge (tgt := 165) d_MM_way_146 rfl h32 (fun c34 => ?_) (fun c34 => ?_)
      · replace h := h.1 c34
        obtain ⟨h35, h⟩ := h
        obtain ⟨h36, h⟩ := h
        refine wm_aload_n d_MM_way_165 rfl rfl ?_
        refine gf_MM_105 rfl d_MM_way_166 h35 ?_
        refine gf_MM_145 rfl d_MM_way_169 h36 ?_
        refine wm_iconst d_MM_way_172 ?_
        refine wm_isub d_MM_way_173 ?_
        refine wm_istore d_MM_way_174 (by decide) (L' := [vr a0, vd, vi l2, vi l3, vi l4, vi l5, vi x31, vi ((mI M30 (mR M30 a0 36) 1) - 1), vd]) rfl ?_
        refine wm_aload_n d_MM_way_176 rfl rfl ?_
        refine gf_MM_105 rfl d_MM_way_177 h35 ?_
        refine wm_iload d_MM_way_180 rfl ?_
        refine cf_MM_155 rfl d_MM_way_182 h36 (Nat.le_of_ble_eq_true rfl) (Ci.mono h (fun x38 M37 h => ?_))
        obtain ⟨h39, hOM37, h⟩ := h
        refine wm_istore d_MM_way_185 (by decide) (L' := [vr a0, vd, vi l2, vi l3, vi l4, vi l5, vi x31, vi ((mI M30 (mR M30 a0 36) 1) - 1), vi x38]) rfl ?_
        refine wm_less (L' := [vr a0, vd, vi l2, vi l3, vd, vd, vi x31, vi ((mI M30 (mR M30 a0 36) 1) - 1), vi x38]) ⟨Or.inr rfl, Or.inl rfl, Or.inr rfl, Or.inr rfl, Or.inl rfl, Or.inl rfl, Or.inr rfl, Or.inr rfl, Or.inr rfl, trivial⟩ ?_
        exact h
      · replace h := h.2 c34
        obtain ⟨h40, h⟩ := h
        obtain ⟨h41, h⟩ := h
        obtain ⟨h42, h⟩ := h
        obtain ⟨h43, h⟩ := h
        refine wm_aload_n d_MM_way_149 rfl rfl ?_
        refine wm_iconst d_MM_way_150 ?_
        refine wm_aload_n d_MM_way_151 rfl rfl ?_
        refine gf_MM_34 rfl d_MM_way_152 h40 ?_
        refine gf_MM_495 rfl d_MM_way_155 h41 ?_
        refine wm_iload d_MM_way_158 rfl ?_
        refine wm_iald d_MM_way_160 h42 h43 ?_
        refine cf_MM_351 rfl d_MM_way_161 h40 (Nat.le_of_ble_eq_true rfl) (Cv.mono h (fun M44 h => ?_))
        obtain ⟨hOM44, h⟩ := h
        refine wm_return d_MM_way_164 rfl ?_
        exact ⟨rfl, h⟩
    · replace h := h.2 c29
      refine wm_return d_MM_way_137 rfl ?_
      exact ⟨rfl, h⟩
  have hE1 : ¬ ((l5 + (mI M (mR M (mR M a0 9) 26) (Int.toNat l4)) ≤ l6) ∨ (¬ (mI M a0 16 = 0))) → mWm G y_MM_way (d + 1) 84 [vr a0, vd, vi l2, vi l3, vi l4, vi l5, vi l6, vd, vd] [] M (fun r9 M9 => r9 = none ∧ Q M9) := by
    intro q47
    have h := h.2 q47
    obtain ⟨h48, h⟩ := h
    refine wm_aload_n d_MM_way_84 rfl rfl ?_
    refine wm_aload_n d_MM_way_85 rfl rfl ?_
    refine gf_MM_34 rfl d_MM_way_86 h19 ?_
    refine gf_MM_501 rfl d_MM_way_89 h20 ?_
    refine wm_iload d_MM_way_92 rfl ?_
    refine cf_MM_155 rfl d_MM_way_94 h48 (Nat.le_of_ble_eq_true rfl) (Ci.mono h (fun x50 M49 h => ?_))
    obtain ⟨h51, hOM49, h⟩ := h
    obtain ⟨h52, h⟩ := h
    obtain ⟨h53, h⟩ := h
    obtain ⟨h54, h⟩ := h
    refine wm_aload_n d_MM_way_97 rfl rfl ?_
    refine gf_MM_34 rfl d_MM_way_98 h52 ?_
    refine gf_MM_516 rfl d_MM_way_101 h53 ?_
    refine wm_iload d_MM_way_104 rfl ?_
    refine cf_MM_155 rfl d_MM_way_106 h54 (Nat.le_of_ble_eq_true rfl) (Ci.mono h (fun x56 M55 h => ?_))
    obtain ⟨h57, hOM55, h⟩ := h
    obtain ⟨h58, h⟩ := h
    obtain ⟨h59, h⟩ := h
    obtain ⟨h60, h⟩ := h
    refine wm_aload_n d_MM_way_109 rfl rfl ?_
    refine gf_MM_34 rfl d_MM_way_110 h58 ?_
    refine gf_MM_513 rfl d_MM_way_113 h59 ?_
    refine wm_iload d_MM_way_116 rfl ?_
    refine cf_MM_155 rfl d_MM_way_118 h60 (Nat.le_of_ble_eq_true rfl) (Ci.mono h (fun x62 M61 h => ?_))
    obtain ⟨h63, hOM61, h⟩ := h
    obtain ⟨h64, h⟩ := h
    refine cf_MM_561 rfl d_MM_way_121 h64 (Nat.le_of_ble_eq_true rfl) (Cv.mono h (fun M65 h => ?_))
    obtain ⟨hOM65, h⟩ := h
    refine wm_iinc d_MM_way_124 (by decide) rfl (L' := [vr a0, vd, vi l2, vi l3, vi l4, vi l5, vi (l6 + 1), vd, vd]) rfl ?_
    refine wm_goto (tgt := 59) d_MM_way_127 rfl ?_
    exact h
  clear h
  refine wm_icmp_ge (tgt := 130) d_MM_way_74 rfl hi_l6 h23 (fun c25 => ?_) (fun c25 => ?_)
  · exact hE0 (Or.inl c25)
  · refine wm_aload_n d_MM_way_77 rfl rfl ?_
    refine gf_MM_267 rfl d_MM_way_78 h19 ?_
    refine wm_if_ne (tgt := 130) d_MM_way_81 rfl (hO _ _).1 (fun c24 => ?_) (fun c24 => ?_)
    · exact hE0 (Or.inr c24)
    · replace c24 := Classical.not_not.mp c24
      exact hE1 (fun z68 => Or.elim z68 c25 (fun z69 => z69 c24))
theorem k_MM_way_187 {G : mG} {d : Nat} {a0 : Nat} {l2 : Int} {l3 : Int} {l6 : Int} {l7 : Int} {l8 : Int} {M : mM} {Q : mM → Prop} (hO : mOk M) (hi_l2 : i32 l2) (hi_l3 : i32 l3) (hi_l6 : i32 l6) (hi_l7 : i32 l7) (hi_l8 : i32 l8)
    (h : mK M a0 = 14 ∧ ((mI M a0 40 ≤ l8) → (((mI M a0 40 = 4096) → (Cv G y_MM_stop d [vr a0, vi 5, vi l3] M (fun M81 => mOk M81 ∧ (Q M81)))) ∧ (¬ (mI M a0 40 = 4096) → (mK M (mR M a0 41) = 30 ∧ ((0 : Int) ≤ mI M a0 40 ∧ mI M a0 40 < (mN M (mR M a0 41) : Int)) ∧ ∀ M86, M86 = mUI M (mR M a0 41) (Int.toNat (mI M a0 40)) l6 → mK M86 (mR M86 a0 45) = 33 ∧ ((0 : Int) ≤ l2 ∧ l2 < (mN M86 (mR M86 a0 45) : Int)) ∧ mK M86 (mR M86 a0 42) = 33 ∧ ((0 : Int) ≤ mI M86 a0 40 ∧ mI M86 a0 40 < (mN M86 (mR M86 a0 42) : Int)) ∧ ∀ M92, M92 = mUL M86 (mR M86 a0 42) (Int.toNat (mI M86 a0 40)) (mL M86 (mR M86 a0 45) (Int.toNat l2)) → mK M92 (mR M92 a0 46) = 33 ∧ ((0 : Int) ≤ l2 ∧ l2 < (mN M92 (mR M92 a0 46) : Int)) ∧ mK M92 (mR M92 a0 43) = 33 ∧ ((0 : Int) ≤ mI M92 a0 40 ∧ mI M92 a0 40 < (mN M92 (mR M92 a0 43) : Int)) ∧ ∀ M98, M98 = mUL M92 (mR M92 a0 43) (Int.toNat (mI M92 a0 40)) (mL M92 (mR M92 a0 46) (Int.toNat l2)) → i32 ((mI M98 a0 40) + 1) ∧ ∀ M101, M101 = mUI M98 a0 40 ((mI M98 a0 40) + 1) → mK M101 (mR M101 a0 37) = 15 ∧ mK M101 (mR M101 (mR M101 a0 37) 0) = 30 ∧ ((0 : Int) ≤ l7 ∧ l7 < (mN M101 (mR M101 (mR M101 a0 37) 0) : Int)) ∧ ((0 : Int) ≤ l7 ∧ l7 < (mN M101 (mR M101 (mR M101 a0 37) 0) : Int)) ∧ i32 ((mI M101 (mR M101 (mR M101 a0 37) 0) (Int.toNat l7)) + 1) ∧ ∀ M108, M108 = mUI M101 (mR M101 (mR M101 a0 37) 0) (Int.toNat l7) ((mI M101 (mR M101 (mR M101 a0 37) 0) (Int.toNat l7)) + 1) → Q M108)))) ∧ (¬ (mI M a0 40 ≤ l8) → (mK M (mR M a0 41) = 30 ∧ ((0 : Int) ≤ l8 ∧ l8 < (mN M (mR M a0 41) : Int)) ∧ ((mI M (mR M a0 41) (Int.toNat l8) = l6) → (mK M (mR M a0 45) = 33 ∧ ((0 : Int) ≤ l2 ∧ l2 < (mN M (mR M a0 45) : Int)) ∧ mK M (mR M a0 46) = 33 ∧ ((0 : Int) ≤ l2 ∧ l2 < (mN M (mR M a0 46) : Int)) ∧ Cv G y_MM_add d [vr a0, vi l8, vl (mL M (mR M a0 45) (Int.toNat l2)), vl (mL M (mR M a0 46) (Int.toNat l2))] M (fun M118 => mOk M118 ∧ (Q M118)))) ∧ (¬ (mI M (mR M a0 41) (Int.toNat l8) = l6) → (h_MM_way_187 G d a0 l2 l3 l6 l7 (l8 + 1) M Q))))) :
    h_MM_way_187 G d a0 l2 l3 l6 l7 l8 M Q := by
  unfold h_MM_way_187
  obtain ⟨h70, h⟩ := h
  refine wm_iload d_MM_way_187 rfl ?_
  refine wm_aload_n d_MM_way_189 rfl rfl ?_
  refine gf_MM_536 rfl d_MM_way_190 h70 ?_
  refine wm_icmp_ge (tgt := 233) d_MM_way_193 rfl hi_l8 (hO _ _).1 (fun c78 => ?_) (fun c78 => ?_)
  · replace h := h.1 c78
    refine wm_aload_n d_MM_way_233 rfl rfl ?_
    refine gf_MM_536 rfl d_MM_way_234 h70 ?_
    refine wm_sipush d_MM_way_237 (by decide) ?_
    refine wm_icmp_ne (tgt := 250) d_MM_way_240 rfl (hO _ _).1 ⟨by decide, by decide⟩ (fun c80 => ?_) (fun c80 => ?_)
    · replace h := h.2 c80
      obtain ⟨h84, h⟩ := h
      obtain ⟨h85, h⟩ := h
      obtain ⟨M86, e87⟩ : ∃ M86, M86 = mUI M (mR M a0 41) (Int.toNat (mI M a0 40)) l6 := ⟨_, rfl⟩
      replace h := h M86 e87
      obtain ⟨h88, h⟩ := h
      obtain ⟨h89, h⟩ := h
      obtain ⟨h90, h⟩ := h
      obtain ⟨h91, h⟩ := h
      obtain ⟨M92, e93⟩ : ∃ M92, M92 = mUL M86 (mR M86 a0 42) (Int.toNat (mI M86 a0 40)) (mL M86 (mR M86 a0 45) (Int.toNat l2)) := ⟨_, rfl⟩
      replace h := h M92 e93
      obtain ⟨h94, h⟩ := h
      obtain ⟨h95, h⟩ := h
      obtain ⟨h96, h⟩ := h
      obtain ⟨h97, h⟩ := h
      obtain ⟨M98, e99⟩ : ∃ M98, M98 = mUL M92 (mR M92 a0 43) (Int.toNat (mI M92 a0 40)) (mL M92 (mR M92 a0 46) (Int.toNat l2)) := ⟨_, rfl⟩
      replace h := h M98 e99
      obtain ⟨h100, h⟩ := h
      obtain ⟨M101, e102⟩ : ∃ M101, M101 = mUI M98 a0 40 ((mI M98 a0 40) + 1) := ⟨_, rfl⟩
      replace h := h M101 e102
      obtain ⟨h103, h⟩ := h
      obtain ⟨h104, h⟩ := h
      obtain ⟨h105, h⟩ := h
      obtain ⟨h106, h⟩ := h
      obtain ⟨h107, h⟩ := h
      obtain ⟨M108, e109⟩ : ∃ M108, M108 = mUI M101 (mR M101 (mR M101 a0 37) 0) (Int.toNat l7) ((mI M101 (mR M101 (mR M101 a0 37) 0) (Int.toNat l7)) + 1) := ⟨_, rfl⟩
      replace h := h M108 e109
      refine wm_aload_n d_MM_way_250 rfl rfl ?_
      refine gf_MM_121 rfl d_MM_way_251 h70 ?_
      refine wm_aload_n d_MM_way_254 rfl rfl ?_
      refine gf_MM_536 rfl d_MM_way_255 h70 ?_
      refine wm_iload d_MM_way_258 rfl ?_
      have hOM86 : mOk M86 := by rw [e87]; exact mOk_UI hO hi_l6
      refine wm_iastE d_MM_way_260 h84 h85 hi_l6 e87 ?_
      refine wm_aload_n d_MM_way_261 rfl rfl ?_
      refine gf_MM_124 rfl d_MM_way_262 (by rw [e87]; exact h70) ?_
      refine wm_aload_n d_MM_way_265 rfl rfl ?_
      refine gf_MM_536 rfl d_MM_way_266 (by rw [e87]; exact h70) ?_
      refine wm_aload_n d_MM_way_269 rfl rfl ?_
      refine gf_MM_133 rfl d_MM_way_270 (by rw [e87]; exact h70) ?_
      refine wm_iload_n d_MM_way_273 rfl rfl ?_
      refine wm_lald d_MM_way_274 h88 h89 ?_
      have hOM92 : mOk M92 := by rw [e93]; exact mOk_UL hOM86 (hOM86 _ _).2
      refine wm_lastE d_MM_way_275 h90 h91 (hOM86 _ _).2 e93 ?_
      refine wm_aload_n d_MM_way_276 rfl rfl ?_
      refine gf_MM_127 rfl d_MM_way_277 (by rw [e93, e87]; exact h70) ?_
      refine wm_aload_n d_MM_way_280 rfl rfl ?_
      refine gf_MM_536 rfl d_MM_way_281 (by rw [e93, e87]; exact h70) ?_
      refine wm_aload_n d_MM_way_284 rfl rfl ?_
      refine gf_MM_136 rfl d_MM_way_285 (by rw [e93, e87]; exact h70) ?_
      refine wm_iload_n d_MM_way_288 rfl rfl ?_
      refine wm_lald d_MM_way_289 h94 h95 ?_
      have hOM98 : mOk M98 := by rw [e99]; exact mOk_UL hOM92 (hOM92 _ _).2
      refine wm_lastE d_MM_way_290 h96 h97 (hOM92 _ _).2 e99 ?_
      refine wm_aload_n d_MM_way_291 rfl rfl ?_
      refine wm_aload_n d_MM_way_292 rfl rfl ?_
      refine gf_MM_536 rfl d_MM_way_293 (by rw [e99, e93, e87]; exact h70) ?_
      refine wm_iconst d_MM_way_296 ?_
      refine wm_iadd d_MM_way_297 ?_
      have hOM101 : mOk M101 := by rw [e102]; exact mOk_UI hOM98 h100
      refine pf_MM_536 rfl d_MM_way_298 (by rw [e99, e93, e87]; exact h70) h100 e102 ?_
      refine wm_aload_n d_MM_way_301 rfl rfl ?_
      refine gf_MM_108 rfl d_MM_way_302 (by rw [e102, e99, e93, e87]; exact h70) ?_
      refine gf_MM_293 rfl d_MM_way_305 h103 ?_
      refine wm_iload d_MM_way_308 rfl ?_
      refine wm_aload_n d_MM_way_310 rfl rfl ?_
      refine gf_MM_108 rfl d_MM_way_311 (by rw [e102, e99, e93, e87]; exact h70) ?_
      refine gf_MM_293 rfl d_MM_way_314 h103 ?_
      refine wm_iload d_MM_way_317 rfl ?_
      refine wm_iald d_MM_way_319 h104 h105 ?_
      refine wm_iconst d_MM_way_320 ?_
      refine wm_iadd d_MM_way_321 ?_
      have hOM108 : mOk M108 := by rw [e109]; exact mOk_UI hOM101 h107
      refine wm_iastE d_MM_way_322 h104 h106 h107 e109 ?_
      refine wm_return d_MM_way_323 rfl ?_
      exact ⟨rfl, h⟩
    · replace c80 := Classical.not_not.mp c80
      replace h := h.1 c80
      refine wm_aload_n d_MM_way_243 rfl rfl ?_
      refine wm_iconst d_MM_way_244 ?_
      refine wm_iload_n d_MM_way_245 rfl rfl ?_
      refine cf_MM_351 rfl d_MM_way_246 h70 (Nat.le_of_ble_eq_true rfl) (Cv.mono h (fun M81 h => ?_))
      obtain ⟨hOM81, h⟩ := h
      refine wm_return d_MM_way_249 rfl ?_
      exact ⟨rfl, h⟩
  · replace h := h.2 c78
    obtain ⟨h110, h⟩ := h
    obtain ⟨h111, h⟩ := h
    refine wm_aload_n d_MM_way_196 rfl rfl ?_
    refine gf_MM_121 rfl d_MM_way_197 h70 ?_
    refine wm_iload d_MM_way_200 rfl ?_
    refine wm_iald d_MM_way_202 h110 h111 ?_
    refine wm_iload d_MM_way_203 rfl ?_
    refine wm_icmp_ne (tgt := 227) d_MM_way_205 rfl (hO _ _).1 hi_l6 (fun c113 => ?_) (fun c113 => ?_)
    · replace h := h.2 c113
      refine wm_iinc d_MM_way_227 (by decide) rfl (L' := [vr a0, vd, vi l2, vi l3, vd, vd, vi l6, vi l7, vi (l8 + 1)]) rfl ?_
      refine wm_goto (tgt := 187) d_MM_way_230 rfl ?_
      exact h
    · replace c113 := Classical.not_not.mp c113
      replace h := h.1 c113
      obtain ⟨h114, h⟩ := h
      obtain ⟨h115, h⟩ := h
      obtain ⟨h116, h⟩ := h
      obtain ⟨h117, h⟩ := h
      refine wm_aload_n d_MM_way_208 rfl rfl ?_
      refine wm_iload d_MM_way_209 rfl ?_
      refine wm_aload_n d_MM_way_211 rfl rfl ?_
      refine gf_MM_133 rfl d_MM_way_212 h70 ?_
      refine wm_iload_n d_MM_way_215 rfl rfl ?_
      refine wm_lald d_MM_way_216 h114 h115 ?_
      refine wm_aload_n d_MM_way_217 rfl rfl ?_
      refine gf_MM_136 rfl d_MM_way_218 h70 ?_
      refine wm_iload_n d_MM_way_221 rfl rfl ?_
      refine wm_lald d_MM_way_222 h116 h117 ?_
      refine cf_MM_566 rfl d_MM_way_223 h70 (Nat.le_of_ble_eq_true rfl) (Cv.mono h (fun M118 h => ?_))
      obtain ⟨hOM118, h⟩ := h
      refine wm_return d_MM_way_226 rfl ?_
      exact ⟨rfl, h⟩
theorem d_MM_add_0 : decode y_MM_add.2.1 0 = .ok (.aload_n 0, 1) := by decide +kernel
theorem d_MM_add_1 : decode y_MM_add.2.1 1 = .ok (.getfield 124, 3) := by decide +kernel
theorem d_MM_add_4 : decode y_MM_add.2.1 4 = .ok (.iload_n 1, 1) := by decide +kernel
theorem d_MM_add_5 : decode y_MM_add.2.1 5 = .ok (.laload, 1) := by decide +kernel
theorem d_MM_add_6 : decode y_MM_add.2.1 6 = .ok (.lload 4, 2) := by decide +kernel
theorem d_MM_add_8 : decode y_MM_add.2.1 8 = .ok (.lmul, 1) := by decide +kernel
theorem d_MM_add_9 : decode y_MM_add.2.1 9 = .ok (.lload_n 2, 1) := by decide +kernel
theorem d_MM_add_10 : decode y_MM_add.2.1 10 = .ok (.aload_n 0, 1) := by decide +kernel
theorem d_MM_add_11 : decode y_MM_add.2.1 11 = .ok (.getfield 127, 3) := by decide +kernel
theorem d_MM_add_14 : decode y_MM_add.2.1 14 = .ok (.iload_n 1, 1) := by decide +kernel
theorem d_MM_add_15 : decode y_MM_add.2.1 15 = .ok (.laload, 1) := by decide +kernel
theorem d_MM_add_16 : decode y_MM_add.2.1 16 = .ok (.lmul, 1) := by decide +kernel
theorem d_MM_add_17 : decode y_MM_add.2.1 17 = .ok (.ladd, 1) := by decide +kernel
theorem d_MM_add_18 : decode y_MM_add.2.1 18 = .ok (.lstore 6, 2) := by decide +kernel
theorem d_MM_add_20 : decode y_MM_add.2.1 20 = .ok (.aload_n 0, 1) := by decide +kernel
theorem d_MM_add_21 : decode y_MM_add.2.1 21 = .ok (.getfield 127, 3) := by decide +kernel
theorem d_MM_add_24 : decode y_MM_add.2.1 24 = .ok (.iload_n 1, 1) := by decide +kernel
theorem d_MM_add_25 : decode y_MM_add.2.1 25 = .ok (.laload, 1) := by decide +kernel
theorem d_MM_add_26 : decode y_MM_add.2.1 26 = .ok (.lload 4, 2) := by decide +kernel
theorem d_MM_add_28 : decode y_MM_add.2.1 28 = .ok (.lmul, 1) := by decide +kernel
theorem d_MM_add_29 : decode y_MM_add.2.1 29 = .ok (.lstore 8, 2) := by decide +kernel
theorem d_MM_add_31 : decode y_MM_add.2.1 31 = .ok (.lload 6, 2) := by decide +kernel
theorem d_MM_add_33 : decode y_MM_add.2.1 33 = .ok (.lload 8, 2) := by decide +kernel
theorem d_MM_add_35 : decode y_MM_add.2.1 35 = .ok (.invokestatic 377, 3) := by decide +kernel
theorem d_MM_add_38 : decode y_MM_add.2.1 38 = .ok (.lstore 10, 2) := by decide +kernel
theorem d_MM_add_40 : decode y_MM_add.2.1 40 = .ok (.aload_n 0, 1) := by decide +kernel
theorem d_MM_add_41 : decode y_MM_add.2.1 41 = .ok (.getfield 124, 3) := by decide +kernel
theorem d_MM_add_44 : decode y_MM_add.2.1 44 = .ok (.iload_n 1, 1) := by decide +kernel
theorem d_MM_add_45 : decode y_MM_add.2.1 45 = .ok (.lload 6, 2) := by decide +kernel
theorem d_MM_add_47 : decode y_MM_add.2.1 47 = .ok (.lload 10, 2) := by decide +kernel
theorem d_MM_add_49 : decode y_MM_add.2.1 49 = .ok (.ldiv, 1) := by decide +kernel
theorem d_MM_add_50 : decode y_MM_add.2.1 50 = .ok (.lastore, 1) := by decide +kernel
theorem d_MM_add_51 : decode y_MM_add.2.1 51 = .ok (.aload_n 0, 1) := by decide +kernel
theorem d_MM_add_52 : decode y_MM_add.2.1 52 = .ok (.getfield 127, 3) := by decide +kernel
theorem d_MM_add_55 : decode y_MM_add.2.1 55 = .ok (.iload_n 1, 1) := by decide +kernel
theorem d_MM_add_56 : decode y_MM_add.2.1 56 = .ok (.lload 8, 2) := by decide +kernel
theorem d_MM_add_58 : decode y_MM_add.2.1 58 = .ok (.lload 10, 2) := by decide +kernel
theorem d_MM_add_60 : decode y_MM_add.2.1 60 = .ok (.ldiv, 1) := by decide +kernel
theorem d_MM_add_61 : decode y_MM_add.2.1 61 = .ok (.lastore, 1) := by decide +kernel
theorem d_MM_add_62 : decode y_MM_add.2.1 62 = .ok (.return_, 1) := by decide +kernel
theorem k_MM_add {G : mG} {d : Nat} {a0 : Nat} {l1 : Int} {j2 : Int} {j4 : Int} {M : mM} {Q : mM → Prop} (hO : mOk M) (hi_l1 : i32 l1) (hi_j2 : i64 j2) (hi_j4 : i64 j4)
    (h : mK M a0 = 14 ∧ mK M (mR M a0 42) = 33 ∧ ((0 : Int) ≤ l1 ∧ l1 < (mN M (mR M a0 42) : Int)) ∧ mK M (mR M a0 43) = 33 ∧ ((0 : Int) ≤ l1 ∧ l1 < (mN M (mR M a0 43) : Int)) ∧ ((0 : Int) ≤ l1 ∧ l1 < (mN M (mR M a0 43) : Int)) ∧ Cj G y_MM_divisor d [vl (((mL M (mR M a0 42) (Int.toNat l1)) * j4) + (j2 * (mL M (mR M a0 43) (Int.toNat l1)))), vl ((mL M (mR M a0 43) (Int.toNat l1)) * j4)] M (fun x8 M7 => i64 x8 ∧ mOk M7 ∧ (mK M7 a0 = 14 ∧ i64 (((mL M (mR M a0 42) (Int.toNat l1)) * j4) + (j2 * (mL M (mR M a0 43) (Int.toNat l1)))) ∧ x8 ≠ 0 ∧ mK M7 (mR M7 a0 42) = 33 ∧ ((0 : Int) ≤ l1 ∧ l1 < (mN M7 (mR M7 a0 42) : Int)) ∧ i64 (Int.tdiv (((mL M (mR M a0 42) (Int.toNat l1)) * j4) + (j2 * (mL M (mR M a0 43) (Int.toNat l1)))) x8) ∧ ∀ M16, M16 = mUL M7 (mR M7 a0 42) (Int.toNat l1) (Int.tdiv (((mL M (mR M a0 42) (Int.toNat l1)) * j4) + (j2 * (mL M (mR M a0 43) (Int.toNat l1)))) x8) → i64 ((mL M (mR M a0 43) (Int.toNat l1)) * j4) ∧ x8 ≠ 0 ∧ mK M16 (mR M16 a0 43) = 33 ∧ ((0 : Int) ≤ l1 ∧ l1 < (mN M16 (mR M16 a0 43) : Int)) ∧ i64 (Int.tdiv ((mL M (mR M a0 43) (Int.toNat l1)) * j4) x8) ∧ ∀ M23, M23 = mUL M16 (mR M16 a0 43) (Int.toNat l1) (Int.tdiv ((mL M (mR M a0 43) (Int.toNat l1)) * j4) x8) → Q M23))) :
    Cv G y_MM_add (d + 1) [vr a0, vi l1, vl j2, vl j4] M Q := by
  refine wm_open (y := y_MM_add) rfl (Nat.le_of_ble_eq_true rfl) (L := [vr a0, vi l1, vl j2, vd, vl j4, vd, vd, vd, vd, vd, vd, vd]) rfl ?_
  obtain ⟨h1, h⟩ := h
  obtain ⟨h2, h⟩ := h
  obtain ⟨h3, h⟩ := h
  obtain ⟨h4, h⟩ := h
  obtain ⟨h5, h⟩ := h
  obtain ⟨h6, h⟩ := h
  refine wm_aload_n d_MM_add_0 rfl rfl ?_
  refine gf_MM_124 rfl d_MM_add_1 h1 ?_
  refine wm_iload_n d_MM_add_4 rfl rfl ?_
  refine wm_lald d_MM_add_5 h2 h3 ?_
  refine wm_lload d_MM_add_6 rfl ?_
  refine wm_lmul d_MM_add_8 ?_
  refine wm_lload_n d_MM_add_9 rfl rfl ?_
  refine wm_aload_n d_MM_add_10 rfl rfl ?_
  refine gf_MM_127 rfl d_MM_add_11 h1 ?_
  refine wm_iload_n d_MM_add_14 rfl rfl ?_
  refine wm_lald d_MM_add_15 h4 h5 ?_
  refine wm_lmul d_MM_add_16 ?_
  refine wm_ladd d_MM_add_17 ?_
  refine wm_lstore d_MM_add_18 (by decide) (L' := [vr a0, vi l1, vl j2, vd, vl j4, vd, vl (((mL M (mR M a0 42) (Int.toNat l1)) * j4) + (j2 * (mL M (mR M a0 43) (Int.toNat l1)))), vd, vd, vd, vd, vd]) rfl ?_
  refine wm_aload_n d_MM_add_20 rfl rfl ?_
  refine gf_MM_127 rfl d_MM_add_21 h1 ?_
  refine wm_iload_n d_MM_add_24 rfl rfl ?_
  refine wm_lald d_MM_add_25 h4 h6 ?_
  refine wm_lload d_MM_add_26 rfl ?_
  refine wm_lmul d_MM_add_28 ?_
  refine wm_lstore d_MM_add_29 (by decide) (L' := [vr a0, vi l1, vl j2, vd, vl j4, vd, vl (((mL M (mR M a0 42) (Int.toNat l1)) * j4) + (j2 * (mL M (mR M a0 43) (Int.toNat l1)))), vd, vl ((mL M (mR M a0 43) (Int.toNat l1)) * j4), vd, vd, vd]) rfl ?_
  refine wm_lload d_MM_add_31 rfl ?_
  refine wm_lload d_MM_add_33 rfl ?_
  refine cf_MM_377 rfl d_MM_add_35 (Nat.le_of_ble_eq_true rfl) (Cj.mono h (fun x8 M7 h => ?_))
  obtain ⟨h9, hOM7, h⟩ := h
  obtain ⟨h10, h⟩ := h
  obtain ⟨h11, h⟩ := h
  obtain ⟨h12, h⟩ := h
  obtain ⟨h13, h⟩ := h
  obtain ⟨h14, h⟩ := h
  obtain ⟨h15, h⟩ := h
  obtain ⟨M16, e17⟩ : ∃ M16, M16 = mUL M7 (mR M7 a0 42) (Int.toNat l1) (Int.tdiv (((mL M (mR M a0 42) (Int.toNat l1)) * j4) + (j2 * (mL M (mR M a0 43) (Int.toNat l1)))) x8) := ⟨_, rfl⟩
  replace h := h M16 e17
  obtain ⟨h18, h⟩ := h
  obtain ⟨h19, h⟩ := h
  obtain ⟨h20, h⟩ := h
  obtain ⟨h21, h⟩ := h
  obtain ⟨h22, h⟩ := h
  obtain ⟨M23, e24⟩ : ∃ M23, M23 = mUL M16 (mR M16 a0 43) (Int.toNat l1) (Int.tdiv ((mL M (mR M a0 43) (Int.toNat l1)) * j4) x8) := ⟨_, rfl⟩
  replace h := h M23 e24
  refine wm_lstore d_MM_add_38 (by decide) (L' := [vr a0, vi l1, vl j2, vd, vl j4, vd, vl (((mL M (mR M a0 42) (Int.toNat l1)) * j4) + (j2 * (mL M (mR M a0 43) (Int.toNat l1)))), vd, vl ((mL M (mR M a0 43) (Int.toNat l1)) * j4), vd, vl x8, vd]) rfl ?_
  refine wm_aload_n d_MM_add_40 rfl rfl ?_
  refine gf_MM_124 rfl d_MM_add_41 h10 ?_
  refine wm_iload_n d_MM_add_44 rfl rfl ?_
  refine wm_lload d_MM_add_45 rfl ?_
  refine wm_lload d_MM_add_47 rfl ?_
  refine wm_ldiv d_MM_add_49 h11 h9 h12 ?_
  have hOM16 : mOk M16 := by rw [e17]; exact mOk_UL hOM7 h15
  refine wm_lastE d_MM_add_50 h13 h14 h15 e17 ?_
  refine wm_aload_n d_MM_add_51 rfl rfl ?_
  refine gf_MM_127 rfl d_MM_add_52 (by rw [e17]; exact h10) ?_
  refine wm_iload_n d_MM_add_55 rfl rfl ?_
  refine wm_lload d_MM_add_56 rfl ?_
  refine wm_lload d_MM_add_58 rfl ?_
  refine wm_ldiv d_MM_add_60 h18 h9 h19 ?_
  have hOM23 : mOk M23 := by rw [e24]; exact mOk_UL hOM16 h22
  refine wm_lastE d_MM_add_61 h20 h21 h22 e24 ?_
  refine wm_return d_MM_add_62 rfl ?_
  exact ⟨rfl, h⟩
theorem d_MM_set1_0 : decode y_MM_set1.2.1 0 = .ok (.aload_n 0, 1) := by decide +kernel
theorem d_MM_set1_1 : decode y_MM_set1.2.1 1 = .ok (.iload_n 2, 1) := by decide +kernel
theorem d_MM_set1_2 : decode y_MM_set1.2.1 2 = .ok (.invokevirtual 548, 3) := by decide +kernel
theorem d_MM_set1_5 : decode y_MM_set1.2.1 5 = .ok (.aload_n 0, 1) := by decide +kernel
theorem d_MM_set1_6 : decode y_MM_set1.2.1 6 = .ok (.getfield 267, 3) := by decide +kernel
theorem d_MM_set1_9 : decode y_MM_set1.2.1 9 = .ok (.ifCond .eq 4, 3) := by decide +kernel
theorem d_MM_set1_13 : decode y_MM_set1.2.1 13 = .ok (.aload_n 0, 1) := by decide +kernel
theorem d_MM_set1_14 : decode y_MM_set1.2.1 14 = .ok (.getfield 34, 3) := by decide +kernel
theorem d_MM_set1_17 : decode y_MM_set1.2.1 17 = .ok (.getfield 357, 3) := by decide +kernel
theorem d_MM_set1_20 : decode y_MM_set1.2.1 20 = .ok (.iload_n 1, 1) := by decide +kernel
theorem d_MM_set1_21 : decode y_MM_set1.2.1 21 = .ok (.baload, 1) := by decide +kernel
theorem d_MM_set1_12 : decode y_MM_set1.2.1 12 = .ok (.return_, 1) := by decide +kernel
theorem d_MM_set1_22 : decode y_MM_set1.2.1 22 = .ok (.ifCond .ne 24, 3) := by decide +kernel
theorem d_MM_set1_25 : decode y_MM_set1.2.1 25 = .ok (.aload_n 0, 1) := by decide +kernel
theorem d_MM_set1_26 : decode y_MM_set1.2.1 26 = .ok (.getfield 67, 3) := by decide +kernel
theorem d_MM_set1_29 : decode y_MM_set1.2.1 29 = .ok (.iconst 0, 1) := by decide +kernel
theorem d_MM_set1_30 : decode y_MM_set1.2.1 30 = .ok (.laload, 1) := by decide +kernel
theorem d_MM_set1_31 : decode y_MM_set1.2.1 31 = .ok (.lconst 1, 1) := by decide +kernel
theorem d_MM_set1_32 : decode y_MM_set1.2.1 32 = .ok (.lcmp, 1) := by decide +kernel
theorem d_MM_set1_33 : decode y_MM_set1.2.1 33 = .ok (.ifCond .eq 13, 3) := by decide +kernel
theorem d_MM_set1_36 : decode y_MM_set1.2.1 36 = .ok (.aload_n 0, 1) := by decide +kernel
theorem d_MM_set1_37 : decode y_MM_set1.2.1 37 = .ok (.bipush 8, 2) := by decide +kernel
theorem d_MM_set1_39 : decode y_MM_set1.2.1 39 = .ok (.iload_n 3, 1) := by decide +kernel
theorem d_MM_set1_46 : decode y_MM_set1.2.1 46 = .ok (.aload_n 0, 1) := by decide +kernel
theorem d_MM_set1_47 : decode y_MM_set1.2.1 47 = .ok (.getfield 63, 3) := by decide +kernel
theorem d_MM_set1_50 : decode y_MM_set1.2.1 50 = .ok (.iconst 0, 1) := by decide +kernel
theorem d_MM_set1_51 : decode y_MM_set1.2.1 51 = .ok (.laload, 1) := by decide +kernel
theorem d_MM_set1_52 : decode y_MM_set1.2.1 52 = .ok (.aload_n 0, 1) := by decide +kernel
theorem d_MM_set1_53 : decode y_MM_set1.2.1 53 = .ok (.getfield 34, 3) := by decide +kernel
theorem d_MM_set1_56 : decode y_MM_set1.2.1 56 = .ok (.getfield 461, 3) := by decide +kernel
theorem d_MM_set1_59 : decode y_MM_set1.2.1 59 = .ok (.iload_n 1, 1) := by decide +kernel
theorem d_MM_set1_60 : decode y_MM_set1.2.1 60 = .ok (.iaload, 1) := by decide +kernel
theorem d_MM_set1_61 : decode y_MM_set1.2.1 61 = .ok (.i2l, 1) := by decide +kernel
theorem d_MM_set1_62 : decode y_MM_set1.2.1 62 = .ok (.lcmp, 1) := by decide +kernel
theorem d_MM_set1_63 : decode y_MM_set1.2.1 63 = .ok (.ifCond .lt 23, 3) := by decide +kernel
theorem d_MM_set1_86 : decode y_MM_set1.2.1 86 = .ok (.aload_n 0, 1) := by decide +kernel
theorem d_MM_set1_87 : decode y_MM_set1.2.1 87 = .ok (.bipush 12, 2) := by decide +kernel
theorem d_MM_set1_89 : decode y_MM_set1.2.1 89 = .ok (.iload_n 3, 1) := by decide +kernel
theorem d_MM_set1_66 : decode y_MM_set1.2.1 66 = .ok (.aload_n 0, 1) := by decide +kernel
theorem d_MM_set1_67 : decode y_MM_set1.2.1 67 = .ok (.getfield 63, 3) := by decide +kernel
theorem d_MM_set1_70 : decode y_MM_set1.2.1 70 = .ok (.iconst 0, 1) := by decide +kernel
theorem d_MM_set1_71 : decode y_MM_set1.2.1 71 = .ok (.laload, 1) := by decide +kernel
theorem d_MM_set1_72 : decode y_MM_set1.2.1 72 = .ok (.aload_n 0, 1) := by decide +kernel
theorem d_MM_set1_73 : decode y_MM_set1.2.1 73 = .ok (.getfield 34, 3) := by decide +kernel
theorem d_MM_set1_76 : decode y_MM_set1.2.1 76 = .ok (.getfield 463, 3) := by decide +kernel
theorem d_MM_set1_79 : decode y_MM_set1.2.1 79 = .ok (.iload_n 1, 1) := by decide +kernel
theorem d_MM_set1_80 : decode y_MM_set1.2.1 80 = .ok (.iaload, 1) := by decide +kernel
theorem d_MM_set1_81 : decode y_MM_set1.2.1 81 = .ok (.i2l, 1) := by decide +kernel
theorem d_MM_set1_82 : decode y_MM_set1.2.1 82 = .ok (.lcmp, 1) := by decide +kernel
theorem d_MM_set1_83 : decode y_MM_set1.2.1 83 = .ok (.ifCond .le 13, 3) := by decide +kernel
theorem d_MM_set1_96 : decode y_MM_set1.2.1 96 = .ok (.aload_n 0, 1) := by decide +kernel
theorem d_MM_set1_97 : decode y_MM_set1.2.1 97 = .ok (.getfield 130, 3) := by decide +kernel
theorem d_MM_set1_100 : decode y_MM_set1.2.1 100 = .ok (.iload_n 1, 1) := by decide +kernel
theorem d_MM_set1_101 : decode y_MM_set1.2.1 101 = .ok (.aload_n 0, 1) := by decide +kernel
theorem d_MM_set1_102 : decode y_MM_set1.2.1 102 = .ok (.getfield 63, 3) := by decide +kernel
theorem d_MM_set1_105 : decode y_MM_set1.2.1 105 = .ok (.iconst 0, 1) := by decide +kernel
theorem d_MM_set1_106 : decode y_MM_set1.2.1 106 = .ok (.laload, 1) := by decide +kernel
theorem d_MM_set1_107 : decode y_MM_set1.2.1 107 = .ok (.l2i, 1) := by decide +kernel
theorem d_MM_set1_108 : decode y_MM_set1.2.1 108 = .ok (.iastore, 1) := by decide +kernel
theorem d_MM_set1_109 : decode y_MM_set1.2.1 109 = .ok (.return_, 1) := by decide +kernel
theorem d_MM_set1_90 : decode y_MM_set1.2.1 90 = .ok (.invokevirtual 351, 3) := by decide +kernel
theorem d_MM_set1_93 : decode y_MM_set1.2.1 93 = .ok (.goto 16, 3) := by decide +kernel
theorem d_MM_set1_40 : decode y_MM_set1.2.1 40 = .ok (.invokevirtual 351, 3) := by decide +kernel
theorem d_MM_set1_43 : decode y_MM_set1.2.1 43 = .ok (.goto 66, 3) := by decide +kernel
theorem k_MM_set1 {G : mG} {d : Nat} {a0 : Nat} {l1 : Int} {l2 : Int} {l3 : Int} {M : mM} {Q : mM → Prop} (hO : mOk M) (hi_l1 : i32 l1) (hi_l2 : i32 l2) (hi_l3 : i32 l3)
    (h : mK M a0 = 14 ∧ Cv G y_MM_reach d [vr a0, vi l2] M (fun M2 => mOk M2 ∧ (mK M2 a0 = 14 ∧ ((mI M2 a0 16 = 0) → (mK M2 (mR M2 a0 9) = 16 ∧ mK M2 (mR M2 (mR M2 a0 9) 13) = 31 ∧ ((0 : Int) ≤ l1 ∧ l1 < (mN M2 (mR M2 (mR M2 a0 9) 13) : Int)) ∧ ((mI M2 (mR M2 (mR M2 a0 9) 13) (Int.toNat l1) = 0) → (mK M2 (mR M2 a0 22) = 33 ∧ ((0 : Int) ≤ 0 ∧ 0 < (mN M2 (mR M2 a0 22) : Int)))) ∧ (((¬ (mI M2 (mR M2 (mR M2 a0 9) 13) (Int.toNat l1) = 0)) ∨ (cmpL (mL M2 (mR M2 a0 22) 0) 1 = 0)) → (mK M2 (mR M2 a0 21) = 33 ∧ ((0 : Int) ≤ 0 ∧ 0 < (mN M2 (mR M2 a0 21) : Int)) ∧ mK M2 (mR M2 (mR M2 a0 9) 14) = 30 ∧ ((0 : Int) ≤ l1 ∧ l1 < (mN M2 (mR M2 (mR M2 a0 9) 14) : Int)) ∧ (¬ (cmpL (mL M2 (mR M2 a0 21) 0) (mI M2 (mR M2 (mR M2 a0 9) 14) (Int.toNat l1)) < 0) → (((0 : Int) ≤ 0 ∧ 0 < (mN M2 (mR M2 a0 21) : Int)) ∧ mK M2 (mR M2 (mR M2 a0 9) 15) = 30 ∧ ((0 : Int) ≤ l1 ∧ l1 < (mN M2 (mR M2 (mR M2 a0 9) 15) : Int)))) ∧ (((cmpL (mL M2 (mR M2 a0 21) 0) (mI M2 (mR M2 (mR M2 a0 9) 14) (Int.toNat l1)) < 0) ∨ (¬ (cmpL (mL M2 (mR M2 a0 21) 0) (mI M2 (mR M2 (mR M2 a0 9) 15) (Int.toNat l1)) ≤ 0))) → (Cv G y_MM_stop d [vr a0, vi 12, vi l3] M2 (fun M49 => mOk M49 ∧ (Q M49)))) ∧ (¬ ((cmpL (mL M2 (mR M2 a0 21) 0) (mI M2 (mR M2 (mR M2 a0 9) 14) (Int.toNat l1)) < 0) ∨ (¬ (cmpL (mL M2 (mR M2 a0 21) 0) (mI M2 (mR M2 (mR M2 a0 9) 15) (Int.toNat l1)) ≤ 0))) → (((0 : Int) ≤ 0 ∧ 0 < (mN M2 (mR M2 a0 21) : Int)) ∧ mK M2 (mR M2 a0 44) = 30 ∧ ((0 : Int) ≤ l1 ∧ l1 < (mN M2 (mR M2 a0 44) : Int)) ∧ i32 (mL M2 (mR M2 a0 21) 0) ∧ ∀ M57, M57 = mUI M2 (mR M2 a0 44) (Int.toNat l1) (mL M2 (mR M2 a0 21) 0) → Q M57)))) ∧ (¬ ((¬ (mI M2 (mR M2 (mR M2 a0 9) 13) (Int.toNat l1) = 0)) ∨ (cmpL (mL M2 (mR M2 a0 22) 0) 1 = 0)) → (Cv G y_MM_stop d [vr a0, vi 8, vi l3] M2 (fun M63 => mOk M63 ∧ (Q M63)))))) ∧ (¬ (mI M2 a0 16 = 0) → (Q M2))))) :
    Cv G y_MM_set1 (d + 1) [vr a0, vi l1, vi l2, vi l3] M Q := by
  refine wm_open (y := y_MM_set1) rfl (Nat.le_of_ble_eq_true rfl) (L := [vr a0, vi l1, vi l2, vi l3]) rfl ?_
  obtain ⟨h1, h⟩ := h
  refine wm_aload_n d_MM_set1_0 rfl rfl ?_
  refine wm_iload_n d_MM_set1_1 rfl rfl ?_
  refine cf_MM_548 rfl d_MM_set1_2 h1 (Nat.le_of_ble_eq_true rfl) (Cv.mono h (fun M2 h => ?_))
  obtain ⟨hOM2, h⟩ := h
  obtain ⟨h5, h⟩ := h
  refine wm_aload_n d_MM_set1_5 rfl rfl ?_
  refine gf_MM_267 rfl d_MM_set1_6 h5 ?_
  refine wm_if_eq (tgt := 13) d_MM_set1_9 rfl (hOM2 _ _).1 (fun c14 => ?_) (fun c14 => ?_)
  · replace h := h.1 c14
    obtain ⟨h15, h⟩ := h
    obtain ⟨h16, h⟩ := h
    obtain ⟨h17, h⟩ := h
    refine wm_aload_n d_MM_set1_13 rfl rfl ?_
    refine gf_MM_34 rfl d_MM_set1_14 h5 ?_
    refine gf_MM_357 rfl d_MM_set1_17 h15 ?_
    refine wm_iload_n d_MM_set1_20 rfl rfl ?_
    refine wm_zald d_MM_set1_21 h16 h17 ?_
    obtain ⟨s31, h⟩ := h
    have hE0 : ((¬ (mI M2 (mR M2 (mR M2 a0 9) 13) (Int.toNat l1) = 0)) ∨ (cmpL (mL M2 (mR M2 a0 22) 0) 1 = 0)) → mWm G y_MM_set1 (d + 1) 46 [vr a0, vi l1, vi l2, vi l3] [] M2 (fun r9 M9 => r9 = none ∧ Q M9) := by
      intro q32
      have h := h.1 q32
      obtain ⟨h33, h⟩ := h
      obtain ⟨h34, h⟩ := h
      obtain ⟨h35, h⟩ := h
      obtain ⟨h36, h⟩ := h
      refine wm_aload_n d_MM_set1_46 rfl rfl ?_
      refine gf_MM_63 rfl d_MM_set1_47 h5 ?_
      refine wm_iconst d_MM_set1_50 ?_
      refine wm_lald d_MM_set1_51 h33 h34 ?_
      refine wm_aload_n d_MM_set1_52 rfl rfl ?_
      refine gf_MM_34 rfl d_MM_set1_53 h5 ?_
      refine gf_MM_461 rfl d_MM_set1_56 h15 ?_
      refine wm_iload_n d_MM_set1_59 rfl rfl ?_
      refine wm_iald d_MM_set1_60 h35 h36 ?_
      refine wm_i2l d_MM_set1_61 (hOM2 _ _).1 ?_
      refine wm_lcmp d_MM_set1_62 (hOM2 _ _).2 (i64_of32 (hOM2 _ _).1) ?_
      obtain ⟨s47, h⟩ := h
      have hE0 : ((cmpL (mL M2 (mR M2 a0 21) 0) (mI M2 (mR M2 (mR M2 a0 9) 14) (Int.toNat l1)) < 0) ∨ (¬ (cmpL (mL M2 (mR M2 a0 21) 0) (mI M2 (mR M2 (mR M2 a0 9) 15) (Int.toNat l1)) ≤ 0))) → mWm G y_MM_set1 (d + 1) 86 [vr a0, vi l1, vi l2, vi l3] [] M2 (fun r9 M9 => r9 = none ∧ Q M9) := by
        intro q48
        have h := h.1 q48
        refine wm_aload_n d_MM_set1_86 rfl rfl ?_
        refine wm_bipush d_MM_set1_87 (by decide) ?_
        refine wm_iload_n d_MM_set1_89 rfl rfl ?_
        refine cf_MM_351 rfl d_MM_set1_90 h5 (Nat.le_of_ble_eq_true rfl) (Cv.mono h (fun M49 h => ?_))
        obtain ⟨hOM49, h⟩ := h
        refine wm_goto (tgt := 109) d_MM_set1_93 rfl ?_
        refine wm_return d_MM_set1_109 rfl ?_
        exact ⟨rfl, h⟩
      have hE1 : ¬ ((cmpL (mL M2 (mR M2 a0 21) 0) (mI M2 (mR M2 (mR M2 a0 9) 14) (Int.toNat l1)) < 0) ∨ (¬ (cmpL (mL M2 (mR M2 a0 21) 0) (mI M2 (mR M2 (mR M2 a0 9) 15) (Int.toNat l1)) ≤ 0))) → mWm G y_MM_set1 (d + 1) 96 [vr a0, vi l1, vi l2, vi l3] [] M2 (fun r9 M9 => r9 = none ∧ Q M9) := by
        intro q52
        have h := h.2 q52
        obtain ⟨h53, h⟩ := h
        obtain ⟨h54, h⟩ := h
        obtain ⟨h55, h⟩ := h
        obtain ⟨h56, h⟩ := h
        obtain ⟨M57, e58⟩ : ∃ M57, M57 = mUI M2 (mR M2 a0 44) (Int.toNat l1) (mL M2 (mR M2 a0 21) 0) := ⟨_, rfl⟩
        replace h := h M57 e58
        refine wm_aload_n d_MM_set1_96 rfl rfl ?_
        refine gf_MM_130 rfl d_MM_set1_97 h5 ?_
        refine wm_iload_n d_MM_set1_100 rfl rfl ?_
        refine wm_aload_n d_MM_set1_101 rfl rfl ?_
        refine gf_MM_63 rfl d_MM_set1_102 h5 ?_
        refine wm_iconst d_MM_set1_105 ?_
        refine wm_lald d_MM_set1_106 h33 h53 ?_
        refine wm_l2i d_MM_set1_107 ?_
        have hOM57 : mOk M57 := by rw [e58]; exact mOk_UI hOM2 h56
        refine wm_iastE d_MM_set1_108 h54 h55 h56 e58 ?_
        refine wm_return d_MM_set1_109 rfl ?_
        exact ⟨rfl, h⟩
      clear h
      have s59 := s47
      refine wm_if_lt (tgt := 86) d_MM_set1_63 rfl (m_cmp32 _ _) (fun c46 => ?_) (fun c46 => ?_)
      · exact hE0 (Or.inl c46)
      · have s59 := s59 c46
        obtain ⟨h38, h39, h40⟩ := s59
        refine wm_aload_n d_MM_set1_66 rfl rfl ?_
        refine gf_MM_63 rfl d_MM_set1_67 h5 ?_
        refine wm_iconst d_MM_set1_70 ?_
        refine wm_lald d_MM_set1_71 h33 h38 ?_
        refine wm_aload_n d_MM_set1_72 rfl rfl ?_
        refine gf_MM_34 rfl d_MM_set1_73 h5 ?_
        refine gf_MM_463 rfl d_MM_set1_76 h15 ?_
        refine wm_iload_n d_MM_set1_79 rfl rfl ?_
        refine wm_iald d_MM_set1_80 h39 h40 ?_
        refine wm_i2l d_MM_set1_81 (hOM2 _ _).1 ?_
        refine wm_lcmp d_MM_set1_82 (hOM2 _ _).2 (i64_of32 (hOM2 _ _).1) ?_
        refine wm_if_le (tgt := 96) d_MM_set1_83 rfl (m_cmp32 _ _) (fun c45 => ?_) (fun c45 => ?_)
        · exact hE1 (fun z60 => Or.elim z60 c46 (fun z61 => z61 c45))
        · exact hE0 (Or.inr c45)
    have hE1 : ¬ ((¬ (mI M2 (mR M2 (mR M2 a0 9) 13) (Int.toNat l1) = 0)) ∨ (cmpL (mL M2 (mR M2 a0 22) 0) 1 = 0)) → mWm G y_MM_set1 (d + 1) 36 [vr a0, vi l1, vi l2, vi l3] [] M2 (fun r9 M9 => r9 = none ∧ Q M9) := by
      intro q62
      have h := h.2 q62
      refine wm_aload_n d_MM_set1_36 rfl rfl ?_
      refine wm_bipush d_MM_set1_37 (by decide) ?_
      refine wm_iload_n d_MM_set1_39 rfl rfl ?_
      refine cf_MM_351 rfl d_MM_set1_40 h5 (Nat.le_of_ble_eq_true rfl) (Cv.mono h (fun M63 h => ?_))
      obtain ⟨hOM63, h⟩ := h
      refine wm_goto (tgt := 109) d_MM_set1_43 rfl ?_
      refine wm_return d_MM_set1_109 rfl ?_
      exact ⟨rfl, h⟩
    clear h
    have s66 := s31
    refine wm_if_ne (tgt := 46) d_MM_set1_22 rfl (hOM2 _ _).1 (fun c30 => ?_) (fun c30 => ?_)
    · exact hE0 (Or.inl c30)
    · replace c30 := Classical.not_not.mp c30
      have s66 := s66 c30
      obtain ⟨h27, h28⟩ := s66
      refine wm_aload_n d_MM_set1_25 rfl rfl ?_
      refine gf_MM_67 rfl d_MM_set1_26 h5 ?_
      refine wm_iconst d_MM_set1_29 ?_
      refine wm_lald d_MM_set1_30 h27 h28 ?_
      refine wm_lconst (x := 1) d_MM_set1_31 rfl ?_
      refine wm_lcmp d_MM_set1_32 (hOM2 _ _).2 ⟨by decide, by decide⟩ ?_
      refine wm_if_eq (tgt := 46) d_MM_set1_33 rfl (m_cmp32 _ _) (fun c29 => ?_) (fun c29 => ?_)
      · exact hE0 (Or.inr c29)
      · exact hE1 (fun z67 => Or.elim z67 (fun w => w c30) c29)
  · replace h := h.2 c14
    refine wm_return d_MM_set1_12 rfl ?_
    exact ⟨rfl, h⟩
