theorem d_Na_bitsFrom_0 : decode y_Na_bitsFrom.2.1 0 = .ok (.iload_n 1, 1) := by decide +kernel
theorem d_Na_bitsFrom_1 : decode y_Na_bitsFrom.2.1 1 = .ok (.bipush 30, 2) := by decide +kernel
theorem d_Na_bitsFrom_3 : decode y_Na_bitsFrom.2.1 3 = .ok (.idiv, 1) := by decide +kernel
theorem d_Na_bitsFrom_4 : decode y_Na_bitsFrom.2.1 4 = .ok (.istore_n 2, 1) := by decide +kernel
theorem d_Na_bitsFrom_5 : decode y_Na_bitsFrom.2.1 5 = .ok (.iload_n 1, 1) := by decide +kernel
theorem d_Na_bitsFrom_6 : decode y_Na_bitsFrom.2.1 6 = .ok (.bipush 30, 2) := by decide +kernel
theorem d_Na_bitsFrom_8 : decode y_Na_bitsFrom.2.1 8 = .ok (.irem, 1) := by decide +kernel
theorem d_Na_bitsFrom_9 : decode y_Na_bitsFrom.2.1 9 = .ok (.istore_n 3, 1) := by decide +kernel
theorem d_Na_bitsFrom_10 : decode y_Na_bitsFrom.2.1 10 = .ok (.iload_n 2, 1) := by decide +kernel
theorem d_Na_bitsFrom_11 : decode y_Na_bitsFrom.2.1 11 = .ok (.aload_n 0, 1) := by decide +kernel
theorem d_Na_bitsFrom_12 : decode y_Na_bitsFrom.2.1 12 = .ok (.getfield 13, 3) := by decide +kernel
theorem d_Na_bitsFrom_15 : decode y_Na_bitsFrom.2.1 15 = .ok (.if_icmp .ge 15, 3) := by decide +kernel
theorem d_Na_bitsFrom_30 : decode y_Na_bitsFrom.2.1 30 = .ok (.lconst 0, 1) := by decide +kernel
theorem d_Na_bitsFrom_18 : decode y_Na_bitsFrom.2.1 18 = .ok (.aload_n 0, 1) := by decide +kernel
theorem d_Na_bitsFrom_19 : decode y_Na_bitsFrom.2.1 19 = .ok (.getfield 9, 3) := by decide +kernel
theorem d_Na_bitsFrom_22 : decode y_Na_bitsFrom.2.1 22 = .ok (.iload_n 2, 1) := by decide +kernel
theorem d_Na_bitsFrom_23 : decode y_Na_bitsFrom.2.1 23 = .ok (.iaload, 1) := by decide +kernel
theorem d_Na_bitsFrom_24 : decode y_Na_bitsFrom.2.1 24 = .ok (.iload_n 3, 1) := by decide +kernel
theorem d_Na_bitsFrom_25 : decode y_Na_bitsFrom.2.1 25 = .ok (.iushr, 1) := by decide +kernel
theorem d_Na_bitsFrom_26 : decode y_Na_bitsFrom.2.1 26 = .ok (.i2l, 1) := by decide +kernel
theorem d_Na_bitsFrom_27 : decode y_Na_bitsFrom.2.1 27 = .ok (.goto 4, 3) := by decide +kernel
theorem d_Na_bitsFrom_31 : decode y_Na_bitsFrom.2.1 31 = .ok (.lstore 4, 2) := by decide +kernel
theorem d_Na_bitsFrom_33 : decode y_Na_bitsFrom.2.1 33 = .ok (.lload 4, 2) := by decide +kernel
theorem d_Na_bitsFrom_35 : decode y_Na_bitsFrom.2.1 35 = .ok (.iload_n 2, 1) := by decide +kernel
theorem d_Na_bitsFrom_36 : decode y_Na_bitsFrom.2.1 36 = .ok (.iconst 1, 1) := by decide +kernel
theorem d_Na_bitsFrom_37 : decode y_Na_bitsFrom.2.1 37 = .ok (.iadd, 1) := by decide +kernel
theorem d_Na_bitsFrom_38 : decode y_Na_bitsFrom.2.1 38 = .ok (.aload_n 0, 1) := by decide +kernel
theorem d_Na_bitsFrom_39 : decode y_Na_bitsFrom.2.1 39 = .ok (.getfield 13, 3) := by decide +kernel
theorem d_Na_bitsFrom_42 : decode y_Na_bitsFrom.2.1 42 = .ok (.if_icmp .ge 20, 3) := by decide +kernel
theorem d_Na_bitsFrom_62 : decode y_Na_bitsFrom.2.1 62 = .ok (.lconst 0, 1) := by decide +kernel
theorem d_Na_bitsFrom_45 : decode y_Na_bitsFrom.2.1 45 = .ok (.aload_n 0, 1) := by decide +kernel
theorem d_Na_bitsFrom_46 : decode y_Na_bitsFrom.2.1 46 = .ok (.getfield 9, 3) := by decide +kernel
theorem d_Na_bitsFrom_49 : decode y_Na_bitsFrom.2.1 49 = .ok (.iload_n 2, 1) := by decide +kernel
theorem d_Na_bitsFrom_50 : decode y_Na_bitsFrom.2.1 50 = .ok (.iconst 1, 1) := by decide +kernel
theorem d_Na_bitsFrom_51 : decode y_Na_bitsFrom.2.1 51 = .ok (.iadd, 1) := by decide +kernel
theorem d_Na_bitsFrom_52 : decode y_Na_bitsFrom.2.1 52 = .ok (.iaload, 1) := by decide +kernel
theorem d_Na_bitsFrom_53 : decode y_Na_bitsFrom.2.1 53 = .ok (.i2l, 1) := by decide +kernel
theorem d_Na_bitsFrom_54 : decode y_Na_bitsFrom.2.1 54 = .ok (.bipush 30, 2) := by decide +kernel
theorem d_Na_bitsFrom_56 : decode y_Na_bitsFrom.2.1 56 = .ok (.iload_n 3, 1) := by decide +kernel
theorem d_Na_bitsFrom_57 : decode y_Na_bitsFrom.2.1 57 = .ok (.isub, 1) := by decide +kernel
theorem d_Na_bitsFrom_58 : decode y_Na_bitsFrom.2.1 58 = .ok (.lshl, 1) := by decide +kernel
theorem d_Na_bitsFrom_59 : decode y_Na_bitsFrom.2.1 59 = .ok (.goto 4, 3) := by decide +kernel
theorem d_Na_bitsFrom_63 : decode y_Na_bitsFrom.2.1 63 = .ok (.ladd, 1) := by decide +kernel
theorem d_Na_bitsFrom_64 : decode y_Na_bitsFrom.2.1 64 = .ok (.lstore 4, 2) := by decide +kernel
theorem d_Na_bitsFrom_66 : decode y_Na_bitsFrom.2.1 66 = .ok (.lload 4, 2) := by decide +kernel
theorem d_Na_bitsFrom_68 : decode y_Na_bitsFrom.2.1 68 = .ok (.iload_n 2, 1) := by decide +kernel
theorem d_Na_bitsFrom_69 : decode y_Na_bitsFrom.2.1 69 = .ok (.iconst 2, 1) := by decide +kernel
theorem d_Na_bitsFrom_70 : decode y_Na_bitsFrom.2.1 70 = .ok (.iadd, 1) := by decide +kernel
theorem d_Na_bitsFrom_71 : decode y_Na_bitsFrom.2.1 71 = .ok (.aload_n 0, 1) := by decide +kernel
theorem d_Na_bitsFrom_72 : decode y_Na_bitsFrom.2.1 72 = .ok (.getfield 13, 3) := by decide +kernel
theorem d_Na_bitsFrom_75 : decode y_Na_bitsFrom.2.1 75 = .ok (.if_icmp .ge 26, 3) := by decide +kernel
theorem d_Na_bitsFrom_101 : decode y_Na_bitsFrom.2.1 101 = .ok (.lconst 0, 1) := by decide +kernel
theorem d_Na_bitsFrom_78 : decode y_Na_bitsFrom.2.1 78 = .ok (.aload_n 0, 1) := by decide +kernel
theorem d_Na_bitsFrom_79 : decode y_Na_bitsFrom.2.1 79 = .ok (.getfield 9, 3) := by decide +kernel
theorem d_Na_bitsFrom_82 : decode y_Na_bitsFrom.2.1 82 = .ok (.iload_n 2, 1) := by decide +kernel
theorem d_Na_bitsFrom_83 : decode y_Na_bitsFrom.2.1 83 = .ok (.iconst 2, 1) := by decide +kernel
theorem d_Na_bitsFrom_84 : decode y_Na_bitsFrom.2.1 84 = .ok (.iadd, 1) := by decide +kernel
theorem d_Na_bitsFrom_85 : decode y_Na_bitsFrom.2.1 85 = .ok (.iaload, 1) := by decide +kernel
theorem d_Na_bitsFrom_86 : decode y_Na_bitsFrom.2.1 86 = .ok (.iconst 1, 1) := by decide +kernel
theorem d_Na_bitsFrom_87 : decode y_Na_bitsFrom.2.1 87 = .ok (.iload_n 3, 1) := by decide +kernel
theorem d_Na_bitsFrom_88 : decode y_Na_bitsFrom.2.1 88 = .ok (.ishl, 1) := by decide +kernel
theorem d_Na_bitsFrom_89 : decode y_Na_bitsFrom.2.1 89 = .ok (.iconst 1, 1) := by decide +kernel
theorem d_Na_bitsFrom_90 : decode y_Na_bitsFrom.2.1 90 = .ok (.isub, 1) := by decide +kernel
theorem d_Na_bitsFrom_91 : decode y_Na_bitsFrom.2.1 91 = .ok (.iand, 1) := by decide +kernel
theorem d_Na_bitsFrom_92 : decode y_Na_bitsFrom.2.1 92 = .ok (.i2l, 1) := by decide +kernel
theorem d_Na_bitsFrom_93 : decode y_Na_bitsFrom.2.1 93 = .ok (.bipush 60, 2) := by decide +kernel
theorem d_Na_bitsFrom_95 : decode y_Na_bitsFrom.2.1 95 = .ok (.iload_n 3, 1) := by decide +kernel
theorem d_Na_bitsFrom_96 : decode y_Na_bitsFrom.2.1 96 = .ok (.isub, 1) := by decide +kernel
theorem d_Na_bitsFrom_97 : decode y_Na_bitsFrom.2.1 97 = .ok (.lshl, 1) := by decide +kernel
theorem d_Na_bitsFrom_98 : decode y_Na_bitsFrom.2.1 98 = .ok (.goto 4, 3) := by decide +kernel
theorem d_Na_bitsFrom_102 : decode y_Na_bitsFrom.2.1 102 = .ok (.ladd, 1) := by decide +kernel
theorem d_Na_bitsFrom_103 : decode y_Na_bitsFrom.2.1 103 = .ok (.lstore 4, 2) := by decide +kernel
theorem d_Na_bitsFrom_105 : decode y_Na_bitsFrom.2.1 105 = .ok (.lload 4, 2) := by decide +kernel
theorem d_Na_bitsFrom_107 : decode y_Na_bitsFrom.2.1 107 = .ok (.lreturn, 1) := by decide +kernel
theorem k_Na_bitsFrom {G : mG} {d : Nat} {a0 : Nat} {l1 : Int} {M : mM} {Q : Int → mM → Prop} (hO : mOk M) (hi_l1 : i32 l1)
    (h : mK M a0 = 10 ∧ (¬ (mI M a0 1 ≤ Int.tdiv l1 30) → (mK M (mR M a0 0) = 30 ∧ ((0 : Int) ≤ Int.tdiv l1 30 ∧ Int.tdiv l1 30 < (mN M (mR M a0 0) : Int)))) ∧ ∀ v5 : Int, v5 = (if (mI M a0 1 ≤ Int.tdiv l1 30) then 0 else ushrI (mI M (mR M a0 0) (Int.toNat (Int.tdiv l1 30))) (Int.tmod l1 30)) → i32 ((Int.tdiv l1 30) + 1) ∧ (¬ (mI M a0 1 ≤ (Int.tdiv l1 30) + 1) → (mK M (mR M a0 0) = 30 ∧ ((0 : Int) ≤ (Int.tdiv l1 30) + 1 ∧ (Int.tdiv l1 30) + 1 < (mN M (mR M a0 0) : Int)))) ∧ ∀ v12 : Int, v12 = (if (mI M a0 1 ≤ (Int.tdiv l1 30) + 1) then 0 else shlL (mI M (mR M a0 0) (Int.toNat ((Int.tdiv l1 30) + 1))) (30 - (Int.tmod l1 30))) → i32 ((Int.tdiv l1 30) + 2) ∧ (¬ (mI M a0 1 ≤ (Int.tdiv l1 30) + 2) → (mK M (mR M a0 0) = 30 ∧ ((0 : Int) ≤ (Int.tdiv l1 30) + 2 ∧ (Int.tdiv l1 30) + 2 < (mN M (mR M a0 0) : Int)))) ∧ ∀ v19 : Int, v19 = (if (mI M a0 1 ≤ (Int.tdiv l1 30) + 2) then 0 else shlL (andI (mI M (mR M a0 0) (Int.toNat ((Int.tdiv l1 30) + 2))) ((shlI 1 (Int.tmod l1 30)) - 1)) (60 - (Int.tmod l1 30))) → Q ((v5 + v12) + v19) M) :
    Cj G y_Na_bitsFrom d [vr a0, vi l1] M Q := by
  refine wm_open (y := y_Na_bitsFrom) rfl (Nat.le_of_ble_eq_true rfl) (L := [vr a0, vi l1, vd, vd, vd, vd]) rfl ?_
  obtain ⟨h1, h⟩ := h
  refine wm_iload_n d_Na_bitsFrom_0 rfl rfl ?_
  refine wm_bipush d_Na_bitsFrom_1 (by decide) ?_
  refine wm_idiv d_Na_bitsFrom_3 hi_l1 ⟨by decide, by decide⟩ (by decide) ?_
  refine wm_istore_n d_Na_bitsFrom_4 rfl (by decide) (L' := [vr a0, vi l1, vi (Int.tdiv l1 30), vd, vd, vd]) rfl ?_
  refine wm_iload_n d_Na_bitsFrom_5 rfl rfl ?_
  refine wm_bipush d_Na_bitsFrom_6 (by decide) ?_
  refine wm_irem d_Na_bitsFrom_8 hi_l1 ⟨by decide, by decide⟩ (by decide) ?_
  refine wm_istore_n d_Na_bitsFrom_9 rfl (by decide) (L' := [vr a0, vi l1, vi (Int.tdiv l1 30), vi (Int.tmod l1 30), vd, vd]) rfl ?_
  refine wm_iload_n d_Na_bitsFrom_10 rfl rfl ?_
  refine wm_aload_n d_Na_bitsFrom_11 rfl rfl ?_
  refine gf_Na_13 rfl d_Na_bitsFrom_12 h1 ?_
  obtain ⟨s6, h⟩ := h
  have hJ : ∀ v5 : Int, v5 = (if (mI M a0 1 ≤ Int.tdiv l1 30) then 0 else ushrI (mI M (mR M a0 0) (Int.toNat (Int.tdiv l1 30))) (Int.tmod l1 30)) → mWm G y_Na_bitsFrom d 31 [vr a0, vd, vi (Int.tdiv l1 30), vi (Int.tmod l1 30), vd, vd] [vl v5] M (fun r9 M9 => ∃ x9, r9 = some (vl x9) ∧ Q x9 M9) := by
    intro v5 e7
    have h := h v5 e7
    obtain ⟨h8, h⟩ := h
    refine wm_lstore d_Na_bitsFrom_31 (by decide) (L' := [vr a0, vd, vi (Int.tdiv l1 30), vi (Int.tmod l1 30), vl v5, vd]) rfl ?_
    refine wm_lload d_Na_bitsFrom_33 rfl ?_
    refine wm_iload_n d_Na_bitsFrom_35 rfl rfl ?_
    refine wm_iconst d_Na_bitsFrom_36 ?_
    refine wm_iadd d_Na_bitsFrom_37 ?_
    refine wm_aload_n d_Na_bitsFrom_38 rfl rfl ?_
    refine gf_Na_13 rfl d_Na_bitsFrom_39 h1 ?_
    obtain ⟨s13, h⟩ := h
    have hJ : ∀ v12 : Int, v12 = (if (mI M a0 1 ≤ (Int.tdiv l1 30) + 1) then 0 else shlL (mI M (mR M a0 0) (Int.toNat ((Int.tdiv l1 30) + 1))) (30 - (Int.tmod l1 30))) → mWm G y_Na_bitsFrom d 63 [vr a0, vd, vi (Int.tdiv l1 30), vi (Int.tmod l1 30), vd, vd] [vl v12, vl v5] M (fun r9 M9 => ∃ x9, r9 = some (vl x9) ∧ Q x9 M9) := by
      intro v12 e14
      have h := h v12 e14
      obtain ⟨h15, h⟩ := h
      refine wm_ladd d_Na_bitsFrom_63 ?_
      refine wm_lstore d_Na_bitsFrom_64 (by decide) (L' := [vr a0, vd, vi (Int.tdiv l1 30), vi (Int.tmod l1 30), vl (v5 + v12), vd]) rfl ?_
      refine wm_lload d_Na_bitsFrom_66 rfl ?_
      refine wm_iload_n d_Na_bitsFrom_68 rfl rfl ?_
      refine wm_iconst d_Na_bitsFrom_69 ?_
      refine wm_iadd d_Na_bitsFrom_70 ?_
      refine wm_aload_n d_Na_bitsFrom_71 rfl rfl ?_
      refine gf_Na_13 rfl d_Na_bitsFrom_72 h1 ?_
      obtain ⟨s20, h⟩ := h
      have hJ : ∀ v19 : Int, v19 = (if (mI M a0 1 ≤ (Int.tdiv l1 30) + 2) then 0 else shlL (andI (mI M (mR M a0 0) (Int.toNat ((Int.tdiv l1 30) + 2))) ((shlI 1 (Int.tmod l1 30)) - 1)) (60 - (Int.tmod l1 30))) → mWm G y_Na_bitsFrom d 102 [vd, vd, vd, vd, vd, vd] [vl v19, vl (v5 + v12)] M (fun r9 M9 => ∃ x9, r9 = some (vl x9) ∧ Q x9 M9) := by
        intro v19 e21
        have h := h v19 e21
        refine wm_ladd d_Na_bitsFrom_102 ?_
        refine wm_lstore d_Na_bitsFrom_103 (by decide) (L' := [vd, vd, vd, vd, vl ((v5 + v12) + v19), vd]) rfl ?_
        refine wm_lload d_Na_bitsFrom_105 rfl ?_
        refine wm_lreturn d_Na_bitsFrom_107 rfl ?_
        exact ⟨_, rfl, h⟩
      clear h
      have s22 := s20
      refine wm_icmp_ge (tgt := 101) d_Na_bitsFrom_75 rfl h15 (hO _ _).1 (fun c16 => ?_) (fun c16 => ?_)
      · refine wm_lconst (x := 0) d_Na_bitsFrom_101 rfl ?_
        refine wm_less (L' := [vd, vd, vd, vd, vd, vd]) ⟨Or.inl rfl, Or.inl rfl, Or.inl rfl, Or.inl rfl, Or.inl rfl, Or.inl rfl, trivial⟩ ?_
        exact hJ 0 (if_pos c16).symm
      · have s22 := s22 c16
        obtain ⟨h17, h18⟩ := s22
        refine wm_aload_n d_Na_bitsFrom_78 rfl rfl ?_
        refine gf_Na_9 rfl d_Na_bitsFrom_79 h1 ?_
        refine wm_iload_n d_Na_bitsFrom_82 rfl rfl ?_
        refine wm_iconst d_Na_bitsFrom_83 ?_
        refine wm_iadd d_Na_bitsFrom_84 ?_
        refine wm_iald d_Na_bitsFrom_85 h17 h18 ?_
        refine wm_iconst d_Na_bitsFrom_86 ?_
        refine wm_iload_n d_Na_bitsFrom_87 rfl rfl ?_
        refine wm_ishl d_Na_bitsFrom_88 ?_
        refine wm_iconst d_Na_bitsFrom_89 ?_
        refine wm_isub d_Na_bitsFrom_90 ?_
        refine wm_iand d_Na_bitsFrom_91 ?_
        refine wm_i2l d_Na_bitsFrom_92 (m_i32 _) ?_
        refine wm_bipush d_Na_bitsFrom_93 (by decide) ?_
        refine wm_iload_n d_Na_bitsFrom_95 rfl rfl ?_
        refine wm_isub d_Na_bitsFrom_96 ?_
        refine wm_lshl d_Na_bitsFrom_97 ?_
        refine wm_goto (tgt := 102) d_Na_bitsFrom_98 rfl ?_
        refine wm_less (L' := [vd, vd, vd, vd, vd, vd]) ⟨Or.inl rfl, Or.inl rfl, Or.inl rfl, Or.inl rfl, Or.inl rfl, Or.inl rfl, trivial⟩ ?_
        exact hJ (shlL (andI (mI M (mR M a0 0) (Int.toNat ((Int.tdiv l1 30) + 2))) ((shlI 1 (Int.tmod l1 30)) - 1)) (60 - (Int.tmod l1 30))) (if_neg c16).symm
    clear h
    have s24 := s13
    refine wm_icmp_ge (tgt := 62) d_Na_bitsFrom_42 rfl h8 (hO _ _).1 (fun c9 => ?_) (fun c9 => ?_)
    · refine wm_lconst (x := 0) d_Na_bitsFrom_62 rfl ?_
      refine wm_less (L' := [vr a0, vd, vi (Int.tdiv l1 30), vi (Int.tmod l1 30), vd, vd]) ⟨Or.inr rfl, Or.inl rfl, Or.inr rfl, Or.inr rfl, Or.inl rfl, Or.inl rfl, trivial⟩ ?_
      exact hJ 0 (if_pos c9).symm
    · have s24 := s24 c9
      obtain ⟨h10, h11⟩ := s24
      refine wm_aload_n d_Na_bitsFrom_45 rfl rfl ?_
      refine gf_Na_9 rfl d_Na_bitsFrom_46 h1 ?_
      refine wm_iload_n d_Na_bitsFrom_49 rfl rfl ?_
      refine wm_iconst d_Na_bitsFrom_50 ?_
      refine wm_iadd d_Na_bitsFrom_51 ?_
      refine wm_iald d_Na_bitsFrom_52 h10 h11 ?_
      refine wm_i2l d_Na_bitsFrom_53 (hO _ _).1 ?_
      refine wm_bipush d_Na_bitsFrom_54 (by decide) ?_
      refine wm_iload_n d_Na_bitsFrom_56 rfl rfl ?_
      refine wm_isub d_Na_bitsFrom_57 ?_
      refine wm_lshl d_Na_bitsFrom_58 ?_
      refine wm_goto (tgt := 63) d_Na_bitsFrom_59 rfl ?_
      refine wm_less (L' := [vr a0, vd, vi (Int.tdiv l1 30), vi (Int.tmod l1 30), vd, vd]) ⟨Or.inr rfl, Or.inl rfl, Or.inr rfl, Or.inr rfl, Or.inl rfl, Or.inl rfl, trivial⟩ ?_
      exact hJ (shlL (mI M (mR M a0 0) (Int.toNat ((Int.tdiv l1 30) + 1))) (30 - (Int.tmod l1 30))) (if_neg c9).symm
  clear h
  have s26 := s6
  refine wm_icmp_ge (tgt := 30) d_Na_bitsFrom_15 rfl (m_tdiv32 hi_l1 (by decide)) (hO _ _).1 (fun c2 => ?_) (fun c2 => ?_)
  · refine wm_lconst (x := 0) d_Na_bitsFrom_30 rfl ?_
    refine wm_less (L' := [vr a0, vd, vi (Int.tdiv l1 30), vi (Int.tmod l1 30), vd, vd]) ⟨Or.inr rfl, Or.inl rfl, Or.inr rfl, Or.inr rfl, Or.inl rfl, Or.inl rfl, trivial⟩ ?_
    exact hJ 0 (if_pos c2).symm
  · have s26 := s26 c2
    obtain ⟨h3, h4⟩ := s26
    refine wm_aload_n d_Na_bitsFrom_18 rfl rfl ?_
    refine gf_Na_9 rfl d_Na_bitsFrom_19 h1 ?_
    refine wm_iload_n d_Na_bitsFrom_22 rfl rfl ?_
    refine wm_iald d_Na_bitsFrom_23 h3 h4 ?_
    refine wm_iload_n d_Na_bitsFrom_24 rfl rfl ?_
    refine wm_iushr d_Na_bitsFrom_25 ?_
    refine wm_i2l d_Na_bitsFrom_26 (m_i32 _) ?_
    refine wm_goto (tgt := 31) d_Na_bitsFrom_27 rfl ?_
    refine wm_less (L' := [vr a0, vd, vi (Int.tdiv l1 30), vi (Int.tmod l1 30), vd, vd]) ⟨Or.inr rfl, Or.inl rfl, Or.inr rfl, Or.inr rfl, Or.inl rfl, Or.inl rfl, trivial⟩ ?_
    exact hJ (ushrI (mI M (mR M a0 0) (Int.toNat (Int.tdiv l1 30))) (Int.tmod l1 30)) (if_neg c2).symm
theorem d_Na_divide_0 : decode y_Na_divide.2.1 0 = .ok (.aload_n 2, 1) := by decide +kernel
theorem d_Na_divide_1 : decode y_Na_divide.2.1 1 = .ok (.iconst 0, 1) := by decide +kernel
theorem d_Na_divide_2 : decode y_Na_divide.2.1 2 = .ok (.invokevirtual 54, 3) := by decide +kernel
theorem d_Na_divide_5 : decode y_Na_divide.2.1 5 = .ok (.aload_n 1, 1) := by decide +kernel
theorem d_Na_divide_6 : decode y_Na_divide.2.1 6 = .ok (.getfield 13, 3) := by decide +kernel
theorem d_Na_divide_9 : decode y_Na_divide.2.1 9 = .ok (.ifCond .eq 14, 3) := by decide +kernel
theorem d_Na_divide_12 : decode y_Na_divide.2.1 12 = .ok (.aload_n 0, 1) := by decide +kernel
theorem d_Na_divide_13 : decode y_Na_divide.2.1 13 = .ok (.getfield 13, 3) := by decide +kernel
theorem d_Na_divide_16 : decode y_Na_divide.2.1 16 = .ok (.aload_n 1, 1) := by decide +kernel
theorem d_Na_divide_17 : decode y_Na_divide.2.1 17 = .ok (.getfield 13, 3) := by decide +kernel
theorem d_Na_divide_20 : decode y_Na_divide.2.1 20 = .ok (.if_icmp .ge 4, 3) := by decide +kernel
theorem d_Na_divide_24 : decode y_Na_divide.2.1 24 = .ok (.aload_n 1, 1) := by decide +kernel
theorem d_Na_divide_25 : decode y_Na_divide.2.1 25 = .ok (.getfield 13, 3) := by decide +kernel
theorem d_Na_divide_28 : decode y_Na_divide.2.1 28 = .ok (.iconst 1, 1) := by decide +kernel
theorem d_Na_divide_29 : decode y_Na_divide.2.1 29 = .ok (.if_icmp .ne 23, 3) := by decide +kernel
theorem d_Na_divide_32 : decode y_Na_divide.2.1 32 = .ok (.aload_n 2, 1) := by decide +kernel
theorem d_Na_divide_33 : decode y_Na_divide.2.1 33 = .ok (.aload_n 0, 1) := by decide +kernel
theorem d_Na_divide_52 : decode y_Na_divide.2.1 52 = .ok (.iconst 1, 1) := by decide +kernel
theorem d_Na_divide_53 : decode y_Na_divide.2.1 53 = .ok (.aload_n 1, 1) := by decide +kernel
theorem d_Na_divide_54 : decode y_Na_divide.2.1 54 = .ok (.getfield 9, 3) := by decide +kernel
theorem d_Na_divide_57 : decode y_Na_divide.2.1 57 = .ok (.aload_n 1, 1) := by decide +kernel
theorem d_Na_divide_58 : decode y_Na_divide.2.1 58 = .ok (.getfield 13, 3) := by decide +kernel
theorem d_Na_divide_61 : decode y_Na_divide.2.1 61 = .ok (.iconst 1, 1) := by decide +kernel
theorem d_Na_divide_62 : decode y_Na_divide.2.1 62 = .ok (.isub, 1) := by decide +kernel
theorem d_Na_divide_63 : decode y_Na_divide.2.1 63 = .ok (.iaload, 1) := by decide +kernel
theorem d_Na_divide_23 : decode y_Na_divide.2.1 23 = .ok (.return_, 1) := by decide +kernel
theorem d_Na_divide_34 : decode y_Na_divide.2.1 34 = .ok (.invokevirtual 57, 3) := by decide +kernel
theorem d_Na_divide_37 : decode y_Na_divide.2.1 37 = .ok (.aload_n 0, 1) := by decide +kernel
theorem d_Na_divide_38 : decode y_Na_divide.2.1 38 = .ok (.aload_n 2, 1) := by decide +kernel
theorem d_Na_divide_39 : decode y_Na_divide.2.1 39 = .ok (.aload_n 1, 1) := by decide +kernel
theorem d_Na_divide_40 : decode y_Na_divide.2.1 40 = .ok (.getfield 9, 3) := by decide +kernel
theorem d_Na_divide_43 : decode y_Na_divide.2.1 43 = .ok (.iconst 0, 1) := by decide +kernel
theorem d_Na_divide_44 : decode y_Na_divide.2.1 44 = .ok (.iaload, 1) := by decide +kernel
theorem d_Na_divide_45 : decode y_Na_divide.2.1 45 = .ok (.invokevirtual 60, 3) := by decide +kernel
theorem d_Na_divide_48 : decode y_Na_divide.2.1 48 = .ok (.invokevirtual 54, 3) := by decide +kernel
theorem d_Na_divide_51 : decode y_Na_divide.2.1 51 = .ok (.return_, 1) := by decide +kernel
theorem d_Na_divide_64 : decode y_Na_divide.2.1 64 = .ok (.invokestatic 41, 3) := by decide +kernel
theorem d_Na_divide_67 : decode y_Na_divide.2.1 67 = .ok (.iconst 2, 1) := by decide +kernel
theorem d_Na_divide_68 : decode y_Na_divide.2.1 68 = .ok (.isub, 1) := by decide +kernel
theorem d_Na_divide_69 : decode y_Na_divide.2.1 69 = .ok (.ishl, 1) := by decide +kernel
theorem d_Na_divide_70 : decode y_Na_divide.2.1 70 = .ok (.istore 4, 2) := by decide +kernel
theorem d_Na_divide_72 : decode y_Na_divide.2.1 72 = .ok (.aload_n 3, 1) := by decide +kernel
theorem d_Na_divide_73 : decode y_Na_divide.2.1 73 = .ok (.aload_n 1, 1) := by decide +kernel
theorem d_Na_divide_74 : decode y_Na_divide.2.1 74 = .ok (.invokevirtual 57, 3) := by decide +kernel
theorem d_Na_divide_77 : decode y_Na_divide.2.1 77 = .ok (.aload_n 3, 1) := by decide +kernel
theorem d_Na_divide_78 : decode y_Na_divide.2.1 78 = .ok (.iload 4, 2) := by decide +kernel
theorem d_Na_divide_80 : decode y_Na_divide.2.1 80 = .ok (.invokevirtual 63, 3) := by decide +kernel
theorem d_Na_divide_83 : decode y_Na_divide.2.1 83 = .ok (.aload_n 0, 1) := by decide +kernel
theorem d_Na_divide_84 : decode y_Na_divide.2.1 84 = .ok (.iload 4, 2) := by decide +kernel
theorem d_Na_divide_86 : decode y_Na_divide.2.1 86 = .ok (.invokevirtual 63, 3) := by decide +kernel
theorem d_Na_divide_89 : decode y_Na_divide.2.1 89 = .ok (.aload_n 0, 1) := by decide +kernel
theorem d_Na_divide_90 : decode y_Na_divide.2.1 90 = .ok (.aload_n 0, 1) := by decide +kernel
theorem d_Na_divide_91 : decode y_Na_divide.2.1 91 = .ok (.getfield 13, 3) := by decide +kernel
theorem d_Na_divide_94 : decode y_Na_divide.2.1 94 = .ok (.iconst 1, 1) := by decide +kernel
theorem d_Na_divide_95 : decode y_Na_divide.2.1 95 = .ok (.iadd, 1) := by decide +kernel
theorem d_Na_divide_96 : decode y_Na_divide.2.1 96 = .ok (.invokevirtual 47, 3) := by decide +kernel
theorem d_Na_divide_99 : decode y_Na_divide.2.1 99 = .ok (.aload_n 0, 1) := by decide +kernel
theorem d_Na_divide_100 : decode y_Na_divide.2.1 100 = .ok (.getfield 9, 3) := by decide +kernel
theorem d_Na_divide_103 : decode y_Na_divide.2.1 103 = .ok (.aload_n 0, 1) := by decide +kernel
theorem d_Na_divide_104 : decode y_Na_divide.2.1 104 = .ok (.getfield 13, 3) := by decide +kernel
theorem d_Na_divide_107 : decode y_Na_divide.2.1 107 = .ok (.iconst 0, 1) := by decide +kernel
theorem d_Na_divide_108 : decode y_Na_divide.2.1 108 = .ok (.iastore, 1) := by decide +kernel
theorem d_Na_divide_109 : decode y_Na_divide.2.1 109 = .ok (.aload_n 0, 1) := by decide +kernel
theorem d_Na_divide_110 : decode y_Na_divide.2.1 110 = .ok (.getfield 13, 3) := by decide +kernel
theorem d_Na_divide_113 : decode y_Na_divide.2.1 113 = .ok (.aload_n 3, 1) := by decide +kernel
theorem d_Na_divide_114 : decode y_Na_divide.2.1 114 = .ok (.getfield 13, 3) := by decide +kernel
theorem d_Na_divide_117 : decode y_Na_divide.2.1 117 = .ok (.isub, 1) := by decide +kernel
theorem d_Na_divide_118 : decode y_Na_divide.2.1 118 = .ok (.iconst 1, 1) := by decide +kernel
theorem d_Na_divide_119 : decode y_Na_divide.2.1 119 = .ok (.iadd, 1) := by decide +kernel
theorem d_Na_divide_120 : decode y_Na_divide.2.1 120 = .ok (.istore 5, 2) := by decide +kernel
theorem d_Na_divide_122 : decode y_Na_divide.2.1 122 = .ok (.aload_n 2, 1) := by decide +kernel
theorem d_Na_divide_123 : decode y_Na_divide.2.1 123 = .ok (.iload 5, 2) := by decide +kernel
theorem d_Na_divide_125 : decode y_Na_divide.2.1 125 = .ok (.invokevirtual 47, 3) := by decide +kernel
theorem d_Na_divide_128 : decode y_Na_divide.2.1 128 = .ok (.iload 5, 2) := by decide +kernel
theorem d_Na_divide_130 : decode y_Na_divide.2.1 130 = .ok (.iconst 1, 1) := by decide +kernel
theorem d_Na_divide_131 : decode y_Na_divide.2.1 131 = .ok (.isub, 1) := by decide +kernel
theorem d_Na_divide_132 : decode y_Na_divide.2.1 132 = .ok (.istore 6, 2) := by decide +kernel
theorem d_Na_divide_134 : decode y_Na_divide.2.1 134 = .ok (.iload 6, 2) := by decide +kernel
theorem d_Na_divide_136 : decode y_Na_divide.2.1 136 = .ok (.ifCond .lt 23, 3) := by decide +kernel
theorem d_Na_divide_159 : decode y_Na_divide.2.1 159 = .ok (.aload_n 2, 1) := by decide +kernel
theorem d_Na_divide_160 : decode y_Na_divide.2.1 160 = .ok (.iload 5, 2) := by decide +kernel
theorem d_Na_divide_139 : decode y_Na_divide.2.1 139 = .ok (.aload_n 2, 1) := by decide +kernel
theorem d_Na_divide_140 : decode y_Na_divide.2.1 140 = .ok (.getfield 9, 3) := by decide +kernel
theorem d_Na_divide_143 : decode y_Na_divide.2.1 143 = .ok (.iload 6, 2) := by decide +kernel
theorem d_Na_divide_145 : decode y_Na_divide.2.1 145 = .ok (.aload_n 0, 1) := by decide +kernel
theorem d_Na_divide_146 : decode y_Na_divide.2.1 146 = .ok (.aload_n 3, 1) := by decide +kernel
theorem d_Na_divide_147 : decode y_Na_divide.2.1 147 = .ok (.iload 6, 2) := by decide +kernel
theorem d_Na_divide_162 : decode y_Na_divide.2.1 162 = .ok (.invokevirtual 31, 3) := by decide +kernel
theorem d_Na_divide_165 : decode y_Na_divide.2.1 165 = .ok (.aload_n 0, 1) := by decide +kernel
theorem d_Na_divide_166 : decode y_Na_divide.2.1 166 = .ok (.aload_n 0, 1) := by decide +kernel
theorem d_Na_divide_167 : decode y_Na_divide.2.1 167 = .ok (.getfield 13, 3) := by decide +kernel
theorem d_Na_divide_170 : decode y_Na_divide.2.1 170 = .ok (.invokevirtual 31, 3) := by decide +kernel
theorem d_Na_divide_173 : decode y_Na_divide.2.1 173 = .ok (.aload_n 0, 1) := by decide +kernel
theorem d_Na_divide_174 : decode y_Na_divide.2.1 174 = .ok (.iload 4, 2) := by decide +kernel
theorem d_Na_divide_176 : decode y_Na_divide.2.1 176 = .ok (.invokevirtual 60, 3) := by decide +kernel
theorem d_Na_divide_179 : decode y_Na_divide.2.1 179 = .ok (.pop, 1) := by decide +kernel
theorem d_Na_divide_180 : decode y_Na_divide.2.1 180 = .ok (.return_, 1) := by decide +kernel
theorem d_Na_divide_149 : decode y_Na_divide.2.1 149 = .ok (.invokevirtual 66, 3) := by decide +kernel
theorem d_Na_divide_152 : decode y_Na_divide.2.1 152 = .ok (.iastore, 1) := by decide +kernel
theorem d_Na_divide_153 : decode y_Na_divide.2.1 153 = .ok (.iinc 6 (-1), 3) := by decide +kernel
theorem d_Na_divide_156 : decode y_Na_divide.2.1 156 = .ok (.goto (-22), 3) := by decide +kernel
def h_Na_divide_134 (G : mG) (d : Nat) (a0 : Nat) (a2 : Nat) (a3 : Nat) (l4 : Int) (l5 : Int) (l6 : Int) (M : mM) (Q : mM → Prop) : Prop := mWm G y_Na_divide (d + 1) 134 [vr a0, vd, vr a2, vr a3, vi l4, vi l5, vi l6] [] M (fun r9 M9 => r9 = none ∧ Q M9)
theorem k_Na_divide {G : mG} {d : Nat} {a0 : Nat} {a1 : Nat} {a2 : Nat} {a3 : Nat} {M : mM} {Q : mM → Prop} (hO : mOk M)
    (h : mK M a2 = 10 ∧ Cv G y_Na_put0 d [vr a2, vi 0] M (fun M2 => mOk M2 ∧ (mK M2 a1 = 10 ∧ (¬ (mI M2 a1 1 = 0) → mK M2 a0 = 10) ∧ (((mI M2 a1 1 = 0) ∨ (¬ (mI M2 a1 1 ≤ mI M2 a0 1))) → (Q M2)) ∧ (¬ ((mI M2 a1 1 = 0) ∨ (¬ (mI M2 a1 1 ≤ mI M2 a0 1))) → (((mI M2 a1 1 = 1) → (mK M2 a2 = 10 ∧ Cv G y_Na_put1 d [vr a2, vr a0] M2 (fun M16 => mOk M16 ∧ (mK M16 a1 = 10 ∧ mK M16 (mR M16 a1 0) = 30 ∧ ((0 : Int) ≤ 0 ∧ 0 < (mN M16 (mR M16 a1 0) : Int)) ∧ mK M16 a2 = 10 ∧ Ci G y_Na_divideSmall d [vr a2, vi (mI M16 (mR M16 a1 0) 0)] M16 (fun x24 M23 => i32 x24 ∧ mOk M23 ∧ (mK M23 a0 = 10 ∧ Cv G y_Na_put0 d [vr a0, vi x24] M23 (fun M27 => mOk M27 ∧ (Q M27)))))))) ∧ (¬ (mI M2 a1 1 = 1) → (mK M2 (mR M2 a1 0) = 30 ∧ ((0 : Int) ≤ (mI M2 a1 1) - 1 ∧ (mI M2 a1 1) - 1 < (mN M2 (mR M2 a1 0) : Int)) ∧ Ci G y_JI_nlz d [vi (mI M2 (mR M2 a1 0) (Int.toNat ((mI M2 a1 1) - 1)))] M2 (fun x33 M32 => i32 x33 ∧ mOk M32 ∧ (mK M32 a3 = 10 ∧ Cv G y_Na_put1 d [vr a3, vr a1] M32 (fun M36 => mOk M36 ∧ (mK M36 a3 = 10 ∧ Cv G y_Na_multiply d [vr a3, vi (shlI 1 (x33 - 2))] M36 (fun M40 => mOk M40 ∧ (mK M40 a0 = 10 ∧ Cv G y_Na_multiply d [vr a0, vi (shlI 1 (x33 - 2))] M40 (fun M44 => mOk M44 ∧ (mK M44 a0 = 10 ∧ Cv G y_Na_reserve d [vr a0, vi ((mI M44 a0 1) + 1)] M44 (fun M48 => mOk M48 ∧ (mK M48 a0 = 10 ∧ mK M48 (mR M48 a0 0) = 30 ∧ ((0 : Int) ≤ mI M48 a0 1 ∧ mI M48 a0 1 < (mN M48 (mR M48 a0 0) : Int)) ∧ ∀ M54, M54 = mUI M48 (mR M48 a0 0) (Int.toNat (mI M48 a0 1)) 0 → mK M54 a3 = 10 ∧ mK M54 a2 = 10 ∧ Cv G y_Na_reserve d [vr a2, vi (((mI M54 a0 1) - (mI M54 a3 1)) + 1)] M54 (fun M58 => mOk M58 ∧ (h_Na_divide_134 G d a0 a2 a3 (shlI 1 (x33 - 2)) (((mI M54 a0 1) - (mI M54 a3 1)) + 1) ((((mI M54 a0 1) - (mI M54 a3 1)) + 1) - 1) M58 Q))))))))))))))))))) :
    Cv G y_Na_divide (d + 1) [vr a0, vr a1, vr a2, vr a3] M Q := by
  refine wm_open (y := y_Na_divide) rfl (Nat.le_of_ble_eq_true rfl) (L := [vr a0, vr a1, vr a2, vr a3, vd, vd, vd]) rfl ?_
  obtain ⟨h1, h⟩ := h
  refine wm_aload_n d_Na_divide_0 rfl rfl ?_
  refine wm_iconst d_Na_divide_1 ?_
  refine cf_Na_54 rfl d_Na_divide_2 h1 (Nat.le_of_ble_eq_true rfl) (Cv.mono h (fun M2 h => ?_))
  obtain ⟨hOM2, h⟩ := h
  obtain ⟨h5, h⟩ := h
  refine wm_aload_n d_Na_divide_5 rfl rfl ?_
  refine gf_Na_13 rfl d_Na_divide_6 h5 ?_
  obtain ⟨s10, h⟩ := h
  have hE0 : ((mI M2 a1 1 = 0) ∨ (¬ (mI M2 a1 1 ≤ mI M2 a0 1))) → mWm G y_Na_divide (d + 1) 23 [vr a0, vr a1, vr a2, vr a3, vd, vd, vd] [] M2 (fun r9 M9 => r9 = none ∧ Q M9) := by
    intro q11
    have h := h.1 q11
    refine wm_return d_Na_divide_23 rfl ?_
    exact ⟨rfl, h⟩
  have hE1 : ¬ ((mI M2 a1 1 = 0) ∨ (¬ (mI M2 a1 1 ≤ mI M2 a0 1))) → mWm G y_Na_divide (d + 1) 24 [vr a0, vr a1, vr a2, vr a3, vd, vd, vd] [] M2 (fun r9 M9 => r9 = none ∧ Q M9) := by
    intro q12
    have h := h.2 q12
    refine wm_aload_n d_Na_divide_24 rfl rfl ?_
    refine gf_Na_13 rfl d_Na_divide_25 h5 ?_
    refine wm_iconst d_Na_divide_28 ?_
    refine wm_icmp_ne (tgt := 52) d_Na_divide_29 rfl (hOM2 _ _).1 ⟨by decide, by decide⟩ (fun c14 => ?_) (fun c14 => ?_)
    · replace h := h.2 c14
      obtain ⟨h30, h⟩ := h
      obtain ⟨h31, h⟩ := h
      refine wm_iconst d_Na_divide_52 ?_
      refine wm_aload_n d_Na_divide_53 rfl rfl ?_
      refine gf_Na_9 rfl d_Na_divide_54 h5 ?_
      refine wm_aload_n d_Na_divide_57 rfl rfl ?_
      refine gf_Na_13 rfl d_Na_divide_58 h5 ?_
      refine wm_iconst d_Na_divide_61 ?_
      refine wm_isub d_Na_divide_62 ?_
      refine wm_iald d_Na_divide_63 h30 h31 ?_
      refine cf_Na_41 rfl d_Na_divide_64 (Nat.le_of_ble_eq_true rfl) (Ci.mono h (fun x33 M32 h => ?_))
      obtain ⟨h34, hOM32, h⟩ := h
      obtain ⟨h35, h⟩ := h
      refine wm_iconst d_Na_divide_67 ?_
      refine wm_isub d_Na_divide_68 ?_
      refine wm_ishl d_Na_divide_69 ?_
      refine wm_istore d_Na_divide_70 (by decide) (L' := [vr a0, vr a1, vr a2, vr a3, vi (shlI 1 (x33 - 2)), vd, vd]) rfl ?_
      refine wm_aload_n d_Na_divide_72 rfl rfl ?_
      refine wm_aload_n d_Na_divide_73 rfl rfl ?_
      refine cf_Na_57 rfl d_Na_divide_74 h35 (Nat.le_of_ble_eq_true rfl) (Cv.mono h (fun M36 h => ?_))
      obtain ⟨hOM36, h⟩ := h
      obtain ⟨h39, h⟩ := h
      refine wm_aload_n d_Na_divide_77 rfl rfl ?_
      refine wm_iload d_Na_divide_78 rfl ?_
      refine cf_Na_63 rfl d_Na_divide_80 h39 (Nat.le_of_ble_eq_true rfl) (Cv.mono h (fun M40 h => ?_))
      obtain ⟨hOM40, h⟩ := h
      obtain ⟨h43, h⟩ := h
      refine wm_aload_n d_Na_divide_83 rfl rfl ?_
      refine wm_iload d_Na_divide_84 rfl ?_
      refine cf_Na_63 rfl d_Na_divide_86 h43 (Nat.le_of_ble_eq_true rfl) (Cv.mono h (fun M44 h => ?_))
      obtain ⟨hOM44, h⟩ := h
      obtain ⟨h47, h⟩ := h
      refine wm_aload_n d_Na_divide_89 rfl rfl ?_
      refine wm_aload_n d_Na_divide_90 rfl rfl ?_
      refine gf_Na_13 rfl d_Na_divide_91 h47 ?_
      refine wm_iconst d_Na_divide_94 ?_
      refine wm_iadd d_Na_divide_95 ?_
      refine cf_Na_47 rfl d_Na_divide_96 h47 (Nat.le_of_ble_eq_true rfl) (Cv.mono h (fun M48 h => ?_))
      obtain ⟨hOM48, h⟩ := h
      obtain ⟨h51, h⟩ := h
      obtain ⟨h52, h⟩ := h
      obtain ⟨h53, h⟩ := h
      obtain ⟨M54, e55⟩ : ∃ M54, M54 = mUI M48 (mR M48 a0 0) (Int.toNat (mI M48 a0 1)) 0 := ⟨_, rfl⟩
      replace h := h M54 e55
      obtain ⟨h56, h⟩ := h
      obtain ⟨h57, h⟩ := h
      refine wm_aload_n d_Na_divide_99 rfl rfl ?_
      refine gf_Na_9 rfl d_Na_divide_100 h51 ?_
      refine wm_aload_n d_Na_divide_103 rfl rfl ?_
      refine gf_Na_13 rfl d_Na_divide_104 h51 ?_
      refine wm_iconst d_Na_divide_107 ?_
      have hOM54 : mOk M54 := by rw [e55]; exact mOk_UI hOM48 ⟨by decide, by decide⟩
      refine wm_iastE d_Na_divide_108 h52 h53 ⟨by decide, by decide⟩ e55 ?_
      refine wm_aload_n d_Na_divide_109 rfl rfl ?_
      refine gf_Na_13 rfl d_Na_divide_110 (by rw [e55]; exact h51) ?_
      refine wm_aload_n d_Na_divide_113 rfl rfl ?_
      refine gf_Na_13 rfl d_Na_divide_114 h56 ?_
      refine wm_isub d_Na_divide_117 ?_
      refine wm_iconst d_Na_divide_118 ?_
      refine wm_iadd d_Na_divide_119 ?_
      refine wm_istore d_Na_divide_120 (by decide) (L' := [vr a0, vr a1, vr a2, vr a3, vi (shlI 1 (x33 - 2)), vi (((mI M54 a0 1) - (mI M54 a3 1)) + 1), vd]) rfl ?_
      refine wm_aload_n d_Na_divide_122 rfl rfl ?_
      refine wm_iload d_Na_divide_123 rfl ?_
      refine cf_Na_47 rfl d_Na_divide_125 h57 (Nat.le_of_ble_eq_true rfl) (Cv.mono h (fun M58 h => ?_))
      obtain ⟨hOM58, h⟩ := h
      refine wm_iload d_Na_divide_128 rfl ?_
      refine wm_iconst d_Na_divide_130 ?_
      refine wm_isub d_Na_divide_131 ?_
      refine wm_istore d_Na_divide_132 (by decide) (L' := [vr a0, vr a1, vr a2, vr a3, vi (shlI 1 (x33 - 2)), vi (((mI M54 a0 1) - (mI M54 a3 1)) + 1), vi ((((mI M54 a0 1) - (mI M54 a3 1)) + 1) - 1)]) rfl ?_
      refine wm_less (L' := [vr a0, vd, vr a2, vr a3, vi (shlI 1 (x33 - 2)), vi (((mI M54 a0 1) - (mI M54 a3 1)) + 1), vi ((((mI M54 a0 1) - (mI M54 a3 1)) + 1) - 1)]) ⟨Or.inr rfl, Or.inl rfl, Or.inr rfl, Or.inr rfl, Or.inr rfl, Or.inr rfl, Or.inr rfl, trivial⟩ ?_
      exact h
    · replace c14 := Classical.not_not.mp c14
      replace h := h.1 c14
      obtain ⟨h15, h⟩ := h
      refine wm_aload_n d_Na_divide_32 rfl rfl ?_
      refine wm_aload_n d_Na_divide_33 rfl rfl ?_
      refine cf_Na_57 rfl d_Na_divide_34 h15 (Nat.le_of_ble_eq_true rfl) (Cv.mono h (fun M16 h => ?_))
      obtain ⟨hOM16, h⟩ := h
      obtain ⟨h19, h⟩ := h
      obtain ⟨h20, h⟩ := h
      obtain ⟨h21, h⟩ := h
      obtain ⟨h22, h⟩ := h
      refine wm_aload_n d_Na_divide_37 rfl rfl ?_
      refine wm_aload_n d_Na_divide_38 rfl rfl ?_
      refine wm_aload_n d_Na_divide_39 rfl rfl ?_
      refine gf_Na_9 rfl d_Na_divide_40 h19 ?_
      refine wm_iconst d_Na_divide_43 ?_
      refine wm_iald d_Na_divide_44 h20 h21 ?_
      refine cf_Na_60 rfl d_Na_divide_45 h22 (Nat.le_of_ble_eq_true rfl) (Ci.mono h (fun x24 M23 h => ?_))
      obtain ⟨h25, hOM23, h⟩ := h
      obtain ⟨h26, h⟩ := h
      refine cf_Na_54 rfl d_Na_divide_48 h26 (Nat.le_of_ble_eq_true rfl) (Cv.mono h (fun M27 h => ?_))
      obtain ⟨hOM27, h⟩ := h
      refine wm_return d_Na_divide_51 rfl ?_
      exact ⟨rfl, h⟩
  clear h
  have s61 := s10
  refine wm_if_eq (tgt := 23) d_Na_divide_9 rfl (hOM2 _ _).1 (fun c9 => ?_) (fun c9 => ?_)
  · exact hE0 (Or.inl c9)
  · have s61 := s61 c9
    have h6 := s61
    refine wm_aload_n d_Na_divide_12 rfl rfl ?_
    refine gf_Na_13 rfl d_Na_divide_13 h6 ?_
    refine wm_aload_n d_Na_divide_16 rfl rfl ?_
    refine gf_Na_13 rfl d_Na_divide_17 h5 ?_
    refine wm_icmp_ge (tgt := 24) d_Na_divide_20 rfl (hOM2 _ _).1 (hOM2 _ _).1 (fun c8 => ?_) (fun c8 => ?_)
    · exact hE1 (fun z62 => Or.elim z62 c9 (fun z63 => z63 c8))
    · exact hE0 (Or.inr c8)
theorem k_Na_divide_134 {G : mG} {d : Nat} {a0 : Nat} {a2 : Nat} {a3 : Nat} {l4 : Int} {l5 : Int} {l6 : Int} {M : mM} {Q : mM → Prop} (hO : mOk M) (hi_l4 : i32 l4) (hi_l5 : i32 l5) (hi_l6 : i32 l6)
    (h : ((l6 < 0) → (mK M a2 = 10 ∧ Cv G y_Na_trim d [vr a2, vi l5] M (fun M67 => mOk M67 ∧ (mK M67 a0 = 10 ∧ Cv G y_Na_trim d [vr a0, vi (mI M67 a0 1)] M67 (fun M71 => mOk M71 ∧ (mK M71 a0 = 10 ∧ Ci G y_Na_divideSmall d [vr a0, vi l4] M71 (fun x76 M75 => i32 x76 ∧ mOk M75 ∧ (Q M75)))))))) ∧ (¬ (l6 < 0) → (mK M a2 = 10 ∧ mK M a0 = 10 ∧ Ci G y_Na_takeMultiple d [vr a0, vr a3, vi l6] M (fun x81 M80 => i32 x81 ∧ mOk M80 ∧ (mK M80 (mR M a2 0) = 30 ∧ ((0 : Int) ≤ l6 ∧ l6 < (mN M80 (mR M a2 0) : Int)) ∧ ∀ M85, M85 = mUI M80 (mR M a2 0) (Int.toNat l6) x81 → h_Na_divide_134 G d a0 a2 a3 l4 l5 (l6 + (-1)) M85 Q))))) :
    h_Na_divide_134 G d a0 a2 a3 l4 l5 l6 M Q := by
  unfold h_Na_divide_134
  refine wm_iload d_Na_divide_134 rfl ?_
  refine wm_if_lt (tgt := 159) d_Na_divide_136 rfl hi_l6 (fun c65 => ?_) (fun c65 => ?_)
  · replace h := h.1 c65
    obtain ⟨h66, h⟩ := h
    refine wm_aload_n d_Na_divide_159 rfl rfl ?_
    refine wm_iload d_Na_divide_160 rfl ?_
    refine cf_Na_31 rfl d_Na_divide_162 h66 (Nat.le_of_ble_eq_true rfl) (Cv.mono h (fun M67 h => ?_))
    obtain ⟨hOM67, h⟩ := h
    obtain ⟨h70, h⟩ := h
    refine wm_aload_n d_Na_divide_165 rfl rfl ?_
    refine wm_aload_n d_Na_divide_166 rfl rfl ?_
    refine gf_Na_13 rfl d_Na_divide_167 h70 ?_
    refine cf_Na_31 rfl d_Na_divide_170 h70 (Nat.le_of_ble_eq_true rfl) (Cv.mono h (fun M71 h => ?_))
    obtain ⟨hOM71, h⟩ := h
    obtain ⟨h74, h⟩ := h
    refine wm_aload_n d_Na_divide_173 rfl rfl ?_
    refine wm_iload d_Na_divide_174 rfl ?_
    refine cf_Na_60 rfl d_Na_divide_176 h74 (Nat.le_of_ble_eq_true rfl) (Ci.mono h (fun x76 M75 h => ?_))
    obtain ⟨h77, hOM75, h⟩ := h
    refine wm_pop d_Na_divide_179 rfl ?_
    refine wm_return d_Na_divide_180 rfl ?_
    exact ⟨rfl, h⟩
  · replace h := h.2 c65
    obtain ⟨h78, h⟩ := h
    obtain ⟨h79, h⟩ := h
    refine wm_aload_n d_Na_divide_139 rfl rfl ?_
    refine gf_Na_9 rfl d_Na_divide_140 h78 ?_
    refine wm_iload d_Na_divide_143 rfl ?_
    refine wm_aload_n d_Na_divide_145 rfl rfl ?_
    refine wm_aload_n d_Na_divide_146 rfl rfl ?_
    refine wm_iload d_Na_divide_147 rfl ?_
    refine cf_Na_66 rfl d_Na_divide_149 h79 (Nat.le_of_ble_eq_true rfl) (Ci.mono h (fun x81 M80 h => ?_))
    obtain ⟨h82, hOM80, h⟩ := h
    obtain ⟨h83, h⟩ := h
    obtain ⟨h84, h⟩ := h
    obtain ⟨M85, e86⟩ : ∃ M85, M85 = mUI M80 (mR M a2 0) (Int.toNat l6) x81 := ⟨_, rfl⟩
    replace h := h M85 e86
    have hOM85 : mOk M85 := by rw [e86]; exact mOk_UI hOM80 h82
    refine wm_iastE d_Na_divide_152 h83 h84 h82 e86 ?_
    refine wm_iinc d_Na_divide_153 (by decide) rfl (L' := [vr a0, vd, vr a2, vr a3, vi l4, vi l5, vi (l6 + (-1))]) rfl ?_
    refine wm_goto (tgt := 134) d_Na_divide_156 rfl ?_
    exact h
theorem d_Na_takeMultiple_0 : decode y_Na_takeMultiple.2.1 0 = .ok (.aload_n 1, 1) := by decide +kernel
theorem d_Na_takeMultiple_1 : decode y_Na_takeMultiple.2.1 1 = .ok (.getfield 13, 3) := by decide +kernel
theorem d_Na_takeMultiple_4 : decode y_Na_takeMultiple.2.1 4 = .ok (.istore_n 3, 1) := by decide +kernel
theorem d_Na_takeMultiple_5 : decode y_Na_takeMultiple.2.1 5 = .ok (.aload_n 1, 1) := by decide +kernel
theorem d_Na_takeMultiple_6 : decode y_Na_takeMultiple.2.1 6 = .ok (.getfield 9, 3) := by decide +kernel
theorem d_Na_takeMultiple_9 : decode y_Na_takeMultiple.2.1 9 = .ok (.iload_n 3, 1) := by decide +kernel
theorem d_Na_takeMultiple_10 : decode y_Na_takeMultiple.2.1 10 = .ok (.iconst 1, 1) := by decide +kernel
theorem d_Na_takeMultiple_11 : decode y_Na_takeMultiple.2.1 11 = .ok (.isub, 1) := by decide +kernel
theorem d_Na_takeMultiple_12 : decode y_Na_takeMultiple.2.1 12 = .ok (.iaload, 1) := by decide +kernel
theorem d_Na_takeMultiple_13 : decode y_Na_takeMultiple.2.1 13 = .ok (.i2l, 1) := by decide +kernel
theorem d_Na_takeMultiple_14 : decode y_Na_takeMultiple.2.1 14 = .ok (.lstore 4, 2) := by decide +kernel
theorem d_Na_takeMultiple_16 : decode y_Na_takeMultiple.2.1 16 = .ok (.aload_n 0, 1) := by decide +kernel
theorem d_Na_takeMultiple_17 : decode y_Na_takeMultiple.2.1 17 = .ok (.getfield 9, 3) := by decide +kernel
theorem d_Na_takeMultiple_20 : decode y_Na_takeMultiple.2.1 20 = .ok (.iload_n 2, 1) := by decide +kernel
theorem d_Na_takeMultiple_21 : decode y_Na_takeMultiple.2.1 21 = .ok (.iload_n 3, 1) := by decide +kernel
theorem d_Na_takeMultiple_22 : decode y_Na_takeMultiple.2.1 22 = .ok (.iadd, 1) := by decide +kernel
theorem d_Na_takeMultiple_23 : decode y_Na_takeMultiple.2.1 23 = .ok (.iaload, 1) := by decide +kernel
theorem d_Na_takeMultiple_24 : decode y_Na_takeMultiple.2.1 24 = .ok (.i2l, 1) := by decide +kernel
theorem d_Na_takeMultiple_25 : decode y_Na_takeMultiple.2.1 25 = .ok (.bipush 30, 2) := by decide +kernel
theorem d_Na_takeMultiple_27 : decode y_Na_takeMultiple.2.1 27 = .ok (.lshl, 1) := by decide +kernel
theorem d_Na_takeMultiple_28 : decode y_Na_takeMultiple.2.1 28 = .ok (.aload_n 0, 1) := by decide +kernel
theorem d_Na_takeMultiple_29 : decode y_Na_takeMultiple.2.1 29 = .ok (.getfield 9, 3) := by decide +kernel
theorem d_Na_takeMultiple_32 : decode y_Na_takeMultiple.2.1 32 = .ok (.iload_n 2, 1) := by decide +kernel
theorem d_Na_takeMultiple_33 : decode y_Na_takeMultiple.2.1 33 = .ok (.iload_n 3, 1) := by decide +kernel
theorem d_Na_takeMultiple_34 : decode y_Na_takeMultiple.2.1 34 = .ok (.iadd, 1) := by decide +kernel
theorem d_Na_takeMultiple_35 : decode y_Na_takeMultiple.2.1 35 = .ok (.iconst 1, 1) := by decide +kernel
theorem d_Na_takeMultiple_36 : decode y_Na_takeMultiple.2.1 36 = .ok (.isub, 1) := by decide +kernel
theorem d_Na_takeMultiple_37 : decode y_Na_takeMultiple.2.1 37 = .ok (.iaload, 1) := by decide +kernel
theorem d_Na_takeMultiple_38 : decode y_Na_takeMultiple.2.1 38 = .ok (.i2l, 1) := by decide +kernel
theorem d_Na_takeMultiple_39 : decode y_Na_takeMultiple.2.1 39 = .ok (.ladd, 1) := by decide +kernel
theorem d_Na_takeMultiple_40 : decode y_Na_takeMultiple.2.1 40 = .ok (.lstore 6, 2) := by decide +kernel
theorem d_Na_takeMultiple_42 : decode y_Na_takeMultiple.2.1 42 = .ok (.lload 6, 2) := by decide +kernel
theorem d_Na_takeMultiple_44 : decode y_Na_takeMultiple.2.1 44 = .ok (.lload 4, 2) := by decide +kernel
theorem d_Na_takeMultiple_46 : decode y_Na_takeMultiple.2.1 46 = .ok (.ldiv, 1) := by decide +kernel
theorem d_Na_takeMultiple_47 : decode y_Na_takeMultiple.2.1 47 = .ok (.ldc2_w 29, 3) := by decide +kernel
theorem d_Na_takeMultiple_50 : decode y_Na_takeMultiple.2.1 50 = .ok (.invokestatic 70, 3) := by decide +kernel
theorem d_Na_takeMultiple_53 : decode y_Na_takeMultiple.2.1 53 = .ok (.lstore 8, 2) := by decide +kernel
theorem d_Na_takeMultiple_55 : decode y_Na_takeMultiple.2.1 55 = .ok (.lload 6, 2) := by decide +kernel
theorem d_Na_takeMultiple_57 : decode y_Na_takeMultiple.2.1 57 = .ok (.lload 8, 2) := by decide +kernel
theorem d_Na_takeMultiple_59 : decode y_Na_takeMultiple.2.1 59 = .ok (.lload 4, 2) := by decide +kernel
theorem d_Na_takeMultiple_61 : decode y_Na_takeMultiple.2.1 61 = .ok (.lmul, 1) := by decide +kernel
theorem d_Na_takeMultiple_62 : decode y_Na_takeMultiple.2.1 62 = .ok (.lsub, 1) := by decide +kernel
theorem d_Na_takeMultiple_63 : decode y_Na_takeMultiple.2.1 63 = .ok (.lstore 10, 2) := by decide +kernel
theorem d_Na_takeMultiple_65 : decode y_Na_takeMultiple.2.1 65 = .ok (.iconst 0, 1) := by decide +kernel
theorem d_Na_takeMultiple_66 : decode y_Na_takeMultiple.2.1 66 = .ok (.istore 12, 2) := by decide +kernel
theorem d_Na_takeMultiple_68 : decode y_Na_takeMultiple.2.1 68 = .ok (.iload 12, 2) := by decide +kernel
theorem d_Na_takeMultiple_70 : decode y_Na_takeMultiple.2.1 70 = .ok (.iconst 2, 1) := by decide +kernel
theorem d_Na_takeMultiple_71 : decode y_Na_takeMultiple.2.1 71 = .ok (.if_icmp .ge 55, 3) := by decide +kernel
theorem d_Na_takeMultiple_74 : decode y_Na_takeMultiple.2.1 74 = .ok (.lload 8, 2) := by decide +kernel
theorem d_Na_takeMultiple_76 : decode y_Na_takeMultiple.2.1 76 = .ok (.aload_n 1, 1) := by decide +kernel
theorem d_Na_takeMultiple_77 : decode y_Na_takeMultiple.2.1 77 = .ok (.getfield 9, 3) := by decide +kernel
theorem d_Na_takeMultiple_80 : decode y_Na_takeMultiple.2.1 80 = .ok (.iload_n 3, 1) := by decide +kernel
theorem d_Na_takeMultiple_81 : decode y_Na_takeMultiple.2.1 81 = .ok (.iconst 2, 1) := by decide +kernel
theorem d_Na_takeMultiple_82 : decode y_Na_takeMultiple.2.1 82 = .ok (.isub, 1) := by decide +kernel
theorem d_Na_takeMultiple_83 : decode y_Na_takeMultiple.2.1 83 = .ok (.iaload, 1) := by decide +kernel
theorem d_Na_takeMultiple_84 : decode y_Na_takeMultiple.2.1 84 = .ok (.i2l, 1) := by decide +kernel
theorem d_Na_takeMultiple_85 : decode y_Na_takeMultiple.2.1 85 = .ok (.lmul, 1) := by decide +kernel
theorem d_Na_takeMultiple_86 : decode y_Na_takeMultiple.2.1 86 = .ok (.lload 10, 2) := by decide +kernel
theorem d_Na_takeMultiple_88 : decode y_Na_takeMultiple.2.1 88 = .ok (.bipush 30, 2) := by decide +kernel
theorem d_Na_takeMultiple_90 : decode y_Na_takeMultiple.2.1 90 = .ok (.lshl, 1) := by decide +kernel
theorem d_Na_takeMultiple_91 : decode y_Na_takeMultiple.2.1 91 = .ok (.aload_n 0, 1) := by decide +kernel
theorem d_Na_takeMultiple_92 : decode y_Na_takeMultiple.2.1 92 = .ok (.getfield 9, 3) := by decide +kernel
theorem d_Na_takeMultiple_95 : decode y_Na_takeMultiple.2.1 95 = .ok (.iload_n 2, 1) := by decide +kernel
theorem d_Na_takeMultiple_96 : decode y_Na_takeMultiple.2.1 96 = .ok (.iload_n 3, 1) := by decide +kernel
theorem d_Na_takeMultiple_97 : decode y_Na_takeMultiple.2.1 97 = .ok (.iadd, 1) := by decide +kernel
theorem d_Na_takeMultiple_98 : decode y_Na_takeMultiple.2.1 98 = .ok (.iconst 2, 1) := by decide +kernel
theorem d_Na_takeMultiple_99 : decode y_Na_takeMultiple.2.1 99 = .ok (.isub, 1) := by decide +kernel
theorem d_Na_takeMultiple_100 : decode y_Na_takeMultiple.2.1 100 = .ok (.iaload, 1) := by decide +kernel
theorem d_Na_takeMultiple_101 : decode y_Na_takeMultiple.2.1 101 = .ok (.i2l, 1) := by decide +kernel
theorem d_Na_takeMultiple_102 : decode y_Na_takeMultiple.2.1 102 = .ok (.ladd, 1) := by decide +kernel
theorem d_Na_takeMultiple_103 : decode y_Na_takeMultiple.2.1 103 = .ok (.lcmp, 1) := by decide +kernel
theorem d_Na_takeMultiple_104 : decode y_Na_takeMultiple.2.1 104 = .ok (.ifCond .le 22, 3) := by decide +kernel
theorem d_Na_takeMultiple_107 : decode y_Na_takeMultiple.2.1 107 = .ok (.lload 8, 2) := by decide +kernel
theorem d_Na_takeMultiple_109 : decode y_Na_takeMultiple.2.1 109 = .ok (.lconst 1, 1) := by decide +kernel
theorem d_Na_takeMultiple_110 : decode y_Na_takeMultiple.2.1 110 = .ok (.lsub, 1) := by decide +kernel
theorem d_Na_takeMultiple_111 : decode y_Na_takeMultiple.2.1 111 = .ok (.lstore 8, 2) := by decide +kernel
theorem d_Na_takeMultiple_113 : decode y_Na_takeMultiple.2.1 113 = .ok (.lload 10, 2) := by decide +kernel
theorem d_Na_takeMultiple_115 : decode y_Na_takeMultiple.2.1 115 = .ok (.lload 4, 2) := by decide +kernel
theorem d_Na_takeMultiple_117 : decode y_Na_takeMultiple.2.1 117 = .ok (.ladd, 1) := by decide +kernel
theorem d_Na_takeMultiple_118 : decode y_Na_takeMultiple.2.1 118 = .ok (.lstore 10, 2) := by decide +kernel
theorem d_Na_takeMultiple_120 : decode y_Na_takeMultiple.2.1 120 = .ok (.iinc 12 1, 3) := by decide +kernel
theorem d_Na_takeMultiple_123 : decode y_Na_takeMultiple.2.1 123 = .ok (.goto (-55), 3) := by decide +kernel
theorem d_Na_takeMultiple_126 : decode y_Na_takeMultiple.2.1 126 = .ok (.lconst 0, 1) := by decide +kernel
theorem d_Na_takeMultiple_127 : decode y_Na_takeMultiple.2.1 127 = .ok (.lstore 12, 2) := by decide +kernel
theorem d_Na_takeMultiple_129 : decode y_Na_takeMultiple.2.1 129 = .ok (.iconst 0, 1) := by decide +kernel
theorem d_Na_takeMultiple_130 : decode y_Na_takeMultiple.2.1 130 = .ok (.istore 14, 2) := by decide +kernel
theorem d_Na_takeMultiple_132 : decode y_Na_takeMultiple.2.1 132 = .ok (.iload 14, 2) := by decide +kernel
theorem d_Na_takeMultiple_134 : decode y_Na_takeMultiple.2.1 134 = .ok (.iload_n 3, 1) := by decide +kernel
theorem d_Na_takeMultiple_135 : decode y_Na_takeMultiple.2.1 135 = .ok (.if_icmp .ge 59, 3) := by decide +kernel
theorem d_Na_takeMultiple_194 : decode y_Na_takeMultiple.2.1 194 = .ok (.lload 12, 2) := by decide +kernel
theorem d_Na_takeMultiple_196 : decode y_Na_takeMultiple.2.1 196 = .ok (.aload_n 0, 1) := by decide +kernel
theorem d_Na_takeMultiple_197 : decode y_Na_takeMultiple.2.1 197 = .ok (.getfield 9, 3) := by decide +kernel
theorem d_Na_takeMultiple_200 : decode y_Na_takeMultiple.2.1 200 = .ok (.iload_n 2, 1) := by decide +kernel
theorem d_Na_takeMultiple_201 : decode y_Na_takeMultiple.2.1 201 = .ok (.iload_n 3, 1) := by decide +kernel
theorem d_Na_takeMultiple_202 : decode y_Na_takeMultiple.2.1 202 = .ok (.iadd, 1) := by decide +kernel
theorem d_Na_takeMultiple_203 : decode y_Na_takeMultiple.2.1 203 = .ok (.iaload, 1) := by decide +kernel
theorem d_Na_takeMultiple_204 : decode y_Na_takeMultiple.2.1 204 = .ok (.i2l, 1) := by decide +kernel
theorem d_Na_takeMultiple_205 : decode y_Na_takeMultiple.2.1 205 = .ok (.ladd, 1) := by decide +kernel
theorem d_Na_takeMultiple_206 : decode y_Na_takeMultiple.2.1 206 = .ok (.lstore 12, 2) := by decide +kernel
theorem d_Na_takeMultiple_208 : decode y_Na_takeMultiple.2.1 208 = .ok (.aload_n 0, 1) := by decide +kernel
theorem d_Na_takeMultiple_209 : decode y_Na_takeMultiple.2.1 209 = .ok (.getfield 9, 3) := by decide +kernel
theorem d_Na_takeMultiple_212 : decode y_Na_takeMultiple.2.1 212 = .ok (.iload_n 2, 1) := by decide +kernel
theorem d_Na_takeMultiple_213 : decode y_Na_takeMultiple.2.1 213 = .ok (.iload_n 3, 1) := by decide +kernel
theorem d_Na_takeMultiple_214 : decode y_Na_takeMultiple.2.1 214 = .ok (.iadd, 1) := by decide +kernel
theorem d_Na_takeMultiple_215 : decode y_Na_takeMultiple.2.1 215 = .ok (.iconst 0, 1) := by decide +kernel
theorem d_Na_takeMultiple_216 : decode y_Na_takeMultiple.2.1 216 = .ok (.iastore, 1) := by decide +kernel
theorem d_Na_takeMultiple_217 : decode y_Na_takeMultiple.2.1 217 = .ok (.lload 12, 2) := by decide +kernel
theorem d_Na_takeMultiple_219 : decode y_Na_takeMultiple.2.1 219 = .ok (.lconst 0, 1) := by decide +kernel
theorem d_Na_takeMultiple_220 : decode y_Na_takeMultiple.2.1 220 = .ok (.lcmp, 1) := by decide +kernel
theorem d_Na_takeMultiple_138 : decode y_Na_takeMultiple.2.1 138 = .ok (.lload 12, 2) := by decide +kernel
theorem d_Na_takeMultiple_140 : decode y_Na_takeMultiple.2.1 140 = .ok (.aload_n 0, 1) := by decide +kernel
theorem d_Na_takeMultiple_141 : decode y_Na_takeMultiple.2.1 141 = .ok (.getfield 9, 3) := by decide +kernel
theorem d_Na_takeMultiple_144 : decode y_Na_takeMultiple.2.1 144 = .ok (.iload_n 2, 1) := by decide +kernel
theorem d_Na_takeMultiple_145 : decode y_Na_takeMultiple.2.1 145 = .ok (.iload 14, 2) := by decide +kernel
theorem d_Na_takeMultiple_147 : decode y_Na_takeMultiple.2.1 147 = .ok (.iadd, 1) := by decide +kernel
theorem d_Na_takeMultiple_148 : decode y_Na_takeMultiple.2.1 148 = .ok (.iaload, 1) := by decide +kernel
theorem d_Na_takeMultiple_149 : decode y_Na_takeMultiple.2.1 149 = .ok (.i2l, 1) := by decide +kernel
theorem d_Na_takeMultiple_150 : decode y_Na_takeMultiple.2.1 150 = .ok (.lload 8, 2) := by decide +kernel
theorem d_Na_takeMultiple_152 : decode y_Na_takeMultiple.2.1 152 = .ok (.aload_n 1, 1) := by decide +kernel
theorem d_Na_takeMultiple_153 : decode y_Na_takeMultiple.2.1 153 = .ok (.getfield 9, 3) := by decide +kernel
theorem d_Na_takeMultiple_156 : decode y_Na_takeMultiple.2.1 156 = .ok (.iload 14, 2) := by decide +kernel
theorem d_Na_takeMultiple_158 : decode y_Na_takeMultiple.2.1 158 = .ok (.iaload, 1) := by decide +kernel
theorem d_Na_takeMultiple_159 : decode y_Na_takeMultiple.2.1 159 = .ok (.i2l, 1) := by decide +kernel
theorem d_Na_takeMultiple_160 : decode y_Na_takeMultiple.2.1 160 = .ok (.lmul, 1) := by decide +kernel
theorem d_Na_takeMultiple_161 : decode y_Na_takeMultiple.2.1 161 = .ok (.lsub, 1) := by decide +kernel
theorem d_Na_takeMultiple_162 : decode y_Na_takeMultiple.2.1 162 = .ok (.ladd, 1) := by decide +kernel
theorem d_Na_takeMultiple_163 : decode y_Na_takeMultiple.2.1 163 = .ok (.lstore 12, 2) := by decide +kernel
theorem d_Na_takeMultiple_165 : decode y_Na_takeMultiple.2.1 165 = .ok (.aload_n 0, 1) := by decide +kernel
theorem d_Na_takeMultiple_166 : decode y_Na_takeMultiple.2.1 166 = .ok (.getfield 9, 3) := by decide +kernel
theorem d_Na_takeMultiple_169 : decode y_Na_takeMultiple.2.1 169 = .ok (.iload_n 2, 1) := by decide +kernel
theorem d_Na_takeMultiple_170 : decode y_Na_takeMultiple.2.1 170 = .ok (.iload 14, 2) := by decide +kernel
theorem d_Na_takeMultiple_172 : decode y_Na_takeMultiple.2.1 172 = .ok (.iadd, 1) := by decide +kernel
theorem d_Na_takeMultiple_173 : decode y_Na_takeMultiple.2.1 173 = .ok (.lload 12, 2) := by decide +kernel
theorem d_Na_takeMultiple_175 : decode y_Na_takeMultiple.2.1 175 = .ok (.ldc2_w 29, 3) := by decide +kernel
theorem d_Na_takeMultiple_178 : decode y_Na_takeMultiple.2.1 178 = .ok (.land, 1) := by decide +kernel
theorem d_Na_takeMultiple_179 : decode y_Na_takeMultiple.2.1 179 = .ok (.l2i, 1) := by decide +kernel
theorem d_Na_takeMultiple_180 : decode y_Na_takeMultiple.2.1 180 = .ok (.iastore, 1) := by decide +kernel
theorem d_Na_takeMultiple_181 : decode y_Na_takeMultiple.2.1 181 = .ok (.lload 12, 2) := by decide +kernel
theorem d_Na_takeMultiple_183 : decode y_Na_takeMultiple.2.1 183 = .ok (.bipush 30, 2) := by decide +kernel
theorem d_Na_takeMultiple_185 : decode y_Na_takeMultiple.2.1 185 = .ok (.lshr, 1) := by decide +kernel
theorem d_Na_takeMultiple_186 : decode y_Na_takeMultiple.2.1 186 = .ok (.lstore 12, 2) := by decide +kernel
theorem d_Na_takeMultiple_188 : decode y_Na_takeMultiple.2.1 188 = .ok (.iinc 14 1, 3) := by decide +kernel
theorem d_Na_takeMultiple_191 : decode y_Na_takeMultiple.2.1 191 = .ok (.goto (-59), 3) := by decide +kernel
theorem d_Na_takeMultiple_221 : decode y_Na_takeMultiple.2.1 221 = .ok (.ifCond .lt 7, 3) := by decide +kernel
theorem d_Na_takeMultiple_228 : decode y_Na_takeMultiple.2.1 228 = .ok (.lconst 0, 1) := by decide +kernel
theorem d_Na_takeMultiple_229 : decode y_Na_takeMultiple.2.1 229 = .ok (.lstore 12, 2) := by decide +kernel
theorem d_Na_takeMultiple_231 : decode y_Na_takeMultiple.2.1 231 = .ok (.iconst 0, 1) := by decide +kernel
theorem d_Na_takeMultiple_232 : decode y_Na_takeMultiple.2.1 232 = .ok (.istore 14, 2) := by decide +kernel
theorem d_Na_takeMultiple_224 : decode y_Na_takeMultiple.2.1 224 = .ok (.lload 8, 2) := by decide +kernel
theorem d_Na_takeMultiple_226 : decode y_Na_takeMultiple.2.1 226 = .ok (.l2i, 1) := by decide +kernel
theorem d_Na_takeMultiple_227 : decode y_Na_takeMultiple.2.1 227 = .ok (.ireturn, 1) := by decide +kernel
theorem d_Na_takeMultiple_234 : decode y_Na_takeMultiple.2.1 234 = .ok (.iload 14, 2) := by decide +kernel
theorem d_Na_takeMultiple_236 : decode y_Na_takeMultiple.2.1 236 = .ok (.iload_n 3, 1) := by decide +kernel
theorem d_Na_takeMultiple_237 : decode y_Na_takeMultiple.2.1 237 = .ok (.if_icmp .ge 55, 3) := by decide +kernel
theorem d_Na_takeMultiple_292 : decode y_Na_takeMultiple.2.1 292 = .ok (.lload 8, 2) := by decide +kernel
theorem d_Na_takeMultiple_294 : decode y_Na_takeMultiple.2.1 294 = .ok (.l2i, 1) := by decide +kernel
theorem d_Na_takeMultiple_295 : decode y_Na_takeMultiple.2.1 295 = .ok (.iconst 1, 1) := by decide +kernel
theorem d_Na_takeMultiple_296 : decode y_Na_takeMultiple.2.1 296 = .ok (.isub, 1) := by decide +kernel
theorem d_Na_takeMultiple_297 : decode y_Na_takeMultiple.2.1 297 = .ok (.ireturn, 1) := by decide +kernel
theorem d_Na_takeMultiple_240 : decode y_Na_takeMultiple.2.1 240 = .ok (.lload 12, 2) := by decide +kernel
theorem d_Na_takeMultiple_242 : decode y_Na_takeMultiple.2.1 242 = .ok (.aload_n 0, 1) := by decide +kernel
theorem d_Na_takeMultiple_243 : decode y_Na_takeMultiple.2.1 243 = .ok (.getfield 9, 3) := by decide +kernel
theorem d_Na_takeMultiple_246 : decode y_Na_takeMultiple.2.1 246 = .ok (.iload_n 2, 1) := by decide +kernel
theorem d_Na_takeMultiple_247 : decode y_Na_takeMultiple.2.1 247 = .ok (.iload 14, 2) := by decide +kernel
theorem d_Na_takeMultiple_249 : decode y_Na_takeMultiple.2.1 249 = .ok (.iadd, 1) := by decide +kernel
theorem d_Na_takeMultiple_250 : decode y_Na_takeMultiple.2.1 250 = .ok (.iaload, 1) := by decide +kernel
theorem d_Na_takeMultiple_251 : decode y_Na_takeMultiple.2.1 251 = .ok (.aload_n 1, 1) := by decide +kernel
theorem d_Na_takeMultiple_252 : decode y_Na_takeMultiple.2.1 252 = .ok (.getfield 9, 3) := by decide +kernel
theorem d_Na_takeMultiple_255 : decode y_Na_takeMultiple.2.1 255 = .ok (.iload 14, 2) := by decide +kernel
theorem d_Na_takeMultiple_257 : decode y_Na_takeMultiple.2.1 257 = .ok (.iaload, 1) := by decide +kernel
theorem d_Na_takeMultiple_258 : decode y_Na_takeMultiple.2.1 258 = .ok (.iadd, 1) := by decide +kernel
theorem d_Na_takeMultiple_259 : decode y_Na_takeMultiple.2.1 259 = .ok (.i2l, 1) := by decide +kernel
theorem d_Na_takeMultiple_260 : decode y_Na_takeMultiple.2.1 260 = .ok (.ladd, 1) := by decide +kernel
theorem d_Na_takeMultiple_261 : decode y_Na_takeMultiple.2.1 261 = .ok (.lstore 12, 2) := by decide +kernel
theorem d_Na_takeMultiple_263 : decode y_Na_takeMultiple.2.1 263 = .ok (.aload_n 0, 1) := by decide +kernel
theorem d_Na_takeMultiple_264 : decode y_Na_takeMultiple.2.1 264 = .ok (.getfield 9, 3) := by decide +kernel
theorem d_Na_takeMultiple_267 : decode y_Na_takeMultiple.2.1 267 = .ok (.iload_n 2, 1) := by decide +kernel
theorem d_Na_takeMultiple_268 : decode y_Na_takeMultiple.2.1 268 = .ok (.iload 14, 2) := by decide +kernel
theorem d_Na_takeMultiple_270 : decode y_Na_takeMultiple.2.1 270 = .ok (.iadd, 1) := by decide +kernel
theorem d_Na_takeMultiple_271 : decode y_Na_takeMultiple.2.1 271 = .ok (.lload 12, 2) := by decide +kernel
theorem d_Na_takeMultiple_273 : decode y_Na_takeMultiple.2.1 273 = .ok (.ldc2_w 29, 3) := by decide +kernel
theorem d_Na_takeMultiple_276 : decode y_Na_takeMultiple.2.1 276 = .ok (.land, 1) := by decide +kernel
theorem d_Na_takeMultiple_277 : decode y_Na_takeMultiple.2.1 277 = .ok (.l2i, 1) := by decide +kernel
theorem d_Na_takeMultiple_278 : decode y_Na_takeMultiple.2.1 278 = .ok (.iastore, 1) := by decide +kernel
theorem d_Na_takeMultiple_279 : decode y_Na_takeMultiple.2.1 279 = .ok (.lload 12, 2) := by decide +kernel
theorem d_Na_takeMultiple_281 : decode y_Na_takeMultiple.2.1 281 = .ok (.bipush 30, 2) := by decide +kernel
theorem d_Na_takeMultiple_283 : decode y_Na_takeMultiple.2.1 283 = .ok (.lshr, 1) := by decide +kernel
theorem d_Na_takeMultiple_284 : decode y_Na_takeMultiple.2.1 284 = .ok (.lstore 12, 2) := by decide +kernel
theorem d_Na_takeMultiple_286 : decode y_Na_takeMultiple.2.1 286 = .ok (.iinc 14 1, 3) := by decide +kernel
theorem d_Na_takeMultiple_289 : decode y_Na_takeMultiple.2.1 289 = .ok (.goto (-55), 3) := by decide +kernel
def h_Na_takeMultiple_68 (G : mG) (d : Nat) (a0 : Nat) (a1 : Nat) (l2 : Int) (l3 : Int) (j4 : Int) (j8 : Int) (j10 : Int) (l12 : Int) (M : mM) (Q : Int → mM → Prop) : Prop := mWm G y_Na_takeMultiple (d + 1) 68 [vr a0, vr a1, vi l2, vi l3, vl j4, vd, vd, vd, vl j8, vd, vl j10, vd, vi l12, vd, vd] [] M (fun r9 M9 => ∃ x9, r9 = some (vi x9) ∧ Q x9 M9)
def h_Na_takeMultiple_132 (G : mG) (d : Nat) (a0 : Nat) (a1 : Nat) (l2 : Int) (l3 : Int) (j8 : Int) (j12 : Int) (l14 : Int) (M : mM) (Q : Int → mM → Prop) : Prop := mWm G y_Na_takeMultiple (d + 1) 132 [vr a0, vr a1, vi l2, vi l3, vd, vd, vd, vd, vl j8, vd, vd, vd, vl j12, vd, vi l14] [] M (fun r9 M9 => ∃ x9, r9 = some (vi x9) ∧ Q x9 M9)
def h_Na_takeMultiple_234 (G : mG) (d : Nat) (a0 : Nat) (a1 : Nat) (l2 : Int) (l3 : Int) (j8 : Int) (j12 : Int) (l14 : Int) (M : mM) (Q : Int → mM → Prop) : Prop := mWm G y_Na_takeMultiple (d + 1) 234 [vr a0, vr a1, vi l2, vi l3, vd, vd, vd, vd, vl j8, vd, vd, vd, vl j12, vd, vi l14] [] M (fun r9 M9 => ∃ x9, r9 = some (vi x9) ∧ Q x9 M9)
theorem k_Na_takeMultiple {G : mG} {d : Nat} {a0 : Nat} {a1 : Nat} {l2 : Int} {M : mM} {Q : Int → mM → Prop} (hO : mOk M) (hi_l2 : i32 l2)
    (h : mK M a1 = 10 ∧ mK M (mR M a1 0) = 30 ∧ ((0 : Int) ≤ (mI M a1 1) - 1 ∧ (mI M a1 1) - 1 < (mN M (mR M a1 0) : Int)) ∧ mK M a0 = 10 ∧ mK M (mR M a0 0) = 30 ∧ ((0 : Int) ≤ l2 + (mI M a1 1) ∧ l2 + (mI M a1 1) < (mN M (mR M a0 0) : Int)) ∧ ((0 : Int) ≤ (l2 + (mI M a1 1)) - 1 ∧ (l2 + (mI M a1 1)) - 1 < (mN M (mR M a0 0) : Int)) ∧ i64 ((shlL (mI M (mR M a0 0) (Int.toNat (l2 + (mI M a1 1)))) 30) + (mI M (mR M a0 0) (Int.toNat ((l2 + (mI M a1 1)) - 1)))) ∧ (mI M (mR M a1 0) (Int.toNat ((mI M a1 1) - 1))) ≠ 0 ∧ i64 (Int.tdiv ((shlL (mI M (mR M a0 0) (Int.toNat (l2 + (mI M a1 1)))) 30) + (mI M (mR M a0 0) (Int.toNat ((l2 + (mI M a1 1)) - 1)))) (mI M (mR M a1 0) (Int.toNat ((mI M a1 1) - 1)))) ∧ h_Na_takeMultiple_68 G d a0 a1 l2 (mI M a1 1) (mI M (mR M a1 0) (Int.toNat ((mI M a1 1) - 1))) (if 1073741823 < Int.tdiv ((shlL (mI M (mR M a0 0) (Int.toNat (l2 + (mI M a1 1)))) 30) + (mI M (mR M a0 0) (Int.toNat ((l2 + (mI M a1 1)) - 1)))) (mI M (mR M a1 0) (Int.toNat ((mI M a1 1) - 1))) then 1073741823 else Int.tdiv ((shlL (mI M (mR M a0 0) (Int.toNat (l2 + (mI M a1 1)))) 30) + (mI M (mR M a0 0) (Int.toNat ((l2 + (mI M a1 1)) - 1)))) (mI M (mR M a1 0) (Int.toNat ((mI M a1 1) - 1)))) (((shlL (mI M (mR M a0 0) (Int.toNat (l2 + (mI M a1 1)))) 30) + (mI M (mR M a0 0) (Int.toNat ((l2 + (mI M a1 1)) - 1)))) - ((if 1073741823 < Int.tdiv ((shlL (mI M (mR M a0 0) (Int.toNat (l2 + (mI M a1 1)))) 30) + (mI M (mR M a0 0) (Int.toNat ((l2 + (mI M a1 1)) - 1)))) (mI M (mR M a1 0) (Int.toNat ((mI M a1 1) - 1))) then 1073741823 else Int.tdiv ((shlL (mI M (mR M a0 0) (Int.toNat (l2 + (mI M a1 1)))) 30) + (mI M (mR M a0 0) (Int.toNat ((l2 + (mI M a1 1)) - 1)))) (mI M (mR M a1 0) (Int.toNat ((mI M a1 1) - 1)))) * (mI M (mR M a1 0) (Int.toNat ((mI M a1 1) - 1))))) 0 M Q) :
    Ci G y_Na_takeMultiple (d + 1) [vr a0, vr a1, vi l2] M Q := by
  refine wm_open (y := y_Na_takeMultiple) rfl (Nat.le_of_ble_eq_true rfl) (L := [vr a0, vr a1, vi l2, vd, vd, vd, vd, vd, vd, vd, vd, vd, vd, vd, vd]) rfl ?_
  obtain ⟨h1, h⟩ := h
  obtain ⟨h2, h⟩ := h
  obtain ⟨h3, h⟩ := h
  obtain ⟨h4, h⟩ := h
  obtain ⟨h5, h⟩ := h
  obtain ⟨h6, h⟩ := h
  obtain ⟨h7, h⟩ := h
  obtain ⟨h8, h⟩ := h
  obtain ⟨h9, h⟩ := h
  obtain ⟨h10, h⟩ := h
  refine wm_aload_n d_Na_takeMultiple_0 rfl rfl ?_
  refine gf_Na_13 rfl d_Na_takeMultiple_1 h1 ?_
  refine wm_istore_n d_Na_takeMultiple_4 rfl (by decide) (L' := [vr a0, vr a1, vi l2, vi (mI M a1 1), vd, vd, vd, vd, vd, vd, vd, vd, vd, vd, vd]) rfl ?_
  refine wm_aload_n d_Na_takeMultiple_5 rfl rfl ?_
  refine gf_Na_9 rfl d_Na_takeMultiple_6 h1 ?_
  refine wm_iload_n d_Na_takeMultiple_9 rfl rfl ?_
  refine wm_iconst d_Na_takeMultiple_10 ?_
  refine wm_isub d_Na_takeMultiple_11 ?_
  refine wm_iald d_Na_takeMultiple_12 h2 h3 ?_
  refine wm_i2l d_Na_takeMultiple_13 (hO _ _).1 ?_
  refine wm_lstore d_Na_takeMultiple_14 (by decide) (L' := [vr a0, vr a1, vi l2, vi (mI M a1 1), vl (mI M (mR M a1 0) (Int.toNat ((mI M a1 1) - 1))), vd, vd, vd, vd, vd, vd, vd, vd, vd, vd]) rfl ?_
  refine wm_aload_n d_Na_takeMultiple_16 rfl rfl ?_
  refine gf_Na_9 rfl d_Na_takeMultiple_17 h4 ?_
  refine wm_iload_n d_Na_takeMultiple_20 rfl rfl ?_
  refine wm_iload_n d_Na_takeMultiple_21 rfl rfl ?_
  refine wm_iadd d_Na_takeMultiple_22 ?_
  refine wm_iald d_Na_takeMultiple_23 h5 h6 ?_
  refine wm_i2l d_Na_takeMultiple_24 (hO _ _).1 ?_
  refine wm_bipush d_Na_takeMultiple_25 (by decide) ?_
  refine wm_lshl d_Na_takeMultiple_27 ?_
  refine wm_aload_n d_Na_takeMultiple_28 rfl rfl ?_
  refine gf_Na_9 rfl d_Na_takeMultiple_29 h4 ?_
  refine wm_iload_n d_Na_takeMultiple_32 rfl rfl ?_
  refine wm_iload_n d_Na_takeMultiple_33 rfl rfl ?_
  refine wm_iadd d_Na_takeMultiple_34 ?_
  refine wm_iconst d_Na_takeMultiple_35 ?_
  refine wm_isub d_Na_takeMultiple_36 ?_
  refine wm_iald d_Na_takeMultiple_37 h5 h7 ?_
  refine wm_i2l d_Na_takeMultiple_38 (hO _ _).1 ?_
  refine wm_ladd d_Na_takeMultiple_39 ?_
  refine wm_lstore d_Na_takeMultiple_40 (by decide) (L' := [vr a0, vr a1, vi l2, vi (mI M a1 1), vl (mI M (mR M a1 0) (Int.toNat ((mI M a1 1) - 1))), vd, vl ((shlL (mI M (mR M a0 0) (Int.toNat (l2 + (mI M a1 1)))) 30) + (mI M (mR M a0 0) (Int.toNat ((l2 + (mI M a1 1)) - 1)))), vd, vd, vd, vd, vd, vd, vd, vd]) rfl ?_
  refine wm_lload d_Na_takeMultiple_42 rfl ?_
  refine wm_lload d_Na_takeMultiple_44 rfl ?_
  refine wm_ldiv d_Na_takeMultiple_46 h8 (i64_of32 (hO _ _).1) h9 ?_
  refine wm_ldc2 (x := 1073741823) d_Na_takeMultiple_47 k5_202 (by decide) ?_
  refine wm_mminl k7_89 (Nat.le_of_ble_eq_true rfl) h10 ⟨by decide, by decide⟩ d_Na_takeMultiple_50 ?_
  refine wm_lstore d_Na_takeMultiple_53 (by decide) (L' := [vr a0, vr a1, vi l2, vi (mI M a1 1), vl (mI M (mR M a1 0) (Int.toNat ((mI M a1 1) - 1))), vd, vl ((shlL (mI M (mR M a0 0) (Int.toNat (l2 + (mI M a1 1)))) 30) + (mI M (mR M a0 0) (Int.toNat ((l2 + (mI M a1 1)) - 1)))), vd, vl (if 1073741823 < Int.tdiv ((shlL (mI M (mR M a0 0) (Int.toNat (l2 + (mI M a1 1)))) 30) + (mI M (mR M a0 0) (Int.toNat ((l2 + (mI M a1 1)) - 1)))) (mI M (mR M a1 0) (Int.toNat ((mI M a1 1) - 1))) then 1073741823 else Int.tdiv ((shlL (mI M (mR M a0 0) (Int.toNat (l2 + (mI M a1 1)))) 30) + (mI M (mR M a0 0) (Int.toNat ((l2 + (mI M a1 1)) - 1)))) (mI M (mR M a1 0) (Int.toNat ((mI M a1 1) - 1)))), vd, vd, vd, vd, vd, vd]) rfl ?_
  refine wm_lload d_Na_takeMultiple_55 rfl ?_
  refine wm_lload d_Na_takeMultiple_57 rfl ?_
  refine wm_lload d_Na_takeMultiple_59 rfl ?_
  refine wm_lmul d_Na_takeMultiple_61 ?_
  refine wm_lsub d_Na_takeMultiple_62 ?_
  refine wm_lstore d_Na_takeMultiple_63 (by decide) (L' := [vr a0, vr a1, vi l2, vi (mI M a1 1), vl (mI M (mR M a1 0) (Int.toNat ((mI M a1 1) - 1))), vd, vl ((shlL (mI M (mR M a0 0) (Int.toNat (l2 + (mI M a1 1)))) 30) + (mI M (mR M a0 0) (Int.toNat ((l2 + (mI M a1 1)) - 1)))), vd, vl (if 1073741823 < Int.tdiv ((shlL (mI M (mR M a0 0) (Int.toNat (l2 + (mI M a1 1)))) 30) + (mI M (mR M a0 0) (Int.toNat ((l2 + (mI M a1 1)) - 1)))) (mI M (mR M a1 0) (Int.toNat ((mI M a1 1) - 1))) then 1073741823 else Int.tdiv ((shlL (mI M (mR M a0 0) (Int.toNat (l2 + (mI M a1 1)))) 30) + (mI M (mR M a0 0) (Int.toNat ((l2 + (mI M a1 1)) - 1)))) (mI M (mR M a1 0) (Int.toNat ((mI M a1 1) - 1)))), vd, vl (((shlL (mI M (mR M a0 0) (Int.toNat (l2 + (mI M a1 1)))) 30) + (mI M (mR M a0 0) (Int.toNat ((l2 + (mI M a1 1)) - 1)))) - ((if 1073741823 < Int.tdiv ((shlL (mI M (mR M a0 0) (Int.toNat (l2 + (mI M a1 1)))) 30) + (mI M (mR M a0 0) (Int.toNat ((l2 + (mI M a1 1)) - 1)))) (mI M (mR M a1 0) (Int.toNat ((mI M a1 1) - 1))) then 1073741823 else Int.tdiv ((shlL (mI M (mR M a0 0) (Int.toNat (l2 + (mI M a1 1)))) 30) + (mI M (mR M a0 0) (Int.toNat ((l2 + (mI M a1 1)) - 1)))) (mI M (mR M a1 0) (Int.toNat ((mI M a1 1) - 1)))) * (mI M (mR M a1 0) (Int.toNat ((mI M a1 1) - 1))))), vd, vd, vd, vd]) rfl ?_
  refine wm_iconst d_Na_takeMultiple_65 ?_
  refine wm_istore d_Na_takeMultiple_66 (by decide) (L' := [vr a0, vr a1, vi l2, vi (mI M a1 1), vl (mI M (mR M a1 0) (Int.toNat ((mI M a1 1) - 1))), vd, vl ((shlL (mI M (mR M a0 0) (Int.toNat (l2 + (mI M a1 1)))) 30) + (mI M (mR M a0 0) (Int.toNat ((l2 + (mI M a1 1)) - 1)))), vd, vl (if 1073741823 < Int.tdiv ((shlL (mI M (mR M a0 0) (Int.toNat (l2 + (mI M a1 1)))) 30) + (mI M (mR M a0 0) (Int.toNat ((l2 + (mI M a1 1)) - 1)))) (mI M (mR M a1 0) (Int.toNat ((mI M a1 1) - 1))) then 1073741823 else Int.tdiv ((shlL (mI M (mR M a0 0) (Int.toNat (l2 + (mI M a1 1)))) 30) + (mI M (mR M a0 0) (Int.toNat ((l2 + (mI M a1 1)) - 1)))) (mI M (mR M a1 0) (Int.toNat ((mI M a1 1) - 1)))), vd, vl (((shlL (mI M (mR M a0 0) (Int.toNat (l2 + (mI M a1 1)))) 30) + (mI M (mR M a0 0) (Int.toNat ((l2 + (mI M a1 1)) - 1)))) - ((if 1073741823 < Int.tdiv ((shlL (mI M (mR M a0 0) (Int.toNat (l2 + (mI M a1 1)))) 30) + (mI M (mR M a0 0) (Int.toNat ((l2 + (mI M a1 1)) - 1)))) (mI M (mR M a1 0) (Int.toNat ((mI M a1 1) - 1))) then 1073741823 else Int.tdiv ((shlL (mI M (mR M a0 0) (Int.toNat (l2 + (mI M a1 1)))) 30) + (mI M (mR M a0 0) (Int.toNat ((l2 + (mI M a1 1)) - 1)))) (mI M (mR M a1 0) (Int.toNat ((mI M a1 1) - 1)))) * (mI M (mR M a1 0) (Int.toNat ((mI M a1 1) - 1))))), vd, vi 0, vd, vd]) rfl ?_
  refine wm_less (L' := [vr a0, vr a1, vi l2, vi (mI M a1 1), vl (mI M (mR M a1 0) (Int.toNat ((mI M a1 1) - 1))), vd, vd, vd, vl (if 1073741823 < Int.tdiv ((shlL (mI M (mR M a0 0) (Int.toNat (l2 + (mI M a1 1)))) 30) + (mI M (mR M a0 0) (Int.toNat ((l2 + (mI M a1 1)) - 1)))) (mI M (mR M a1 0) (Int.toNat ((mI M a1 1) - 1))) then 1073741823 else Int.tdiv ((shlL (mI M (mR M a0 0) (Int.toNat (l2 + (mI M a1 1)))) 30) + (mI M (mR M a0 0) (Int.toNat ((l2 + (mI M a1 1)) - 1)))) (mI M (mR M a1 0) (Int.toNat ((mI M a1 1) - 1)))), vd, vl (((shlL (mI M (mR M a0 0) (Int.toNat (l2 + (mI M a1 1)))) 30) + (mI M (mR M a0 0) (Int.toNat ((l2 + (mI M a1 1)) - 1)))) - ((if 1073741823 < Int.tdiv ((shlL (mI M (mR M a0 0) (Int.toNat (l2 + (mI M a1 1)))) 30) + (mI M (mR M a0 0) (Int.toNat ((l2 + (mI M a1 1)) - 1)))) (mI M (mR M a1 0) (Int.toNat ((mI M a1 1) - 1))) then 1073741823 else Int.tdiv ((shlL (mI M (mR M a0 0) (Int.toNat (l2 + (mI M a1 1)))) 30) + (mI M (mR M a0 0) (Int.toNat ((l2 + (mI M a1 1)) - 1)))) (mI M (mR M a1 0) (Int.toNat ((mI M a1 1) - 1)))) * (mI M (mR M a1 0) (Int.toNat ((mI M a1 1) - 1))))), vd, vi 0, vd, vd]) ⟨Or.inr rfl, Or.inr rfl, Or.inr rfl, Or.inr rfl, Or.inr rfl, Or.inl rfl, Or.inl rfl, Or.inl rfl, Or.inr rfl, Or.inl rfl, Or.inr rfl, Or.inl rfl, Or.inr rfl, Or.inl rfl, Or.inl rfl, trivial⟩ ?_
  exact h
theorem k_Na_takeMultiple_68 {G : mG} {d : Nat} {a0 : Nat} {a1 : Nat} {l2 : Int} {l3 : Int} {j4 : Int} {j8 : Int} {j10 : Int} {l12 : Int} {M : mM} {Q : Int → mM → Prop} (hO : mOk M) (hi_l2 : i32 l2) (hi_l3 : i32 l3) (hi_j4 : i64 j4) (hi_j8 : i64 j8) (hi_j10 : i64 j10) (hi_l12 : i32 l12)
    (h : (¬ (2 ≤ l12) → (mK M a1 = 10 ∧ mK M (mR M a1 0) = 30 ∧ ((0 : Int) ≤ l3 - 2 ∧ l3 - 2 < (mN M (mR M a1 0) : Int)) ∧ mK M a0 = 10 ∧ mK M (mR M a0 0) = 30 ∧ ((0 : Int) ≤ (l2 + l3) - 2 ∧ (l2 + l3) - 2 < (mN M (mR M a0 0) : Int)) ∧ i64 (j8 * (mI M (mR M a1 0) (Int.toNat (l3 - 2)))) ∧ i64 ((shlL j10 30) + (mI M (mR M a0 0) (Int.toNat ((l2 + l3) - 2)))))) ∧ (((2 ≤ l12) ∨ (cmpL (j8 * (mI M (mR M a1 0) (Int.toNat (l3 - 2)))) ((shlL j10 30) + (mI M (mR M a0 0) (Int.toNat ((l2 + l3) - 2)))) ≤ 0)) → (h_Na_takeMultiple_132 G d a0 a1 l2 l3 j8 0 0 M Q)) ∧ (¬ ((2 ≤ l12) ∨ (cmpL (j8 * (mI M (mR M a1 0) (Int.toNat (l3 - 2)))) ((shlL j10 30) + (mI M (mR M a0 0) (Int.toNat ((l2 + l3) - 2)))) ≤ 0)) → (h_Na_takeMultiple_68 G d a0 a1 l2 l3 j4 (j8 - 1) (j10 + j4) (l12 + 1) M Q))) :
    h_Na_takeMultiple_68 G d a0 a1 l2 l3 j4 j8 j10 l12 M Q := by
  unfold h_Na_takeMultiple_68
  refine wm_iload d_Na_takeMultiple_68 rfl ?_
  refine wm_iconst d_Na_takeMultiple_70 ?_
  obtain ⟨s21, h⟩ := h
  have hE0 : ((2 ≤ l12) ∨ (cmpL (j8 * (mI M (mR M a1 0) (Int.toNat (l3 - 2)))) ((shlL j10 30) + (mI M (mR M a0 0) (Int.toNat ((l2 + l3) - 2)))) ≤ 0)) → mWm G y_Na_takeMultiple (d + 1) 126 [vr a0, vr a1, vi l2, vi l3, vl j4, vd, vd, vd, vl j8, vd, vl j10, vd, vi l12, vd, vd] [] M (fun r9 M9 => ∃ x9, r9 = some (vi x9) ∧ Q x9 M9) := by
    intro q22
    have h := h.1 q22
    refine wm_lconst (x := 0) d_Na_takeMultiple_126 rfl ?_
    refine wm_lstore d_Na_takeMultiple_127 (by decide) (L' := [vr a0, vr a1, vi l2, vi l3, vl j4, vd, vd, vd, vl j8, vd, vl j10, vd, vl 0, vd, vd]) rfl ?_
    refine wm_iconst d_Na_takeMultiple_129 ?_
    refine wm_istore d_Na_takeMultiple_130 (by decide) (L' := [vr a0, vr a1, vi l2, vi l3, vl j4, vd, vd, vd, vl j8, vd, vl j10, vd, vl 0, vd, vi 0]) rfl ?_
    refine wm_less (L' := [vr a0, vr a1, vi l2, vi l3, vd, vd, vd, vd, vl j8, vd, vd, vd, vl 0, vd, vi 0]) ⟨Or.inr rfl, Or.inr rfl, Or.inr rfl, Or.inr rfl, Or.inl rfl, Or.inl rfl, Or.inl rfl, Or.inl rfl, Or.inr rfl, Or.inl rfl, Or.inl rfl, Or.inl rfl, Or.inr rfl, Or.inl rfl, Or.inr rfl, trivial⟩ ?_
    exact h
  have hE1 : ¬ ((2 ≤ l12) ∨ (cmpL (j8 * (mI M (mR M a1 0) (Int.toNat (l3 - 2)))) ((shlL j10 30) + (mI M (mR M a0 0) (Int.toNat ((l2 + l3) - 2)))) ≤ 0)) → mWm G y_Na_takeMultiple (d + 1) 107 [vr a0, vr a1, vi l2, vi l3, vl j4, vd, vd, vd, vl j8, vd, vl j10, vd, vi l12, vd, vd] [] M (fun r9 M9 => ∃ x9, r9 = some (vi x9) ∧ Q x9 M9) := by
    intro q23
    have h := h.2 q23
    refine wm_lload d_Na_takeMultiple_107 rfl ?_
    refine wm_lconst (x := 1) d_Na_takeMultiple_109 rfl ?_
    refine wm_lsub d_Na_takeMultiple_110 ?_
    refine wm_lstore d_Na_takeMultiple_111 (by decide) (L' := [vr a0, vr a1, vi l2, vi l3, vl j4, vd, vd, vd, vl (j8 - 1), vd, vl j10, vd, vi l12, vd, vd]) rfl ?_
    refine wm_lload d_Na_takeMultiple_113 rfl ?_
    refine wm_lload d_Na_takeMultiple_115 rfl ?_
    refine wm_ladd d_Na_takeMultiple_117 ?_
    refine wm_lstore d_Na_takeMultiple_118 (by decide) (L' := [vr a0, vr a1, vi l2, vi l3, vl j4, vd, vd, vd, vl (j8 - 1), vd, vl (j10 + j4), vd, vi l12, vd, vd]) rfl ?_
    refine wm_iinc d_Na_takeMultiple_120 (by decide) rfl (L' := [vr a0, vr a1, vi l2, vi l3, vl j4, vd, vd, vd, vl (j8 - 1), vd, vl (j10 + j4), vd, vi (l12 + 1), vd, vd]) rfl ?_
    refine wm_goto (tgt := 68) d_Na_takeMultiple_123 rfl ?_
    exact h
  clear h
  have s24 := s21
  refine wm_icmp_ge (tgt := 126) d_Na_takeMultiple_71 rfl hi_l12 ⟨by decide, by decide⟩ (fun c20 => ?_) (fun c20 => ?_)
  · exact hE0 (Or.inl c20)
  · have s24 := s24 c20
    obtain ⟨h11, h12, h13, h14, h15, h16, h17, h18⟩ := s24
    refine wm_lload d_Na_takeMultiple_74 rfl ?_
    refine wm_aload_n d_Na_takeMultiple_76 rfl rfl ?_
    refine gf_Na_9 rfl d_Na_takeMultiple_77 h11 ?_
    refine wm_iload_n d_Na_takeMultiple_80 rfl rfl ?_
    refine wm_iconst d_Na_takeMultiple_81 ?_
    refine wm_isub d_Na_takeMultiple_82 ?_
    refine wm_iald d_Na_takeMultiple_83 h12 h13 ?_
    refine wm_i2l d_Na_takeMultiple_84 (hO _ _).1 ?_
    refine wm_lmul d_Na_takeMultiple_85 ?_
    refine wm_lload d_Na_takeMultiple_86 rfl ?_
    refine wm_bipush d_Na_takeMultiple_88 (by decide) ?_
    refine wm_lshl d_Na_takeMultiple_90 ?_
    refine wm_aload_n d_Na_takeMultiple_91 rfl rfl ?_
    refine gf_Na_9 rfl d_Na_takeMultiple_92 h14 ?_
    refine wm_iload_n d_Na_takeMultiple_95 rfl rfl ?_
    refine wm_iload_n d_Na_takeMultiple_96 rfl rfl ?_
    refine wm_iadd d_Na_takeMultiple_97 ?_
    refine wm_iconst d_Na_takeMultiple_98 ?_
    refine wm_isub d_Na_takeMultiple_99 ?_
    refine wm_iald d_Na_takeMultiple_100 h15 h16 ?_
    refine wm_i2l d_Na_takeMultiple_101 (hO _ _).1 ?_
    refine wm_ladd d_Na_takeMultiple_102 ?_
    refine wm_lcmp d_Na_takeMultiple_103 h17 h18 ?_
    refine wm_if_le (tgt := 126) d_Na_takeMultiple_104 rfl (m_cmp32 _ _) (fun c19 => ?_) (fun c19 => ?_)
    · exact hE0 (Or.inr c19)
    · exact hE1 (fun z25 => Or.elim z25 c20 c19)
theorem k_Na_takeMultiple_132 {G : mG} {d : Nat} {a0 : Nat} {a1 : Nat} {l2 : Int} {l3 : Int} {j8 : Int} {j12 : Int} {l14 : Int} {M : mM} {Q : Int → mM → Prop} (hO : mOk M) (hi_l2 : i32 l2) (hi_l3 : i32 l3) (hi_j8 : i64 j8) (hi_j12 : i64 j12) (hi_l14 : i32 l14)
    (h : ((l3 ≤ l14) → (mK M a0 = 10 ∧ mK M (mR M a0 0) = 30 ∧ ((0 : Int) ≤ l2 + l3 ∧ l2 + l3 < (mN M (mR M a0 0) : Int)) ∧ ((0 : Int) ≤ l2 + l3 ∧ l2 + l3 < (mN M (mR M a0 0) : Int)) ∧ ∀ M46, M46 = mUI M (mR M a0 0) (Int.toNat (l2 + l3)) 0 → i64 (j12 + (mI M (mR M a0 0) (Int.toNat (l2 + l3)))) ∧ ((cmpL (j12 + (mI M (mR M a0 0) (Int.toNat (l2 + l3)))) 0 < 0) → (h_Na_takeMultiple_234 G d a0 a1 l2 l3 j8 0 0 M46 Q)) ∧ (¬ (cmpL (j12 + (mI M (mR M a0 0) (Int.toNat (l2 + l3)))) 0 < 0) → (Q j8 M46)))) ∧ (¬ (l3 ≤ l14) → (mK M a0 = 10 ∧ mK M (mR M a0 0) = 30 ∧ ((0 : Int) ≤ l2 + l14 ∧ l2 + l14 < (mN M (mR M a0 0) : Int)) ∧ mK M a1 = 10 ∧ mK M (mR M a1 0) = 30 ∧ ((0 : Int) ≤ l14 ∧ l14 < (mN M (mR M a1 0) : Int)) ∧ ((0 : Int) ≤ l2 + l14 ∧ l2 + l14 < (mN M (mR M a0 0) : Int)) ∧ i32 (andL (j12 + ((mI M (mR M a0 0) (Int.toNat (l2 + l14))) - (j8 * (mI M (mR M a1 0) (Int.toNat l14))))) 1073741823) ∧ ∀ M59, M59 = mUI M (mR M a0 0) (Int.toNat (l2 + l14)) (andL (j12 + ((mI M (mR M a0 0) (Int.toNat (l2 + l14))) - (j8 * (mI M (mR M a1 0) (Int.toNat l14))))) 1073741823) → h_Na_takeMultiple_132 G d a0 a1 l2 l3 j8 (shrL (j12 + ((mI M (mR M a0 0) (Int.toNat (l2 + l14))) - (j8 * (mI M (mR M a1 0) (Int.toNat l14))))) 30) (l14 + 1) M59 Q))) :
    h_Na_takeMultiple_132 G d a0 a1 l2 l3 j8 j12 l14 M Q := by
  unfold h_Na_takeMultiple_132
  refine wm_iload d_Na_takeMultiple_132 rfl ?_
  refine wm_iload_n d_Na_takeMultiple_134 rfl rfl ?_
  refine wm_icmp_ge (tgt := 194) d_Na_takeMultiple_135 rfl hi_l14 hi_l3 (fun c41 => ?_) (fun c41 => ?_)
  · replace h := h.1 c41
    obtain ⟨h42, h⟩ := h
    obtain ⟨h43, h⟩ := h
    obtain ⟨h44, h⟩ := h
    obtain ⟨h45, h⟩ := h
    obtain ⟨M46, e47⟩ : ∃ M46, M46 = mUI M (mR M a0 0) (Int.toNat (l2 + l3)) 0 := ⟨_, rfl⟩
    replace h := h M46 e47
    obtain ⟨h48, h⟩ := h
    refine wm_lload d_Na_takeMultiple_194 rfl ?_
    refine wm_aload_n d_Na_takeMultiple_196 rfl rfl ?_
    refine gf_Na_9 rfl d_Na_takeMultiple_197 h42 ?_
    refine wm_iload_n d_Na_takeMultiple_200 rfl rfl ?_
    refine wm_iload_n d_Na_takeMultiple_201 rfl rfl ?_
    refine wm_iadd d_Na_takeMultiple_202 ?_
    refine wm_iald d_Na_takeMultiple_203 h43 h44 ?_
    refine wm_i2l d_Na_takeMultiple_204 (hO _ _).1 ?_
    refine wm_ladd d_Na_takeMultiple_205 ?_
    refine wm_lstore d_Na_takeMultiple_206 (by decide) (L' := [vr a0, vr a1, vi l2, vi l3, vd, vd, vd, vd, vl j8, vd, vd, vd, vl (j12 + (mI M (mR M a0 0) (Int.toNat (l2 + l3)))), vd, vi l14]) rfl ?_
    refine wm_aload_n d_Na_takeMultiple_208 rfl rfl ?_
    refine gf_Na_9 rfl d_Na_takeMultiple_209 h42 ?_
    refine wm_iload_n d_Na_takeMultiple_212 rfl rfl ?_
    refine wm_iload_n d_Na_takeMultiple_213 rfl rfl ?_
    refine wm_iadd d_Na_takeMultiple_214 ?_
    refine wm_iconst d_Na_takeMultiple_215 ?_
    have hOM46 : mOk M46 := by rw [e47]; exact mOk_UI hO ⟨by decide, by decide⟩
    refine wm_iastE d_Na_takeMultiple_216 h43 h45 ⟨by decide, by decide⟩ e47 ?_
    refine wm_lload d_Na_takeMultiple_217 rfl ?_
    refine wm_lconst (x := 0) d_Na_takeMultiple_219 rfl ?_
    refine wm_lcmp d_Na_takeMultiple_220 h48 ⟨by decide, by decide⟩ ?_
    refine wm_if_lt (tgt := 228) d_Na_takeMultiple_221 rfl (m_cmp32 _ _) (fun c50 => ?_) (fun c50 => ?_)
    · replace h := h.1 c50
      refine wm_lconst (x := 0) d_Na_takeMultiple_228 rfl ?_
      refine wm_lstore d_Na_takeMultiple_229 (by decide) (L' := [vr a0, vr a1, vi l2, vi l3, vd, vd, vd, vd, vl j8, vd, vd, vd, vl 0, vd, vi l14]) rfl ?_
      refine wm_iconst d_Na_takeMultiple_231 ?_
      refine wm_istore d_Na_takeMultiple_232 (by decide) (L' := [vr a0, vr a1, vi l2, vi l3, vd, vd, vd, vd, vl j8, vd, vd, vd, vl 0, vd, vi 0]) rfl ?_
      exact h
    · replace h := h.2 c50
      refine wm_lload d_Na_takeMultiple_224 rfl ?_
      refine wm_l2i d_Na_takeMultiple_226 ?_
      refine wm_ireturn d_Na_takeMultiple_227 rfl rfl ?_
      exact ⟨_, rfl, h⟩
  · replace h := h.2 c41
    obtain ⟨h51, h⟩ := h
    obtain ⟨h52, h⟩ := h
    obtain ⟨h53, h⟩ := h
    obtain ⟨h54, h⟩ := h
    obtain ⟨h55, h⟩ := h
    obtain ⟨h56, h⟩ := h
    obtain ⟨h57, h⟩ := h
    obtain ⟨h58, h⟩ := h
    obtain ⟨M59, e60⟩ : ∃ M59, M59 = mUI M (mR M a0 0) (Int.toNat (l2 + l14)) (andL (j12 + ((mI M (mR M a0 0) (Int.toNat (l2 + l14))) - (j8 * (mI M (mR M a1 0) (Int.toNat l14))))) 1073741823) := ⟨_, rfl⟩
    replace h := h M59 e60
    refine wm_lload d_Na_takeMultiple_138 rfl ?_
    refine wm_aload_n d_Na_takeMultiple_140 rfl rfl ?_
    refine gf_Na_9 rfl d_Na_takeMultiple_141 h51 ?_
    refine wm_iload_n d_Na_takeMultiple_144 rfl rfl ?_
    refine wm_iload d_Na_takeMultiple_145 rfl ?_
    refine wm_iadd d_Na_takeMultiple_147 ?_
    refine wm_iald d_Na_takeMultiple_148 h52 h53 ?_
    refine wm_i2l d_Na_takeMultiple_149 (hO _ _).1 ?_
    refine wm_lload d_Na_takeMultiple_150 rfl ?_
    refine wm_aload_n d_Na_takeMultiple_152 rfl rfl ?_
    refine gf_Na_9 rfl d_Na_takeMultiple_153 h54 ?_
    refine wm_iload d_Na_takeMultiple_156 rfl ?_
    refine wm_iald d_Na_takeMultiple_158 h55 h56 ?_
    refine wm_i2l d_Na_takeMultiple_159 (hO _ _).1 ?_
    refine wm_lmul d_Na_takeMultiple_160 ?_
    refine wm_lsub d_Na_takeMultiple_161 ?_
    refine wm_ladd d_Na_takeMultiple_162 ?_
    refine wm_lstore d_Na_takeMultiple_163 (by decide) (L' := [vr a0, vr a1, vi l2, vi l3, vd, vd, vd, vd, vl j8, vd, vd, vd, vl (j12 + ((mI M (mR M a0 0) (Int.toNat (l2 + l14))) - (j8 * (mI M (mR M a1 0) (Int.toNat l14))))), vd, vi l14]) rfl ?_
    refine wm_aload_n d_Na_takeMultiple_165 rfl rfl ?_
    refine gf_Na_9 rfl d_Na_takeMultiple_166 h51 ?_
    refine wm_iload_n d_Na_takeMultiple_169 rfl rfl ?_
    refine wm_iload d_Na_takeMultiple_170 rfl ?_
    refine wm_iadd d_Na_takeMultiple_172 ?_
    refine wm_lload d_Na_takeMultiple_173 rfl ?_
    refine wm_ldc2 (x := 1073741823) d_Na_takeMultiple_175 k5_202 (by decide) ?_
    refine wm_land d_Na_takeMultiple_178 ?_
    refine wm_l2i d_Na_takeMultiple_179 ?_
    have hOM59 : mOk M59 := by rw [e60]; exact mOk_UI hO h58
    refine wm_iastE d_Na_takeMultiple_180 h52 h57 h58 e60 ?_
    refine wm_lload d_Na_takeMultiple_181 rfl ?_
    refine wm_bipush d_Na_takeMultiple_183 (by decide) ?_
    refine wm_lshr d_Na_takeMultiple_185 ?_
    refine wm_lstore d_Na_takeMultiple_186 (by decide) (L' := [vr a0, vr a1, vi l2, vi l3, vd, vd, vd, vd, vl j8, vd, vd, vd, vl (shrL (j12 + ((mI M (mR M a0 0) (Int.toNat (l2 + l14))) - (j8 * (mI M (mR M a1 0) (Int.toNat l14))))) 30), vd, vi l14]) rfl ?_
    refine wm_iinc d_Na_takeMultiple_188 (by decide) rfl (L' := [vr a0, vr a1, vi l2, vi l3, vd, vd, vd, vd, vl j8, vd, vd, vd, vl (shrL (j12 + ((mI M (mR M a0 0) (Int.toNat (l2 + l14))) - (j8 * (mI M (mR M a1 0) (Int.toNat l14))))) 30), vd, vi (l14 + 1)]) rfl ?_
    refine wm_goto (tgt := 132) d_Na_takeMultiple_191 rfl ?_
    exact h
theorem k_Na_takeMultiple_234 {G : mG} {d : Nat} {a0 : Nat} {a1 : Nat} {l2 : Int} {l3 : Int} {j8 : Int} {j12 : Int} {l14 : Int} {M : mM} {Q : Int → mM → Prop} (hO : mOk M) (hi_l2 : i32 l2) (hi_l3 : i32 l3) (hi_j8 : i64 j8) (hi_j12 : i64 j12) (hi_l14 : i32 l14)
    (h : ((l3 ≤ l14) → (Q (j8 - 1) M)) ∧ (¬ (l3 ≤ l14) → (mK M a0 = 10 ∧ mK M (mR M a0 0) = 30 ∧ ((0 : Int) ≤ l2 + l14 ∧ l2 + l14 < (mN M (mR M a0 0) : Int)) ∧ mK M a1 = 10 ∧ mK M (mR M a1 0) = 30 ∧ ((0 : Int) ≤ l14 ∧ l14 < (mN M (mR M a1 0) : Int)) ∧ i32 ((mI M (mR M a0 0) (Int.toNat (l2 + l14))) + (mI M (mR M a1 0) (Int.toNat l14))) ∧ ((0 : Int) ≤ l2 + l14 ∧ l2 + l14 < (mN M (mR M a0 0) : Int)) ∧ i32 (andL (j12 + ((mI M (mR M a0 0) (Int.toNat (l2 + l14))) + (mI M (mR M a1 0) (Int.toNat l14)))) 1073741823) ∧ ∀ M81, M81 = mUI M (mR M a0 0) (Int.toNat (l2 + l14)) (andL (j12 + ((mI M (mR M a0 0) (Int.toNat (l2 + l14))) + (mI M (mR M a1 0) (Int.toNat l14)))) 1073741823) → h_Na_takeMultiple_234 G d a0 a1 l2 l3 j8 (shrL (j12 + ((mI M (mR M a0 0) (Int.toNat (l2 + l14))) + (mI M (mR M a1 0) (Int.toNat l14)))) 30) (l14 + 1) M81 Q))) :
    h_Na_takeMultiple_234 G d a0 a1 l2 l3 j8 j12 l14 M Q := by
  unfold h_Na_takeMultiple_234
  refine wm_iload d_Na_takeMultiple_234 rfl ?_
  refine wm_iload_n d_Na_takeMultiple_236 rfl rfl ?_
  refine wm_icmp_ge (tgt := 292) d_Na_takeMultiple_237 rfl hi_l14 hi_l3 (fun c71 => ?_) (fun c71 => ?_)
  · replace h := h.1 c71
    refine wm_lload d_Na_takeMultiple_292 rfl ?_
    refine wm_l2i d_Na_takeMultiple_294 ?_
    refine wm_iconst d_Na_takeMultiple_295 ?_
    refine wm_isub d_Na_takeMultiple_296 ?_
    refine wm_ireturn d_Na_takeMultiple_297 rfl rfl ?_
    exact ⟨_, rfl, h⟩
  · replace h := h.2 c71
    obtain ⟨h72, h⟩ := h
    obtain ⟨h73, h⟩ := h
    obtain ⟨h74, h⟩ := h
    obtain ⟨h75, h⟩ := h
    obtain ⟨h76, h⟩ := h
    obtain ⟨h77, h⟩ := h
    obtain ⟨h78, h⟩ := h
    obtain ⟨h79, h⟩ := h
    obtain ⟨h80, h⟩ := h
    obtain ⟨M81, e82⟩ : ∃ M81, M81 = mUI M (mR M a0 0) (Int.toNat (l2 + l14)) (andL (j12 + ((mI M (mR M a0 0) (Int.toNat (l2 + l14))) + (mI M (mR M a1 0) (Int.toNat l14)))) 1073741823) := ⟨_, rfl⟩
    replace h := h M81 e82
    refine wm_lload d_Na_takeMultiple_240 rfl ?_
    refine wm_aload_n d_Na_takeMultiple_242 rfl rfl ?_
    refine gf_Na_9 rfl d_Na_takeMultiple_243 h72 ?_
    refine wm_iload_n d_Na_takeMultiple_246 rfl rfl ?_
    refine wm_iload d_Na_takeMultiple_247 rfl ?_
    refine wm_iadd d_Na_takeMultiple_249 ?_
    refine wm_iald d_Na_takeMultiple_250 h73 h74 ?_
    refine wm_aload_n d_Na_takeMultiple_251 rfl rfl ?_
    refine gf_Na_9 rfl d_Na_takeMultiple_252 h75 ?_
    refine wm_iload d_Na_takeMultiple_255 rfl ?_
    refine wm_iald d_Na_takeMultiple_257 h76 h77 ?_
    refine wm_iadd d_Na_takeMultiple_258 ?_
    refine wm_i2l d_Na_takeMultiple_259 h78 ?_
    refine wm_ladd d_Na_takeMultiple_260 ?_
    refine wm_lstore d_Na_takeMultiple_261 (by decide) (L' := [vr a0, vr a1, vi l2, vi l3, vd, vd, vd, vd, vl j8, vd, vd, vd, vl (j12 + ((mI M (mR M a0 0) (Int.toNat (l2 + l14))) + (mI M (mR M a1 0) (Int.toNat l14)))), vd, vi l14]) rfl ?_
    refine wm_aload_n d_Na_takeMultiple_263 rfl rfl ?_
    refine gf_Na_9 rfl d_Na_takeMultiple_264 h72 ?_
    refine wm_iload_n d_Na_takeMultiple_267 rfl rfl ?_
    refine wm_iload d_Na_takeMultiple_268 rfl ?_
    refine wm_iadd d_Na_takeMultiple_270 ?_
    refine wm_lload d_Na_takeMultiple_271 rfl ?_
    refine wm_ldc2 (x := 1073741823) d_Na_takeMultiple_273 k5_202 (by decide) ?_
    refine wm_land d_Na_takeMultiple_276 ?_
    refine wm_l2i d_Na_takeMultiple_277 ?_
    have hOM81 : mOk M81 := by rw [e82]; exact mOk_UI hO h80
    refine wm_iastE d_Na_takeMultiple_278 h73 h79 h80 e82 ?_
    refine wm_lload d_Na_takeMultiple_279 rfl ?_
    refine wm_bipush d_Na_takeMultiple_281 (by decide) ?_
    refine wm_lshr d_Na_takeMultiple_283 ?_
    refine wm_lstore d_Na_takeMultiple_284 (by decide) (L' := [vr a0, vr a1, vi l2, vi l3, vd, vd, vd, vd, vl j8, vd, vd, vd, vl (shrL (j12 + ((mI M (mR M a0 0) (Int.toNat (l2 + l14))) + (mI M (mR M a1 0) (Int.toNat l14)))) 30), vd, vi l14]) rfl ?_
    refine wm_iinc d_Na_takeMultiple_286 (by decide) rfl (L' := [vr a0, vr a1, vi l2, vi l3, vd, vd, vd, vd, vl j8, vd, vd, vd, vl (shrL (j12 + ((mI M (mR M a0 0) (Int.toNat (l2 + l14))) + (mI M (mR M a1 0) (Int.toNat l14)))) 30), vd, vi (l14 + 1)]) rfl ?_
    refine wm_goto (tgt := 234) d_Na_takeMultiple_289 rfl ?_
    exact h
theorem d_Na_combine_0 : decode y_Na_combine.2.1 0 = .ok (.aload_n 0, 1) := by decide +kernel
theorem d_Na_combine_1 : decode y_Na_combine.2.1 1 = .ok (.getfield 13, 3) := by decide +kernel
theorem d_Na_combine_4 : decode y_Na_combine.2.1 4 = .ok (.istore_n 3, 1) := by decide +kernel
theorem d_Na_combine_5 : decode y_Na_combine.2.1 5 = .ok (.aload_n 1, 1) := by decide +kernel
theorem d_Na_combine_6 : decode y_Na_combine.2.1 6 = .ok (.iload_n 3, 1) := by decide +kernel
theorem d_Na_combine_7 : decode y_Na_combine.2.1 7 = .ok (.invokevirtual 47, 3) := by decide +kernel
theorem d_Na_combine_10 : decode y_Na_combine.2.1 10 = .ok (.aload_n 1, 1) := by decide +kernel
theorem d_Na_combine_11 : decode y_Na_combine.2.1 11 = .ok (.getfield 9, 3) := by decide +kernel
theorem d_Na_combine_14 : decode y_Na_combine.2.1 14 = .ok (.aload_n 1, 1) := by decide +kernel
theorem d_Na_combine_15 : decode y_Na_combine.2.1 15 = .ok (.getfield 13, 3) := by decide +kernel
theorem d_Na_combine_18 : decode y_Na_combine.2.1 18 = .ok (.iload_n 3, 1) := by decide +kernel
theorem d_Na_combine_19 : decode y_Na_combine.2.1 19 = .ok (.iconst 0, 1) := by decide +kernel
theorem d_Na_combine_20 : decode y_Na_combine.2.1 20 = .ok (.invokestatic 50, 3) := by decide +kernel
theorem d_Na_combine_23 : decode y_Na_combine.2.1 23 = .ok (.lconst 0, 1) := by decide +kernel
theorem d_Na_combine_24 : decode y_Na_combine.2.1 24 = .ok (.lstore 4, 2) := by decide +kernel
theorem d_Na_combine_26 : decode y_Na_combine.2.1 26 = .ok (.lconst 0, 1) := by decide +kernel
theorem d_Na_combine_27 : decode y_Na_combine.2.1 27 = .ok (.lstore 6, 2) := by decide +kernel
theorem d_Na_combine_29 : decode y_Na_combine.2.1 29 = .ok (.iconst 0, 1) := by decide +kernel
theorem d_Na_combine_30 : decode y_Na_combine.2.1 30 = .ok (.istore 8, 2) := by decide +kernel
theorem d_Na_combine_32 : decode y_Na_combine.2.1 32 = .ok (.iload 8, 2) := by decide +kernel
theorem d_Na_combine_34 : decode y_Na_combine.2.1 34 = .ok (.iload_n 3, 1) := by decide +kernel
theorem d_Na_combine_35 : decode y_Na_combine.2.1 35 = .ok (.if_icmp .ge 107, 3) := by decide +kernel
theorem d_Na_combine_142 : decode y_Na_combine.2.1 142 = .ok (.aload_n 0, 1) := by decide +kernel
theorem d_Na_combine_143 : decode y_Na_combine.2.1 143 = .ok (.iload_n 3, 1) := by decide +kernel
theorem d_Na_combine_38 : decode y_Na_combine.2.1 38 = .ok (.aload_n 0, 1) := by decide +kernel
theorem d_Na_combine_39 : decode y_Na_combine.2.1 39 = .ok (.getfield 9, 3) := by decide +kernel
theorem d_Na_combine_42 : decode y_Na_combine.2.1 42 = .ok (.iload 8, 2) := by decide +kernel
theorem d_Na_combine_44 : decode y_Na_combine.2.1 44 = .ok (.iaload, 1) := by decide +kernel
theorem d_Na_combine_45 : decode y_Na_combine.2.1 45 = .ok (.i2l, 1) := by decide +kernel
theorem d_Na_combine_46 : decode y_Na_combine.2.1 46 = .ok (.lstore 9, 2) := by decide +kernel
theorem d_Na_combine_48 : decode y_Na_combine.2.1 48 = .ok (.aload_n 1, 1) := by decide +kernel
theorem d_Na_combine_49 : decode y_Na_combine.2.1 49 = .ok (.getfield 9, 3) := by decide +kernel
theorem d_Na_combine_52 : decode y_Na_combine.2.1 52 = .ok (.iload 8, 2) := by decide +kernel
theorem d_Na_combine_54 : decode y_Na_combine.2.1 54 = .ok (.iaload, 1) := by decide +kernel
theorem d_Na_combine_55 : decode y_Na_combine.2.1 55 = .ok (.i2l, 1) := by decide +kernel
theorem d_Na_combine_56 : decode y_Na_combine.2.1 56 = .ok (.lstore 11, 2) := by decide +kernel
theorem d_Na_combine_58 : decode y_Na_combine.2.1 58 = .ok (.lload 4, 2) := by decide +kernel
theorem d_Na_combine_60 : decode y_Na_combine.2.1 60 = .ok (.aload_n 2, 1) := by decide +kernel
theorem d_Na_combine_61 : decode y_Na_combine.2.1 61 = .ok (.iconst 0, 1) := by decide +kernel
theorem d_Na_combine_62 : decode y_Na_combine.2.1 62 = .ok (.laload, 1) := by decide +kernel
theorem d_Na_combine_63 : decode y_Na_combine.2.1 63 = .ok (.lload 9, 2) := by decide +kernel
theorem d_Na_combine_65 : decode y_Na_combine.2.1 65 = .ok (.lmul, 1) := by decide +kernel
theorem d_Na_combine_66 : decode y_Na_combine.2.1 66 = .ok (.aload_n 2, 1) := by decide +kernel
theorem d_Na_combine_67 : decode y_Na_combine.2.1 67 = .ok (.iconst 1, 1) := by decide +kernel
theorem d_Na_combine_68 : decode y_Na_combine.2.1 68 = .ok (.laload, 1) := by decide +kernel
theorem d_Na_combine_69 : decode y_Na_combine.2.1 69 = .ok (.lload 11, 2) := by decide +kernel
theorem d_Na_combine_71 : decode y_Na_combine.2.1 71 = .ok (.lmul, 1) := by decide +kernel
theorem d_Na_combine_72 : decode y_Na_combine.2.1 72 = .ok (.ladd, 1) := by decide +kernel
theorem d_Na_combine_73 : decode y_Na_combine.2.1 73 = .ok (.ladd, 1) := by decide +kernel
theorem d_Na_combine_74 : decode y_Na_combine.2.1 74 = .ok (.lstore 4, 2) := by decide +kernel
theorem d_Na_combine_76 : decode y_Na_combine.2.1 76 = .ok (.lload 6, 2) := by decide +kernel
theorem d_Na_combine_78 : decode y_Na_combine.2.1 78 = .ok (.aload_n 2, 1) := by decide +kernel
theorem d_Na_combine_79 : decode y_Na_combine.2.1 79 = .ok (.iconst 2, 1) := by decide +kernel
theorem d_Na_combine_80 : decode y_Na_combine.2.1 80 = .ok (.laload, 1) := by decide +kernel
theorem d_Na_combine_81 : decode y_Na_combine.2.1 81 = .ok (.lload 9, 2) := by decide +kernel
theorem d_Na_combine_83 : decode y_Na_combine.2.1 83 = .ok (.lmul, 1) := by decide +kernel
theorem d_Na_combine_84 : decode y_Na_combine.2.1 84 = .ok (.aload_n 2, 1) := by decide +kernel
theorem d_Na_combine_85 : decode y_Na_combine.2.1 85 = .ok (.iconst 3, 1) := by decide +kernel
theorem d_Na_combine_86 : decode y_Na_combine.2.1 86 = .ok (.laload, 1) := by decide +kernel
theorem d_Na_combine_87 : decode y_Na_combine.2.1 87 = .ok (.lload 11, 2) := by decide +kernel
theorem d_Na_combine_89 : decode y_Na_combine.2.1 89 = .ok (.lmul, 1) := by decide +kernel
theorem d_Na_combine_90 : decode y_Na_combine.2.1 90 = .ok (.ladd, 1) := by decide +kernel
theorem d_Na_combine_91 : decode y_Na_combine.2.1 91 = .ok (.ladd, 1) := by decide +kernel
theorem d_Na_combine_92 : decode y_Na_combine.2.1 92 = .ok (.lstore 6, 2) := by decide +kernel
theorem d_Na_combine_94 : decode y_Na_combine.2.1 94 = .ok (.aload_n 0, 1) := by decide +kernel
theorem d_Na_combine_95 : decode y_Na_combine.2.1 95 = .ok (.getfield 9, 3) := by decide +kernel
theorem d_Na_combine_98 : decode y_Na_combine.2.1 98 = .ok (.iload 8, 2) := by decide +kernel
theorem d_Na_combine_100 : decode y_Na_combine.2.1 100 = .ok (.lload 4, 2) := by decide +kernel
theorem d_Na_combine_102 : decode y_Na_combine.2.1 102 = .ok (.ldc2_w 29, 3) := by decide +kernel
theorem d_Na_combine_105 : decode y_Na_combine.2.1 105 = .ok (.land, 1) := by decide +kernel
theorem d_Na_combine_106 : decode y_Na_combine.2.1 106 = .ok (.l2i, 1) := by decide +kernel
theorem d_Na_combine_107 : decode y_Na_combine.2.1 107 = .ok (.iastore, 1) := by decide +kernel
theorem d_Na_combine_108 : decode y_Na_combine.2.1 108 = .ok (.aload_n 1, 1) := by decide +kernel
theorem d_Na_combine_109 : decode y_Na_combine.2.1 109 = .ok (.getfield 9, 3) := by decide +kernel
theorem d_Na_combine_112 : decode y_Na_combine.2.1 112 = .ok (.iload 8, 2) := by decide +kernel
theorem d_Na_combine_114 : decode y_Na_combine.2.1 114 = .ok (.lload 6, 2) := by decide +kernel
theorem d_Na_combine_116 : decode y_Na_combine.2.1 116 = .ok (.ldc2_w 29, 3) := by decide +kernel
theorem d_Na_combine_119 : decode y_Na_combine.2.1 119 = .ok (.land, 1) := by decide +kernel
theorem d_Na_combine_120 : decode y_Na_combine.2.1 120 = .ok (.l2i, 1) := by decide +kernel
theorem d_Na_combine_121 : decode y_Na_combine.2.1 121 = .ok (.iastore, 1) := by decide +kernel
theorem d_Na_combine_144 : decode y_Na_combine.2.1 144 = .ok (.invokevirtual 31, 3) := by decide +kernel
theorem d_Na_combine_147 : decode y_Na_combine.2.1 147 = .ok (.aload_n 1, 1) := by decide +kernel
theorem d_Na_combine_148 : decode y_Na_combine.2.1 148 = .ok (.iload_n 3, 1) := by decide +kernel
theorem d_Na_combine_149 : decode y_Na_combine.2.1 149 = .ok (.invokevirtual 31, 3) := by decide +kernel
theorem d_Na_combine_152 : decode y_Na_combine.2.1 152 = .ok (.return_, 1) := by decide +kernel
theorem d_Na_combine_122 : decode y_Na_combine.2.1 122 = .ok (.lload 4, 2) := by decide +kernel
theorem d_Na_combine_124 : decode y_Na_combine.2.1 124 = .ok (.bipush 30, 2) := by decide +kernel
theorem d_Na_combine_126 : decode y_Na_combine.2.1 126 = .ok (.lshr, 1) := by decide +kernel
theorem d_Na_combine_127 : decode y_Na_combine.2.1 127 = .ok (.lstore 4, 2) := by decide +kernel
theorem d_Na_combine_129 : decode y_Na_combine.2.1 129 = .ok (.lload 6, 2) := by decide +kernel
theorem d_Na_combine_131 : decode y_Na_combine.2.1 131 = .ok (.bipush 30, 2) := by decide +kernel
theorem d_Na_combine_133 : decode y_Na_combine.2.1 133 = .ok (.lshr, 1) := by decide +kernel
theorem d_Na_combine_134 : decode y_Na_combine.2.1 134 = .ok (.lstore 6, 2) := by decide +kernel
theorem d_Na_combine_136 : decode y_Na_combine.2.1 136 = .ok (.iinc 8 1, 3) := by decide +kernel
theorem d_Na_combine_139 : decode y_Na_combine.2.1 139 = .ok (.goto (-107), 3) := by decide +kernel
def h_Na_combine_32 (G : mG) (d : Nat) (a0 : Nat) (a1 : Nat) (a2 : Nat) (l3 : Int) (j4 : Int) (j6 : Int) (l8 : Int) (M : mM) (Q : mM → Prop) : Prop := mWm G y_Na_combine (d + 1) 32 [vr a0, vr a1, vr a2, vi l3, vl j4, vd, vl j6, vd, vi l8, vd, vd, vd, vd] [] M (fun r9 M9 => r9 = none ∧ Q M9)
theorem k_Na_combine {G : mG} {d : Nat} {a0 : Nat} {a1 : Nat} {a2 : Nat} {M : mM} {Q : mM → Prop} (hO : mOk M)
    (h : mK M a0 = 10 ∧ mK M a1 = 10 ∧ Cv G y_Na_reserve d [vr a1, vi (mI M a0 1)] M (fun M3 => mOk M3 ∧ (mK M3 a1 = 10 ∧ Cv G y_JA_fillR d [vr (mR M3 a1 0), vi (mI M3 a1 1), vi (mI M a0 1), vi 0] M3 (fun M7 => mOk M7 ∧ (h_Na_combine_32 G d a0 a1 a2 (mI M a0 1) 0 0 0 M7 Q))))) :
    Cv G y_Na_combine (d + 1) [vr a0, vr a1, vr a2] M Q := by
  refine wm_open (y := y_Na_combine) rfl (Nat.le_of_ble_eq_true rfl) (L := [vr a0, vr a1, vr a2, vd, vd, vd, vd, vd, vd, vd, vd, vd, vd]) rfl ?_
  obtain ⟨h1, h⟩ := h
  obtain ⟨h2, h⟩ := h
  refine wm_aload_n d_Na_combine_0 rfl rfl ?_
  refine gf_Na_13 rfl d_Na_combine_1 h1 ?_
  refine wm_istore_n d_Na_combine_4 rfl (by decide) (L' := [vr a0, vr a1, vr a2, vi (mI M a0 1), vd, vd, vd, vd, vd, vd, vd, vd, vd]) rfl ?_
  refine wm_aload_n d_Na_combine_5 rfl rfl ?_
  refine wm_iload_n d_Na_combine_6 rfl rfl ?_
  refine cf_Na_47 rfl d_Na_combine_7 h2 (Nat.le_of_ble_eq_true rfl) (Cv.mono h (fun M3 h => ?_))
  obtain ⟨hOM3, h⟩ := h
  obtain ⟨h6, h⟩ := h
  refine wm_aload_n d_Na_combine_10 rfl rfl ?_
  refine gf_Na_9 rfl d_Na_combine_11 h6 ?_
  refine wm_aload_n d_Na_combine_14 rfl rfl ?_
  refine gf_Na_13 rfl d_Na_combine_15 h6 ?_
  refine wm_iload_n d_Na_combine_18 rfl rfl ?_
  refine wm_iconst d_Na_combine_19 ?_
  refine cf_Na_50 rfl d_Na_combine_20 (Nat.le_of_ble_eq_true rfl) (Cv.mono h (fun M7 h => ?_))
  obtain ⟨hOM7, h⟩ := h
  refine wm_lconst (x := 0) d_Na_combine_23 rfl ?_
  refine wm_lstore d_Na_combine_24 (by decide) (L' := [vr a0, vr a1, vr a2, vi (mI M a0 1), vl 0, vd, vd, vd, vd, vd, vd, vd, vd]) rfl ?_
  refine wm_lconst (x := 0) d_Na_combine_26 rfl ?_
  refine wm_lstore d_Na_combine_27 (by decide) (L' := [vr a0, vr a1, vr a2, vi (mI M a0 1), vl 0, vd, vl 0, vd, vd, vd, vd, vd, vd]) rfl ?_
  refine wm_iconst d_Na_combine_29 ?_
  refine wm_istore d_Na_combine_30 (by decide) (L' := [vr a0, vr a1, vr a2, vi (mI M a0 1), vl 0, vd, vl 0, vd, vi 0, vd, vd, vd, vd]) rfl ?_
  exact h
theorem k_Na_combine_32 {G : mG} {d : Nat} {a0 : Nat} {a1 : Nat} {a2 : Nat} {l3 : Int} {j4 : Int} {j6 : Int} {l8 : Int} {M : mM} {Q : mM → Prop} (hO : mOk M) (hi_l3 : i32 l3) (hi_j4 : i64 j4) (hi_j6 : i64 j6) (hi_l8 : i32 l8)
    (h : ((l3 ≤ l8) → (mK M a0 = 10 ∧ Cv G y_Na_trim d [vr a0, vi l3] M (fun M13 => mOk M13 ∧ (mK M13 a1 = 10 ∧ Cv G y_Na_trim d [vr a1, vi l3] M13 (fun M17 => mOk M17 ∧ (Q M17)))))) ∧ (¬ (l3 ≤ l8) → (mK M a0 = 10 ∧ mK M (mR M a0 0) = 30 ∧ ((0 : Int) ≤ l8 ∧ l8 < (mN M (mR M a0 0) : Int)) ∧ mK M a1 = 10 ∧ mK M (mR M a1 0) = 30 ∧ ((0 : Int) ≤ l8 ∧ l8 < (mN M (mR M a1 0) : Int)) ∧ mK M a2 = 33 ∧ ((0 : Int) ≤ 0 ∧ 0 < (mN M a2 : Int)) ∧ ((0 : Int) ≤ 1 ∧ 1 < (mN M a2 : Int)) ∧ ((0 : Int) ≤ 2 ∧ 2 < (mN M a2 : Int)) ∧ ((0 : Int) ≤ 3 ∧ 3 < (mN M a2 : Int)) ∧ ((0 : Int) ≤ l8 ∧ l8 < (mN M (mR M a0 0) : Int)) ∧ i32 (andL (j4 + (((mL M a2 0) * (mI M (mR M a0 0) (Int.toNat l8))) + ((mL M a2 1) * (mI M (mR M a1 0) (Int.toNat l8))))) 1073741823) ∧ ∀ M33, M33 = mUI M (mR M a0 0) (Int.toNat l8) (andL (j4 + (((mL M a2 0) * (mI M (mR M a0 0) (Int.toNat l8))) + ((mL M a2 1) * (mI M (mR M a1 0) (Int.toNat l8))))) 1073741823) → mK M33 (mR M33 a1 0) = 30 ∧ ((0 : Int) ≤ l8 ∧ l8 < (mN M33 (mR M33 a1 0) : Int)) ∧ i32 (andL (j6 + (((mL M a2 2) * (mI M (mR M a0 0) (Int.toNat l8))) + ((mL M a2 3) * (mI M (mR M a1 0) (Int.toNat l8))))) 1073741823) ∧ ∀ M38, M38 = mUI M33 (mR M33 a1 0) (Int.toNat l8) (andL (j6 + (((mL M a2 2) * (mI M (mR M a0 0) (Int.toNat l8))) + ((mL M a2 3) * (mI M (mR M a1 0) (Int.toNat l8))))) 1073741823) → h_Na_combine_32 G d a0 a1 a2 l3 (shrL (j4 + (((mL M a2 0) * (mI M (mR M a0 0) (Int.toNat l8))) + ((mL M a2 1) * (mI M (mR M a1 0) (Int.toNat l8))))) 30) (shrL (j6 + (((mL M a2 2) * (mI M (mR M a0 0) (Int.toNat l8))) + ((mL M a2 3) * (mI M (mR M a1 0) (Int.toNat l8))))) 30) (l8 + 1) M38 Q))) :
    h_Na_combine_32 G d a0 a1 a2 l3 j4 j6 l8 M Q := by
  unfold h_Na_combine_32
  refine wm_iload d_Na_combine_32 rfl ?_
  refine wm_iload_n d_Na_combine_34 rfl rfl ?_
  refine wm_icmp_ge (tgt := 142) d_Na_combine_35 rfl hi_l8 hi_l3 (fun c11 => ?_) (fun c11 => ?_)
  · replace h := h.1 c11
    obtain ⟨h12, h⟩ := h
    refine wm_aload_n d_Na_combine_142 rfl rfl ?_
    refine wm_iload_n d_Na_combine_143 rfl rfl ?_
    refine cf_Na_31 rfl d_Na_combine_144 h12 (Nat.le_of_ble_eq_true rfl) (Cv.mono h (fun M13 h => ?_))
    obtain ⟨hOM13, h⟩ := h
    obtain ⟨h16, h⟩ := h
    refine wm_aload_n d_Na_combine_147 rfl rfl ?_
    refine wm_iload_n d_Na_combine_148 rfl rfl ?_
    refine cf_Na_31 rfl d_Na_combine_149 h16 (Nat.le_of_ble_eq_true rfl) (Cv.mono h (fun M17 h => ?_))
    obtain ⟨hOM17, h⟩ := h
    refine wm_return d_Na_combine_152 rfl ?_
    exact ⟨rfl, h⟩
  · replace h := h.2 c11
    obtain ⟨h20, h⟩ := h
    obtain ⟨h21, h⟩ := h
    obtain ⟨h22, h⟩ := h
    obtain ⟨h23, h⟩ := h
    obtain ⟨h24, h⟩ := h
    obtain ⟨h25, h⟩ := h
    obtain ⟨h26, h⟩ := h
    obtain ⟨h27, h⟩ := h
    obtain ⟨h28, h⟩ := h
    obtain ⟨h29, h⟩ := h
    obtain ⟨h30, h⟩ := h
    obtain ⟨h31, h⟩ := h
    obtain ⟨h32, h⟩ := h
    obtain ⟨M33, e34⟩ : ∃ M33, M33 = mUI M (mR M a0 0) (Int.toNat l8) (andL (j4 + (((mL M a2 0) * (mI M (mR M a0 0) (Int.toNat l8))) + ((mL M a2 1) * (mI M (mR M a1 0) (Int.toNat l8))))) 1073741823) := ⟨_, rfl⟩
    replace h := h M33 e34
    obtain ⟨h35, h⟩ := h
    obtain ⟨h36, h⟩ := h
    obtain ⟨h37, h⟩ := h
    obtain ⟨M38, e39⟩ : ∃ M38, M38 = mUI M33 (mR M33 a1 0) (Int.toNat l8) (andL (j6 + (((mL M a2 2) * (mI M (mR M a0 0) (Int.toNat l8))) + ((mL M a2 3) * (mI M (mR M a1 0) (Int.toNat l8))))) 1073741823) := ⟨_, rfl⟩
    replace h := h M38 e39
    refine wm_aload_n d_Na_combine_38 rfl rfl ?_
    refine gf_Na_9 rfl d_Na_combine_39 h20 ?_
    refine wm_iload d_Na_combine_42 rfl ?_
    refine wm_iald d_Na_combine_44 h21 h22 ?_
    refine wm_i2l d_Na_combine_45 (hO _ _).1 ?_
    refine wm_lstore d_Na_combine_46 (by decide) (L' := [vr a0, vr a1, vr a2, vi l3, vl j4, vd, vl j6, vd, vi l8, vl (mI M (mR M a0 0) (Int.toNat l8)), vd, vd, vd]) rfl ?_
    refine wm_aload_n d_Na_combine_48 rfl rfl ?_
    refine gf_Na_9 rfl d_Na_combine_49 h23 ?_
    refine wm_iload d_Na_combine_52 rfl ?_
    refine wm_iald d_Na_combine_54 h24 h25 ?_
    refine wm_i2l d_Na_combine_55 (hO _ _).1 ?_
    refine wm_lstore d_Na_combine_56 (by decide) (L' := [vr a0, vr a1, vr a2, vi l3, vl j4, vd, vl j6, vd, vi l8, vl (mI M (mR M a0 0) (Int.toNat l8)), vd, vl (mI M (mR M a1 0) (Int.toNat l8)), vd]) rfl ?_
    refine wm_lload d_Na_combine_58 rfl ?_
    refine wm_aload_n d_Na_combine_60 rfl rfl ?_
    refine wm_iconst d_Na_combine_61 ?_
    refine wm_lald d_Na_combine_62 h26 h27 ?_
    refine wm_lload d_Na_combine_63 rfl ?_
    refine wm_lmul d_Na_combine_65 ?_
    refine wm_aload_n d_Na_combine_66 rfl rfl ?_
    refine wm_iconst d_Na_combine_67 ?_
    refine wm_lald d_Na_combine_68 h26 h28 ?_
    refine wm_lload d_Na_combine_69 rfl ?_
    refine wm_lmul d_Na_combine_71 ?_
    refine wm_ladd d_Na_combine_72 ?_
    refine wm_ladd d_Na_combine_73 ?_
    refine wm_lstore d_Na_combine_74 (by decide) (L' := [vr a0, vr a1, vr a2, vi l3, vl (j4 + (((mL M a2 0) * (mI M (mR M a0 0) (Int.toNat l8))) + ((mL M a2 1) * (mI M (mR M a1 0) (Int.toNat l8))))), vd, vl j6, vd, vi l8, vl (mI M (mR M a0 0) (Int.toNat l8)), vd, vl (mI M (mR M a1 0) (Int.toNat l8)), vd]) rfl ?_
    refine wm_lload d_Na_combine_76 rfl ?_
    refine wm_aload_n d_Na_combine_78 rfl rfl ?_
    refine wm_iconst d_Na_combine_79 ?_
    refine wm_lald d_Na_combine_80 h26 h29 ?_
    refine wm_lload d_Na_combine_81 rfl ?_
    refine wm_lmul d_Na_combine_83 ?_
    refine wm_aload_n d_Na_combine_84 rfl rfl ?_
    refine wm_iconst d_Na_combine_85 ?_
    refine wm_lald d_Na_combine_86 h26 h30 ?_
    refine wm_lload d_Na_combine_87 rfl ?_
    refine wm_lmul d_Na_combine_89 ?_
    refine wm_ladd d_Na_combine_90 ?_
    refine wm_ladd d_Na_combine_91 ?_
    refine wm_lstore d_Na_combine_92 (by decide) (L' := [vr a0, vr a1, vr a2, vi l3, vl (j4 + (((mL M a2 0) * (mI M (mR M a0 0) (Int.toNat l8))) + ((mL M a2 1) * (mI M (mR M a1 0) (Int.toNat l8))))), vd, vl (j6 + (((mL M a2 2) * (mI M (mR M a0 0) (Int.toNat l8))) + ((mL M a2 3) * (mI M (mR M a1 0) (Int.toNat l8))))), vd, vi l8, vl (mI M (mR M a0 0) (Int.toNat l8)), vd, vl (mI M (mR M a1 0) (Int.toNat l8)), vd]) rfl ?_
    refine wm_aload_n d_Na_combine_94 rfl rfl ?_
    refine gf_Na_9 rfl d_Na_combine_95 h20 ?_
    refine wm_iload d_Na_combine_98 rfl ?_
    refine wm_lload d_Na_combine_100 rfl ?_
    refine wm_ldc2 (x := 1073741823) d_Na_combine_102 k5_202 (by decide) ?_
    refine wm_land d_Na_combine_105 ?_
    refine wm_l2i d_Na_combine_106 ?_
    have hOM33 : mOk M33 := by rw [e34]; exact mOk_UI hO h32
    refine wm_iastE d_Na_combine_107 h21 h31 h32 e34 ?_
    refine wm_aload_n d_Na_combine_108 rfl rfl ?_
    refine gf_Na_9 rfl d_Na_combine_109 (by rw [e34]; exact h23) ?_
    refine wm_iload d_Na_combine_112 rfl ?_
    refine wm_lload d_Na_combine_114 rfl ?_
    refine wm_ldc2 (x := 1073741823) d_Na_combine_116 k5_202 (by decide) ?_
    refine wm_land d_Na_combine_119 ?_
    refine wm_l2i d_Na_combine_120 ?_
    have hOM38 : mOk M38 := by rw [e39]; exact mOk_UI hOM33 h37
    refine wm_iastE d_Na_combine_121 h35 h36 h37 e39 ?_
    refine wm_lload d_Na_combine_122 rfl ?_
    refine wm_bipush d_Na_combine_124 (by decide) ?_
    refine wm_lshr d_Na_combine_126 ?_
    refine wm_lstore d_Na_combine_127 (by decide) (L' := [vr a0, vr a1, vr a2, vi l3, vl (shrL (j4 + (((mL M a2 0) * (mI M (mR M a0 0) (Int.toNat l8))) + ((mL M a2 1) * (mI M (mR M a1 0) (Int.toNat l8))))) 30), vd, vl (j6 + (((mL M a2 2) * (mI M (mR M a0 0) (Int.toNat l8))) + ((mL M a2 3) * (mI M (mR M a1 0) (Int.toNat l8))))), vd, vi l8, vl (mI M (mR M a0 0) (Int.toNat l8)), vd, vl (mI M (mR M a1 0) (Int.toNat l8)), vd]) rfl ?_
    refine wm_lload d_Na_combine_129 rfl ?_
    refine wm_bipush d_Na_combine_131 (by decide) ?_
    refine wm_lshr d_Na_combine_133 ?_
    refine wm_lstore d_Na_combine_134 (by decide) (L' := [vr a0, vr a1, vr a2, vi l3, vl (shrL (j4 + (((mL M a2 0) * (mI M (mR M a0 0) (Int.toNat l8))) + ((mL M a2 1) * (mI M (mR M a1 0) (Int.toNat l8))))) 30), vd, vl (shrL (j6 + (((mL M a2 2) * (mI M (mR M a0 0) (Int.toNat l8))) + ((mL M a2 3) * (mI M (mR M a1 0) (Int.toNat l8))))) 30), vd, vi l8, vl (mI M (mR M a0 0) (Int.toNat l8)), vd, vl (mI M (mR M a1 0) (Int.toNat l8)), vd]) rfl ?_
    refine wm_iinc d_Na_combine_136 (by decide) rfl (L' := [vr a0, vr a1, vr a2, vi l3, vl (shrL (j4 + (((mL M a2 0) * (mI M (mR M a0 0) (Int.toNat l8))) + ((mL M a2 1) * (mI M (mR M a1 0) (Int.toNat l8))))) 30), vd, vl (shrL (j6 + (((mL M a2 2) * (mI M (mR M a0 0) (Int.toNat l8))) + ((mL M a2 3) * (mI M (mR M a1 0) (Int.toNat l8))))) 30), vd, vi (l8 + 1), vl (mI M (mR M a0 0) (Int.toNat l8)), vd, vl (mI M (mR M a1 0) (Int.toNat l8)), vd]) rfl ?_
    refine wm_goto (tgt := 32) d_Na_combine_139 rfl ?_
    refine wm_less (L' := [vr a0, vr a1, vr a2, vi l3, vl (shrL (j4 + (((mL M a2 0) * (mI M (mR M a0 0) (Int.toNat l8))) + ((mL M a2 1) * (mI M (mR M a1 0) (Int.toNat l8))))) 30), vd, vl (shrL (j6 + (((mL M a2 2) * (mI M (mR M a0 0) (Int.toNat l8))) + ((mL M a2 3) * (mI M (mR M a1 0) (Int.toNat l8))))) 30), vd, vi (l8 + 1), vd, vd, vd, vd]) ⟨Or.inr rfl, Or.inr rfl, Or.inr rfl, Or.inr rfl, Or.inr rfl, Or.inl rfl, Or.inr rfl, Or.inl rfl, Or.inr rfl, Or.inl rfl, Or.inl rfl, Or.inl rfl, Or.inl rfl, trivial⟩ ?_
    exact h
theorem d_Pr_init_0 : decode y_Pr_init.2.1 0 = .ok (.aload_n 0, 1) := by decide +kernel
theorem d_Pr_init_1 : decode y_Pr_init.2.1 1 = .ok (.invokespecial 3, 3) := by decide +kernel
theorem d_Pr_init_4 : decode y_Pr_init.2.1 4 = .ok (.aload_n 0, 1) := by decide +kernel
theorem d_Pr_init_5 : decode y_Pr_init.2.1 5 = .ok (.sipush 128, 3) := by decide +kernel
theorem d_Pr_init_8 : decode y_Pr_init.2.1 8 = .ok (.newarray .int, 2) := by decide +kernel
theorem d_Pr_init_10 : decode y_Pr_init.2.1 10 = .ok (.putfield 9, 3) := by decide +kernel
theorem d_Pr_init_13 : decode y_Pr_init.2.1 13 = .ok (.aload_n 0, 1) := by decide +kernel
theorem d_Pr_init_14 : decode y_Pr_init.2.1 14 = .ok (.sipush 128, 3) := by decide +kernel
theorem d_Pr_init_17 : decode y_Pr_init.2.1 17 = .ok (.newarray .int, 2) := by decide +kernel
theorem d_Pr_init_19 : decode y_Pr_init.2.1 19 = .ok (.putfield 15, 3) := by decide +kernel
theorem d_Pr_init_22 : decode y_Pr_init.2.1 22 = .ok (.aload_n 0, 1) := by decide +kernel
theorem d_Pr_init_23 : decode y_Pr_init.2.1 23 = .ok (.bipush 12, 2) := by decide +kernel
theorem d_Pr_init_25 : decode y_Pr_init.2.1 25 = .ok (.newarray .int, 2) := by decide +kernel
theorem d_Pr_init_27 : decode y_Pr_init.2.1 27 = .ok (.putfield 18, 3) := by decide +kernel
theorem d_Pr_init_30 : decode y_Pr_init.2.1 30 = .ok (.aload_n 0, 1) := by decide +kernel
theorem d_Pr_init_31 : decode y_Pr_init.2.1 31 = .ok (.bipush 12, 2) := by decide +kernel
theorem d_Pr_init_33 : decode y_Pr_init.2.1 33 = .ok (.newarray .int, 2) := by decide +kernel
theorem d_Pr_init_35 : decode y_Pr_init.2.1 35 = .ok (.putfield 21, 3) := by decide +kernel
theorem d_Pr_init_38 : decode y_Pr_init.2.1 38 = .ok (.aload_n 0, 1) := by decide +kernel
theorem d_Pr_init_39 : decode y_Pr_init.2.1 39 = .ok (.bipush 12, 2) := by decide +kernel
theorem d_Pr_init_41 : decode y_Pr_init.2.1 41 = .ok (.newarray .int, 2) := by decide +kernel
theorem d_Pr_init_43 : decode y_Pr_init.2.1 43 = .ok (.putfield 24, 3) := by decide +kernel
theorem d_Pr_init_46 : decode y_Pr_init.2.1 46 = .ok (.aload_n 0, 1) := by decide +kernel
theorem d_Pr_init_47 : decode y_Pr_init.2.1 47 = .ok (.bipush 60, 2) := by decide +kernel
theorem d_Pr_init_49 : decode y_Pr_init.2.1 49 = .ok (.newarray .int, 2) := by decide +kernel
theorem d_Pr_init_51 : decode y_Pr_init.2.1 51 = .ok (.putfield 27, 3) := by decide +kernel
theorem d_Pr_init_54 : decode y_Pr_init.2.1 54 = .ok (.aload_n 0, 1) := by decide +kernel
theorem d_Pr_init_55 : decode y_Pr_init.2.1 55 = .ok (.bipush 60, 2) := by decide +kernel
theorem d_Pr_init_57 : decode y_Pr_init.2.1 57 = .ok (.newarray .int, 2) := by decide +kernel
theorem d_Pr_init_59 : decode y_Pr_init.2.1 59 = .ok (.putfield 30, 3) := by decide +kernel
theorem d_Pr_init_62 : decode y_Pr_init.2.1 62 = .ok (.aload_n 0, 1) := by decide +kernel
theorem d_Pr_init_63 : decode y_Pr_init.2.1 63 = .ok (.bipush 60, 2) := by decide +kernel
theorem d_Pr_init_65 : decode y_Pr_init.2.1 65 = .ok (.newarray .int, 2) := by decide +kernel
theorem d_Pr_init_67 : decode y_Pr_init.2.1 67 = .ok (.putfield 33, 3) := by decide +kernel
theorem d_Pr_init_70 : decode y_Pr_init.2.1 70 = .ok (.aload_n 0, 1) := by decide +kernel
theorem d_Pr_init_71 : decode y_Pr_init.2.1 71 = .ok (.bipush 60, 2) := by decide +kernel
theorem d_Pr_init_73 : decode y_Pr_init.2.1 73 = .ok (.newarray .int, 2) := by decide +kernel
theorem d_Pr_init_75 : decode y_Pr_init.2.1 75 = .ok (.putfield 36, 3) := by decide +kernel
theorem d_Pr_init_78 : decode y_Pr_init.2.1 78 = .ok (.aload_n 0, 1) := by decide +kernel
theorem d_Pr_init_79 : decode y_Pr_init.2.1 79 = .ok (.bipush 60, 2) := by decide +kernel
theorem d_Pr_init_81 : decode y_Pr_init.2.1 81 = .ok (.newarray .int, 2) := by decide +kernel
theorem d_Pr_init_83 : decode y_Pr_init.2.1 83 = .ok (.putfield 39, 3) := by decide +kernel
theorem d_Pr_init_86 : decode y_Pr_init.2.1 86 = .ok (.aload_n 0, 1) := by decide +kernel
theorem d_Pr_init_87 : decode y_Pr_init.2.1 87 = .ok (.bipush 60, 2) := by decide +kernel
theorem d_Pr_init_89 : decode y_Pr_init.2.1 89 = .ok (.newarray .int, 2) := by decide +kernel
theorem d_Pr_init_91 : decode y_Pr_init.2.1 91 = .ok (.putfield 42, 3) := by decide +kernel
theorem d_Pr_init_94 : decode y_Pr_init.2.1 94 = .ok (.aload_n 0, 1) := by decide +kernel
theorem d_Pr_init_95 : decode y_Pr_init.2.1 95 = .ok (.bipush 61, 2) := by decide +kernel
theorem d_Pr_init_97 : decode y_Pr_init.2.1 97 = .ok (.newarray .int, 2) := by decide +kernel
theorem d_Pr_init_99 : decode y_Pr_init.2.1 99 = .ok (.putfield 45, 3) := by decide +kernel
theorem d_Pr_init_102 : decode y_Pr_init.2.1 102 = .ok (.aload_n 0, 1) := by decide +kernel
theorem d_Pr_init_103 : decode y_Pr_init.2.1 103 = .ok (.sipush 480, 3) := by decide +kernel
theorem d_Pr_init_106 : decode y_Pr_init.2.1 106 = .ok (.newarray .int, 2) := by decide +kernel
theorem d_Pr_init_108 : decode y_Pr_init.2.1 108 = .ok (.putfield 48, 3) := by decide +kernel
theorem d_Pr_init_111 : decode y_Pr_init.2.1 111 = .ok (.aload_n 0, 1) := by decide +kernel
theorem d_Pr_init_112 : decode y_Pr_init.2.1 112 = .ok (.sipush 480, 3) := by decide +kernel
theorem d_Pr_init_115 : decode y_Pr_init.2.1 115 = .ok (.newarray .int, 2) := by decide +kernel
theorem d_Pr_init_117 : decode y_Pr_init.2.1 117 = .ok (.putfield 51, 3) := by decide +kernel
theorem d_Pr_init_120 : decode y_Pr_init.2.1 120 = .ok (.aload_n 0, 1) := by decide +kernel
theorem d_Pr_init_121 : decode y_Pr_init.2.1 121 = .ok (.sipush 480, 3) := by decide +kernel
theorem d_Pr_init_124 : decode y_Pr_init.2.1 124 = .ok (.newarray .int, 2) := by decide +kernel
theorem d_Pr_init_126 : decode y_Pr_init.2.1 126 = .ok (.putfield 54, 3) := by decide +kernel
theorem d_Pr_init_129 : decode y_Pr_init.2.1 129 = .ok (.return_, 1) := by decide +kernel
theorem k_Pr_init {G : mG} {d : Nat} {a0 : Nat} {M : mM} {Q : mM → Prop} (hO : mOk M)
    (h : 0 < a0 ∧ ∀ M2, M2 = mNew M 30 128 128 → mK M2 a0 = 6 ∧ ∀ M5, M5 = mUR M2 a0 0 (mZ M) → ∀ M7, M7 = mNew M5 30 128 128 → mK M7 a0 = 6 ∧ ∀ M10, M10 = mUR M7 a0 1 (mZ M5) → ∀ M12, M12 = mNew M10 30 12 12 → mK M12 a0 = 6 ∧ ∀ M15, M15 = mUR M12 a0 4 (mZ M10) → ∀ M17, M17 = mNew M15 30 12 12 → mK M17 a0 = 6 ∧ ∀ M20, M20 = mUR M17 a0 5 (mZ M15) → ∀ M22, M22 = mNew M20 30 12 12 → mK M22 a0 = 6 ∧ ∀ M25, M25 = mUR M22 a0 6 (mZ M20) → ∀ M27, M27 = mNew M25 30 60 60 → mK M27 a0 = 6 ∧ ∀ M30, M30 = mUR M27 a0 8 (mZ M25) → ∀ M32, M32 = mNew M30 30 60 60 → mK M32 a0 = 6 ∧ ∀ M35, M35 = mUR M32 a0 9 (mZ M30) → ∀ M37, M37 = mNew M35 30 60 60 → mK M37 a0 = 6 ∧ ∀ M40, M40 = mUR M37 a0 10 (mZ M35) → ∀ M42, M42 = mNew M40 30 60 60 → mK M42 a0 = 6 ∧ ∀ M45, M45 = mUR M42 a0 13 (mZ M40) → ∀ M47, M47 = mNew M45 30 60 60 → mK M47 a0 = 6 ∧ ∀ M50, M50 = mUR M47 a0 14 (mZ M45) → ∀ M52, M52 = mNew M50 30 60 60 → mK M52 a0 = 6 ∧ ∀ M55, M55 = mUR M52 a0 15 (mZ M50) → ∀ M57, M57 = mNew M55 30 61 61 → mK M57 a0 = 6 ∧ ∀ M60, M60 = mUR M57 a0 16 (mZ M55) → ∀ M62, M62 = mNew M60 30 480 480 → mK M62 a0 = 6 ∧ ∀ M65, M65 = mUR M62 a0 17 (mZ M60) → ∀ M67, M67 = mNew M65 30 480 480 → mK M67 a0 = 6 ∧ ∀ M70, M70 = mUR M67 a0 18 (mZ M65) → ∀ M72, M72 = mNew M70 30 480 480 → mK M72 a0 = 6 ∧ ∀ M75, M75 = mUR M72 a0 19 (mZ M70) → Q M75) :
    Cv G y_Pr_init (d + 1) [vr a0] M Q := by
  refine wm_open (y := y_Pr_init) rfl (Nat.le_of_ble_eq_true rfl) (L := [vr a0]) rfl ?_
  obtain ⟨h1, h⟩ := h
  obtain ⟨M2, e3⟩ : ∃ M2, M2 = mNew M 30 128 128 := ⟨_, rfl⟩
  replace h := h M2 e3
  obtain ⟨h4, h⟩ := h
  obtain ⟨M5, e6⟩ : ∃ M5, M5 = mUR M2 a0 0 (mZ M) := ⟨_, rfl⟩
  replace h := h M5 e6
  obtain ⟨M7, e8⟩ : ∃ M7, M7 = mNew M5 30 128 128 := ⟨_, rfl⟩
  replace h := h M7 e8
  obtain ⟨h9, h⟩ := h
  obtain ⟨M10, e11⟩ : ∃ M10, M10 = mUR M7 a0 1 (mZ M5) := ⟨_, rfl⟩
  replace h := h M10 e11
  obtain ⟨M12, e13⟩ : ∃ M12, M12 = mNew M10 30 12 12 := ⟨_, rfl⟩
  replace h := h M12 e13
  obtain ⟨h14, h⟩ := h
  obtain ⟨M15, e16⟩ : ∃ M15, M15 = mUR M12 a0 4 (mZ M10) := ⟨_, rfl⟩
  replace h := h M15 e16
  obtain ⟨M17, e18⟩ : ∃ M17, M17 = mNew M15 30 12 12 := ⟨_, rfl⟩
  replace h := h M17 e18
  obtain ⟨h19, h⟩ := h
  obtain ⟨M20, e21⟩ : ∃ M20, M20 = mUR M17 a0 5 (mZ M15) := ⟨_, rfl⟩
  replace h := h M20 e21
  obtain ⟨M22, e23⟩ : ∃ M22, M22 = mNew M20 30 12 12 := ⟨_, rfl⟩
  replace h := h M22 e23
  obtain ⟨h24, h⟩ := h
  obtain ⟨M25, e26⟩ : ∃ M25, M25 = mUR M22 a0 6 (mZ M20) := ⟨_, rfl⟩
  replace h := h M25 e26
  obtain ⟨M27, e28⟩ : ∃ M27, M27 = mNew M25 30 60 60 := ⟨_, rfl⟩
  replace h := h M27 e28
  obtain ⟨h29, h⟩ := h
  obtain ⟨M30, e31⟩ : ∃ M30, M30 = mUR M27 a0 8 (mZ M25) := ⟨_, rfl⟩
  replace h := h M30 e31
  obtain ⟨M32, e33⟩ : ∃ M32, M32 = mNew M30 30 60 60 := ⟨_, rfl⟩
  replace h := h M32 e33
  obtain ⟨h34, h⟩ := h
  obtain ⟨M35, e36⟩ : ∃ M35, M35 = mUR M32 a0 9 (mZ M30) := ⟨_, rfl⟩
  replace h := h M35 e36
  obtain ⟨M37, e38⟩ : ∃ M37, M37 = mNew M35 30 60 60 := ⟨_, rfl⟩
  replace h := h M37 e38
  obtain ⟨h39, h⟩ := h
  obtain ⟨M40, e41⟩ : ∃ M40, M40 = mUR M37 a0 10 (mZ M35) := ⟨_, rfl⟩
  replace h := h M40 e41
  obtain ⟨M42, e43⟩ : ∃ M42, M42 = mNew M40 30 60 60 := ⟨_, rfl⟩
  replace h := h M42 e43
  obtain ⟨h44, h⟩ := h
  obtain ⟨M45, e46⟩ : ∃ M45, M45 = mUR M42 a0 13 (mZ M40) := ⟨_, rfl⟩
  replace h := h M45 e46
  obtain ⟨M47, e48⟩ : ∃ M47, M47 = mNew M45 30 60 60 := ⟨_, rfl⟩
  replace h := h M47 e48
  obtain ⟨h49, h⟩ := h
  obtain ⟨M50, e51⟩ : ∃ M50, M50 = mUR M47 a0 14 (mZ M45) := ⟨_, rfl⟩
  replace h := h M50 e51
  obtain ⟨M52, e53⟩ : ∃ M52, M52 = mNew M50 30 60 60 := ⟨_, rfl⟩
  replace h := h M52 e53
  obtain ⟨h54, h⟩ := h
  obtain ⟨M55, e56⟩ : ∃ M55, M55 = mUR M52 a0 15 (mZ M50) := ⟨_, rfl⟩
  replace h := h M55 e56
  obtain ⟨M57, e58⟩ : ∃ M57, M57 = mNew M55 30 61 61 := ⟨_, rfl⟩
  replace h := h M57 e58
  obtain ⟨h59, h⟩ := h
  obtain ⟨M60, e61⟩ : ∃ M60, M60 = mUR M57 a0 16 (mZ M55) := ⟨_, rfl⟩
  replace h := h M60 e61
  obtain ⟨M62, e63⟩ : ∃ M62, M62 = mNew M60 30 480 480 := ⟨_, rfl⟩
  replace h := h M62 e63
  obtain ⟨h64, h⟩ := h
  obtain ⟨M65, e66⟩ : ∃ M65, M65 = mUR M62 a0 17 (mZ M60) := ⟨_, rfl⟩
  replace h := h M65 e66
  obtain ⟨M67, e68⟩ : ∃ M67, M67 = mNew M65 30 480 480 := ⟨_, rfl⟩
  replace h := h M67 e68
  obtain ⟨h69, h⟩ := h
  obtain ⟨M70, e71⟩ : ∃ M70, M70 = mUR M67 a0 18 (mZ M65) := ⟨_, rfl⟩
  replace h := h M70 e71
  obtain ⟨M72, e73⟩ : ∃ M72, M72 = mNew M70 30 480 480 := ⟨_, rfl⟩
  replace h := h M72 e73
  obtain ⟨h74, h⟩ := h
  obtain ⟨M75, e76⟩ : ∃ M75, M75 = mUR M72 a0 19 (mZ M70) := ⟨_, rfl⟩
  replace h := h M75 e76
  refine wm_aload_n d_Pr_init_0 rfl rfl ?_
  refine wm_objInit trivial k2_22 kO_inst kO_code (Nat.le_of_ble_eq_true rfl) d_Pr_init_1 h1 ?_
  refine wm_aload_n d_Pr_init_4 rfl rfl ?_
  refine wm_sipush d_Pr_init_5 (by decide) ?_
  have hOM2 : mOk M2 := by rw [e3]; exact mOk_New hO
  refine wm_newarrE 0 (atype := .int) (ty := .int) rfl rfl (fun _ => rfl) rfl rfl (by decide) k1_82 ⟨by decide, by decide⟩ d_Pr_init_8 e3 ?_
  have hOM5 : mOk M5 := by rw [e6]; exact mOk_UR hOM2
  refine pf_Pr_9 rfl d_Pr_init_10 h4 e6 ?_
  refine wm_aload_n d_Pr_init_13 rfl rfl ?_
  refine wm_sipush d_Pr_init_14 (by decide) ?_
  have hOM7 : mOk M7 := by rw [e8]; exact mOk_New hOM5
  refine wm_newarrE 0 (atype := .int) (ty := .int) rfl rfl (fun _ => rfl) rfl rfl (by decide) k1_82 ⟨by decide, by decide⟩ d_Pr_init_17 e8 ?_
  have hOM10 : mOk M10 := by rw [e11]; exact mOk_UR hOM7
  refine pf_Pr_15 rfl d_Pr_init_19 h9 e11 ?_
  refine wm_aload_n d_Pr_init_22 rfl rfl ?_
  refine wm_bipush d_Pr_init_23 (by decide) ?_
  have hOM12 : mOk M12 := by rw [e13]; exact mOk_New hOM10
  refine wm_newarrE 0 (atype := .int) (ty := .int) rfl rfl (fun _ => rfl) rfl rfl (by decide) k1_82 ⟨by decide, by decide⟩ d_Pr_init_25 e13 ?_
  have hOM15 : mOk M15 := by rw [e16]; exact mOk_UR hOM12
  refine pf_Pr_18 rfl rfl d_Pr_init_27 h14 e16 ?_
  refine wm_aload_n d_Pr_init_30 rfl rfl ?_
  refine wm_bipush d_Pr_init_31 (by decide) ?_
  have hOM17 : mOk M17 := by rw [e18]; exact mOk_New hOM15
  refine wm_newarrE 0 (atype := .int) (ty := .int) rfl rfl (fun _ => rfl) rfl rfl (by decide) k1_82 ⟨by decide, by decide⟩ d_Pr_init_33 e18 ?_
  have hOM20 : mOk M20 := by rw [e21]; exact mOk_UR hOM17
  refine pf_Pr_21 rfl rfl d_Pr_init_35 h19 e21 ?_
  refine wm_aload_n d_Pr_init_38 rfl rfl ?_
  refine wm_bipush d_Pr_init_39 (by decide) ?_
  have hOM22 : mOk M22 := by rw [e23]; exact mOk_New hOM20
  refine wm_newarrE 0 (atype := .int) (ty := .int) rfl rfl (fun _ => rfl) rfl rfl (by decide) k1_82 ⟨by decide, by decide⟩ d_Pr_init_41 e23 ?_
  have hOM25 : mOk M25 := by rw [e26]; exact mOk_UR hOM22
  refine pf_Pr_24 rfl rfl d_Pr_init_43 h24 e26 ?_
  refine wm_aload_n d_Pr_init_46 rfl rfl ?_
  refine wm_bipush d_Pr_init_47 (by decide) ?_
  have hOM27 : mOk M27 := by rw [e28]; exact mOk_New hOM25
  refine wm_newarrE 0 (atype := .int) (ty := .int) rfl rfl (fun _ => rfl) rfl rfl (by decide) k1_82 ⟨by decide, by decide⟩ d_Pr_init_49 e28 ?_
  have hOM30 : mOk M30 := by rw [e31]; exact mOk_UR hOM27
  refine pf_Pr_27 rfl rfl d_Pr_init_51 h29 e31 ?_
  refine wm_aload_n d_Pr_init_54 rfl rfl ?_
  refine wm_bipush d_Pr_init_55 (by decide) ?_
  have hOM32 : mOk M32 := by rw [e33]; exact mOk_New hOM30
  refine wm_newarrE 0 (atype := .int) (ty := .int) rfl rfl (fun _ => rfl) rfl rfl (by decide) k1_82 ⟨by decide, by decide⟩ d_Pr_init_57 e33 ?_
  have hOM35 : mOk M35 := by rw [e36]; exact mOk_UR hOM32
  refine pf_Pr_30 rfl rfl d_Pr_init_59 h34 e36 ?_
  refine wm_aload_n d_Pr_init_62 rfl rfl ?_
  refine wm_bipush d_Pr_init_63 (by decide) ?_
  have hOM37 : mOk M37 := by rw [e38]; exact mOk_New hOM35
  refine wm_newarrE 0 (atype := .int) (ty := .int) rfl rfl (fun _ => rfl) rfl rfl (by decide) k1_82 ⟨by decide, by decide⟩ d_Pr_init_65 e38 ?_
  have hOM40 : mOk M40 := by rw [e41]; exact mOk_UR hOM37
  refine pf_Pr_33 rfl rfl d_Pr_init_67 h39 e41 ?_
  refine wm_aload_n d_Pr_init_70 rfl rfl ?_
  refine wm_bipush d_Pr_init_71 (by decide) ?_
  have hOM42 : mOk M42 := by rw [e43]; exact mOk_New hOM40
  refine wm_newarrE 0 (atype := .int) (ty := .int) rfl rfl (fun _ => rfl) rfl rfl (by decide) k1_82 ⟨by decide, by decide⟩ d_Pr_init_73 e43 ?_
  have hOM45 : mOk M45 := by rw [e46]; exact mOk_UR hOM42
  refine pf_Pr_36 rfl rfl d_Pr_init_75 h44 e46 ?_
  refine wm_aload_n d_Pr_init_78 rfl rfl ?_
  refine wm_bipush d_Pr_init_79 (by decide) ?_
  have hOM47 : mOk M47 := by rw [e48]; exact mOk_New hOM45
  refine wm_newarrE 0 (atype := .int) (ty := .int) rfl rfl (fun _ => rfl) rfl rfl (by decide) k1_82 ⟨by decide, by decide⟩ d_Pr_init_81 e48 ?_
  have hOM50 : mOk M50 := by rw [e51]; exact mOk_UR hOM47
  refine pf_Pr_39 rfl rfl d_Pr_init_83 h49 e51 ?_
  refine wm_aload_n d_Pr_init_86 rfl rfl ?_
  refine wm_bipush d_Pr_init_87 (by decide) ?_
  have hOM52 : mOk M52 := by rw [e53]; exact mOk_New hOM50
  refine wm_newarrE 0 (atype := .int) (ty := .int) rfl rfl (fun _ => rfl) rfl rfl (by decide) k1_82 ⟨by decide, by decide⟩ d_Pr_init_89 e53 ?_
  have hOM55 : mOk M55 := by rw [e56]; exact mOk_UR hOM52
  refine pf_Pr_42 rfl rfl d_Pr_init_91 h54 e56 ?_
  refine wm_aload_n d_Pr_init_94 rfl rfl ?_
  refine wm_bipush d_Pr_init_95 (by decide) ?_
  have hOM57 : mOk M57 := by rw [e58]; exact mOk_New hOM55
  refine wm_newarrE 0 (atype := .int) (ty := .int) rfl rfl (fun _ => rfl) rfl rfl (by decide) k1_82 ⟨by decide, by decide⟩ d_Pr_init_97 e58 ?_
  have hOM60 : mOk M60 := by rw [e61]; exact mOk_UR hOM57
  refine pf_Pr_45 rfl rfl d_Pr_init_99 h59 e61 ?_
  refine wm_aload_n d_Pr_init_102 rfl rfl ?_
  refine wm_sipush d_Pr_init_103 (by decide) ?_
  have hOM62 : mOk M62 := by rw [e63]; exact mOk_New hOM60
  refine wm_newarrE 0 (atype := .int) (ty := .int) rfl rfl (fun _ => rfl) rfl rfl (by decide) k1_82 ⟨by decide, by decide⟩ d_Pr_init_106 e63 ?_
  have hOM65 : mOk M65 := by rw [e66]; exact mOk_UR hOM62
  refine pf_Pr_48 rfl rfl d_Pr_init_108 h64 e66 ?_
  refine wm_aload_n d_Pr_init_111 rfl rfl ?_
  refine wm_sipush d_Pr_init_112 (by decide) ?_
  have hOM67 : mOk M67 := by rw [e68]; exact mOk_New hOM65
  refine wm_newarrE 0 (atype := .int) (ty := .int) rfl rfl (fun _ => rfl) rfl rfl (by decide) k1_82 ⟨by decide, by decide⟩ d_Pr_init_115 e68 ?_
  have hOM70 : mOk M70 := by rw [e71]; exact mOk_UR hOM67
  refine pf_Pr_51 rfl rfl d_Pr_init_117 h69 e71 ?_
  refine wm_aload_n d_Pr_init_120 rfl rfl ?_
  refine wm_sipush d_Pr_init_121 (by decide) ?_
  have hOM72 : mOk M72 := by rw [e73]; exact mOk_New hOM70
  refine wm_newarrE 0 (atype := .int) (ty := .int) rfl rfl (fun _ => rfl) rfl rfl (by decide) k1_82 ⟨by decide, by decide⟩ d_Pr_init_124 e73 ?_
  have hOM75 : mOk M75 := by rw [e76]; exact mOk_UR hOM72
  refine pf_Pr_54 rfl rfl d_Pr_init_126 h74 e76 ?_
  refine wm_return d_Pr_init_129 rfl ?_
  exact ⟨rfl, h⟩
theorem d_Pr_clear_0 : decode y_Pr_clear.2.1 0 = .ok (.aload_n 0, 1) := by decide +kernel
theorem d_Pr_clear_1 : decode y_Pr_clear.2.1 1 = .ok (.iconst 0, 1) := by decide +kernel
theorem d_Pr_clear_2 : decode y_Pr_clear.2.1 2 = .ok (.putfield 57, 3) := by decide +kernel
theorem d_Pr_clear_5 : decode y_Pr_clear.2.1 5 = .ok (.aload_n 0, 1) := by decide +kernel
theorem d_Pr_clear_6 : decode y_Pr_clear.2.1 6 = .ok (.iconst 0, 1) := by decide +kernel
theorem d_Pr_clear_7 : decode y_Pr_clear.2.1 7 = .ok (.putfield 61, 3) := by decide +kernel
theorem d_Pr_clear_10 : decode y_Pr_clear.2.1 10 = .ok (.aload_n 0, 1) := by decide +kernel
theorem d_Pr_clear_11 : decode y_Pr_clear.2.1 11 = .ok (.iconst 0, 1) := by decide +kernel
theorem d_Pr_clear_12 : decode y_Pr_clear.2.1 12 = .ok (.putfield 64, 3) := by decide +kernel
theorem d_Pr_clear_15 : decode y_Pr_clear.2.1 15 = .ok (.aload_n 0, 1) := by decide +kernel
theorem d_Pr_clear_16 : decode y_Pr_clear.2.1 16 = .ok (.iconst 0, 1) := by decide +kernel
theorem d_Pr_clear_17 : decode y_Pr_clear.2.1 17 = .ok (.putfield 67, 3) := by decide +kernel
theorem d_Pr_clear_20 : decode y_Pr_clear.2.1 20 = .ok (.aload_n 0, 1) := by decide +kernel
theorem d_Pr_clear_21 : decode y_Pr_clear.2.1 21 = .ok (.iconst (-1), 1) := by decide +kernel
theorem d_Pr_clear_22 : decode y_Pr_clear.2.1 22 = .ok (.putfield 70, 3) := by decide +kernel
theorem d_Pr_clear_25 : decode y_Pr_clear.2.1 25 = .ok (.aload_n 0, 1) := by decide +kernel
theorem d_Pr_clear_26 : decode y_Pr_clear.2.1 26 = .ok (.getfield 45, 3) := by decide +kernel
theorem d_Pr_clear_29 : decode y_Pr_clear.2.1 29 = .ok (.iconst 0, 1) := by decide +kernel
theorem d_Pr_clear_30 : decode y_Pr_clear.2.1 30 = .ok (.iconst 0, 1) := by decide +kernel
theorem d_Pr_clear_31 : decode y_Pr_clear.2.1 31 = .ok (.iastore, 1) := by decide +kernel
theorem d_Pr_clear_32 : decode y_Pr_clear.2.1 32 = .ok (.aload_n 0, 1) := by decide +kernel
theorem d_Pr_clear_33 : decode y_Pr_clear.2.1 33 = .ok (.getfield 9, 3) := by decide +kernel
theorem d_Pr_clear_36 : decode y_Pr_clear.2.1 36 = .ok (.arraylength, 1) := by decide +kernel
theorem d_Pr_clear_37 : decode y_Pr_clear.2.1 37 = .ok (.istore_n 2, 1) := by decide +kernel
theorem d_Pr_clear_38 : decode y_Pr_clear.2.1 38 = .ok (.iconst 0, 1) := by decide +kernel
theorem d_Pr_clear_39 : decode y_Pr_clear.2.1 39 = .ok (.istore_n 3, 1) := by decide +kernel
theorem d_Pr_clear_40 : decode y_Pr_clear.2.1 40 = .ok (.iload_n 3, 1) := by decide +kernel
theorem d_Pr_clear_41 : decode y_Pr_clear.2.1 41 = .ok (.bipush 31, 2) := by decide +kernel
theorem d_Pr_clear_43 : decode y_Pr_clear.2.1 43 = .ok (.if_icmp .ge 18, 3) := by decide +kernel
theorem d_Pr_clear_46 : decode y_Pr_clear.2.1 46 = .ok (.iload_n 2, 1) := by decide +kernel
theorem d_Pr_clear_47 : decode y_Pr_clear.2.1 47 = .ok (.iload_n 1, 1) := by decide +kernel
theorem d_Pr_clear_48 : decode y_Pr_clear.2.1 48 = .ok (.if_icmp .ge 13, 3) := by decide +kernel
theorem d_Pr_clear_51 : decode y_Pr_clear.2.1 51 = .ok (.iload_n 2, 1) := by decide +kernel
theorem d_Pr_clear_52 : decode y_Pr_clear.2.1 52 = .ok (.iconst 2, 1) := by decide +kernel
theorem d_Pr_clear_53 : decode y_Pr_clear.2.1 53 = .ok (.imul, 1) := by decide +kernel
theorem d_Pr_clear_54 : decode y_Pr_clear.2.1 54 = .ok (.istore_n 2, 1) := by decide +kernel
theorem d_Pr_clear_55 : decode y_Pr_clear.2.1 55 = .ok (.iinc 3 1, 3) := by decide +kernel
theorem d_Pr_clear_58 : decode y_Pr_clear.2.1 58 = .ok (.goto (-18), 3) := by decide +kernel
theorem d_Pr_clear_61 : decode y_Pr_clear.2.1 61 = .ok (.iload_n 2, 1) := by decide +kernel
theorem d_Pr_clear_62 : decode y_Pr_clear.2.1 62 = .ok (.aload_n 0, 1) := by decide +kernel
theorem d_Pr_clear_63 : decode y_Pr_clear.2.1 63 = .ok (.getfield 9, 3) := by decide +kernel
theorem d_Pr_clear_66 : decode y_Pr_clear.2.1 66 = .ok (.arraylength, 1) := by decide +kernel
theorem d_Pr_clear_67 : decode y_Pr_clear.2.1 67 = .ok (.if_icmp .le 17, 3) := by decide +kernel
theorem d_Pr_clear_70 : decode y_Pr_clear.2.1 70 = .ok (.aload_n 0, 1) := by decide +kernel
theorem d_Pr_clear_71 : decode y_Pr_clear.2.1 71 = .ok (.iload_n 2, 1) := by decide +kernel
theorem d_Pr_clear_84 : decode y_Pr_clear.2.1 84 = .ok (.return_, 1) := by decide +kernel
theorem d_Pr_clear_72 : decode y_Pr_clear.2.1 72 = .ok (.newarray .int, 2) := by decide +kernel
theorem d_Pr_clear_74 : decode y_Pr_clear.2.1 74 = .ok (.putfield 9, 3) := by decide +kernel
theorem d_Pr_clear_77 : decode y_Pr_clear.2.1 77 = .ok (.aload_n 0, 1) := by decide +kernel
theorem d_Pr_clear_78 : decode y_Pr_clear.2.1 78 = .ok (.iload_n 2, 1) := by decide +kernel
theorem d_Pr_clear_79 : decode y_Pr_clear.2.1 79 = .ok (.newarray .int, 2) := by decide +kernel
theorem d_Pr_clear_81 : decode y_Pr_clear.2.1 81 = .ok (.putfield 15, 3) := by decide +kernel
def h_Pr_clear_40 (G : mG) (d : Nat) (a0 : Nat) (l1 : Int) (l2 : Int) (l3 : Int) (M : mM) (Q : mM → Prop) : Prop := mWm G y_Pr_clear d 40 [vr a0, vi l1, vi l2, vi l3] [] M (fun r9 M9 => r9 = none ∧ Q M9)
theorem k_Pr_clear {G : mG} {d : Nat} {a0 : Nat} {l1 : Int} {M : mM} {Q : mM → Prop} (hO : mOk M) (hi_l1 : i32 l1)
    (h : mK M a0 = 6 ∧ ∀ M2, M2 = mUI M a0 2 0 → ∀ M4, M4 = mUI M2 a0 3 0 → ∀ M6, M6 = mUI M4 a0 7 0 → ∀ M8, M8 = mUI M6 a0 12 0 → ∀ M10, M10 = mUI M8 a0 11 (-1) → mK M10 (mR M10 a0 16) = 30 ∧ ((0 : Int) ≤ 0 ∧ 0 < (mN M10 (mR M10 a0 16) : Int)) ∧ ∀ M14, M14 = mUI M10 (mR M10 a0 16) 0 0 → mK M14 (mR M14 a0 0) = 30 ∧ h_Pr_clear_40 G d a0 l1 (mN M14 (mR M14 a0 0) : Int) 0 M14 Q) :
    Cv G y_Pr_clear d [vr a0, vi l1] M Q := by
  refine wm_open (y := y_Pr_clear) rfl (Nat.le_of_ble_eq_true rfl) (L := [vr a0, vi l1, vd, vd]) rfl ?_
  obtain ⟨h1, h⟩ := h
  obtain ⟨M2, e3⟩ : ∃ M2, M2 = mUI M a0 2 0 := ⟨_, rfl⟩
  replace h := h M2 e3
  obtain ⟨M4, e5⟩ : ∃ M4, M4 = mUI M2 a0 3 0 := ⟨_, rfl⟩
  replace h := h M4 e5
  obtain ⟨M6, e7⟩ : ∃ M6, M6 = mUI M4 a0 7 0 := ⟨_, rfl⟩
  replace h := h M6 e7
  obtain ⟨M8, e9⟩ : ∃ M8, M8 = mUI M6 a0 12 0 := ⟨_, rfl⟩
  replace h := h M8 e9
  obtain ⟨M10, e11⟩ : ∃ M10, M10 = mUI M8 a0 11 (-1) := ⟨_, rfl⟩
  replace h := h M10 e11
  obtain ⟨h12, h⟩ := h
  obtain ⟨h13, h⟩ := h
  obtain ⟨M14, e15⟩ : ∃ M14, M14 = mUI M10 (mR M10 a0 16) 0 0 := ⟨_, rfl⟩
  replace h := h M14 e15
  obtain ⟨h16, h⟩ := h
  refine wm_aload_n d_Pr_clear_0 rfl rfl ?_
  refine wm_iconst d_Pr_clear_1 ?_
  have hOM2 : mOk M2 := by rw [e3]; exact mOk_UI hO ⟨by decide, by decide⟩
  refine pf_Pr_57 rfl d_Pr_clear_2 h1 ⟨by decide, by decide⟩ e3 ?_
  refine wm_aload_n d_Pr_clear_5 rfl rfl ?_
  refine wm_iconst d_Pr_clear_6 ?_
  have hOM4 : mOk M4 := by rw [e5]; exact mOk_UI hOM2 ⟨by decide, by decide⟩
  refine pf_Pr_61 rfl d_Pr_clear_7 (by rw [e3]; exact h1) ⟨by decide, by decide⟩ e5 ?_
  refine wm_aload_n d_Pr_clear_10 rfl rfl ?_
  refine wm_iconst d_Pr_clear_11 ?_
  have hOM6 : mOk M6 := by rw [e7]; exact mOk_UI hOM4 ⟨by decide, by decide⟩
  refine pf_Pr_64 rfl d_Pr_clear_12 (by rw [e5, e3]; exact h1) ⟨by decide, by decide⟩ e7 ?_
  refine wm_aload_n d_Pr_clear_15 rfl rfl ?_
  refine wm_iconst d_Pr_clear_16 ?_
  have hOM8 : mOk M8 := by rw [e9]; exact mOk_UI hOM6 ⟨by decide, by decide⟩
  refine pf_Pr_67 rfl d_Pr_clear_17 (by rw [e7, e5, e3]; exact h1) ⟨by decide, by decide⟩ e9 ?_
  refine wm_aload_n d_Pr_clear_20 rfl rfl ?_
  refine wm_iconst d_Pr_clear_21 ?_
  have hOM10 : mOk M10 := by rw [e11]; exact mOk_UI hOM8 ⟨by decide, by decide⟩
  refine pf_Pr_70 rfl d_Pr_clear_22 (by rw [e9, e7, e5, e3]; exact h1) ⟨by decide, by decide⟩ e11 ?_
  refine wm_aload_n d_Pr_clear_25 rfl rfl ?_
  refine gf_Pr_45 rfl d_Pr_clear_26 (by rw [e11, e9, e7, e5, e3]; exact h1) ?_
  refine wm_iconst d_Pr_clear_29 ?_
  refine wm_iconst d_Pr_clear_30 ?_
  have hOM14 : mOk M14 := by rw [e15]; exact mOk_UI hOM10 ⟨by decide, by decide⟩
  refine wm_iastE d_Pr_clear_31 h12 h13 ⟨by decide, by decide⟩ e15 ?_
  refine wm_aload_n d_Pr_clear_32 rfl rfl ?_
  refine gf_Pr_9 rfl d_Pr_clear_33 (by rw [e15, e11, e9, e7, e5, e3]; exact h1) ?_
  refine wm_alen 0 rfl (fun _ => rfl) d_Pr_clear_36 h16 ?_
  refine wm_istore_n d_Pr_clear_37 rfl (by decide) (L' := [vr a0, vi l1, vi (mN M14 (mR M14 a0 0) : Int), vd]) rfl ?_
  refine wm_iconst d_Pr_clear_38 ?_
  refine wm_istore_n d_Pr_clear_39 rfl (by decide) (L' := [vr a0, vi l1, vi (mN M14 (mR M14 a0 0) : Int), vi 0]) rfl ?_
  exact h
theorem k_Pr_clear_40 {G : mG} {d : Nat} {a0 : Nat} {l1 : Int} {l2 : Int} {l3 : Int} {M : mM} {Q : mM → Prop} (hO : mOk M) (hi_l1 : i32 l1) (hi_l2 : i32 l2) (hi_l3 : i32 l3)
    (h : (((31 ≤ l3) ∨ (l1 ≤ l2)) → (mK M a0 = 6 ∧ mK M (mR M a0 0) = 30 ∧ i32 (mN M (mR M a0 0) : Int) ∧ ((l2 ≤ (mN M (mR M a0 0) : Int)) → (Q M)) ∧ (¬ (l2 ≤ (mN M (mR M a0 0) : Int)) → (((0 : Int) ≤ l2 ∧ l2 ≤ 16777216) ∧ ∀ M30, M30 = mNew M 30 (Int.toNat l2) (Int.toNat l2) → mK M30 a0 = 6 ∧ ∀ M33, M33 = mUR M30 a0 0 (mZ M) → ((0 : Int) ≤ l2 ∧ l2 ≤ 16777216) ∧ ∀ M36, M36 = mNew M33 30 (Int.toNat l2) (Int.toNat l2) → mK M36 a0 = 6 ∧ ∀ M39, M39 = mUR M36 a0 1 (mZ M33) → Q M39)))) ∧ (¬ ((31 ≤ l3) ∨ (l1 ≤ l2)) → (h_Pr_clear_40 G d a0 l1 (l2 * 2) (l3 + 1) M Q))) :
    h_Pr_clear_40 G d a0 l1 l2 l3 M Q := by
  unfold h_Pr_clear_40
  refine wm_iload_n d_Pr_clear_40 rfl rfl ?_
  refine wm_bipush d_Pr_clear_41 (by decide) ?_
  have hE0 : ((31 ≤ l3) ∨ (l1 ≤ l2)) → mWm G y_Pr_clear d 61 [vr a0, vi l1, vi l2, vi l3] [] M (fun r9 M9 => r9 = none ∧ Q M9) := by
    intro q20
    have h := h.1 q20
    obtain ⟨h21, h⟩ := h
    obtain ⟨h22, h⟩ := h
    obtain ⟨h27, h⟩ := h
    refine wm_iload_n d_Pr_clear_61 rfl rfl ?_
    refine wm_aload_n d_Pr_clear_62 rfl rfl ?_
    refine gf_Pr_9 rfl d_Pr_clear_63 h21 ?_
    refine wm_alen 0 rfl (fun _ => rfl) d_Pr_clear_66 h22 ?_
    refine wm_icmp_le (tgt := 84) d_Pr_clear_67 rfl hi_l2 h27 (fun c28 => ?_) (fun c28 => ?_)
    · replace h := h.1 c28
      refine wm_return d_Pr_clear_84 rfl ?_
      exact ⟨rfl, h⟩
    · replace h := h.2 c28
      obtain ⟨h29, h⟩ := h
      obtain ⟨M30, e31⟩ : ∃ M30, M30 = mNew M 30 (Int.toNat l2) (Int.toNat l2) := ⟨_, rfl⟩
      replace h := h M30 e31
      obtain ⟨h32, h⟩ := h
      obtain ⟨M33, e34⟩ : ∃ M33, M33 = mUR M30 a0 0 (mZ M) := ⟨_, rfl⟩
      replace h := h M33 e34
      obtain ⟨h35, h⟩ := h
      obtain ⟨M36, e37⟩ : ∃ M36, M36 = mNew M33 30 (Int.toNat l2) (Int.toNat l2) := ⟨_, rfl⟩
      replace h := h M36 e37
      obtain ⟨h38, h⟩ := h
      obtain ⟨M39, e40⟩ : ∃ M39, M39 = mUR M36 a0 1 (mZ M33) := ⟨_, rfl⟩
      replace h := h M39 e40
      refine wm_aload_n d_Pr_clear_70 rfl rfl ?_
      refine wm_iload_n d_Pr_clear_71 rfl rfl ?_
      have hOM30 : mOk M30 := by rw [e31]; exact mOk_New hO
      refine wm_newarrE 0 (atype := .int) (ty := .int) rfl rfl (fun _ => rfl) rfl rfl (by decide) k1_82 h29 d_Pr_clear_72 e31 ?_
      have hOM33 : mOk M33 := by rw [e34]; exact mOk_UR hOM30
      refine pf_Pr_9 rfl d_Pr_clear_74 h32 e34 ?_
      refine wm_aload_n d_Pr_clear_77 rfl rfl ?_
      refine wm_iload_n d_Pr_clear_78 rfl rfl ?_
      have hOM36 : mOk M36 := by rw [e37]; exact mOk_New hOM33
      refine wm_newarrE 0 (atype := .int) (ty := .int) rfl rfl (fun _ => rfl) rfl rfl (by decide) k1_82 h35 d_Pr_clear_79 e37 ?_
      have hOM39 : mOk M39 := by rw [e40]; exact mOk_UR hOM36
      refine pf_Pr_15 rfl d_Pr_clear_81 h38 e40 ?_
      refine wm_return d_Pr_clear_84 rfl ?_
      exact ⟨rfl, h⟩
  have hE1 : ¬ ((31 ≤ l3) ∨ (l1 ≤ l2)) → mWm G y_Pr_clear d 51 [vr a0, vi l1, vi l2, vi l3] [] M (fun r9 M9 => r9 = none ∧ Q M9) := by
    intro q41
    have h := h.2 q41
    refine wm_iload_n d_Pr_clear_51 rfl rfl ?_
    refine wm_iconst d_Pr_clear_52 ?_
    refine wm_imul d_Pr_clear_53 ?_
    refine wm_istore_n d_Pr_clear_54 rfl (by decide) (L' := [vr a0, vi l1, vi (l2 * 2), vi l3]) rfl ?_
    refine wm_iinc d_Pr_clear_55 (by decide) rfl (L' := [vr a0, vi l1, vi (l2 * 2), vi (l3 + 1)]) rfl ?_
    refine wm_goto (tgt := 40) d_Pr_clear_58 rfl ?_
    exact h
  clear h
  refine wm_icmp_ge (tgt := 61) d_Pr_clear_43 rfl hi_l3 ⟨by decide, by decide⟩ (fun c18 => ?_) (fun c18 => ?_)
  · exact hE0 (Or.inl c18)
  · refine wm_iload_n d_Pr_clear_46 rfl rfl ?_
    refine wm_iload_n d_Pr_clear_47 rfl rfl ?_
    refine wm_icmp_ge (tgt := 61) d_Pr_clear_48 rfl hi_l2 hi_l1 (fun c17 => ?_) (fun c17 => ?_)
    · exact hE0 (Or.inr c17)
    · exact hE1 (fun z42 => Or.elim z42 c18 c17)
theorem d_Pr_add_0 : decode y_Pr_add.2.1 0 = .ok (.aload_n 0, 1) := by decide +kernel
theorem d_Pr_add_1 : decode y_Pr_add.2.1 1 = .ok (.getfield 57, 3) := by decide +kernel
theorem d_Pr_add_4 : decode y_Pr_add.2.1 4 = .ok (.aload_n 0, 1) := by decide +kernel
theorem d_Pr_add_5 : decode y_Pr_add.2.1 5 = .ok (.getfield 9, 3) := by decide +kernel
theorem d_Pr_add_8 : decode y_Pr_add.2.1 8 = .ok (.arraylength, 1) := by decide +kernel
theorem d_Pr_add_9 : decode y_Pr_add.2.1 9 = .ok (.if_icmp .ge 33, 3) := by decide +kernel
theorem d_Pr_add_12 : decode y_Pr_add.2.1 12 = .ok (.aload_n 0, 1) := by decide +kernel
theorem d_Pr_add_13 : decode y_Pr_add.2.1 13 = .ok (.getfield 9, 3) := by decide +kernel
theorem d_Pr_add_16 : decode y_Pr_add.2.1 16 = .ok (.aload_n 0, 1) := by decide +kernel
theorem d_Pr_add_17 : decode y_Pr_add.2.1 17 = .ok (.getfield 57, 3) := by decide +kernel
theorem d_Pr_add_20 : decode y_Pr_add.2.1 20 = .ok (.iload_n 1, 1) := by decide +kernel
theorem d_Pr_add_21 : decode y_Pr_add.2.1 21 = .ok (.iastore, 1) := by decide +kernel
theorem d_Pr_add_22 : decode y_Pr_add.2.1 22 = .ok (.aload_n 0, 1) := by decide +kernel
theorem d_Pr_add_23 : decode y_Pr_add.2.1 23 = .ok (.getfield 15, 3) := by decide +kernel
theorem d_Pr_add_26 : decode y_Pr_add.2.1 26 = .ok (.aload_n 0, 1) := by decide +kernel
theorem d_Pr_add_27 : decode y_Pr_add.2.1 27 = .ok (.getfield 57, 3) := by decide +kernel
theorem d_Pr_add_30 : decode y_Pr_add.2.1 30 = .ok (.iload_n 2, 1) := by decide +kernel
theorem d_Pr_add_31 : decode y_Pr_add.2.1 31 = .ok (.iastore, 1) := by decide +kernel
theorem d_Pr_add_42 : decode y_Pr_add.2.1 42 = .ok (.aload_n 0, 1) := by decide +kernel
theorem d_Pr_add_43 : decode y_Pr_add.2.1 43 = .ok (.getfield 57, 3) := by decide +kernel
theorem d_Pr_add_46 : decode y_Pr_add.2.1 46 = .ok (.iconst 1, 1) := by decide +kernel
theorem d_Pr_add_47 : decode y_Pr_add.2.1 47 = .ok (.isub, 1) := by decide +kernel
theorem d_Pr_add_48 : decode y_Pr_add.2.1 48 = .ok (.ireturn, 1) := by decide +kernel
theorem d_Pr_add_32 : decode y_Pr_add.2.1 32 = .ok (.aload_n 0, 1) := by decide +kernel
theorem d_Pr_add_33 : decode y_Pr_add.2.1 33 = .ok (.dup, 1) := by decide +kernel
theorem d_Pr_add_34 : decode y_Pr_add.2.1 34 = .ok (.getfield 57, 3) := by decide +kernel
theorem d_Pr_add_37 : decode y_Pr_add.2.1 37 = .ok (.iconst 1, 1) := by decide +kernel
theorem d_Pr_add_38 : decode y_Pr_add.2.1 38 = .ok (.iadd, 1) := by decide +kernel
theorem d_Pr_add_39 : decode y_Pr_add.2.1 39 = .ok (.putfield 57, 3) := by decide +kernel
theorem k_Pr_add {G : mG} {d : Nat} {a0 : Nat} {l1 : Int} {l2 : Int} {M : mM} {Q : Int → mM → Prop} (hO : mOk M) (hi_l1 : i32 l1) (hi_l2 : i32 l2)
    (h : mK M a0 = 6 ∧ mK M (mR M a0 0) = 30 ∧ i32 (mN M (mR M a0 0) : Int) ∧ (((mN M (mR M a0 0) : Int) ≤ mI M a0 2) → (Q ((mI M a0 2) - 1) M)) ∧ (¬ ((mN M (mR M a0 0) : Int) ≤ mI M a0 2) → (((0 : Int) ≤ mI M a0 2 ∧ mI M a0 2 < (mN M (mR M a0 0) : Int)) ∧ ∀ M13, M13 = mUI M (mR M a0 0) (Int.toNat (mI M a0 2)) l1 → mK M13 (mR M13 a0 1) = 30 ∧ ((0 : Int) ≤ mI M13 a0 2 ∧ mI M13 a0 2 < (mN M13 (mR M13 a0 1) : Int)) ∧ ∀ M17, M17 = mUI M13 (mR M13 a0 1) (Int.toNat (mI M13 a0 2)) l2 → i32 ((mI M17 a0 2) + 1) ∧ ∀ M20, M20 = mUI M17 a0 2 ((mI M17 a0 2) + 1) → Q ((mI M20 a0 2) - 1) M20))) :
    Ci G y_Pr_add d [vr a0, vi l1, vi l2] M Q := by
  refine wm_open (y := y_Pr_add) rfl (Nat.le_of_ble_eq_true rfl) (L := [vr a0, vi l1, vi l2]) rfl ?_
  obtain ⟨h1, h⟩ := h
  obtain ⟨h2, h⟩ := h
  obtain ⟨h10, h⟩ := h
  refine wm_aload_n d_Pr_add_0 rfl rfl ?_
  refine gf_Pr_57 rfl d_Pr_add_1 h1 ?_
  refine wm_aload_n d_Pr_add_4 rfl rfl ?_
  refine gf_Pr_9 rfl d_Pr_add_5 h1 ?_
  refine wm_alen 0 rfl (fun _ => rfl) d_Pr_add_8 h2 ?_
  refine wm_icmp_ge (tgt := 42) d_Pr_add_9 rfl (hO _ _).1 h10 (fun c11 => ?_) (fun c11 => ?_)
  · replace h := h.1 c11
    refine wm_aload_n d_Pr_add_42 rfl rfl ?_
    refine gf_Pr_57 rfl d_Pr_add_43 h1 ?_
    refine wm_iconst d_Pr_add_46 ?_
    refine wm_isub d_Pr_add_47 ?_
    refine wm_ireturn d_Pr_add_48 rfl rfl ?_
    exact ⟨_, rfl, h⟩
  · replace h := h.2 c11
    obtain ⟨h12, h⟩ := h
    obtain ⟨M13, e14⟩ : ∃ M13, M13 = mUI M (mR M a0 0) (Int.toNat (mI M a0 2)) l1 := ⟨_, rfl⟩
    replace h := h M13 e14
    obtain ⟨h15, h⟩ := h
    obtain ⟨h16, h⟩ := h
    obtain ⟨M17, e18⟩ : ∃ M17, M17 = mUI M13 (mR M13 a0 1) (Int.toNat (mI M13 a0 2)) l2 := ⟨_, rfl⟩
    replace h := h M17 e18
    obtain ⟨h19, h⟩ := h
    obtain ⟨M20, e21⟩ : ∃ M20, M20 = mUI M17 a0 2 ((mI M17 a0 2) + 1) := ⟨_, rfl⟩
    replace h := h M20 e21
    refine wm_aload_n d_Pr_add_12 rfl rfl ?_
    refine gf_Pr_9 rfl d_Pr_add_13 h1 ?_
    refine wm_aload_n d_Pr_add_16 rfl rfl ?_
    refine gf_Pr_57 rfl d_Pr_add_17 h1 ?_
    refine wm_iload_n d_Pr_add_20 rfl rfl ?_
    have hOM13 : mOk M13 := by rw [e14]; exact mOk_UI hO hi_l1
    refine wm_iastE d_Pr_add_21 h2 h12 hi_l1 e14 ?_
    refine wm_aload_n d_Pr_add_22 rfl rfl ?_
    refine gf_Pr_15 rfl d_Pr_add_23 (by rw [e14]; exact h1) ?_
    refine wm_aload_n d_Pr_add_26 rfl rfl ?_
    refine gf_Pr_57 rfl d_Pr_add_27 (by rw [e14]; exact h1) ?_
    refine wm_iload_n d_Pr_add_30 rfl rfl ?_
    have hOM17 : mOk M17 := by rw [e18]; exact mOk_UI hOM13 hi_l2
    refine wm_iastE d_Pr_add_31 h15 h16 hi_l2 e18 ?_
    refine wm_aload_n d_Pr_add_32 rfl rfl ?_
    refine wm_dup d_Pr_add_33 rfl ?_
    refine gf_Pr_57 rfl d_Pr_add_34 (by rw [e18, e14]; exact h1) ?_
    refine wm_iconst d_Pr_add_37 ?_
    refine wm_iadd d_Pr_add_38 ?_
    have hOM20 : mOk M20 := by rw [e21]; exact mOk_UI hOM17 h19
    refine pf_Pr_57 rfl d_Pr_add_39 (by rw [e18, e14]; exact h1) h19 e21 ?_
    refine wm_aload_n d_Pr_add_42 rfl rfl ?_
    refine gf_Pr_57 rfl d_Pr_add_43 (by rw [e21, e18, e14]; exact h1) ?_
    refine wm_iconst d_Pr_add_46 ?_
    refine wm_isub d_Pr_add_47 ?_
    refine wm_ireturn d_Pr_add_48 rfl rfl ?_
    exact ⟨_, rfl, h⟩
