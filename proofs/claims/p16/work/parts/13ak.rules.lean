theorem d_MM_stateOf_0 : decode y_MM_stateOf.2.1 0 = .ok (.iconst 0, 1) := by decide +kernel
theorem d_MM_stateOf_1 : decode y_MM_stateOf.2.1 1 = .ok (.istore_n 1, 1) := by decide +kernel
theorem d_MM_stateOf_2 : decode y_MM_stateOf.2.1 2 = .ok (.iload_n 1, 1) := by decide +kernel
theorem d_MM_stateOf_3 : decode y_MM_stateOf.2.1 3 = .ok (.aload_n 0, 1) := by decide +kernel
theorem d_MM_stateOf_4 : decode y_MM_stateOf.2.1 4 = .ok (.getfield 532, 3) := by decide +kernel
theorem d_MM_stateOf_7 : decode y_MM_stateOf.2.1 7 = .ok (.if_icmp .ge 66, 3) := by decide +kernel
theorem d_MM_stateOf_73 : decode y_MM_stateOf.2.1 73 = .ok (.aload_n 0, 1) := by decide +kernel
theorem d_MM_stateOf_74 : decode y_MM_stateOf.2.1 74 = .ok (.getfield 532, 3) := by decide +kernel
theorem d_MM_stateOf_77 : decode y_MM_stateOf.2.1 77 = .ok (.sipush 512, 3) := by decide +kernel
theorem d_MM_stateOf_10 : decode y_MM_stateOf.2.1 10 = .ok (.iconst 1, 1) := by decide +kernel
theorem d_MM_stateOf_11 : decode y_MM_stateOf.2.1 11 = .ok (.istore_n 2, 1) := by decide +kernel
theorem d_MM_stateOf_12 : decode y_MM_stateOf.2.1 12 = .ok (.iconst 0, 1) := by decide +kernel
theorem d_MM_stateOf_13 : decode y_MM_stateOf.2.1 13 = .ok (.istore_n 3, 1) := by decide +kernel
theorem d_MM_stateOf_80 : decode y_MM_stateOf.2.1 80 = .ok (.if_icmp .ne 5, 3) := by decide +kernel
theorem d_MM_stateOf_83 : decode y_MM_stateOf.2.1 83 = .ok (.iconst (-1), 1) := by decide +kernel
theorem d_MM_stateOf_84 : decode y_MM_stateOf.2.1 84 = .ok (.ireturn, 1) := by decide +kernel
theorem d_MM_stateOf_85 : decode y_MM_stateOf.2.1 85 = .ok (.iconst 0, 1) := by decide +kernel
theorem d_MM_stateOf_86 : decode y_MM_stateOf.2.1 86 = .ok (.istore_n 1, 1) := by decide +kernel
theorem d_MM_stateOf_14 : decode y_MM_stateOf.2.1 14 = .ok (.iload_n 3, 1) := by decide +kernel
theorem d_MM_stateOf_15 : decode y_MM_stateOf.2.1 15 = .ok (.aload_n 0, 1) := by decide +kernel
theorem d_MM_stateOf_16 : decode y_MM_stateOf.2.1 16 = .ok (.getfield 34, 3) := by decide +kernel
theorem d_MM_stateOf_19 : decode y_MM_stateOf.2.1 19 = .ok (.getfield 456, 3) := by decide +kernel
theorem d_MM_stateOf_22 : decode y_MM_stateOf.2.1 22 = .ok (.if_icmp .ge 39, 3) := by decide +kernel
theorem d_MM_stateOf_25 : decode y_MM_stateOf.2.1 25 = .ok (.iload_n 2, 1) := by decide +kernel
theorem d_MM_stateOf_26 : decode y_MM_stateOf.2.1 26 = .ok (.ifCond .eq 35, 3) := by decide +kernel
theorem d_MM_stateOf_29 : decode y_MM_stateOf.2.1 29 = .ok (.aload_n 0, 1) := by decide +kernel
theorem d_MM_stateOf_30 : decode y_MM_stateOf.2.1 30 = .ok (.getfield 90, 3) := by decide +kernel
theorem d_MM_stateOf_33 : decode y_MM_stateOf.2.1 33 = .ok (.bipush 12, 2) := by decide +kernel
theorem d_MM_stateOf_35 : decode y_MM_stateOf.2.1 35 = .ok (.iload_n 1, 1) := by decide +kernel
theorem d_MM_stateOf_36 : decode y_MM_stateOf.2.1 36 = .ok (.imul, 1) := by decide +kernel
theorem d_MM_stateOf_37 : decode y_MM_stateOf.2.1 37 = .ok (.iload_n 3, 1) := by decide +kernel
theorem d_MM_stateOf_38 : decode y_MM_stateOf.2.1 38 = .ok (.iadd, 1) := by decide +kernel
theorem d_MM_stateOf_39 : decode y_MM_stateOf.2.1 39 = .ok (.iaload, 1) := by decide +kernel
theorem d_MM_stateOf_40 : decode y_MM_stateOf.2.1 40 = .ok (.aload_n 0, 1) := by decide +kernel
theorem d_MM_stateOf_41 : decode y_MM_stateOf.2.1 41 = .ok (.getfield 130, 3) := by decide +kernel
theorem d_MM_stateOf_44 : decode y_MM_stateOf.2.1 44 = .ok (.iload_n 3, 1) := by decide +kernel
theorem d_MM_stateOf_45 : decode y_MM_stateOf.2.1 45 = .ok (.iaload, 1) := by decide +kernel
theorem d_MM_stateOf_46 : decode y_MM_stateOf.2.1 46 = .ok (.if_icmp .ne 7, 3) := by decide +kernel
theorem d_MM_stateOf_49 : decode y_MM_stateOf.2.1 49 = .ok (.iconst 1, 1) := by decide +kernel
theorem d_MM_stateOf_50 : decode y_MM_stateOf.2.1 50 = .ok (.goto 4, 3) := by decide +kernel
theorem d_MM_stateOf_54 : decode y_MM_stateOf.2.1 54 = .ok (.istore_n 2, 1) := by decide +kernel
theorem d_MM_stateOf_55 : decode y_MM_stateOf.2.1 55 = .ok (.iinc 3 1, 3) := by decide +kernel
theorem d_MM_stateOf_58 : decode y_MM_stateOf.2.1 58 = .ok (.goto (-44), 3) := by decide +kernel
theorem d_MM_stateOf_53 : decode y_MM_stateOf.2.1 53 = .ok (.iconst 0, 1) := by decide +kernel
theorem d_MM_stateOf_61 : decode y_MM_stateOf.2.1 61 = .ok (.iload_n 2, 1) := by decide +kernel
theorem d_MM_stateOf_62 : decode y_MM_stateOf.2.1 62 = .ok (.ifCond .eq 5, 3) := by decide +kernel
theorem d_MM_stateOf_67 : decode y_MM_stateOf.2.1 67 = .ok (.iinc 1 1, 3) := by decide +kernel
theorem d_MM_stateOf_70 : decode y_MM_stateOf.2.1 70 = .ok (.goto (-68), 3) := by decide +kernel
theorem d_MM_stateOf_65 : decode y_MM_stateOf.2.1 65 = .ok (.iload_n 1, 1) := by decide +kernel
theorem d_MM_stateOf_66 : decode y_MM_stateOf.2.1 66 = .ok (.ireturn, 1) := by decide +kernel
theorem d_MM_stateOf_87 : decode y_MM_stateOf.2.1 87 = .ok (.iload_n 1, 1) := by decide +kernel
theorem d_MM_stateOf_88 : decode y_MM_stateOf.2.1 88 = .ok (.aload_n 0, 1) := by decide +kernel
theorem d_MM_stateOf_89 : decode y_MM_stateOf.2.1 89 = .ok (.getfield 34, 3) := by decide +kernel
theorem d_MM_stateOf_92 : decode y_MM_stateOf.2.1 92 = .ok (.getfield 456, 3) := by decide +kernel
theorem d_MM_stateOf_95 : decode y_MM_stateOf.2.1 95 = .ok (.if_icmp .ge 29, 3) := by decide +kernel
theorem d_MM_stateOf_124 : decode y_MM_stateOf.2.1 124 = .ok (.aload_n 0, 1) := by decide +kernel
theorem d_MM_stateOf_125 : decode y_MM_stateOf.2.1 125 = .ok (.aload_n 0, 1) := by decide +kernel
theorem d_MM_stateOf_126 : decode y_MM_stateOf.2.1 126 = .ok (.getfield 532, 3) := by decide +kernel
theorem d_MM_stateOf_129 : decode y_MM_stateOf.2.1 129 = .ok (.iconst 1, 1) := by decide +kernel
theorem d_MM_stateOf_130 : decode y_MM_stateOf.2.1 130 = .ok (.iadd, 1) := by decide +kernel
theorem d_MM_stateOf_131 : decode y_MM_stateOf.2.1 131 = .ok (.putfield 532, 3) := by decide +kernel
theorem d_MM_stateOf_134 : decode y_MM_stateOf.2.1 134 = .ok (.aload_n 0, 1) := by decide +kernel
theorem d_MM_stateOf_135 : decode y_MM_stateOf.2.1 135 = .ok (.getfield 532, 3) := by decide +kernel
theorem d_MM_stateOf_138 : decode y_MM_stateOf.2.1 138 = .ok (.iconst 1, 1) := by decide +kernel
theorem d_MM_stateOf_139 : decode y_MM_stateOf.2.1 139 = .ok (.isub, 1) := by decide +kernel
theorem d_MM_stateOf_140 : decode y_MM_stateOf.2.1 140 = .ok (.ireturn, 1) := by decide +kernel
theorem d_MM_stateOf_98 : decode y_MM_stateOf.2.1 98 = .ok (.aload_n 0, 1) := by decide +kernel
theorem d_MM_stateOf_99 : decode y_MM_stateOf.2.1 99 = .ok (.getfield 90, 3) := by decide +kernel
theorem d_MM_stateOf_102 : decode y_MM_stateOf.2.1 102 = .ok (.bipush 12, 2) := by decide +kernel
theorem d_MM_stateOf_104 : decode y_MM_stateOf.2.1 104 = .ok (.aload_n 0, 1) := by decide +kernel
theorem d_MM_stateOf_105 : decode y_MM_stateOf.2.1 105 = .ok (.getfield 532, 3) := by decide +kernel
theorem d_MM_stateOf_108 : decode y_MM_stateOf.2.1 108 = .ok (.imul, 1) := by decide +kernel
theorem d_MM_stateOf_109 : decode y_MM_stateOf.2.1 109 = .ok (.iload_n 1, 1) := by decide +kernel
theorem d_MM_stateOf_110 : decode y_MM_stateOf.2.1 110 = .ok (.iadd, 1) := by decide +kernel
theorem d_MM_stateOf_111 : decode y_MM_stateOf.2.1 111 = .ok (.aload_n 0, 1) := by decide +kernel
theorem d_MM_stateOf_112 : decode y_MM_stateOf.2.1 112 = .ok (.getfield 130, 3) := by decide +kernel
theorem d_MM_stateOf_115 : decode y_MM_stateOf.2.1 115 = .ok (.iload_n 1, 1) := by decide +kernel
theorem d_MM_stateOf_116 : decode y_MM_stateOf.2.1 116 = .ok (.iaload, 1) := by decide +kernel
theorem d_MM_stateOf_117 : decode y_MM_stateOf.2.1 117 = .ok (.iastore, 1) := by decide +kernel
theorem d_MM_stateOf_118 : decode y_MM_stateOf.2.1 118 = .ok (.iinc 1 1, 3) := by decide +kernel
theorem d_MM_stateOf_121 : decode y_MM_stateOf.2.1 121 = .ok (.goto (-34), 3) := by decide +kernel
def h_MM_stateOf_2 (G : mG) (d : Nat) (a0 : Nat) (l1 : Int) (M : mM) (Q : Int → mM → Prop) : Prop := mWm G y_MM_stateOf d 2 [vr a0, vi l1, vd, vd] [] M (fun r9 M9 => ∃ x9, r9 = some (vi x9) ∧ Q x9 M9)
def h_MM_stateOf_14 (G : mG) (d : Nat) (a0 : Nat) (l1 : Int) (l2 : Int) (l3 : Int) (M : mM) (Q : Int → mM → Prop) : Prop := mWm G y_MM_stateOf d 14 [vr a0, vi l1, vi l2, vi l3] [] M (fun r9 M9 => ∃ x9, r9 = some (vi x9) ∧ Q x9 M9)
def h_MM_stateOf_87 (G : mG) (d : Nat) (a0 : Nat) (l1 : Int) (M : mM) (Q : Int → mM → Prop) : Prop := mWm G y_MM_stateOf d 87 [vr a0, vi l1, vd, vd] [] M (fun r9 M9 => ∃ x9, r9 = some (vi x9) ∧ Q x9 M9)
theorem k_MM_stateOf {G : mG} {d : Nat} {a0 : Nat} {M : mM} {Q : Int → mM → Prop} (hO : mOk M)
    (h : h_MM_stateOf_2 G d a0 0 M Q) :
    Ci G y_MM_stateOf d [vr a0] M Q := by
  refine wm_open (y := y_MM_stateOf) rfl (Nat.le_of_ble_eq_true rfl) (L := [vr a0, vd, vd, vd]) rfl ?_
  refine wm_iconst d_MM_stateOf_0 ?_
  refine wm_istore_n d_MM_stateOf_1 rfl (by decide) (L' := [vr a0, vi 0, vd, vd]) rfl ?_
  exact h
theorem k_MM_stateOf_2 {G : mG} {d : Nat} {a0 : Nat} {l1 : Int} {M : mM} {Q : Int → mM → Prop} (hO : mOk M) (hi_l1 : i32 l1)
    (h : mK M a0 = 14 ∧ ((mI M a0 29 ≤ l1) → (((mI M a0 29 = 512) → (Q (-1) M)) ∧ (¬ (mI M a0 29 = 512) → (h_MM_stateOf_87 G d a0 0 M Q)))) ∧ (¬ (mI M a0 29 ≤ l1) → (h_MM_stateOf_14 G d a0 l1 1 0 M Q))) :
    h_MM_stateOf_2 G d a0 l1 M Q := by
  unfold h_MM_stateOf_2
  obtain ⟨h1, h⟩ := h
  refine wm_iload_n d_MM_stateOf_2 rfl rfl ?_
  refine wm_aload_n d_MM_stateOf_3 rfl rfl ?_
  refine gf_MM_532 rfl d_MM_stateOf_4 h1 ?_
  refine wm_icmp_ge (tgt := 73) d_MM_stateOf_7 rfl hi_l1 (hO _ _).1 (fun c4 => ?_) (fun c4 => ?_)
  · replace h := h.1 c4
    refine wm_aload_n d_MM_stateOf_73 rfl rfl ?_
    refine gf_MM_532 rfl d_MM_stateOf_74 h1 ?_
    refine wm_sipush d_MM_stateOf_77 (by decide) ?_
    refine wm_icmp_ne (tgt := 85) d_MM_stateOf_80 rfl (hO _ _).1 ⟨by decide, by decide⟩ (fun c6 => ?_) (fun c6 => ?_)
    · replace h := h.2 c6
      refine wm_iconst d_MM_stateOf_85 ?_
      refine wm_istore_n d_MM_stateOf_86 rfl (by decide) (L' := [vr a0, vi 0, vd, vd]) rfl ?_
      exact h
    · replace c6 := Classical.not_not.mp c6
      replace h := h.1 c6
      refine wm_iconst d_MM_stateOf_83 ?_
      refine wm_ireturn d_MM_stateOf_84 rfl rfl ?_
      exact ⟨_, rfl, h⟩
  · replace h := h.2 c4
    refine wm_iconst d_MM_stateOf_10 ?_
    refine wm_istore_n d_MM_stateOf_11 rfl (by decide) (L' := [vr a0, vi l1, vi 1, vd]) rfl ?_
    refine wm_iconst d_MM_stateOf_12 ?_
    refine wm_istore_n d_MM_stateOf_13 rfl (by decide) (L' := [vr a0, vi l1, vi 1, vi 0]) rfl ?_
    exact h
theorem k_MM_stateOf_14 {G : mG} {d : Nat} {a0 : Nat} {l1 : Int} {l2 : Int} {l3 : Int} {M : mM} {Q : Int → mM → Prop} (hO : mOk M) (hi_l1 : i32 l1) (hi_l2 : i32 l2) (hi_l3 : i32 l3)
    (h : mK M a0 = 14 ∧ mK M (mR M a0 9) = 16 ∧ (((mI M (mR M a0 9) 12 ≤ l3) ∨ (l2 = 0)) → (((l2 = 0) → (h_MM_stateOf_2 G d a0 (l1 + 1) M Q)) ∧ (¬ (l2 = 0) → (Q l1 M)))) ∧ (¬ ((mI M (mR M a0 9) 12 ≤ l3) ∨ (l2 = 0)) → (mK M (mR M a0 31) = 30 ∧ ((0 : Int) ≤ (12 * l1) + l3 ∧ (12 * l1) + l3 < (mN M (mR M a0 31) : Int)) ∧ mK M (mR M a0 44) = 30 ∧ ((0 : Int) ≤ l3 ∧ l3 < (mN M (mR M a0 44) : Int)) ∧ ∀ v26 : Int, v26 = (if (mI M (mR M a0 31) (Int.toNat ((12 * l1) + l3)) = mI M (mR M a0 44) (Int.toNat l3)) then 1 else 0) → h_MM_stateOf_14 G d a0 l1 v26 (l3 + 1) M Q))) :
    h_MM_stateOf_14 G d a0 l1 l2 l3 M Q := by
  unfold h_MM_stateOf_14
  obtain ⟨h7, h⟩ := h
  obtain ⟨h8, h⟩ := h
  refine wm_iload_n d_MM_stateOf_14 rfl rfl ?_
  refine wm_aload_n d_MM_stateOf_15 rfl rfl ?_
  refine gf_MM_34 rfl d_MM_stateOf_16 h7 ?_
  refine gf_MM_456 rfl d_MM_stateOf_19 h8 ?_
  have hE0 : ((mI M (mR M a0 9) 12 ≤ l3) ∨ (l2 = 0)) → mWm G y_MM_stateOf d 61 [vr a0, vi l1, vi l2, vi l3] [] M (fun r9 M9 => ∃ x9, r9 = some (vi x9) ∧ Q x9 M9) := by
    intro q17
    have h := h.1 q17
    refine wm_iload_n d_MM_stateOf_61 rfl rfl ?_
    refine wm_if_eq (tgt := 67) d_MM_stateOf_62 rfl hi_l2 (fun c19 => ?_) (fun c19 => ?_)
    · replace h := h.1 c19
      refine wm_iinc d_MM_stateOf_67 (by decide) rfl (L' := [vr a0, vi (l1 + 1), vi l2, vi l3]) rfl ?_
      refine wm_goto (tgt := 2) d_MM_stateOf_70 rfl ?_
      refine wm_less (L' := [vr a0, vi (l1 + 1), vd, vd]) ⟨Or.inr rfl, Or.inr rfl, Or.inl rfl, Or.inl rfl, trivial⟩ ?_
      exact h
    · replace h := h.2 c19
      refine wm_iload_n d_MM_stateOf_65 rfl rfl ?_
      refine wm_ireturn d_MM_stateOf_66 rfl rfl ?_
      exact ⟨_, rfl, h⟩
  have hE1 : ¬ ((mI M (mR M a0 9) 12 ≤ l3) ∨ (l2 = 0)) → mWm G y_MM_stateOf d 29 [vr a0, vi l1, vi l2, vi l3] [] M (fun r9 M9 => ∃ x9, r9 = some (vi x9) ∧ Q x9 M9) := by
    intro q20
    have h := h.2 q20
    obtain ⟨h21, h⟩ := h
    obtain ⟨h22, h⟩ := h
    obtain ⟨h23, h⟩ := h
    obtain ⟨h24, h⟩ := h
    refine wm_aload_n d_MM_stateOf_29 rfl rfl ?_
    refine gf_MM_90 rfl d_MM_stateOf_30 h7 ?_
    refine wm_bipush d_MM_stateOf_33 (by decide) ?_
    refine wm_iload_n d_MM_stateOf_35 rfl rfl ?_
    refine wm_imul d_MM_stateOf_36 ?_
    refine wm_iload_n d_MM_stateOf_37 rfl rfl ?_
    refine wm_iadd d_MM_stateOf_38 ?_
    refine wm_iald d_MM_stateOf_39 h21 h22 ?_
    refine wm_aload_n d_MM_stateOf_40 rfl rfl ?_
    refine gf_MM_130 rfl d_MM_stateOf_41 h7 ?_
    refine wm_iload_n d_MM_stateOf_44 rfl rfl ?_
    refine wm_iald d_MM_stateOf_45 h23 h24 ?_
    have hJ : ∀ v26 : Int, v26 = (if (mI M (mR M a0 31) (Int.toNat ((12 * l1) + l3)) = mI M (mR M a0 44) (Int.toNat l3)) then 1 else 0) → mWm G y_MM_stateOf d 54 [vr a0, vi l1, vd, vi l3] [vi v26] M (fun r9 M9 => ∃ x9, r9 = some (vi x9) ∧ Q x9 M9) := by
      intro v26 e28
      have h := h v26 e28
      have h29 : i32 v26 := by rw [e28]; (repeat' split) <;> first | exact ⟨by decide, by decide⟩ | exact ⟨by decide, by decide⟩
      have h30 : (v26 = 0 ∨ v26 = 1) := by rw [e28]; (repeat' split) <;> decide
      refine wm_istore_n d_MM_stateOf_54 rfl (by decide) (L' := [vr a0, vi l1, vi v26, vi l3]) rfl ?_
      refine wm_iinc d_MM_stateOf_55 (by decide) rfl (L' := [vr a0, vi l1, vi v26, vi (l3 + 1)]) rfl ?_
      refine wm_goto (tgt := 14) d_MM_stateOf_58 rfl ?_
      exact h
    clear h
    refine wm_icmp_ne (tgt := 53) d_MM_stateOf_46 rfl (hO _ _).1 (hO _ _).1 (fun c25 => ?_) (fun c25 => ?_)
    · refine wm_iconst d_MM_stateOf_53 ?_
      refine wm_less (L' := [vr a0, vi l1, vd, vi l3]) ⟨Or.inr rfl, Or.inr rfl, Or.inl rfl, Or.inr rfl, trivial⟩ ?_
      exact hJ 0 (if_neg c25).symm
    · replace c25 := Classical.not_not.mp c25
      refine wm_iconst d_MM_stateOf_49 ?_
      refine wm_goto (tgt := 54) d_MM_stateOf_50 rfl ?_
      refine wm_less (L' := [vr a0, vi l1, vd, vi l3]) ⟨Or.inr rfl, Or.inr rfl, Or.inl rfl, Or.inr rfl, trivial⟩ ?_
      exact hJ 1 (if_pos c25).symm
  clear h
  refine wm_icmp_ge (tgt := 61) d_MM_stateOf_22 rfl hi_l3 (hO _ _).1 (fun c15 => ?_) (fun c15 => ?_)
  · exact hE0 (Or.inl c15)
  · refine wm_iload_n d_MM_stateOf_25 rfl rfl ?_
    refine wm_if_eq (tgt := 61) d_MM_stateOf_26 rfl hi_l2 (fun c14 => ?_) (fun c14 => ?_)
    · exact hE0 (Or.inr c14)
    · exact hE1 (fun z32 => Or.elim z32 c15 c14)
theorem k_MM_stateOf_87 {G : mG} {d : Nat} {a0 : Nat} {l1 : Int} {M : mM} {Q : Int → mM → Prop} (hO : mOk M) (hi_l1 : i32 l1)
    (h : mK M a0 = 14 ∧ mK M (mR M a0 9) = 16 ∧ ((mI M (mR M a0 9) 12 ≤ l1) → (i32 ((mI M a0 29) + 1) ∧ ∀ M44, M44 = mUI M a0 29 ((mI M a0 29) + 1) → Q ((mI M44 a0 29) - 1) M44)) ∧ (¬ (mI M (mR M a0 9) 12 ≤ l1) → (mK M (mR M a0 44) = 30 ∧ ((0 : Int) ≤ l1 ∧ l1 < (mN M (mR M a0 44) : Int)) ∧ mK M (mR M a0 31) = 30 ∧ ((0 : Int) ≤ (12 * (mI M a0 29)) + l1 ∧ (12 * (mI M a0 29)) + l1 < (mN M (mR M a0 31) : Int)) ∧ ∀ M50, M50 = mUI M (mR M a0 31) (Int.toNat ((12 * (mI M a0 29)) + l1)) (mI M (mR M a0 44) (Int.toNat l1)) → h_MM_stateOf_87 G d a0 (l1 + 1) M50 Q))) :
    h_MM_stateOf_87 G d a0 l1 M Q := by
  unfold h_MM_stateOf_87
  obtain ⟨h34, h⟩ := h
  obtain ⟨h35, h⟩ := h
  refine wm_iload_n d_MM_stateOf_87 rfl rfl ?_
  refine wm_aload_n d_MM_stateOf_88 rfl rfl ?_
  refine gf_MM_34 rfl d_MM_stateOf_89 h34 ?_
  refine gf_MM_456 rfl d_MM_stateOf_92 h35 ?_
  refine wm_icmp_ge (tgt := 124) d_MM_stateOf_95 rfl hi_l1 (hO _ _).1 (fun c42 => ?_) (fun c42 => ?_)
  · replace h := h.1 c42
    obtain ⟨h43, h⟩ := h
    obtain ⟨M44, e45⟩ : ∃ M44, M44 = mUI M a0 29 ((mI M a0 29) + 1) := ⟨_, rfl⟩
    replace h := h M44 e45
    refine wm_aload_n d_MM_stateOf_124 rfl rfl ?_
    refine wm_aload_n d_MM_stateOf_125 rfl rfl ?_
    refine gf_MM_532 rfl d_MM_stateOf_126 h34 ?_
    refine wm_iconst d_MM_stateOf_129 ?_
    refine wm_iadd d_MM_stateOf_130 ?_
    have hOM44 : mOk M44 := by rw [e45]; exact mOk_UI hO h43
    refine pf_MM_532 rfl d_MM_stateOf_131 h34 h43 e45 ?_
    refine wm_aload_n d_MM_stateOf_134 rfl rfl ?_
    refine gf_MM_532 rfl d_MM_stateOf_135 (by rw [e45]; exact h34) ?_
    refine wm_iconst d_MM_stateOf_138 ?_
    refine wm_isub d_MM_stateOf_139 ?_
    refine wm_ireturn d_MM_stateOf_140 rfl rfl ?_
    exact ⟨_, rfl, h⟩
  · replace h := h.2 c42
    obtain ⟨h46, h⟩ := h
    obtain ⟨h47, h⟩ := h
    obtain ⟨h48, h⟩ := h
    obtain ⟨h49, h⟩ := h
    obtain ⟨M50, e51⟩ : ∃ M50, M50 = mUI M (mR M a0 31) (Int.toNat ((12 * (mI M a0 29)) + l1)) (mI M (mR M a0 44) (Int.toNat l1)) := ⟨_, rfl⟩
    replace h := h M50 e51
    refine wm_aload_n d_MM_stateOf_98 rfl rfl ?_
    refine gf_MM_90 rfl d_MM_stateOf_99 h34 ?_
    refine wm_bipush d_MM_stateOf_102 (by decide) ?_
    refine wm_aload_n d_MM_stateOf_104 rfl rfl ?_
    refine gf_MM_532 rfl d_MM_stateOf_105 h34 ?_
    refine wm_imul d_MM_stateOf_108 ?_
    refine wm_iload_n d_MM_stateOf_109 rfl rfl ?_
    refine wm_iadd d_MM_stateOf_110 ?_
    refine wm_aload_n d_MM_stateOf_111 rfl rfl ?_
    refine gf_MM_130 rfl d_MM_stateOf_112 h34 ?_
    refine wm_iload_n d_MM_stateOf_115 rfl rfl ?_
    refine wm_iald d_MM_stateOf_116 h46 h47 ?_
    have hOM50 : mOk M50 := by rw [e51]; exact mOk_UI hO (hO _ _).1
    refine wm_iastE d_MM_stateOf_117 h48 h49 (hO _ _).1 e51 ?_
    refine wm_iinc d_MM_stateOf_118 (by decide) rfl (L' := [vr a0, vi (l1 + 1), vd, vd]) rfl ?_
    refine wm_goto (tgt := 87) d_MM_stateOf_121 rfl ?_
    exact h
theorem d_MM_state1_0 : decode y_MM_state1.2.1 0 = .ok (.aload_n 0, 1) := by decide +kernel
theorem d_MM_state1_1 : decode y_MM_state1.2.1 1 = .ok (.iconst 0, 1) := by decide +kernel
theorem d_MM_state1_2 : decode y_MM_state1.2.1 2 = .ok (.putfield 142, 3) := by decide +kernel
theorem d_MM_state1_5 : decode y_MM_state1.2.1 5 = .ok (.aload_n 0, 1) := by decide +kernel
theorem d_MM_state1_6 : decode y_MM_state1.2.1 6 = .ok (.getfield 87, 3) := by decide +kernel
theorem d_MM_state1_9 : decode y_MM_state1.2.1 9 = .ok (.ireturn, 1) := by decide +kernel
theorem k_MM_state1 {G : mG} {d : Nat} {a0 : Nat} {M : mM} {Q : Int → mM → Prop} (hO : mOk M)
    (h : mK M a0 = 14 ∧ ∀ M2, M2 = mUI M a0 0 0 → Q (mI M2 a0 30) M2) :
    Ci G y_MM_state1 d [vr a0] M Q := by
  refine wm_open (y := y_MM_state1) rfl (Nat.le_of_ble_eq_true rfl) (L := [vr a0]) rfl ?_
  obtain ⟨h1, h⟩ := h
  obtain ⟨M2, e3⟩ : ∃ M2, M2 = mUI M a0 0 0 := ⟨_, rfl⟩
  replace h := h M2 e3
  refine wm_aload_n d_MM_state1_0 rfl rfl ?_
  refine wm_iconst d_MM_state1_1 ?_
  have hOM2 : mOk M2 := by rw [e3]; exact mOk_UI hO ⟨by decide, by decide⟩
  refine pf_MM_142 rfl d_MM_state1_2 h1 ⟨by decide, by decide⟩ e3 ?_
  refine wm_aload_n d_MM_state1_5 rfl rfl ?_
  refine gf_MM_87 rfl d_MM_state1_6 (by rw [e3]; exact h1) ?_
  refine wm_ireturn d_MM_state1_9 rfl rfl ?_
  exact ⟨_, rfl, h⟩
theorem d_MM_states_0 : decode y_MM_states.2.1 0 = .ok (.aload_n 0, 1) := by decide +kernel
theorem d_MM_states_1 : decode y_MM_states.2.1 1 = .ok (.iconst 0, 1) := by decide +kernel
theorem d_MM_states_2 : decode y_MM_states.2.1 2 = .ok (.putfield 142, 3) := by decide +kernel
theorem d_MM_states_5 : decode y_MM_states.2.1 5 = .ok (.aload_n 0, 1) := by decide +kernel
theorem d_MM_states_6 : decode y_MM_states.2.1 6 = .ok (.getfield 532, 3) := by decide +kernel
theorem d_MM_states_9 : decode y_MM_states.2.1 9 = .ok (.ireturn, 1) := by decide +kernel
theorem k_MM_states {G : mG} {d : Nat} {a0 : Nat} {M : mM} {Q : Int → mM → Prop} (hO : mOk M)
    (h : mK M a0 = 14 ∧ ∀ M2, M2 = mUI M a0 0 0 → Q (mI M2 a0 29) M2) :
    Ci G y_MM_states d [vr a0] M Q := by
  refine wm_open (y := y_MM_states) rfl (Nat.le_of_ble_eq_true rfl) (L := [vr a0]) rfl ?_
  obtain ⟨h1, h⟩ := h
  obtain ⟨M2, e3⟩ : ∃ M2, M2 = mUI M a0 0 0 := ⟨_, rfl⟩
  replace h := h M2 e3
  refine wm_aload_n d_MM_states_0 rfl rfl ?_
  refine wm_iconst d_MM_states_1 ?_
  have hOM2 : mOk M2 := by rw [e3]; exact mOk_UI hO ⟨by decide, by decide⟩
  refine pf_MM_142 rfl d_MM_states_2 h1 ⟨by decide, by decide⟩ e3 ?_
  refine wm_aload_n d_MM_states_5 rfl rfl ?_
  refine gf_MM_532 rfl d_MM_states_6 (by rw [e3]; exact h1) ?_
  refine wm_ireturn d_MM_states_9 rfl rfl ?_
  exact ⟨_, rfl, h⟩
theorem d_MM_variable_0 : decode y_MM_variable.2.1 0 = .ok (.aload_n 0, 1) := by decide +kernel
theorem d_MM_variable_1 : decode y_MM_variable.2.1 1 = .ok (.iload_n 1, 1) := by decide +kernel
theorem d_MM_variable_2 : decode y_MM_variable.2.1 2 = .ok (.ifCond .lt 26, 3) := by decide +kernel
theorem d_MM_variable_28 : decode y_MM_variable.2.1 28 = .ok (.iconst 1, 1) := by decide +kernel
theorem d_MM_variable_29 : decode y_MM_variable.2.1 29 = .ok (.goto 4, 3) := by decide +kernel
theorem d_MM_variable_5 : decode y_MM_variable.2.1 5 = .ok (.iload_n 1, 1) := by decide +kernel
theorem d_MM_variable_6 : decode y_MM_variable.2.1 6 = .ok (.aload_n 0, 1) := by decide +kernel
theorem d_MM_variable_7 : decode y_MM_variable.2.1 7 = .ok (.getfield 532, 3) := by decide +kernel
theorem d_MM_variable_10 : decode y_MM_variable.2.1 10 = .ok (.if_icmp .ge 18, 3) := by decide +kernel
theorem d_MM_variable_13 : decode y_MM_variable.2.1 13 = .ok (.iload_n 2, 1) := by decide +kernel
theorem d_MM_variable_14 : decode y_MM_variable.2.1 14 = .ok (.ifCond .lt 14, 3) := by decide +kernel
theorem d_MM_variable_17 : decode y_MM_variable.2.1 17 = .ok (.iload_n 2, 1) := by decide +kernel
theorem d_MM_variable_18 : decode y_MM_variable.2.1 18 = .ok (.aload_n 0, 1) := by decide +kernel
theorem d_MM_variable_19 : decode y_MM_variable.2.1 19 = .ok (.getfield 34, 3) := by decide +kernel
theorem d_MM_variable_22 : decode y_MM_variable.2.1 22 = .ok (.getfield 456, 3) := by decide +kernel
theorem d_MM_variable_25 : decode y_MM_variable.2.1 25 = .ok (.if_icmp .lt 7, 3) := by decide +kernel
theorem d_MM_variable_32 : decode y_MM_variable.2.1 32 = .ok (.iconst 0, 1) := by decide +kernel
theorem d_MM_variable_33 : decode y_MM_variable.2.1 33 = .ok (.putfield 142, 3) := by decide +kernel
theorem d_MM_variable_36 : decode y_MM_variable.2.1 36 = .ok (.aload_n 0, 1) := by decide +kernel
theorem d_MM_variable_37 : decode y_MM_variable.2.1 37 = .ok (.getfield 142, 3) := by decide +kernel
theorem d_MM_variable_40 : decode y_MM_variable.2.1 40 = .ok (.ifCond .le 7, 3) := by decide +kernel
theorem d_MM_variable_47 : decode y_MM_variable.2.1 47 = .ok (.aload_n 0, 1) := by decide +kernel
theorem d_MM_variable_48 : decode y_MM_variable.2.1 48 = .ok (.getfield 90, 3) := by decide +kernel
theorem d_MM_variable_51 : decode y_MM_variable.2.1 51 = .ok (.bipush 12, 2) := by decide +kernel
theorem d_MM_variable_53 : decode y_MM_variable.2.1 53 = .ok (.iload_n 1, 1) := by decide +kernel
theorem d_MM_variable_54 : decode y_MM_variable.2.1 54 = .ok (.imul, 1) := by decide +kernel
theorem d_MM_variable_55 : decode y_MM_variable.2.1 55 = .ok (.iload_n 2, 1) := by decide +kernel
theorem d_MM_variable_56 : decode y_MM_variable.2.1 56 = .ok (.iadd, 1) := by decide +kernel
theorem d_MM_variable_57 : decode y_MM_variable.2.1 57 = .ok (.iaload, 1) := by decide +kernel
theorem d_MM_variable_43 : decode y_MM_variable.2.1 43 = .ok (.iconst 0, 1) := by decide +kernel
theorem d_MM_variable_44 : decode y_MM_variable.2.1 44 = .ok (.goto 14, 3) := by decide +kernel
theorem d_MM_variable_58 : decode y_MM_variable.2.1 58 = .ok (.ireturn, 1) := by decide +kernel
theorem k_MM_variable {G : mG} {d : Nat} {a0 : Nat} {l1 : Int} {l2 : Int} {M : mM} {Q : Int → mM → Prop} (hO : mOk M) (hi_l1 : i32 l1) (hi_l2 : i32 l2)
    (h : (¬ (l1 < 0) → (mK M a0 = 14 ∧ (¬ (mI M a0 29 ≤ l1) → (¬ (l2 < 0) → mK M (mR M a0 9) = 16)))) ∧ ∀ v7 : Int, v7 = (if ((l1 < 0) ∨ ((mI M a0 29 ≤ l1) ∨ ((l2 < 0) ∨ (¬ (l2 < mI M (mR M a0 9) 12))))) then 1 else 0) → mK M a0 = 14 ∧ ∀ M13, M13 = mUI M a0 0 v7 → ((mI M13 a0 0 ≤ 0) → (mK M13 (mR M13 a0 31) = 30 ∧ ((0 : Int) ≤ (12 * l1) + l2 ∧ (12 * l1) + l2 < (mN M13 (mR M13 a0 31) : Int)))) ∧ ∀ v18 : Int, v18 = (if (mI M13 a0 0 ≤ 0) then mI M13 (mR M13 a0 31) (Int.toNat ((12 * l1) + l2)) else 0) → Q v18 M13) :
    Ci G y_MM_variable d [vr a0, vi l1, vi l2] M Q := by
  refine wm_open (y := y_MM_variable) rfl (Nat.le_of_ble_eq_true rfl) (L := [vr a0, vi l1, vi l2]) rfl ?_
  refine wm_aload_n d_MM_variable_0 rfl rfl ?_
  refine wm_iload_n d_MM_variable_1 rfl rfl ?_
  obtain ⟨s8, h⟩ := h
  have hJ : ∀ v7 : Int, v7 = (if ((l1 < 0) ∨ ((mI M a0 29 ≤ l1) ∨ ((l2 < 0) ∨ (¬ (l2 < mI M (mR M a0 9) 12))))) then 1 else 0) → mWm G y_MM_variable d 33 [vr a0, vi l1, vi l2] [vi v7, vr a0] M (fun r9 M9 => ∃ x9, r9 = some (vi x9) ∧ Q x9 M9) := by
    intro v7 e9
    have h := h v7 e9
    have h10 : i32 v7 := by rw [e9]; (repeat' split) <;> first | exact ⟨by decide, by decide⟩ | exact ⟨by decide, by decide⟩
    have h11 : (v7 = 0 ∨ v7 = 1) := by rw [e9]; (repeat' split) <;> decide
    obtain ⟨h12, h⟩ := h
    obtain ⟨M13, e14⟩ : ∃ M13, M13 = mUI M a0 0 v7 := ⟨_, rfl⟩
    replace h := h M13 e14
    have hOM13 : mOk M13 := by rw [e14]; exact mOk_UI hO h10
    refine pf_MM_142 rfl d_MM_variable_33 h12 h10 e14 ?_
    refine wm_aload_n d_MM_variable_36 rfl rfl ?_
    refine gf_MM_142 rfl d_MM_variable_37 (by rw [e14]; exact h12) ?_
    obtain ⟨s19, h⟩ := h
    have hJ : ∀ v18 : Int, v18 = (if (mI M13 a0 0 ≤ 0) then mI M13 (mR M13 a0 31) (Int.toNat ((12 * l1) + l2)) else 0) → mWm G y_MM_variable d 58 [vd, vd, vd] [vi v18] M13 (fun r9 M9 => ∃ x9, r9 = some (vi x9) ∧ Q x9 M9) := by
      intro v18 e20
      have h := h v18 e20
      refine wm_ireturn d_MM_variable_58 rfl rfl ?_
      exact ⟨_, rfl, h⟩
    clear h
    have s21 := s19
    refine wm_if_le (tgt := 47) d_MM_variable_40 rfl (hOM13 _ _).1 (fun c15 => ?_) (fun c15 => ?_)
    · have s21 := s21 c15
      obtain ⟨h16, h17⟩ := s21
      refine wm_aload_n d_MM_variable_47 rfl rfl ?_
      refine gf_MM_90 rfl d_MM_variable_48 (by rw [e14]; exact h12) ?_
      refine wm_bipush d_MM_variable_51 (by decide) ?_
      refine wm_iload_n d_MM_variable_53 rfl rfl ?_
      refine wm_imul d_MM_variable_54 ?_
      refine wm_iload_n d_MM_variable_55 rfl rfl ?_
      refine wm_iadd d_MM_variable_56 ?_
      refine wm_iald d_MM_variable_57 h16 h17 ?_
      refine wm_less (L' := [vd, vd, vd]) ⟨Or.inl rfl, Or.inl rfl, Or.inl rfl, trivial⟩ ?_
      exact hJ (mI M13 (mR M13 a0 31) (Int.toNat ((12 * l1) + l2))) (if_pos c15).symm
    · refine wm_iconst d_MM_variable_43 ?_
      refine wm_goto (tgt := 58) d_MM_variable_44 rfl ?_
      refine wm_less (L' := [vd, vd, vd]) ⟨Or.inl rfl, Or.inl rfl, Or.inl rfl, trivial⟩ ?_
      exact hJ 0 (if_neg c15).symm
  clear h
  have s23 := s8
  refine wm_if_lt (tgt := 28) d_MM_variable_2 rfl hi_l1 (fun c1 => ?_) (fun c1 => ?_)
  · refine wm_iconst d_MM_variable_28 ?_
    refine wm_goto (tgt := 33) d_MM_variable_29 rfl ?_
    exact hJ 1 (if_pos (Or.inl c1)).symm
  · have s23 := s23 c1
    obtain ⟨h2, s24⟩ := s23
    refine wm_iload_n d_MM_variable_5 rfl rfl ?_
    refine wm_aload_n d_MM_variable_6 rfl rfl ?_
    refine gf_MM_532 rfl d_MM_variable_7 h2 ?_
    refine wm_icmp_ge (tgt := 28) d_MM_variable_10 rfl hi_l1 (hO _ _).1 (fun c3 => ?_) (fun c3 => ?_)
    · refine wm_iconst d_MM_variable_28 ?_
      refine wm_goto (tgt := 33) d_MM_variable_29 rfl ?_
      exact hJ 1 (if_pos (Or.inr (Or.inl c3))).symm
    · have s24 := s24 c3
      have s25 := s24
      refine wm_iload_n d_MM_variable_13 rfl rfl ?_
      refine wm_if_lt (tgt := 28) d_MM_variable_14 rfl hi_l2 (fun c4 => ?_) (fun c4 => ?_)
      · refine wm_iconst d_MM_variable_28 ?_
        refine wm_goto (tgt := 33) d_MM_variable_29 rfl ?_
        exact hJ 1 (if_pos (Or.inr (Or.inr (Or.inl c4)))).symm
      · have s25 := s25 c4
        have h5 := s25
        refine wm_iload_n d_MM_variable_17 rfl rfl ?_
        refine wm_aload_n d_MM_variable_18 rfl rfl ?_
        refine gf_MM_34 rfl d_MM_variable_19 h2 ?_
        refine gf_MM_456 rfl d_MM_variable_22 h5 ?_
        refine wm_icmp_lt (tgt := 32) d_MM_variable_25 rfl hi_l2 (hO _ _).1 (fun c6 => ?_) (fun c6 => ?_)
        · refine wm_iconst d_MM_variable_32 ?_
          exact hJ 0 (if_neg (fun z26 => Or.elim z26 c1 (fun z27 => Or.elim z27 c3 (fun z28 => Or.elim z28 c4 (fun z29 => z29 c6))))).symm
        · refine wm_iconst d_MM_variable_28 ?_
          refine wm_goto (tgt := 33) d_MM_variable_29 rfl ?_
          exact hJ 1 (if_pos (Or.inr (Or.inr (Or.inr c6)))).symm
theorem d_MM_isState_0 : decode y_MM_isState.2.1 0 = .ok (.aload_n 0, 1) := by decide +kernel
theorem d_MM_isState_1 : decode y_MM_isState.2.1 1 = .ok (.iconst 0, 1) := by decide +kernel
theorem d_MM_isState_2 : decode y_MM_isState.2.1 2 = .ok (.putfield 142, 3) := by decide +kernel
theorem d_MM_isState_5 : decode y_MM_isState.2.1 5 = .ok (.iload_n 1, 1) := by decide +kernel
theorem d_MM_isState_6 : decode y_MM_isState.2.1 6 = .ok (.ifCond .lt 15, 3) := by decide +kernel
theorem d_MM_isState_21 : decode y_MM_isState.2.1 21 = .ok (.iconst 0, 1) := by decide +kernel
theorem d_MM_isState_9 : decode y_MM_isState.2.1 9 = .ok (.iload_n 1, 1) := by decide +kernel
theorem d_MM_isState_10 : decode y_MM_isState.2.1 10 = .ok (.aload_n 0, 1) := by decide +kernel
theorem d_MM_isState_11 : decode y_MM_isState.2.1 11 = .ok (.getfield 532, 3) := by decide +kernel
theorem d_MM_isState_14 : decode y_MM_isState.2.1 14 = .ok (.if_icmp .ge 7, 3) := by decide +kernel
theorem d_MM_isState_17 : decode y_MM_isState.2.1 17 = .ok (.iconst 1, 1) := by decide +kernel
theorem d_MM_isState_18 : decode y_MM_isState.2.1 18 = .ok (.goto 4, 3) := by decide +kernel
theorem d_MM_isState_22 : decode y_MM_isState.2.1 22 = .ok (.ireturn, 1) := by decide +kernel
theorem k_MM_isState {G : mG} {d : Nat} {a0 : Nat} {l1 : Int} {M : mM} {Q : Int → mM → Prop} (hO : mOk M) (hi_l1 : i32 l1)
    (h : mK M a0 = 14 ∧ ∀ M2, M2 = mUI M a0 0 0 → ∀ v6 : Int, v6 = (if ((l1 < 0) ∨ (mI M2 a0 29 ≤ l1)) then 0 else 1) → Q v6 M2) :
    Ci G y_MM_isState d [vr a0, vi l1] M Q := by
  refine wm_open (y := y_MM_isState) rfl (Nat.le_of_ble_eq_true rfl) (L := [vr a0, vi l1]) rfl ?_
  obtain ⟨h1, h⟩ := h
  obtain ⟨M2, e3⟩ : ∃ M2, M2 = mUI M a0 0 0 := ⟨_, rfl⟩
  replace h := h M2 e3
  refine wm_aload_n d_MM_isState_0 rfl rfl ?_
  refine wm_iconst d_MM_isState_1 ?_
  have hOM2 : mOk M2 := by rw [e3]; exact mOk_UI hO ⟨by decide, by decide⟩
  refine pf_MM_142 rfl d_MM_isState_2 h1 ⟨by decide, by decide⟩ e3 ?_
  refine wm_iload_n d_MM_isState_5 rfl rfl ?_
  have hJ : ∀ v6 : Int, v6 = (if ((l1 < 0) ∨ (mI M2 a0 29 ≤ l1)) then 0 else 1) → mWm G y_MM_isState d 22 [vd, vd] [vi v6] M2 (fun r9 M9 => ∃ x9, r9 = some (vi x9) ∧ Q x9 M9) := by
    intro v6 e8
    have h := h v6 e8
    have h9 : i32 v6 := by rw [e8]; (repeat' split) <;> first | exact ⟨by decide, by decide⟩ | exact ⟨by decide, by decide⟩
    have h10 : (v6 = 0 ∨ v6 = 1) := by rw [e8]; (repeat' split) <;> decide
    refine wm_ireturn d_MM_isState_22 rfl (m_nb h10) ?_
    exact ⟨_, rfl, h⟩
  clear h
  refine wm_if_lt (tgt := 21) d_MM_isState_6 rfl hi_l1 (fun c4 => ?_) (fun c4 => ?_)
  · refine wm_iconst d_MM_isState_21 ?_
    refine wm_less (L' := [vd, vd]) ⟨Or.inl rfl, Or.inl rfl, trivial⟩ ?_
    exact hJ 0 (if_pos (Or.inl c4)).symm
  · refine wm_iload_n d_MM_isState_9 rfl rfl ?_
    refine wm_aload_n d_MM_isState_10 rfl rfl ?_
    refine gf_MM_532 rfl d_MM_isState_11 (by rw [e3]; exact h1) ?_
    refine wm_icmp_ge (tgt := 21) d_MM_isState_14 rfl hi_l1 (hOM2 _ _).1 (fun c5 => ?_) (fun c5 => ?_)
    · refine wm_iconst d_MM_isState_21 ?_
      refine wm_less (L' := [vd, vd]) ⟨Or.inl rfl, Or.inl rfl, trivial⟩ ?_
      exact hJ 0 (if_pos (Or.inr c5)).symm
    · refine wm_iconst d_MM_isState_17 ?_
      refine wm_goto (tgt := 22) d_MM_isState_18 rfl ?_
      refine wm_less (L' := [vd, vd]) ⟨Or.inl rfl, Or.inl rfl, trivial⟩ ?_
      exact hJ 1 (if_neg (fun z11 => Or.elim z11 c4 c5)).symm
theorem d_MM_kind_0 : decode y_MM_kind.2.1 0 = .ok (.aload_n 0, 1) := by decide +kernel
theorem d_MM_kind_1 : decode y_MM_kind.2.1 1 = .ok (.iload_n 1, 1) := by decide +kernel
theorem d_MM_kind_2 : decode y_MM_kind.2.1 2 = .ok (.invokevirtual 569, 3) := by decide +kernel
theorem d_MM_kind_5 : decode y_MM_kind.2.1 5 = .ok (.ifCond .eq 12, 3) := by decide +kernel
theorem d_MM_kind_17 : decode y_MM_kind.2.1 17 = .ok (.iconst (-1), 1) := by decide +kernel
theorem d_MM_kind_8 : decode y_MM_kind.2.1 8 = .ok (.aload_n 0, 1) := by decide +kernel
theorem d_MM_kind_9 : decode y_MM_kind.2.1 9 = .ok (.getfield 93, 3) := by decide +kernel
theorem d_MM_kind_12 : decode y_MM_kind.2.1 12 = .ok (.iload_n 1, 1) := by decide +kernel
theorem d_MM_kind_13 : decode y_MM_kind.2.1 13 = .ok (.iaload, 1) := by decide +kernel
theorem d_MM_kind_14 : decode y_MM_kind.2.1 14 = .ok (.goto 4, 3) := by decide +kernel
theorem d_MM_kind_18 : decode y_MM_kind.2.1 18 = .ok (.ireturn, 1) := by decide +kernel
theorem k_MM_kind {G : mG} {d : Nat} {a0 : Nat} {l1 : Int} {M : mM} {Q : Int → mM → Prop} (hO : mOk M) (hi_l1 : i32 l1)
    (h : mK M a0 = 14 ∧ Ci G y_MM_isState d [vr a0, vi l1] M (fun x3 M2 => i32 x3 ∧ mOk M2 ∧ ((¬ (x3 = 0) → (mK M2 a0 = 14 ∧ mK M2 (mR M2 a0 32) = 30 ∧ ((0 : Int) ≤ l1 ∧ l1 < (mN M2 (mR M2 a0 32) : Int)))) ∧ ∀ v9 : Int, v9 = (if (x3 = 0) then (-1) else mI M2 (mR M2 a0 32) (Int.toNat l1)) → Q v9 M2))) :
    Ci G y_MM_kind (d + 1) [vr a0, vi l1] M Q := by
  refine wm_open (y := y_MM_kind) rfl (Nat.le_of_ble_eq_true rfl) (L := [vr a0, vi l1]) rfl ?_
  obtain ⟨h1, h⟩ := h
  refine wm_aload_n d_MM_kind_0 rfl rfl ?_
  refine wm_iload_n d_MM_kind_1 rfl rfl ?_
  refine cf_MM_569 rfl d_MM_kind_2 h1 (Nat.le_of_ble_eq_true rfl) (Ci.mono h (fun x3 M2 h => ?_))
  obtain ⟨h4, hOM2, h⟩ := h
  obtain ⟨s10, h⟩ := h
  have hJ : ∀ v9 : Int, v9 = (if (x3 = 0) then (-1) else mI M2 (mR M2 a0 32) (Int.toNat l1)) → mWm G y_MM_kind (d + 1) 18 [vd, vd] [vi v9] M2 (fun r9 M9 => ∃ x9, r9 = some (vi x9) ∧ Q x9 M9) := by
    intro v9 e11
    have h := h v9 e11
    refine wm_ireturn d_MM_kind_18 rfl rfl ?_
    exact ⟨_, rfl, h⟩
  clear h
  have s12 := s10
  refine wm_if_eq (tgt := 17) d_MM_kind_5 rfl h4 (fun c5 => ?_) (fun c5 => ?_)
  · refine wm_iconst d_MM_kind_17 ?_
    refine wm_less (L' := [vd, vd]) ⟨Or.inl rfl, Or.inl rfl, trivial⟩ ?_
    exact hJ (-1) (if_pos c5).symm
  · have s12 := s12 c5
    obtain ⟨h6, h7, h8⟩ := s12
    refine wm_aload_n d_MM_kind_8 rfl rfl ?_
    refine gf_MM_93 rfl d_MM_kind_9 h6 ?_
    refine wm_iload_n d_MM_kind_12 rfl rfl ?_
    refine wm_iald d_MM_kind_13 h7 h8 ?_
    refine wm_goto (tgt := 18) d_MM_kind_14 rfl ?_
    refine wm_less (L' := [vd, vd]) ⟨Or.inl rfl, Or.inl rfl, trivial⟩ ?_
    exact hJ (mI M2 (mR M2 a0 32) (Int.toNat l1)) (if_neg c5).symm
theorem d_MM_commands_0 : decode y_MM_commands.2.1 0 = .ok (.aload_n 0, 1) := by decide +kernel
theorem d_MM_commands_1 : decode y_MM_commands.2.1 1 = .ok (.iload_n 1, 1) := by decide +kernel
theorem d_MM_commands_2 : decode y_MM_commands.2.1 2 = .ok (.invokevirtual 569, 3) := by decide +kernel
theorem d_MM_commands_5 : decode y_MM_commands.2.1 5 = .ok (.ifCond .eq 12, 3) := by decide +kernel
theorem d_MM_commands_17 : decode y_MM_commands.2.1 17 = .ok (.iconst (-1), 1) := by decide +kernel
theorem d_MM_commands_8 : decode y_MM_commands.2.1 8 = .ok (.aload_n 0, 1) := by decide +kernel
theorem d_MM_commands_9 : decode y_MM_commands.2.1 9 = .ok (.getfield 99, 3) := by decide +kernel
theorem d_MM_commands_12 : decode y_MM_commands.2.1 12 = .ok (.iload_n 1, 1) := by decide +kernel
theorem d_MM_commands_13 : decode y_MM_commands.2.1 13 = .ok (.iaload, 1) := by decide +kernel
theorem d_MM_commands_14 : decode y_MM_commands.2.1 14 = .ok (.goto 4, 3) := by decide +kernel
theorem d_MM_commands_18 : decode y_MM_commands.2.1 18 = .ok (.ireturn, 1) := by decide +kernel
theorem k_MM_commands {G : mG} {d : Nat} {a0 : Nat} {l1 : Int} {M : mM} {Q : Int → mM → Prop} (hO : mOk M) (hi_l1 : i32 l1)
    (h : mK M a0 = 14 ∧ Ci G y_MM_isState d [vr a0, vi l1] M (fun x3 M2 => i32 x3 ∧ mOk M2 ∧ ((¬ (x3 = 0) → (mK M2 a0 = 14 ∧ mK M2 (mR M2 a0 34) = 30 ∧ ((0 : Int) ≤ l1 ∧ l1 < (mN M2 (mR M2 a0 34) : Int)))) ∧ ∀ v9 : Int, v9 = (if (x3 = 0) then (-1) else mI M2 (mR M2 a0 34) (Int.toNat l1)) → Q v9 M2))) :
    Ci G y_MM_commands (d + 1) [vr a0, vi l1] M Q := by
  refine wm_open (y := y_MM_commands) rfl (Nat.le_of_ble_eq_true rfl) (L := [vr a0, vi l1]) rfl ?_
  obtain ⟨h1, h⟩ := h
  refine wm_aload_n d_MM_commands_0 rfl rfl ?_
  refine wm_iload_n d_MM_commands_1 rfl rfl ?_
  refine cf_MM_569 rfl d_MM_commands_2 h1 (Nat.le_of_ble_eq_true rfl) (Ci.mono h (fun x3 M2 h => ?_))
  obtain ⟨h4, hOM2, h⟩ := h
  obtain ⟨s10, h⟩ := h
  have hJ : ∀ v9 : Int, v9 = (if (x3 = 0) then (-1) else mI M2 (mR M2 a0 34) (Int.toNat l1)) → mWm G y_MM_commands (d + 1) 18 [vd, vd] [vi v9] M2 (fun r9 M9 => ∃ x9, r9 = some (vi x9) ∧ Q x9 M9) := by
    intro v9 e11
    have h := h v9 e11
    refine wm_ireturn d_MM_commands_18 rfl rfl ?_
    exact ⟨_, rfl, h⟩
  clear h
  have s12 := s10
  refine wm_if_eq (tgt := 17) d_MM_commands_5 rfl h4 (fun c5 => ?_) (fun c5 => ?_)
  · refine wm_iconst d_MM_commands_17 ?_
    refine wm_less (L' := [vd, vd]) ⟨Or.inl rfl, Or.inl rfl, trivial⟩ ?_
    exact hJ (-1) (if_pos c5).symm
  · have s12 := s12 c5
    obtain ⟨h6, h7, h8⟩ := s12
    refine wm_aload_n d_MM_commands_8 rfl rfl ?_
    refine gf_MM_99 rfl d_MM_commands_9 h6 ?_
    refine wm_iload_n d_MM_commands_12 rfl rfl ?_
    refine wm_iald d_MM_commands_13 h7 h8 ?_
    refine wm_goto (tgt := 18) d_MM_commands_14 rfl ?_
    refine wm_less (L' := [vd, vd]) ⟨Or.inl rfl, Or.inl rfl, trivial⟩ ?_
    exact hJ (mI M2 (mR M2 a0 34) (Int.toNat l1)) (if_neg c5).symm
theorem d_MM_isCommand_0 : decode y_MM_isCommand.2.1 0 = .ok (.aload_n 0, 1) := by decide +kernel
theorem d_MM_isCommand_1 : decode y_MM_isCommand.2.1 1 = .ok (.iload_n 1, 1) := by decide +kernel
theorem d_MM_isCommand_2 : decode y_MM_isCommand.2.1 2 = .ok (.invokevirtual 569, 3) := by decide +kernel
theorem d_MM_isCommand_5 : decode y_MM_isCommand.2.1 5 = .ok (.ifCond .eq 21, 3) := by decide +kernel
theorem d_MM_isCommand_26 : decode y_MM_isCommand.2.1 26 = .ok (.iconst 0, 1) := by decide +kernel
theorem d_MM_isCommand_8 : decode y_MM_isCommand.2.1 8 = .ok (.iload_n 2, 1) := by decide +kernel
theorem d_MM_isCommand_9 : decode y_MM_isCommand.2.1 9 = .ok (.ifCond .lt 17, 3) := by decide +kernel
theorem d_MM_isCommand_12 : decode y_MM_isCommand.2.1 12 = .ok (.iload_n 2, 1) := by decide +kernel
theorem d_MM_isCommand_13 : decode y_MM_isCommand.2.1 13 = .ok (.aload_n 0, 1) := by decide +kernel
theorem d_MM_isCommand_14 : decode y_MM_isCommand.2.1 14 = .ok (.getfield 99, 3) := by decide +kernel
theorem d_MM_isCommand_17 : decode y_MM_isCommand.2.1 17 = .ok (.iload_n 1, 1) := by decide +kernel
theorem d_MM_isCommand_18 : decode y_MM_isCommand.2.1 18 = .ok (.iaload, 1) := by decide +kernel
theorem d_MM_isCommand_19 : decode y_MM_isCommand.2.1 19 = .ok (.if_icmp .ge 7, 3) := by decide +kernel
theorem d_MM_isCommand_22 : decode y_MM_isCommand.2.1 22 = .ok (.iconst 1, 1) := by decide +kernel
theorem d_MM_isCommand_23 : decode y_MM_isCommand.2.1 23 = .ok (.goto 4, 3) := by decide +kernel
theorem d_MM_isCommand_27 : decode y_MM_isCommand.2.1 27 = .ok (.ireturn, 1) := by decide +kernel
theorem k_MM_isCommand {G : mG} {d : Nat} {a0 : Nat} {l1 : Int} {l2 : Int} {M : mM} {Q : Int → mM → Prop} (hO : mOk M) (hi_l1 : i32 l1) (hi_l2 : i32 l2)
    (h : mK M a0 = 14 ∧ Ci G y_MM_isState d [vr a0, vi l1] M (fun x3 M2 => i32 x3 ∧ mOk M2 ∧ ((¬ (x3 = 0) → (¬ (l2 < 0) → (mK M2 a0 = 14 ∧ mK M2 (mR M2 a0 34) = 30 ∧ ((0 : Int) ≤ l1 ∧ l1 < (mN M2 (mR M2 a0 34) : Int))))) ∧ ∀ v11 : Int, v11 = (if ((x3 = 0) ∨ ((l2 < 0) ∨ (mI M2 (mR M2 a0 34) (Int.toNat l1) ≤ l2))) then 0 else 1) → Q v11 M2))) :
    Ci G y_MM_isCommand (d + 1) [vr a0, vi l1, vi l2] M Q := by
  refine wm_open (y := y_MM_isCommand) rfl (Nat.le_of_ble_eq_true rfl) (L := [vr a0, vi l1, vi l2]) rfl ?_
  obtain ⟨h1, h⟩ := h
  refine wm_aload_n d_MM_isCommand_0 rfl rfl ?_
  refine wm_iload_n d_MM_isCommand_1 rfl rfl ?_
  refine cf_MM_569 rfl d_MM_isCommand_2 h1 (Nat.le_of_ble_eq_true rfl) (Ci.mono h (fun x3 M2 h => ?_))
  obtain ⟨h4, hOM2, h⟩ := h
  obtain ⟨s12, h⟩ := h
  have hJ : ∀ v11 : Int, v11 = (if ((x3 = 0) ∨ ((l2 < 0) ∨ (mI M2 (mR M2 a0 34) (Int.toNat l1) ≤ l2))) then 0 else 1) → mWm G y_MM_isCommand (d + 1) 27 [vd, vd, vd] [vi v11] M2 (fun r9 M9 => ∃ x9, r9 = some (vi x9) ∧ Q x9 M9) := by
    intro v11 e13
    have h := h v11 e13
    have h14 : i32 v11 := by rw [e13]; (repeat' split) <;> first | exact ⟨by decide, by decide⟩ | exact ⟨by decide, by decide⟩
    have h15 : (v11 = 0 ∨ v11 = 1) := by rw [e13]; (repeat' split) <;> decide
    refine wm_ireturn d_MM_isCommand_27 rfl (m_nb h15) ?_
    exact ⟨_, rfl, h⟩
  clear h
  have s16 := s12
  refine wm_if_eq (tgt := 26) d_MM_isCommand_5 rfl h4 (fun c5 => ?_) (fun c5 => ?_)
  · refine wm_iconst d_MM_isCommand_26 ?_
    refine wm_less (L' := [vd, vd, vd]) ⟨Or.inl rfl, Or.inl rfl, Or.inl rfl, trivial⟩ ?_
    exact hJ 0 (if_pos (Or.inl c5)).symm
  · have s16 := s16 c5
    have s17 := s16
    refine wm_iload_n d_MM_isCommand_8 rfl rfl ?_
    refine wm_if_lt (tgt := 26) d_MM_isCommand_9 rfl hi_l2 (fun c6 => ?_) (fun c6 => ?_)
    · refine wm_iconst d_MM_isCommand_26 ?_
      refine wm_less (L' := [vd, vd, vd]) ⟨Or.inl rfl, Or.inl rfl, Or.inl rfl, trivial⟩ ?_
      exact hJ 0 (if_pos (Or.inr (Or.inl c6))).symm
    · have s17 := s17 c6
      obtain ⟨h7, h8, h9⟩ := s17
      refine wm_iload_n d_MM_isCommand_12 rfl rfl ?_
      refine wm_aload_n d_MM_isCommand_13 rfl rfl ?_
      refine gf_MM_99 rfl d_MM_isCommand_14 h7 ?_
      refine wm_iload_n d_MM_isCommand_17 rfl rfl ?_
      refine wm_iald d_MM_isCommand_18 h8 h9 ?_
      refine wm_icmp_ge (tgt := 26) d_MM_isCommand_19 rfl hi_l2 (hOM2 _ _).1 (fun c10 => ?_) (fun c10 => ?_)
      · refine wm_iconst d_MM_isCommand_26 ?_
        refine wm_less (L' := [vd, vd, vd]) ⟨Or.inl rfl, Or.inl rfl, Or.inl rfl, trivial⟩ ?_
        exact hJ 0 (if_pos (Or.inr (Or.inr c10))).symm
      · refine wm_iconst d_MM_isCommand_22 ?_
        refine wm_goto (tgt := 27) d_MM_isCommand_23 rfl ?_
        refine wm_less (L' := [vd, vd, vd]) ⟨Or.inl rfl, Or.inl rfl, Or.inl rfl, trivial⟩ ?_
        exact hJ 1 (if_neg (fun z18 => Or.elim z18 c5 (fun z19 => Or.elim z19 c6 c10))).symm
theorem d_MM_command_0 : decode y_MM_command.2.1 0 = .ok (.aload_n 0, 1) := by decide +kernel
theorem d_MM_command_1 : decode y_MM_command.2.1 1 = .ok (.iload_n 1, 1) := by decide +kernel
theorem d_MM_command_2 : decode y_MM_command.2.1 2 = .ok (.iload_n 2, 1) := by decide +kernel
theorem d_MM_command_3 : decode y_MM_command.2.1 3 = .ok (.invokevirtual 572, 3) := by decide +kernel
theorem d_MM_command_6 : decode y_MM_command.2.1 6 = .ok (.ifCond .eq 21, 3) := by decide +kernel
theorem d_MM_command_27 : decode y_MM_command.2.1 27 = .ok (.iconst (-1), 1) := by decide +kernel
theorem d_MM_command_9 : decode y_MM_command.2.1 9 = .ok (.aload_n 0, 1) := by decide +kernel
theorem d_MM_command_10 : decode y_MM_command.2.1 10 = .ok (.getfield 102, 3) := by decide +kernel
theorem d_MM_command_13 : decode y_MM_command.2.1 13 = .ok (.aload_n 0, 1) := by decide +kernel
theorem d_MM_command_14 : decode y_MM_command.2.1 14 = .ok (.getfield 96, 3) := by decide +kernel
theorem d_MM_command_17 : decode y_MM_command.2.1 17 = .ok (.iload_n 1, 1) := by decide +kernel
theorem d_MM_command_18 : decode y_MM_command.2.1 18 = .ok (.iaload, 1) := by decide +kernel
theorem d_MM_command_19 : decode y_MM_command.2.1 19 = .ok (.iload_n 2, 1) := by decide +kernel
theorem d_MM_command_20 : decode y_MM_command.2.1 20 = .ok (.iadd, 1) := by decide +kernel
theorem d_MM_command_28 : decode y_MM_command.2.1 28 = .ok (.ireturn, 1) := by decide +kernel
theorem d_MM_command_21 : decode y_MM_command.2.1 21 = .ok (.invokevirtual 155, 3) := by decide +kernel
theorem d_MM_command_24 : decode y_MM_command.2.1 24 = .ok (.goto 4, 3) := by decide +kernel
theorem k_MM_command {G : mG} {d : Nat} {a0 : Nat} {l1 : Int} {l2 : Int} {M : mM} {Q : Int → mM → Prop} (hO : mOk M) (hi_l1 : i32 l1) (hi_l2 : i32 l2)
    (h : mK M a0 = 14 ∧ Ci G y_MM_isCommand d [vr a0, vi l1, vi l2] M (fun x3 M2 => i32 x3 ∧ mOk M2 ∧ (((x3 = 0) → (Q (-1) M2)) ∧ (¬ (x3 = 0) → (mK M2 a0 = 14 ∧ mK M2 (mR M2 a0 33) = 30 ∧ ((0 : Int) ≤ l1 ∧ l1 < (mN M2 (mR M2 a0 33) : Int)) ∧ mK M2 (mR M2 a0 35) = 15 ∧ Ci G y_MN_at d [vr (mR M2 a0 35), vi ((mI M2 (mR M2 a0 33) (Int.toNat l1)) + l2)] M2 (fun x16 M15 => i32 x16 ∧ mOk M15 ∧ (Q x16 M15))))))) :
    Ci G y_MM_command (d + 1) [vr a0, vi l1, vi l2] M Q := by
  refine wm_open (y := y_MM_command) rfl (Nat.le_of_ble_eq_true rfl) (L := [vr a0, vi l1, vi l2]) rfl ?_
  obtain ⟨h1, h⟩ := h
  refine wm_aload_n d_MM_command_0 rfl rfl ?_
  refine wm_iload_n d_MM_command_1 rfl rfl ?_
  refine wm_iload_n d_MM_command_2 rfl rfl ?_
  refine cf_MM_572 rfl d_MM_command_3 h1 (Nat.le_of_ble_eq_true rfl) (Ci.mono h (fun x3 M2 h => ?_))
  obtain ⟨h4, hOM2, h⟩ := h
  refine wm_if_eq (tgt := 27) d_MM_command_6 rfl h4 (fun c10 => ?_) (fun c10 => ?_)
  · replace h := h.1 c10
    refine wm_iconst d_MM_command_27 ?_
    refine wm_ireturn d_MM_command_28 rfl rfl ?_
    exact ⟨_, rfl, h⟩
  · replace h := h.2 c10
    obtain ⟨h11, h⟩ := h
    obtain ⟨h12, h⟩ := h
    obtain ⟨h13, h⟩ := h
    obtain ⟨h14, h⟩ := h
    refine wm_aload_n d_MM_command_9 rfl rfl ?_
    refine gf_MM_102 rfl d_MM_command_10 h11 ?_
    refine wm_aload_n d_MM_command_13 rfl rfl ?_
    refine gf_MM_96 rfl d_MM_command_14 h11 ?_
    refine wm_iload_n d_MM_command_17 rfl rfl ?_
    refine wm_iald d_MM_command_18 h12 h13 ?_
    refine wm_iload_n d_MM_command_19 rfl rfl ?_
    refine wm_iadd d_MM_command_20 ?_
    refine cf_MM_155 rfl d_MM_command_21 h14 (Nat.le_of_ble_eq_true rfl) (Ci.mono h (fun x16 M15 h => ?_))
    obtain ⟨h17, hOM15, h⟩ := h
    refine wm_goto (tgt := 28) d_MM_command_24 rfl ?_
    refine wm_ireturn d_MM_command_28 rfl rfl ?_
    exact ⟨_, rfl, h⟩
theorem d_MM_branches_0 : decode y_MM_branches.2.1 0 = .ok (.aload_n 0, 1) := by decide +kernel
theorem d_MM_branches_1 : decode y_MM_branches.2.1 1 = .ok (.iload_n 1, 1) := by decide +kernel
theorem d_MM_branches_2 : decode y_MM_branches.2.1 2 = .ok (.iload_n 2, 1) := by decide +kernel
theorem d_MM_branches_3 : decode y_MM_branches.2.1 3 = .ok (.invokevirtual 572, 3) := by decide +kernel
theorem d_MM_branches_6 : decode y_MM_branches.2.1 6 = .ok (.ifCond .eq 21, 3) := by decide +kernel
theorem d_MM_branches_27 : decode y_MM_branches.2.1 27 = .ok (.iconst (-1), 1) := by decide +kernel
theorem d_MM_branches_9 : decode y_MM_branches.2.1 9 = .ok (.aload_n 0, 1) := by decide +kernel
theorem d_MM_branches_10 : decode y_MM_branches.2.1 10 = .ok (.getfield 108, 3) := by decide +kernel
theorem d_MM_branches_13 : decode y_MM_branches.2.1 13 = .ok (.aload_n 0, 1) := by decide +kernel
theorem d_MM_branches_14 : decode y_MM_branches.2.1 14 = .ok (.getfield 96, 3) := by decide +kernel
theorem d_MM_branches_17 : decode y_MM_branches.2.1 17 = .ok (.iload_n 1, 1) := by decide +kernel
theorem d_MM_branches_18 : decode y_MM_branches.2.1 18 = .ok (.iaload, 1) := by decide +kernel
theorem d_MM_branches_19 : decode y_MM_branches.2.1 19 = .ok (.iload_n 2, 1) := by decide +kernel
theorem d_MM_branches_20 : decode y_MM_branches.2.1 20 = .ok (.iadd, 1) := by decide +kernel
theorem d_MM_branches_28 : decode y_MM_branches.2.1 28 = .ok (.ireturn, 1) := by decide +kernel
theorem d_MM_branches_21 : decode y_MM_branches.2.1 21 = .ok (.invokevirtual 155, 3) := by decide +kernel
theorem d_MM_branches_24 : decode y_MM_branches.2.1 24 = .ok (.goto 4, 3) := by decide +kernel
theorem k_MM_branches {G : mG} {d : Nat} {a0 : Nat} {l1 : Int} {l2 : Int} {M : mM} {Q : Int → mM → Prop} (hO : mOk M) (hi_l1 : i32 l1) (hi_l2 : i32 l2)
    (h : mK M a0 = 14 ∧ Ci G y_MM_isCommand d [vr a0, vi l1, vi l2] M (fun x3 M2 => i32 x3 ∧ mOk M2 ∧ (((x3 = 0) → (Q (-1) M2)) ∧ (¬ (x3 = 0) → (mK M2 a0 = 14 ∧ mK M2 (mR M2 a0 33) = 30 ∧ ((0 : Int) ≤ l1 ∧ l1 < (mN M2 (mR M2 a0 33) : Int)) ∧ mK M2 (mR M2 a0 37) = 15 ∧ Ci G y_MN_at d [vr (mR M2 a0 37), vi ((mI M2 (mR M2 a0 33) (Int.toNat l1)) + l2)] M2 (fun x16 M15 => i32 x16 ∧ mOk M15 ∧ (Q x16 M15))))))) :
    Ci G y_MM_branches (d + 1) [vr a0, vi l1, vi l2] M Q := by
  refine wm_open (y := y_MM_branches) rfl (Nat.le_of_ble_eq_true rfl) (L := [vr a0, vi l1, vi l2]) rfl ?_
  obtain ⟨h1, h⟩ := h
  refine wm_aload_n d_MM_branches_0 rfl rfl ?_
  refine wm_iload_n d_MM_branches_1 rfl rfl ?_
  refine wm_iload_n d_MM_branches_2 rfl rfl ?_
  refine cf_MM_572 rfl d_MM_branches_3 h1 (Nat.le_of_ble_eq_true rfl) (Ci.mono h (fun x3 M2 h => ?_))
  obtain ⟨h4, hOM2, h⟩ := h
  refine wm_if_eq (tgt := 27) d_MM_branches_6 rfl h4 (fun c10 => ?_) (fun c10 => ?_)
  · replace h := h.1 c10
    refine wm_iconst d_MM_branches_27 ?_
    refine wm_ireturn d_MM_branches_28 rfl rfl ?_
    exact ⟨_, rfl, h⟩
  · replace h := h.2 c10
    obtain ⟨h11, h⟩ := h
    obtain ⟨h12, h⟩ := h
    obtain ⟨h13, h⟩ := h
    obtain ⟨h14, h⟩ := h
    refine wm_aload_n d_MM_branches_9 rfl rfl ?_
    refine gf_MM_108 rfl d_MM_branches_10 h11 ?_
    refine wm_aload_n d_MM_branches_13 rfl rfl ?_
    refine gf_MM_96 rfl d_MM_branches_14 h11 ?_
    refine wm_iload_n d_MM_branches_17 rfl rfl ?_
    refine wm_iald d_MM_branches_18 h12 h13 ?_
    refine wm_iload_n d_MM_branches_19 rfl rfl ?_
    refine wm_iadd d_MM_branches_20 ?_
    refine cf_MM_155 rfl d_MM_branches_21 h14 (Nat.le_of_ble_eq_true rfl) (Ci.mono h (fun x16 M15 h => ?_))
    obtain ⟨h17, hOM15, h⟩ := h
    refine wm_goto (tgt := 28) d_MM_branches_24 rfl ?_
    refine wm_ireturn d_MM_branches_28 rfl rfl ?_
    exact ⟨_, rfl, h⟩
theorem d_MM_branch1_0 : decode y_MM_branch1.2.1 0 = .ok (.aload_n 0, 1) := by decide +kernel
theorem d_MM_branch1_1 : decode y_MM_branch1.2.1 1 = .ok (.iload_n 1, 1) := by decide +kernel
theorem d_MM_branch1_2 : decode y_MM_branch1.2.1 2 = .ok (.iload_n 2, 1) := by decide +kernel
theorem d_MM_branch1_3 : decode y_MM_branch1.2.1 3 = .ok (.invokevirtual 572, 3) := by decide +kernel
theorem d_MM_branch1_6 : decode y_MM_branch1.2.1 6 = .ok (.ifCond .eq 37, 3) := by decide +kernel
theorem d_MM_branch1_9 : decode y_MM_branch1.2.1 9 = .ok (.iload_n 3, 1) := by decide +kernel
theorem d_MM_branch1_10 : decode y_MM_branch1.2.1 10 = .ok (.ifCond .lt 33, 3) := by decide +kernel
theorem d_MM_branch1_13 : decode y_MM_branch1.2.1 13 = .ok (.iload_n 3, 1) := by decide +kernel
theorem d_MM_branch1_14 : decode y_MM_branch1.2.1 14 = .ok (.aload_n 0, 1) := by decide +kernel
theorem d_MM_branch1_15 : decode y_MM_branch1.2.1 15 = .ok (.getfield 108, 3) := by decide +kernel
theorem d_MM_branch1_18 : decode y_MM_branch1.2.1 18 = .ok (.aload_n 0, 1) := by decide +kernel
theorem d_MM_branch1_19 : decode y_MM_branch1.2.1 19 = .ok (.getfield 96, 3) := by decide +kernel
theorem d_MM_branch1_22 : decode y_MM_branch1.2.1 22 = .ok (.iload_n 1, 1) := by decide +kernel
theorem d_MM_branch1_23 : decode y_MM_branch1.2.1 23 = .ok (.iaload, 1) := by decide +kernel
theorem d_MM_branch1_24 : decode y_MM_branch1.2.1 24 = .ok (.iload_n 2, 1) := by decide +kernel
theorem d_MM_branch1_25 : decode y_MM_branch1.2.1 25 = .ok (.iadd, 1) := by decide +kernel
theorem d_MM_branch1_43 : decode y_MM_branch1.2.1 43 = .ok (.iconst (-1), 1) := by decide +kernel
theorem d_MM_branch1_44 : decode y_MM_branch1.2.1 44 = .ok (.ireturn, 1) := by decide +kernel
theorem d_MM_branch1_26 : decode y_MM_branch1.2.1 26 = .ok (.invokevirtual 155, 3) := by decide +kernel
theorem d_MM_branch1_29 : decode y_MM_branch1.2.1 29 = .ok (.if_icmp .ge 14, 3) := by decide +kernel
theorem d_MM_branch1_32 : decode y_MM_branch1.2.1 32 = .ok (.iload 4, 2) := by decide +kernel
theorem d_MM_branch1_34 : decode y_MM_branch1.2.1 34 = .ok (.ifCond .lt 9, 3) := by decide +kernel
theorem d_MM_branch1_37 : decode y_MM_branch1.2.1 37 = .ok (.iload 4, 2) := by decide +kernel
theorem d_MM_branch1_39 : decode y_MM_branch1.2.1 39 = .ok (.iconst 2, 1) := by decide +kernel
theorem d_MM_branch1_40 : decode y_MM_branch1.2.1 40 = .ok (.if_icmp .le 5, 3) := by decide +kernel
theorem d_MM_branch1_45 : decode y_MM_branch1.2.1 45 = .ok (.aload_n 0, 1) := by decide +kernel
theorem d_MM_branch1_46 : decode y_MM_branch1.2.1 46 = .ok (.getfield 105, 3) := by decide +kernel
theorem d_MM_branch1_49 : decode y_MM_branch1.2.1 49 = .ok (.aload_n 0, 1) := by decide +kernel
theorem d_MM_branch1_50 : decode y_MM_branch1.2.1 50 = .ok (.getfield 96, 3) := by decide +kernel
theorem d_MM_branch1_53 : decode y_MM_branch1.2.1 53 = .ok (.iload_n 1, 1) := by decide +kernel
theorem d_MM_branch1_54 : decode y_MM_branch1.2.1 54 = .ok (.iaload, 1) := by decide +kernel
theorem d_MM_branch1_55 : decode y_MM_branch1.2.1 55 = .ok (.iload_n 2, 1) := by decide +kernel
theorem d_MM_branch1_56 : decode y_MM_branch1.2.1 56 = .ok (.iadd, 1) := by decide +kernel
theorem d_MM_branch1_57 : decode y_MM_branch1.2.1 57 = .ok (.invokevirtual 155, 3) := by decide +kernel
theorem d_MM_branch1_60 : decode y_MM_branch1.2.1 60 = .ok (.iload_n 3, 1) := by decide +kernel
theorem d_MM_branch1_61 : decode y_MM_branch1.2.1 61 = .ok (.iadd, 1) := by decide +kernel
theorem d_MM_branch1_62 : decode y_MM_branch1.2.1 62 = .ok (.istore 5, 2) := by decide +kernel
theorem d_MM_branch1_64 : decode y_MM_branch1.2.1 64 = .ok (.iload 4, 2) := by decide +kernel
theorem d_MM_branch1_66 : decode y_MM_branch1.2.1 66 = .ok (.ifCond .ne 13, 3) := by decide +kernel
theorem d_MM_branch1_69 : decode y_MM_branch1.2.1 69 = .ok (.aload_n 0, 1) := by decide +kernel
theorem d_MM_branch1_70 : decode y_MM_branch1.2.1 70 = .ok (.getfield 121, 3) := by decide +kernel
theorem d_MM_branch1_73 : decode y_MM_branch1.2.1 73 = .ok (.iload 5, 2) := by decide +kernel
theorem d_MM_branch1_75 : decode y_MM_branch1.2.1 75 = .ok (.iaload, 1) := by decide +kernel
theorem d_MM_branch1_76 : decode y_MM_branch1.2.1 76 = .ok (.goto 27, 3) := by decide +kernel
theorem d_MM_branch1_79 : decode y_MM_branch1.2.1 79 = .ok (.iload 4, 2) := by decide +kernel
theorem d_MM_branch1_81 : decode y_MM_branch1.2.1 81 = .ok (.iconst 1, 1) := by decide +kernel
theorem d_MM_branch1_82 : decode y_MM_branch1.2.1 82 = .ok (.if_icmp .ne 13, 3) := by decide +kernel
theorem d_MM_branch1_85 : decode y_MM_branch1.2.1 85 = .ok (.aload_n 0, 1) := by decide +kernel
theorem d_MM_branch1_86 : decode y_MM_branch1.2.1 86 = .ok (.getfield 124, 3) := by decide +kernel
theorem d_MM_branch1_89 : decode y_MM_branch1.2.1 89 = .ok (.iload 5, 2) := by decide +kernel
theorem d_MM_branch1_91 : decode y_MM_branch1.2.1 91 = .ok (.laload, 1) := by decide +kernel
theorem d_MM_branch1_92 : decode y_MM_branch1.2.1 92 = .ok (.goto 10, 3) := by decide +kernel
theorem d_MM_branch1_102 : decode y_MM_branch1.2.1 102 = .ok (.l2i, 1) := by decide +kernel
theorem d_MM_branch1_95 : decode y_MM_branch1.2.1 95 = .ok (.aload_n 0, 1) := by decide +kernel
theorem d_MM_branch1_96 : decode y_MM_branch1.2.1 96 = .ok (.getfield 127, 3) := by decide +kernel
theorem d_MM_branch1_99 : decode y_MM_branch1.2.1 99 = .ok (.iload 5, 2) := by decide +kernel
theorem d_MM_branch1_101 : decode y_MM_branch1.2.1 101 = .ok (.laload, 1) := by decide +kernel
theorem d_MM_branch1_103 : decode y_MM_branch1.2.1 103 = .ok (.ireturn, 1) := by decide +kernel
theorem k_MM_branch1 {G : mG} {d : Nat} {a0 : Nat} {l1 : Int} {l2 : Int} {l3 : Int} {l4 : Int} {M : mM} {Q : Int → mM → Prop} (hO : mOk M) (hi_l1 : i32 l1) (hi_l2 : i32 l2) (hi_l3 : i32 l3) (hi_l4 : i32 l4)
    (h : mK M a0 = 14 ∧ Ci G y_MM_isCommand d [vr a0, vi l1, vi l2] M (fun x3 M2 => i32 x3 ∧ mOk M2 ∧ ((((x3 = 0) ∨ (l3 < 0)) → (Q (-1) M2)) ∧ (¬ ((x3 = 0) ∨ (l3 < 0)) → (mK M2 a0 = 14 ∧ mK M2 (mR M2 a0 33) = 30 ∧ ((0 : Int) ≤ l1 ∧ l1 < (mN M2 (mR M2 a0 33) : Int)) ∧ mK M2 (mR M2 a0 37) = 15 ∧ Ci G y_MN_at d [vr (mR M2 a0 37), vi ((mI M2 (mR M2 a0 33) (Int.toNat l1)) + l2)] M2 (fun x15 M14 => i32 x15 ∧ mOk M14 ∧ ((((x15 ≤ l3) ∨ ((l4 < 0) ∨ (¬ (l4 ≤ 2)))) → (Q (-1) M14)) ∧ (¬ ((x15 ≤ l3) ∨ ((l4 < 0) ∨ (¬ (l4 ≤ 2)))) → (mK M14 a0 = 14 ∧ mK M14 (mR M14 a0 33) = 30 ∧ ((0 : Int) ≤ l1 ∧ l1 < (mN M14 (mR M14 a0 33) : Int)) ∧ mK M14 (mR M14 a0 36) = 15 ∧ Ci G y_MN_at d [vr (mR M14 a0 36), vi ((mI M14 (mR M14 a0 33) (Int.toNat l1)) + l2)] M14 (fun x28 M27 => i32 x28 ∧ mOk M27 ∧ ((((l4 = 0) → (mK M27 a0 = 14 ∧ mK M27 (mR M27 a0 41) = 30 ∧ ((0 : Int) ≤ x28 + l3 ∧ x28 + l3 < (mN M27 (mR M27 a0 41) : Int)))) ∧ (¬ (l4 = 0) → (((l4 = 1) → (mK M27 a0 = 14 ∧ mK M27 (mR M27 a0 42) = 33 ∧ ((0 : Int) ≤ x28 + l3 ∧ x28 + l3 < (mN M27 (mR M27 a0 42) : Int)))) ∧ (¬ (l4 = 1) → (mK M27 a0 = 14 ∧ mK M27 (mR M27 a0 43) = 33 ∧ ((0 : Int) ≤ x28 + l3 ∧ x28 + l3 < (mN M27 (mR M27 a0 43) : Int))))))) ∧ ∀ v41 : Int, v41 = (if l4 = 0 then mI M27 (mR M27 a0 41) (Int.toNat (x28 + l3)) else (if l4 = 1 then mL M27 (mR M27 a0 42) (Int.toNat (x28 + l3)) else mL M27 (mR M27 a0 43) (Int.toNat (x28 + l3)))) → Q v41 M27))))))))))) :
    Ci G y_MM_branch1 (d + 1) [vr a0, vi l1, vi l2, vi l3, vi l4] M Q := by
  refine wm_open (y := y_MM_branch1) rfl (Nat.le_of_ble_eq_true rfl) (L := [vr a0, vi l1, vi l2, vi l3, vi l4, vd]) rfl ?_
  obtain ⟨h1, h⟩ := h
  refine wm_aload_n d_MM_branch1_0 rfl rfl ?_
  refine wm_iload_n d_MM_branch1_1 rfl rfl ?_
  refine wm_iload_n d_MM_branch1_2 rfl rfl ?_
  refine cf_MM_572 rfl d_MM_branch1_3 h1 (Nat.le_of_ble_eq_true rfl) (Ci.mono h (fun x3 M2 h => ?_))
  obtain ⟨h4, hOM2, h⟩ := h
  have hE0 : ((x3 = 0) ∨ (l3 < 0)) → mWm G y_MM_branch1 (d + 1) 43 [vr a0, vi l1, vi l2, vi l3, vi l4, vd] [] M2 (fun r9 M9 => ∃ x9, r9 = some (vi x9) ∧ Q x9 M9) := by
    intro q8
    have h := h.1 q8
    refine wm_iconst d_MM_branch1_43 ?_
    refine wm_ireturn d_MM_branch1_44 rfl rfl ?_
    exact ⟨_, rfl, h⟩
  have hE1 : ¬ ((x3 = 0) ∨ (l3 < 0)) → mWm G y_MM_branch1 (d + 1) 13 [vr a0, vi l1, vi l2, vi l3, vi l4, vd] [] M2 (fun r9 M9 => ∃ x9, r9 = some (vi x9) ∧ Q x9 M9) := by
    intro q9
    have h := h.2 q9
    obtain ⟨h10, h⟩ := h
    obtain ⟨h11, h⟩ := h
    obtain ⟨h12, h⟩ := h
    obtain ⟨h13, h⟩ := h
    refine wm_iload_n d_MM_branch1_13 rfl rfl ?_
    refine wm_aload_n d_MM_branch1_14 rfl rfl ?_
    refine gf_MM_108 rfl d_MM_branch1_15 h10 ?_
    refine wm_aload_n d_MM_branch1_18 rfl rfl ?_
    refine gf_MM_96 rfl d_MM_branch1_19 h10 ?_
    refine wm_iload_n d_MM_branch1_22 rfl rfl ?_
    refine wm_iald d_MM_branch1_23 h11 h12 ?_
    refine wm_iload_n d_MM_branch1_24 rfl rfl ?_
    refine wm_iadd d_MM_branch1_25 ?_
    refine cf_MM_155 rfl d_MM_branch1_26 h13 (Nat.le_of_ble_eq_true rfl) (Ci.mono h (fun x15 M14 h => ?_))
    obtain ⟨h16, hOM14, h⟩ := h
    have hE0 : ((x15 ≤ l3) ∨ ((l4 < 0) ∨ (¬ (l4 ≤ 2)))) → mWm G y_MM_branch1 (d + 1) 43 [vr a0, vi l1, vi l2, vi l3, vi l4, vd] [] M14 (fun r9 M9 => ∃ x9, r9 = some (vi x9) ∧ Q x9 M9) := by
      intro q21
      have h := h.1 q21
      refine wm_iconst d_MM_branch1_43 ?_
      refine wm_ireturn d_MM_branch1_44 rfl rfl ?_
      exact ⟨_, rfl, h⟩
    have hE1 : ¬ ((x15 ≤ l3) ∨ ((l4 < 0) ∨ (¬ (l4 ≤ 2)))) → mWm G y_MM_branch1 (d + 1) 45 [vr a0, vi l1, vi l2, vi l3, vi l4, vd] [] M14 (fun r9 M9 => ∃ x9, r9 = some (vi x9) ∧ Q x9 M9) := by
      intro q22
      have h := h.2 q22
      obtain ⟨h23, h⟩ := h
      obtain ⟨h24, h⟩ := h
      obtain ⟨h25, h⟩ := h
      obtain ⟨h26, h⟩ := h
      refine wm_aload_n d_MM_branch1_45 rfl rfl ?_
      refine gf_MM_105 rfl d_MM_branch1_46 h23 ?_
      refine wm_aload_n d_MM_branch1_49 rfl rfl ?_
      refine gf_MM_96 rfl d_MM_branch1_50 h23 ?_
      refine wm_iload_n d_MM_branch1_53 rfl rfl ?_
      refine wm_iald d_MM_branch1_54 h24 h25 ?_
      refine wm_iload_n d_MM_branch1_55 rfl rfl ?_
      refine wm_iadd d_MM_branch1_56 ?_
      refine cf_MM_155 rfl d_MM_branch1_57 h26 (Nat.le_of_ble_eq_true rfl) (Ci.mono h (fun x28 M27 h => ?_))
      obtain ⟨h29, hOM27, h⟩ := h
      refine wm_iload_n d_MM_branch1_60 rfl rfl ?_
      refine wm_iadd d_MM_branch1_61 ?_
      refine wm_istore d_MM_branch1_62 (by decide) (L' := [vr a0, vi l1, vi l2, vi l3, vi l4, vi (x28 + l3)]) rfl ?_
      refine wm_iload d_MM_branch1_64 rfl ?_
      obtain ⟨s42, h⟩ := h
      have hJ : ∀ v41 : Int, v41 = (if l4 = 0 then mI M27 (mR M27 a0 41) (Int.toNat (x28 + l3)) else (if l4 = 1 then mL M27 (mR M27 a0 42) (Int.toNat (x28 + l3)) else mL M27 (mR M27 a0 43) (Int.toNat (x28 + l3)))) → mWm G y_MM_branch1 (d + 1) 103 [vd, vd, vd, vd, vd, vd] [vi v41] M27 (fun r9 M9 => ∃ x9, r9 = some (vi x9) ∧ Q x9 M9) := by
        intro v41 e43
        have h := h v41 e43
        refine wm_ireturn d_MM_branch1_103 rfl rfl ?_
        exact ⟨_, rfl, h⟩
      clear h
      obtain ⟨s44, s45⟩ := s42
      refine wm_if_ne (tgt := 79) d_MM_branch1_66 rfl hi_l4 (fun c30 => ?_) (fun c30 => ?_)
      · have s45 := s45 c30
        obtain ⟨s46, s47⟩ := s45
        refine wm_iload d_MM_branch1_79 rfl ?_
        refine wm_iconst d_MM_branch1_81 ?_
        refine wm_icmp_ne (tgt := 95) d_MM_branch1_82 rfl hi_l4 ⟨by decide, by decide⟩ (fun c34 => ?_) (fun c34 => ?_)
        · have s47 := s47 c34
          obtain ⟨h38, h39, h40⟩ := s47
          refine wm_aload_n d_MM_branch1_95 rfl rfl ?_
          refine gf_MM_127 rfl d_MM_branch1_96 h38 ?_
          refine wm_iload d_MM_branch1_99 rfl ?_
          refine wm_lald d_MM_branch1_101 h39 h40 ?_
          refine wm_l2i d_MM_branch1_102 ?_
          refine wm_less (L' := [vd, vd, vd, vd, vd, vd]) ⟨Or.inl rfl, Or.inl rfl, Or.inl rfl, Or.inl rfl, Or.inl rfl, Or.inl rfl, trivial⟩ ?_
          exact hJ (mL M27 (mR M27 a0 43) (Int.toNat (x28 + l3))) (by rw [if_neg c30, if_neg c34])
        · replace c34 := Classical.not_not.mp c34
          have s46 := s46 c34
          obtain ⟨h35, h36, h37⟩ := s46
          refine wm_aload_n d_MM_branch1_85 rfl rfl ?_
          refine gf_MM_124 rfl d_MM_branch1_86 h35 ?_
          refine wm_iload d_MM_branch1_89 rfl ?_
          refine wm_lald d_MM_branch1_91 h36 h37 ?_
          refine wm_goto (tgt := 102) d_MM_branch1_92 rfl ?_
          refine wm_l2i d_MM_branch1_102 ?_
          refine wm_less (L' := [vd, vd, vd, vd, vd, vd]) ⟨Or.inl rfl, Or.inl rfl, Or.inl rfl, Or.inl rfl, Or.inl rfl, Or.inl rfl, trivial⟩ ?_
          exact hJ (mL M27 (mR M27 a0 42) (Int.toNat (x28 + l3))) (by rw [if_neg c30, if_pos c34])
      · replace c30 := Classical.not_not.mp c30
        have s44 := s44 c30
        obtain ⟨h31, h32, h33⟩ := s44
        refine wm_aload_n d_MM_branch1_69 rfl rfl ?_
        refine gf_MM_121 rfl d_MM_branch1_70 h31 ?_
        refine wm_iload d_MM_branch1_73 rfl ?_
        refine wm_iald d_MM_branch1_75 h32 h33 ?_
        refine wm_goto (tgt := 103) d_MM_branch1_76 rfl ?_
        refine wm_less (L' := [vd, vd, vd, vd, vd, vd]) ⟨Or.inl rfl, Or.inl rfl, Or.inl rfl, Or.inl rfl, Or.inl rfl, Or.inl rfl, trivial⟩ ?_
        exact hJ (mI M27 (mR M27 a0 41) (Int.toNat (x28 + l3))) (by rw [if_pos c30])
    clear h
    refine wm_icmp_ge (tgt := 43) d_MM_branch1_29 rfl hi_l3 h16 (fun c19 => ?_) (fun c19 => ?_)
    · exact hE0 (Or.inl c19)
    · refine wm_iload d_MM_branch1_32 rfl ?_
      refine wm_if_lt (tgt := 43) d_MM_branch1_34 rfl hi_l4 (fun c18 => ?_) (fun c18 => ?_)
      · exact hE0 (Or.inr (Or.inl c18))
      · refine wm_iload d_MM_branch1_37 rfl ?_
        refine wm_iconst d_MM_branch1_39 ?_
        refine wm_icmp_le (tgt := 45) d_MM_branch1_40 rfl hi_l4 ⟨by decide, by decide⟩ (fun c17 => ?_) (fun c17 => ?_)
        · exact hE1 (fun z48 => Or.elim z48 c19 (fun z49 => Or.elim z49 c18 (fun z50 => z50 c17)))
        · exact hE0 (Or.inr (Or.inr c17))
  clear h
  refine wm_if_eq (tgt := 43) d_MM_branch1_6 rfl h4 (fun c6 => ?_) (fun c6 => ?_)
  · exact hE0 (Or.inl c6)
  · refine wm_iload_n d_MM_branch1_9 rfl rfl ?_
    refine wm_if_lt (tgt := 43) d_MM_branch1_10 rfl hi_l3 (fun c5 => ?_) (fun c5 => ?_)
    · exact hE0 (Or.inr c5)
    · exact hE1 (fun z51 => Or.elim z51 c6 c5)
theorem d_MM_tellState_0 : decode y_MM_tellState.2.1 0 = .ok (.aload_n 0, 1) := by decide +kernel
theorem d_MM_tellState_1 : decode y_MM_tellState.2.1 1 = .ok (.getfield 117, 3) := by decide +kernel
theorem d_MM_tellState_4 : decode y_MM_tellState.2.1 4 = .ok (.aload_n 0, 1) := by decide +kernel
theorem d_MM_tellState_5 : decode y_MM_tellState.2.1 5 = .ok (.getfield 93, 3) := by decide +kernel
theorem d_MM_tellState_8 : decode y_MM_tellState.2.1 8 = .ok (.iload_n 1, 1) := by decide +kernel
theorem d_MM_tellState_9 : decode y_MM_tellState.2.1 9 = .ok (.iaload, 1) := by decide +kernel
theorem d_MM_tellState_10 : decode y_MM_tellState.2.1 10 = .ok (.invokevirtual 575, 3) := by decide +kernel
theorem d_MM_tellState_13 : decode y_MM_tellState.2.1 13 = .ok (.aload_n 0, 1) := by decide +kernel
theorem d_MM_tellState_14 : decode y_MM_tellState.2.1 14 = .ok (.getfield 96, 3) := by decide +kernel
theorem d_MM_tellState_17 : decode y_MM_tellState.2.1 17 = .ok (.iload_n 1, 1) := by decide +kernel
theorem d_MM_tellState_18 : decode y_MM_tellState.2.1 18 = .ok (.iaload, 1) := by decide +kernel
theorem d_MM_tellState_19 : decode y_MM_tellState.2.1 19 = .ok (.istore_n 2, 1) := by decide +kernel
theorem d_MM_tellState_20 : decode y_MM_tellState.2.1 20 = .ok (.iload_n 2, 1) := by decide +kernel
theorem d_MM_tellState_21 : decode y_MM_tellState.2.1 21 = .ok (.aload_n 0, 1) := by decide +kernel
theorem d_MM_tellState_22 : decode y_MM_tellState.2.1 22 = .ok (.getfield 96, 3) := by decide +kernel
theorem d_MM_tellState_25 : decode y_MM_tellState.2.1 25 = .ok (.iload_n 1, 1) := by decide +kernel
theorem d_MM_tellState_26 : decode y_MM_tellState.2.1 26 = .ok (.iaload, 1) := by decide +kernel
theorem d_MM_tellState_27 : decode y_MM_tellState.2.1 27 = .ok (.aload_n 0, 1) := by decide +kernel
theorem d_MM_tellState_28 : decode y_MM_tellState.2.1 28 = .ok (.getfield 99, 3) := by decide +kernel
theorem d_MM_tellState_31 : decode y_MM_tellState.2.1 31 = .ok (.iload_n 1, 1) := by decide +kernel
theorem d_MM_tellState_32 : decode y_MM_tellState.2.1 32 = .ok (.iaload, 1) := by decide +kernel
theorem d_MM_tellState_33 : decode y_MM_tellState.2.1 33 = .ok (.iadd, 1) := by decide +kernel
theorem d_MM_tellState_34 : decode y_MM_tellState.2.1 34 = .ok (.if_icmp .ge 87, 3) := by decide +kernel
theorem d_MM_tellState_121 : decode y_MM_tellState.2.1 121 = .ok (.return_, 1) := by decide +kernel
theorem d_MM_tellState_37 : decode y_MM_tellState.2.1 37 = .ok (.aload_n 0, 1) := by decide +kernel
theorem d_MM_tellState_38 : decode y_MM_tellState.2.1 38 = .ok (.getfield 117, 3) := by decide +kernel
theorem d_MM_tellState_41 : decode y_MM_tellState.2.1 41 = .ok (.aload_n 0, 1) := by decide +kernel
theorem d_MM_tellState_42 : decode y_MM_tellState.2.1 42 = .ok (.getfield 111, 3) := by decide +kernel
theorem d_MM_tellState_45 : decode y_MM_tellState.2.1 45 = .ok (.iload_n 2, 1) := by decide +kernel
theorem d_MM_tellState_46 : decode y_MM_tellState.2.1 46 = .ok (.invokevirtual 155, 3) := by decide +kernel
theorem d_MM_tellState_49 : decode y_MM_tellState.2.1 49 = .ok (.invokevirtual 578, 3) := by decide +kernel
theorem d_MM_tellState_52 : decode y_MM_tellState.2.1 52 = .ok (.aload_n 0, 1) := by decide +kernel
theorem d_MM_tellState_53 : decode y_MM_tellState.2.1 53 = .ok (.getfield 105, 3) := by decide +kernel
theorem d_MM_tellState_56 : decode y_MM_tellState.2.1 56 = .ok (.iload_n 2, 1) := by decide +kernel
theorem d_MM_tellState_57 : decode y_MM_tellState.2.1 57 = .ok (.invokevirtual 155, 3) := by decide +kernel
theorem d_MM_tellState_60 : decode y_MM_tellState.2.1 60 = .ok (.istore_n 3, 1) := by decide +kernel
theorem d_MM_tellState_61 : decode y_MM_tellState.2.1 61 = .ok (.iload_n 3, 1) := by decide +kernel
theorem d_MM_tellState_62 : decode y_MM_tellState.2.1 62 = .ok (.aload_n 0, 1) := by decide +kernel
theorem d_MM_tellState_63 : decode y_MM_tellState.2.1 63 = .ok (.getfield 105, 3) := by decide +kernel
theorem d_MM_tellState_66 : decode y_MM_tellState.2.1 66 = .ok (.iload_n 2, 1) := by decide +kernel
theorem d_MM_tellState_67 : decode y_MM_tellState.2.1 67 = .ok (.invokevirtual 155, 3) := by decide +kernel
theorem d_MM_tellState_70 : decode y_MM_tellState.2.1 70 = .ok (.aload_n 0, 1) := by decide +kernel
theorem d_MM_tellState_71 : decode y_MM_tellState.2.1 71 = .ok (.getfield 108, 3) := by decide +kernel
theorem d_MM_tellState_74 : decode y_MM_tellState.2.1 74 = .ok (.iload_n 2, 1) := by decide +kernel
theorem d_MM_tellState_75 : decode y_MM_tellState.2.1 75 = .ok (.invokevirtual 155, 3) := by decide +kernel
theorem d_MM_tellState_78 : decode y_MM_tellState.2.1 78 = .ok (.iadd, 1) := by decide +kernel
theorem d_MM_tellState_79 : decode y_MM_tellState.2.1 79 = .ok (.if_icmp .ge 36, 3) := by decide +kernel
theorem d_MM_tellState_115 : decode y_MM_tellState.2.1 115 = .ok (.iinc 2 1, 3) := by decide +kernel
theorem d_MM_tellState_118 : decode y_MM_tellState.2.1 118 = .ok (.goto (-98), 3) := by decide +kernel
theorem d_MM_tellState_82 : decode y_MM_tellState.2.1 82 = .ok (.aload_n 0, 1) := by decide +kernel
theorem d_MM_tellState_83 : decode y_MM_tellState.2.1 83 = .ok (.getfield 117, 3) := by decide +kernel
theorem d_MM_tellState_86 : decode y_MM_tellState.2.1 86 = .ok (.aload_n 0, 1) := by decide +kernel
theorem d_MM_tellState_87 : decode y_MM_tellState.2.1 87 = .ok (.getfield 121, 3) := by decide +kernel
theorem d_MM_tellState_90 : decode y_MM_tellState.2.1 90 = .ok (.iload_n 3, 1) := by decide +kernel
theorem d_MM_tellState_91 : decode y_MM_tellState.2.1 91 = .ok (.iaload, 1) := by decide +kernel
theorem d_MM_tellState_92 : decode y_MM_tellState.2.1 92 = .ok (.aload_n 0, 1) := by decide +kernel
theorem d_MM_tellState_93 : decode y_MM_tellState.2.1 93 = .ok (.getfield 124, 3) := by decide +kernel
theorem d_MM_tellState_96 : decode y_MM_tellState.2.1 96 = .ok (.iload_n 3, 1) := by decide +kernel
theorem d_MM_tellState_97 : decode y_MM_tellState.2.1 97 = .ok (.laload, 1) := by decide +kernel
theorem d_MM_tellState_98 : decode y_MM_tellState.2.1 98 = .ok (.l2i, 1) := by decide +kernel
theorem d_MM_tellState_99 : decode y_MM_tellState.2.1 99 = .ok (.aload_n 0, 1) := by decide +kernel
theorem d_MM_tellState_100 : decode y_MM_tellState.2.1 100 = .ok (.getfield 127, 3) := by decide +kernel
theorem d_MM_tellState_103 : decode y_MM_tellState.2.1 103 = .ok (.iload_n 3, 1) := by decide +kernel
theorem d_MM_tellState_104 : decode y_MM_tellState.2.1 104 = .ok (.laload, 1) := by decide +kernel
theorem d_MM_tellState_105 : decode y_MM_tellState.2.1 105 = .ok (.l2i, 1) := by decide +kernel
theorem d_MM_tellState_106 : decode y_MM_tellState.2.1 106 = .ok (.invokevirtual 581, 3) := by decide +kernel
theorem d_MM_tellState_109 : decode y_MM_tellState.2.1 109 = .ok (.iinc 3 1, 3) := by decide +kernel
theorem d_MM_tellState_112 : decode y_MM_tellState.2.1 112 = .ok (.goto (-51), 3) := by decide +kernel
def h_MM_tellState_20 (G : mG) (d : Nat) (a0 : Nat) (l1 : Int) (l2 : Int) (M : mM) (Q : mM → Prop) : Prop := mWm G y_MM_tellState (d + 1) 20 [vr a0, vi l1, vi l2, vd] [] M (fun r9 M9 => r9 = none ∧ Q M9)
def h_MM_tellState_61 (G : mG) (d : Nat) (a0 : Nat) (l1 : Int) (l2 : Int) (l3 : Int) (M : mM) (Q : mM → Prop) : Prop := mWm G y_MM_tellState (d + 1) 61 [vr a0, vi l1, vi l2, vi l3] [] M (fun r9 M9 => r9 = none ∧ Q M9)
theorem k_MM_tellState {G : mG} {d : Nat} {a0 : Nat} {l1 : Int} {M : mM} {Q : mM → Prop} (hO : mOk M) (hi_l1 : i32 l1)
    (h : mK M a0 = 14 ∧ mK M (mR M a0 32) = 30 ∧ ((0 : Int) ≤ l1 ∧ l1 < (mN M (mR M a0 32) : Int)) ∧ mK M (mR M a0 39) = 17 ∧ Cv G y_MS_addState d [vr (mR M a0 39), vi (mI M (mR M a0 32) (Int.toNat l1))] M (fun M5 => mOk M5 ∧ (mK M5 a0 = 14 ∧ mK M5 (mR M5 a0 33) = 30 ∧ ((0 : Int) ≤ l1 ∧ l1 < (mN M5 (mR M5 a0 33) : Int)) ∧ h_MM_tellState_20 G d a0 l1 (mI M5 (mR M5 a0 33) (Int.toNat l1)) M5 Q))) :
    Cv G y_MM_tellState (d + 1) [vr a0, vi l1] M Q := by
  refine wm_open (y := y_MM_tellState) rfl (Nat.le_of_ble_eq_true rfl) (L := [vr a0, vi l1, vd, vd]) rfl ?_
  obtain ⟨h1, h⟩ := h
  obtain ⟨h2, h⟩ := h
  obtain ⟨h3, h⟩ := h
  obtain ⟨h4, h⟩ := h
  refine wm_aload_n d_MM_tellState_0 rfl rfl ?_
  refine gf_MM_117 rfl d_MM_tellState_1 h1 ?_
  refine wm_aload_n d_MM_tellState_4 rfl rfl ?_
  refine gf_MM_93 rfl d_MM_tellState_5 h1 ?_
  refine wm_iload_n d_MM_tellState_8 rfl rfl ?_
  refine wm_iald d_MM_tellState_9 h2 h3 ?_
  refine cf_MM_575 rfl d_MM_tellState_10 h4 (Nat.le_of_ble_eq_true rfl) (Cv.mono h (fun M5 h => ?_))
  obtain ⟨hOM5, h⟩ := h
  obtain ⟨h8, h⟩ := h
  obtain ⟨h9, h⟩ := h
  obtain ⟨h10, h⟩ := h
  refine wm_aload_n d_MM_tellState_13 rfl rfl ?_
  refine gf_MM_96 rfl d_MM_tellState_14 h8 ?_
  refine wm_iload_n d_MM_tellState_17 rfl rfl ?_
  refine wm_iald d_MM_tellState_18 h9 h10 ?_
  refine wm_istore_n d_MM_tellState_19 rfl (by decide) (L' := [vr a0, vi l1, vi (mI M5 (mR M5 a0 33) (Int.toNat l1)), vd]) rfl ?_
  exact h
theorem k_MM_tellState_20 {G : mG} {d : Nat} {a0 : Nat} {l1 : Int} {l2 : Int} {M : mM} {Q : mM → Prop} (hO : mOk M) (hi_l1 : i32 l1) (hi_l2 : i32 l2)
    (h : mK M a0 = 14 ∧ mK M (mR M a0 33) = 30 ∧ ((0 : Int) ≤ l1 ∧ l1 < (mN M (mR M a0 33) : Int)) ∧ mK M (mR M a0 34) = 30 ∧ ((0 : Int) ≤ l1 ∧ l1 < (mN M (mR M a0 34) : Int)) ∧ i32 ((mI M (mR M a0 33) (Int.toNat l1)) + (mI M (mR M a0 34) (Int.toNat l1))) ∧ (((mI M (mR M a0 33) (Int.toNat l1)) + (mI M (mR M a0 34) (Int.toNat l1)) ≤ l2) → (Q M)) ∧ (¬ ((mI M (mR M a0 33) (Int.toNat l1)) + (mI M (mR M a0 34) (Int.toNat l1)) ≤ l2) → (mK M (mR M a0 38) = 15 ∧ Ci G y_MN_at d [vr (mR M a0 38), vi l2] M (fun x22 M21 => i32 x22 ∧ mOk M21 ∧ (mK M21 (mR M a0 39) = 17 ∧ Cv G y_MS_addCommand d [vr (mR M a0 39), vi x22] M21 (fun M25 => mOk M25 ∧ (mK M25 a0 = 14 ∧ mK M25 (mR M25 a0 36) = 15 ∧ Ci G y_MN_at d [vr (mR M25 a0 36), vi l2] M25 (fun x31 M30 => i32 x31 ∧ mOk M30 ∧ (h_MM_tellState_61 G d a0 l1 l2 x31 M30 Q))))))))) :
    h_MM_tellState_20 G d a0 l1 l2 M Q := by
  unfold h_MM_tellState_20
  obtain ⟨h11, h⟩ := h
  obtain ⟨h12, h⟩ := h
  obtain ⟨h13, h⟩ := h
  obtain ⟨h14, h⟩ := h
  obtain ⟨h15, h⟩ := h
  obtain ⟨h18, h⟩ := h
  refine wm_iload_n d_MM_tellState_20 rfl rfl ?_
  refine wm_aload_n d_MM_tellState_21 rfl rfl ?_
  refine gf_MM_96 rfl d_MM_tellState_22 h11 ?_
  refine wm_iload_n d_MM_tellState_25 rfl rfl ?_
  refine wm_iald d_MM_tellState_26 h12 h13 ?_
  refine wm_aload_n d_MM_tellState_27 rfl rfl ?_
  refine gf_MM_99 rfl d_MM_tellState_28 h11 ?_
  refine wm_iload_n d_MM_tellState_31 rfl rfl ?_
  refine wm_iald d_MM_tellState_32 h14 h15 ?_
  refine wm_iadd d_MM_tellState_33 ?_
  refine wm_icmp_ge (tgt := 121) d_MM_tellState_34 rfl hi_l2 h18 (fun c19 => ?_) (fun c19 => ?_)
  · replace h := h.1 c19
    refine wm_return d_MM_tellState_121 rfl ?_
    exact ⟨rfl, h⟩
  · replace h := h.2 c19
    obtain ⟨h20, h⟩ := h
    refine wm_aload_n d_MM_tellState_37 rfl rfl ?_
    refine gf_MM_117 rfl d_MM_tellState_38 h11 ?_
    refine wm_aload_n d_MM_tellState_41 rfl rfl ?_
    refine gf_MM_111 rfl d_MM_tellState_42 h11 ?_
    refine wm_iload_n d_MM_tellState_45 rfl rfl ?_
    refine cf_MM_155 rfl d_MM_tellState_46 h20 (Nat.le_of_ble_eq_true rfl) (Ci.mono h (fun x22 M21 h => ?_))
    obtain ⟨h23, hOM21, h⟩ := h
    obtain ⟨h24, h⟩ := h
    refine cf_MM_578 rfl d_MM_tellState_49 h24 (Nat.le_of_ble_eq_true rfl) (Cv.mono h (fun M25 h => ?_))
    obtain ⟨hOM25, h⟩ := h
    obtain ⟨h28, h⟩ := h
    obtain ⟨h29, h⟩ := h
    refine wm_aload_n d_MM_tellState_52 rfl rfl ?_
    refine gf_MM_105 rfl d_MM_tellState_53 h28 ?_
    refine wm_iload_n d_MM_tellState_56 rfl rfl ?_
    refine cf_MM_155 rfl d_MM_tellState_57 h29 (Nat.le_of_ble_eq_true rfl) (Ci.mono h (fun x31 M30 h => ?_))
    obtain ⟨h32, hOM30, h⟩ := h
    refine wm_istore_n d_MM_tellState_60 rfl (by decide) (L' := [vr a0, vi l1, vi l2, vi x31]) rfl ?_
    exact h
theorem k_MM_tellState_61 {G : mG} {d : Nat} {a0 : Nat} {l1 : Int} {l2 : Int} {l3 : Int} {M : mM} {Q : mM → Prop} (hO : mOk M) (hi_l1 : i32 l1) (hi_l2 : i32 l2) (hi_l3 : i32 l3)
    (h : mK M a0 = 14 ∧ mK M (mR M a0 36) = 15 ∧ Ci G y_MN_at d [vr (mR M a0 36), vi l2] M (fun x36 M35 => i32 x36 ∧ mOk M35 ∧ (mK M35 a0 = 14 ∧ mK M35 (mR M35 a0 37) = 15 ∧ Ci G y_MN_at d [vr (mR M35 a0 37), vi l2] M35 (fun x41 M40 => i32 x41 ∧ mOk M40 ∧ (i32 (x36 + x41) ∧ ((x36 + x41 ≤ l3) → (h_MM_tellState_20 G d a0 l1 (l2 + 1) M40 Q)) ∧ (¬ (x36 + x41 ≤ l3) → (mK M40 a0 = 14 ∧ mK M40 (mR M40 a0 41) = 30 ∧ ((0 : Int) ≤ l3 ∧ l3 < (mN M40 (mR M40 a0 41) : Int)) ∧ mK M40 (mR M40 a0 42) = 33 ∧ ((0 : Int) ≤ l3 ∧ l3 < (mN M40 (mR M40 a0 42) : Int)) ∧ mK M40 (mR M40 a0 43) = 33 ∧ ((0 : Int) ≤ l3 ∧ l3 < (mN M40 (mR M40 a0 43) : Int)) ∧ mK M40 (mR M40 a0 39) = 17 ∧ Cv G y_MS_addBranch d [vr (mR M40 a0 39), vi (mI M40 (mR M40 a0 41) (Int.toNat l3)), vi (mL M40 (mR M40 a0 42) (Int.toNat l3)), vi (mL M40 (mR M40 a0 43) (Int.toNat l3))] M40 (fun M55 => mOk M55 ∧ (h_MM_tellState_61 G d a0 l1 l2 (l3 + 1) M55 Q))))))))) :
    h_MM_tellState_61 G d a0 l1 l2 l3 M Q := by
  unfold h_MM_tellState_61
  obtain ⟨h33, h⟩ := h
  obtain ⟨h34, h⟩ := h
  refine wm_iload_n d_MM_tellState_61 rfl rfl ?_
  refine wm_aload_n d_MM_tellState_62 rfl rfl ?_
  refine gf_MM_105 rfl d_MM_tellState_63 h33 ?_
  refine wm_iload_n d_MM_tellState_66 rfl rfl ?_
  refine cf_MM_155 rfl d_MM_tellState_67 h34 (Nat.le_of_ble_eq_true rfl) (Ci.mono h (fun x36 M35 h => ?_))
  obtain ⟨h37, hOM35, h⟩ := h
  obtain ⟨h38, h⟩ := h
  obtain ⟨h39, h⟩ := h
  refine wm_aload_n d_MM_tellState_70 rfl rfl ?_
  refine gf_MM_108 rfl d_MM_tellState_71 h38 ?_
  refine wm_iload_n d_MM_tellState_74 rfl rfl ?_
  refine cf_MM_155 rfl d_MM_tellState_75 h39 (Nat.le_of_ble_eq_true rfl) (Ci.mono h (fun x41 M40 h => ?_))
  obtain ⟨h42, hOM40, h⟩ := h
  obtain ⟨h45, h⟩ := h
  refine wm_iadd d_MM_tellState_78 ?_
  refine wm_icmp_ge (tgt := 115) d_MM_tellState_79 rfl hi_l3 h45 (fun c46 => ?_) (fun c46 => ?_)
  · replace h := h.1 c46
    refine wm_iinc d_MM_tellState_115 (by decide) rfl (L' := [vr a0, vi l1, vi (l2 + 1), vi l3]) rfl ?_
    refine wm_goto (tgt := 20) d_MM_tellState_118 rfl ?_
    refine wm_less (L' := [vr a0, vi l1, vi (l2 + 1), vd]) ⟨Or.inr rfl, Or.inr rfl, Or.inr rfl, Or.inl rfl, trivial⟩ ?_
    exact h
  · replace h := h.2 c46
    obtain ⟨h47, h⟩ := h
    obtain ⟨h48, h⟩ := h
    obtain ⟨h49, h⟩ := h
    obtain ⟨h50, h⟩ := h
    obtain ⟨h51, h⟩ := h
    obtain ⟨h52, h⟩ := h
    obtain ⟨h53, h⟩ := h
    obtain ⟨h54, h⟩ := h
    refine wm_aload_n d_MM_tellState_82 rfl rfl ?_
    refine gf_MM_117 rfl d_MM_tellState_83 h47 ?_
    refine wm_aload_n d_MM_tellState_86 rfl rfl ?_
    refine gf_MM_121 rfl d_MM_tellState_87 h47 ?_
    refine wm_iload_n d_MM_tellState_90 rfl rfl ?_
    refine wm_iald d_MM_tellState_91 h48 h49 ?_
    refine wm_aload_n d_MM_tellState_92 rfl rfl ?_
    refine gf_MM_124 rfl d_MM_tellState_93 h47 ?_
    refine wm_iload_n d_MM_tellState_96 rfl rfl ?_
    refine wm_lald d_MM_tellState_97 h50 h51 ?_
    refine wm_l2i d_MM_tellState_98 ?_
    refine wm_aload_n d_MM_tellState_99 rfl rfl ?_
    refine gf_MM_127 rfl d_MM_tellState_100 h47 ?_
    refine wm_iload_n d_MM_tellState_103 rfl rfl ?_
    refine wm_lald d_MM_tellState_104 h52 h53 ?_
    refine wm_l2i d_MM_tellState_105 ?_
    refine cf_MM_581 rfl d_MM_tellState_106 h54 (Nat.le_of_ble_eq_true rfl) (Cv.mono h (fun M55 h => ?_))
    obtain ⟨hOM55, h⟩ := h
    refine wm_iinc d_MM_tellState_109 (by decide) rfl (L' := [vr a0, vi l1, vi l2, vi (l3 + 1)]) rfl ?_
    refine wm_goto (tgt := 61) d_MM_tellState_112 rfl ?_
    exact h
theorem d_MM_solve_0 : decode y_MM_solve.2.1 0 = .ok (.aload_n 0, 1) := by decide +kernel
theorem d_MM_solve_1 : decode y_MM_solve.2.1 1 = .ok (.aload_n 0, 1) := by decide +kernel
theorem d_MM_solve_2 : decode y_MM_solve.2.1 2 = .ok (.getfield 532, 3) := by decide +kernel
theorem d_MM_solve_5 : decode y_MM_solve.2.1 5 = .ok (.ifCond .ne 7, 3) := by decide +kernel
theorem d_MM_solve_8 : decode y_MM_solve.2.1 8 = .ok (.iconst 1, 1) := by decide +kernel
theorem d_MM_solve_9 : decode y_MM_solve.2.1 9 = .ok (.goto 4, 3) := by decide +kernel
theorem d_MM_solve_12 : decode y_MM_solve.2.1 12 = .ok (.iconst 0, 1) := by decide +kernel
theorem d_MM_solve_13 : decode y_MM_solve.2.1 13 = .ok (.putfield 142, 3) := by decide +kernel
theorem d_MM_solve_16 : decode y_MM_solve.2.1 16 = .ok (.aload_n 0, 1) := by decide +kernel
theorem d_MM_solve_17 : decode y_MM_solve.2.1 17 = .ok (.getfield 142, 3) := by decide +kernel
theorem d_MM_solve_20 : decode y_MM_solve.2.1 20 = .ok (.ifCond .le 7, 3) := by decide +kernel
theorem d_MM_solve_27 : decode y_MM_solve.2.1 27 = .ok (.aload_n 0, 1) := by decide +kernel
theorem d_MM_solve_28 : decode y_MM_solve.2.1 28 = .ok (.getfield 117, 3) := by decide +kernel
theorem d_MM_solve_23 : decode y_MM_solve.2.1 23 = .ok (.iconst 0, 1) := by decide +kernel
theorem d_MM_solve_24 : decode y_MM_solve.2.1 24 = .ok (.goto 10, 3) := by decide +kernel
theorem d_MM_solve_34 : decode y_MM_solve.2.1 34 = .ok (.ireturn, 1) := by decide +kernel
theorem d_MM_solve_31 : decode y_MM_solve.2.1 31 = .ok (.invokevirtual 584, 3) := by decide +kernel
theorem k_MM_solve {G : mG} {d : Nat} {a0 : Nat} {M : mM} {Q : Int → mM → Prop} (hO : mOk M)
    (h : mK M a0 = 14 ∧ ∀ v3 : Int, v3 = (if (mI M a0 29 = 0) then 1 else 0) → ∀ M8, M8 = mUI M a0 0 v3 → ((mI M8 a0 0 ≤ 0) → (mK M8 (mR M8 a0 39) = 17 ∧ Ci G y_MS_solve d [vr (mR M8 a0 39)] M8 (fun x15 M14 => i32 x15 ∧ mOk M14 ∧ (Q x15 M14)))) ∧ (¬ (mI M8 a0 0 ≤ 0) → (Q 0 M8))) :
    Ci G y_MM_solve (d + 1) [vr a0] M Q := by
  refine wm_open (y := y_MM_solve) rfl (Nat.le_of_ble_eq_true rfl) (L := [vr a0]) rfl ?_
  obtain ⟨h1, h⟩ := h
  refine wm_aload_n d_MM_solve_0 rfl rfl ?_
  refine wm_aload_n d_MM_solve_1 rfl rfl ?_
  refine gf_MM_532 rfl d_MM_solve_2 h1 ?_
  have hJ : ∀ v3 : Int, v3 = (if (mI M a0 29 = 0) then 1 else 0) → mWm G y_MM_solve (d + 1) 13 [vr a0] [vi v3, vr a0] M (fun r9 M9 => ∃ x9, r9 = some (vi x9) ∧ Q x9 M9) := by
    intro v3 e5
    have h := h v3 e5
    have h6 : i32 v3 := by rw [e5]; (repeat' split) <;> first | exact ⟨by decide, by decide⟩ | exact ⟨by decide, by decide⟩
    have h7 : (v3 = 0 ∨ v3 = 1) := by rw [e5]; (repeat' split) <;> decide
    obtain ⟨M8, e9⟩ : ∃ M8, M8 = mUI M a0 0 v3 := ⟨_, rfl⟩
    replace h := h M8 e9
    have hOM8 : mOk M8 := by rw [e9]; exact mOk_UI hO h6
    refine pf_MM_142 rfl d_MM_solve_13 h1 h6 e9 ?_
    refine wm_aload_n d_MM_solve_16 rfl rfl ?_
    refine gf_MM_142 rfl d_MM_solve_17 (by rw [e9]; exact h1) ?_
    refine wm_if_le (tgt := 27) d_MM_solve_20 rfl (hOM8 _ _).1 (fun c12 => ?_) (fun c12 => ?_)
    · replace h := h.1 c12
      obtain ⟨h13, h⟩ := h
      refine wm_aload_n d_MM_solve_27 rfl rfl ?_
      refine gf_MM_117 rfl d_MM_solve_28 (by rw [e9]; exact h1) ?_
      refine cf_MM_584 rfl d_MM_solve_31 h13 (Nat.le_of_ble_eq_true rfl) (Ci.mono h (fun x15 M14 h => ?_))
      obtain ⟨h16, hOM14, h⟩ := h
      refine wm_ireturn d_MM_solve_34 rfl rfl ?_
      exact ⟨_, rfl, h⟩
    · replace h := h.2 c12
      refine wm_iconst d_MM_solve_23 ?_
      refine wm_goto (tgt := 34) d_MM_solve_24 rfl ?_
      refine wm_ireturn d_MM_solve_34 rfl rfl ?_
      exact ⟨_, rfl, h⟩
  clear h
  refine wm_if_ne (tgt := 12) d_MM_solve_5 rfl (hO _ _).1 (fun c2 => ?_) (fun c2 => ?_)
  · refine wm_iconst d_MM_solve_12 ?_
    exact hJ 0 (if_neg c2).symm
  · replace c2 := Classical.not_not.mp c2
    refine wm_iconst d_MM_solve_8 ?_
    refine wm_goto (tgt := 13) d_MM_solve_9 rfl ?_
    exact hJ 1 (if_pos c2).symm
theorem d_MM_within_0 : decode y_MM_within.2.1 0 = .ok (.aload_n 0, 1) := by decide +kernel
theorem d_MM_within_1 : decode y_MM_within.2.1 1 = .ok (.iload_n 1, 1) := by decide +kernel
theorem d_MM_within_2 : decode y_MM_within.2.1 2 = .ok (.ifCond .lt 9, 3) := by decide +kernel
theorem d_MM_within_11 : decode y_MM_within.2.1 11 = .ok (.iconst 1, 1) := by decide +kernel
theorem d_MM_within_12 : decode y_MM_within.2.1 12 = .ok (.goto 15, 3) := by decide +kernel
theorem d_MM_within_5 : decode y_MM_within.2.1 5 = .ok (.iload_n 1, 1) := by decide +kernel
theorem d_MM_within_6 : decode y_MM_within.2.1 6 = .ok (.bipush 32, 2) := by decide +kernel
theorem d_MM_within_8 : decode y_MM_within.2.1 8 = .ok (.if_icmp .le 7, 3) := by decide +kernel
theorem d_MM_within_15 : decode y_MM_within.2.1 15 = .ok (.aload_n 0, 1) := by decide +kernel
theorem d_MM_within_16 : decode y_MM_within.2.1 16 = .ok (.getfield 532, 3) := by decide +kernel
theorem d_MM_within_19 : decode y_MM_within.2.1 19 = .ok (.ifCond .ne 7, 3) := by decide +kernel
theorem d_MM_within_22 : decode y_MM_within.2.1 22 = .ok (.iconst 2, 1) := by decide +kernel
theorem d_MM_within_23 : decode y_MM_within.2.1 23 = .ok (.goto 4, 3) := by decide +kernel
theorem d_MM_within_26 : decode y_MM_within.2.1 26 = .ok (.iconst 0, 1) := by decide +kernel
theorem d_MM_within_27 : decode y_MM_within.2.1 27 = .ok (.putfield 142, 3) := by decide +kernel
theorem d_MM_within_30 : decode y_MM_within.2.1 30 = .ok (.aload_n 0, 1) := by decide +kernel
theorem d_MM_within_31 : decode y_MM_within.2.1 31 = .ok (.getfield 142, 3) := by decide +kernel
theorem d_MM_within_34 : decode y_MM_within.2.1 34 = .ok (.ifCond .le 7, 3) := by decide +kernel
theorem d_MM_within_41 : decode y_MM_within.2.1 41 = .ok (.aload_n 0, 1) := by decide +kernel
theorem d_MM_within_42 : decode y_MM_within.2.1 42 = .ok (.getfield 117, 3) := by decide +kernel
theorem d_MM_within_45 : decode y_MM_within.2.1 45 = .ok (.iload_n 1, 1) := by decide +kernel
theorem d_MM_within_37 : decode y_MM_within.2.1 37 = .ok (.iconst 0, 1) := by decide +kernel
theorem d_MM_within_38 : decode y_MM_within.2.1 38 = .ok (.goto 11, 3) := by decide +kernel
theorem d_MM_within_49 : decode y_MM_within.2.1 49 = .ok (.ireturn, 1) := by decide +kernel
theorem d_MM_within_46 : decode y_MM_within.2.1 46 = .ok (.invokevirtual 587, 3) := by decide +kernel
theorem k_MM_within {G : mG} {d : Nat} {a0 : Nat} {l1 : Int} {M : mM} {Q : Int → mM → Prop} (hO : mOk M) (hi_l1 : i32 l1)
    (h : (¬ (l1 < 0) → ((l1 ≤ 32) → mK M a0 = 14)) ∧ ∀ v5 : Int, v5 = (if l1 < 0 then 1 else (if l1 ≤ 32 then (if mI M a0 29 = 0 then 2 else 0) else 1)) → mK M a0 = 14 ∧ ∀ M10, M10 = mUI M a0 0 v5 → ((mI M10 a0 0 ≤ 0) → (mK M10 (mR M10 a0 39) = 17 ∧ Ci G y_MS_within d [vr (mR M10 a0 39), vi l1] M10 (fun x17 M16 => i32 x17 ∧ mOk M16 ∧ (Q x17 M16)))) ∧ (¬ (mI M10 a0 0 ≤ 0) → (Q 0 M10))) :
    Ci G y_MM_within (d + 1) [vr a0, vi l1] M Q := by
  refine wm_open (y := y_MM_within) rfl (Nat.le_of_ble_eq_true rfl) (L := [vr a0, vi l1]) rfl ?_
  refine wm_aload_n d_MM_within_0 rfl rfl ?_
  refine wm_iload_n d_MM_within_1 rfl rfl ?_
  obtain ⟨s6, h⟩ := h
  have hJ : ∀ v5 : Int, v5 = (if l1 < 0 then 1 else (if l1 ≤ 32 then (if mI M a0 29 = 0 then 2 else 0) else 1)) → mWm G y_MM_within (d + 1) 27 [vr a0, vi l1] [vi v5, vr a0] M (fun r9 M9 => ∃ x9, r9 = some (vi x9) ∧ Q x9 M9) := by
    intro v5 e7
    have h := h v5 e7
    have h8 : i32 v5 := by rw [e7]; (repeat' split) <;> first | exact ⟨by decide, by decide⟩ | exact ⟨by decide, by decide⟩ | exact ⟨by decide, by decide⟩
    obtain ⟨h9, h⟩ := h
    obtain ⟨M10, e11⟩ : ∃ M10, M10 = mUI M a0 0 v5 := ⟨_, rfl⟩
    replace h := h M10 e11
    have hOM10 : mOk M10 := by rw [e11]; exact mOk_UI hO h8
    refine pf_MM_142 rfl d_MM_within_27 h9 h8 e11 ?_
    refine wm_aload_n d_MM_within_30 rfl rfl ?_
    refine gf_MM_142 rfl d_MM_within_31 (by rw [e11]; exact h9) ?_
    refine wm_if_le (tgt := 41) d_MM_within_34 rfl (hOM10 _ _).1 (fun c14 => ?_) (fun c14 => ?_)
    · replace h := h.1 c14
      obtain ⟨h15, h⟩ := h
      refine wm_aload_n d_MM_within_41 rfl rfl ?_
      refine gf_MM_117 rfl d_MM_within_42 (by rw [e11]; exact h9) ?_
      refine wm_iload_n d_MM_within_45 rfl rfl ?_
      refine cf_MM_587 rfl d_MM_within_46 h15 (Nat.le_of_ble_eq_true rfl) (Ci.mono h (fun x17 M16 h => ?_))
      obtain ⟨h18, hOM16, h⟩ := h
      refine wm_ireturn d_MM_within_49 rfl rfl ?_
      exact ⟨_, rfl, h⟩
    · replace h := h.2 c14
      refine wm_iconst d_MM_within_37 ?_
      refine wm_goto (tgt := 49) d_MM_within_38 rfl ?_
      refine wm_ireturn d_MM_within_49 rfl rfl ?_
      exact ⟨_, rfl, h⟩
  clear h
  have s19 := s6
  refine wm_if_lt (tgt := 11) d_MM_within_2 rfl hi_l1 (fun c1 => ?_) (fun c1 => ?_)
  · refine wm_iconst d_MM_within_11 ?_
    refine wm_goto (tgt := 27) d_MM_within_12 rfl ?_
    exact hJ 1 (by rw [if_pos c1])
  · have s19 := s19 c1
    have s20 := s19
    refine wm_iload_n d_MM_within_5 rfl rfl ?_
    refine wm_bipush d_MM_within_6 (by decide) ?_
    refine wm_icmp_le (tgt := 15) d_MM_within_8 rfl hi_l1 ⟨by decide, by decide⟩ (fun c2 => ?_) (fun c2 => ?_)
    · have s20 := s20 c2
      have h3 := s20
      refine wm_aload_n d_MM_within_15 rfl rfl ?_
      refine gf_MM_532 rfl d_MM_within_16 h3 ?_
      refine wm_if_ne (tgt := 26) d_MM_within_19 rfl (hO _ _).1 (fun c4 => ?_) (fun c4 => ?_)
      · refine wm_iconst d_MM_within_26 ?_
        exact hJ 0 (by rw [if_neg c1, if_pos c2, if_neg c4])
      · replace c4 := Classical.not_not.mp c4
        refine wm_iconst d_MM_within_22 ?_
        refine wm_goto (tgt := 27) d_MM_within_23 rfl ?_
        exact hJ 2 (by rw [if_neg c1, if_pos c2, if_pos c4])
    · refine wm_iconst d_MM_within_11 ?_
      refine wm_goto (tgt := 27) d_MM_within_12 rfl ?_
      exact hJ 1 (by rw [if_neg c1, if_neg c2])
theorem d_MM_choose1_0 : decode y_MM_choose1.2.1 0 = .ok (.aload_n 0, 1) := by decide +kernel
theorem d_MM_choose1_1 : decode y_MM_choose1.2.1 1 = .ok (.aload_n 0, 1) := by decide +kernel
theorem d_MM_choose1_2 : decode y_MM_choose1.2.1 2 = .ok (.iload_n 1, 1) := by decide +kernel
theorem d_MM_choose1_3 : decode y_MM_choose1.2.1 3 = .ok (.iload_n 2, 1) := by decide +kernel
theorem d_MM_choose1_4 : decode y_MM_choose1.2.1 4 = .ok (.invokevirtual 572, 3) := by decide +kernel
theorem d_MM_choose1_7 : decode y_MM_choose1.2.1 7 = .ok (.ifCond .eq 7, 3) := by decide +kernel
theorem d_MM_choose1_14 : decode y_MM_choose1.2.1 14 = .ok (.iconst 1, 1) := by decide +kernel
theorem d_MM_choose1_10 : decode y_MM_choose1.2.1 10 = .ok (.iconst 0, 1) := by decide +kernel
theorem d_MM_choose1_11 : decode y_MM_choose1.2.1 11 = .ok (.goto 4, 3) := by decide +kernel
theorem d_MM_choose1_15 : decode y_MM_choose1.2.1 15 = .ok (.putfield 142, 3) := by decide +kernel
theorem d_MM_choose1_18 : decode y_MM_choose1.2.1 18 = .ok (.aload_n 0, 1) := by decide +kernel
theorem d_MM_choose1_19 : decode y_MM_choose1.2.1 19 = .ok (.getfield 142, 3) := by decide +kernel
theorem d_MM_choose1_22 : decode y_MM_choose1.2.1 22 = .ok (.ifCond .ne 12, 3) := by decide +kernel
theorem d_MM_choose1_25 : decode y_MM_choose1.2.1 25 = .ok (.aload_n 0, 1) := by decide +kernel
theorem d_MM_choose1_26 : decode y_MM_choose1.2.1 26 = .ok (.getfield 117, 3) := by decide +kernel
theorem d_MM_choose1_29 : decode y_MM_choose1.2.1 29 = .ok (.iload_n 1, 1) := by decide +kernel
theorem d_MM_choose1_30 : decode y_MM_choose1.2.1 30 = .ok (.iload_n 2, 1) := by decide +kernel
theorem d_MM_choose1_31 : decode y_MM_choose1.2.1 31 = .ok (.invokevirtual 590, 3) := by decide +kernel
theorem d_MM_choose1_34 : decode y_MM_choose1.2.1 34 = .ok (.return_, 1) := by decide +kernel
theorem k_MM_choose1 {G : mG} {d : Nat} {a0 : Nat} {l1 : Int} {l2 : Int} {M : mM} {Q : mM → Prop} (hO : mOk M) (hi_l1 : i32 l1) (hi_l2 : i32 l2)
    (h : mK M a0 = 14 ∧ Ci G y_MM_isCommand d [vr a0, vi l1, vi l2] M (fun x3 M2 => i32 x3 ∧ mOk M2 ∧ (∀ v6 : Int, v6 = (if (x3 = 0) then 1 else 0) → mK M2 a0 = 14 ∧ ∀ M12, M12 = mUI M2 a0 0 v6 → ((mI M12 a0 0 = 0) → (mK M12 (mR M12 a0 39) = 17 ∧ Cv G y_MS_tell d [vr (mR M12 a0 39), vi l1, vi l2] M12 (fun M18 => mOk M18 ∧ (Q M18)))) ∧ (¬ (mI M12 a0 0 = 0) → (Q M12))))) :
    Cv G y_MM_choose1 (d + 1) [vr a0, vi l1, vi l2] M Q := by
  refine wm_open (y := y_MM_choose1) rfl (Nat.le_of_ble_eq_true rfl) (L := [vr a0, vi l1, vi l2]) rfl ?_
  obtain ⟨h1, h⟩ := h
  refine wm_aload_n d_MM_choose1_0 rfl rfl ?_
  refine wm_aload_n d_MM_choose1_1 rfl rfl ?_
  refine wm_iload_n d_MM_choose1_2 rfl rfl ?_
  refine wm_iload_n d_MM_choose1_3 rfl rfl ?_
  refine cf_MM_572 rfl d_MM_choose1_4 h1 (Nat.le_of_ble_eq_true rfl) (Ci.mono h (fun x3 M2 h => ?_))
  obtain ⟨h4, hOM2, h⟩ := h
  have hJ : ∀ v6 : Int, v6 = (if (x3 = 0) then 1 else 0) → mWm G y_MM_choose1 (d + 1) 15 [vr a0, vi l1, vi l2] [vi v6, vr a0] M2 (fun r9 M9 => r9 = none ∧ Q M9) := by
    intro v6 e8
    have h := h v6 e8
    have h9 : i32 v6 := by rw [e8]; (repeat' split) <;> first | exact ⟨by decide, by decide⟩ | exact ⟨by decide, by decide⟩
    have h10 : (v6 = 0 ∨ v6 = 1) := by rw [e8]; (repeat' split) <;> decide
    obtain ⟨h11, h⟩ := h
    obtain ⟨M12, e13⟩ : ∃ M12, M12 = mUI M2 a0 0 v6 := ⟨_, rfl⟩
    replace h := h M12 e13
    have hOM12 : mOk M12 := by rw [e13]; exact mOk_UI hOM2 h9
    refine pf_MM_142 rfl d_MM_choose1_15 h11 h9 e13 ?_
    refine wm_aload_n d_MM_choose1_18 rfl rfl ?_
    refine gf_MM_142 rfl d_MM_choose1_19 (by rw [e13]; exact h11) ?_
    refine wm_if_ne (tgt := 34) d_MM_choose1_22 rfl (hOM12 _ _).1 (fun c16 => ?_) (fun c16 => ?_)
    · replace h := h.2 c16
      refine wm_return d_MM_choose1_34 rfl ?_
      exact ⟨rfl, h⟩
    · replace c16 := Classical.not_not.mp c16
      replace h := h.1 c16
      obtain ⟨h17, h⟩ := h
      refine wm_aload_n d_MM_choose1_25 rfl rfl ?_
      refine gf_MM_117 rfl d_MM_choose1_26 (by rw [e13]; exact h11) ?_
      refine wm_iload_n d_MM_choose1_29 rfl rfl ?_
      refine wm_iload_n d_MM_choose1_30 rfl rfl ?_
      refine cf_MM_590 rfl d_MM_choose1_31 h17 (Nat.le_of_ble_eq_true rfl) (Cv.mono h (fun M18 h => ?_))
      obtain ⟨hOM18, h⟩ := h
      refine wm_return d_MM_choose1_34 rfl ?_
      exact ⟨rfl, h⟩
  clear h
  refine wm_if_eq (tgt := 14) d_MM_choose1_7 rfl h4 (fun c5 => ?_) (fun c5 => ?_)
  · refine wm_iconst d_MM_choose1_14 ?_
    exact hJ 1 (if_pos c5).symm
  · refine wm_iconst d_MM_choose1_10 ?_
    refine wm_goto (tgt := 15) d_MM_choose1_11 rfl ?_
    exact hJ 0 (if_neg c5).symm
theorem d_MM_adopt_0 : decode y_MM_adopt.2.1 0 = .ok (.aload_n 0, 1) := by decide +kernel
theorem d_MM_adopt_1 : decode y_MM_adopt.2.1 1 = .ok (.aload_n 0, 1) := by decide +kernel
theorem d_MM_adopt_2 : decode y_MM_adopt.2.1 2 = .ok (.getfield 117, 3) := by decide +kernel
theorem d_MM_adopt_5 : decode y_MM_adopt.2.1 5 = .ok (.invokevirtual 593, 3) := by decide +kernel
theorem d_MM_adopt_8 : decode y_MM_adopt.2.1 8 = .ok (.ifCond .eq 7, 3) := by decide +kernel
theorem d_MM_adopt_15 : decode y_MM_adopt.2.1 15 = .ok (.iconst 1, 1) := by decide +kernel
theorem d_MM_adopt_11 : decode y_MM_adopt.2.1 11 = .ok (.iconst 0, 1) := by decide +kernel
theorem d_MM_adopt_12 : decode y_MM_adopt.2.1 12 = .ok (.goto 4, 3) := by decide +kernel
theorem d_MM_adopt_16 : decode y_MM_adopt.2.1 16 = .ok (.putfield 142, 3) := by decide +kernel
theorem d_MM_adopt_19 : decode y_MM_adopt.2.1 19 = .ok (.aload_n 0, 1) := by decide +kernel
theorem d_MM_adopt_20 : decode y_MM_adopt.2.1 20 = .ok (.getfield 142, 3) := by decide +kernel
theorem d_MM_adopt_23 : decode y_MM_adopt.2.1 23 = .ok (.ifCond .ne 10, 3) := by decide +kernel
theorem d_MM_adopt_26 : decode y_MM_adopt.2.1 26 = .ok (.aload_n 0, 1) := by decide +kernel
theorem d_MM_adopt_27 : decode y_MM_adopt.2.1 27 = .ok (.getfield 117, 3) := by decide +kernel
theorem d_MM_adopt_30 : decode y_MM_adopt.2.1 30 = .ok (.invokevirtual 596, 3) := by decide +kernel
theorem d_MM_adopt_33 : decode y_MM_adopt.2.1 33 = .ok (.return_, 1) := by decide +kernel
theorem k_MM_adopt {G : mG} {d : Nat} {a0 : Nat} {M : mM} {Q : mM → Prop} (hO : mOk M)
    (h : mK M a0 = 14 ∧ mK M (mR M a0 39) = 17 ∧ Ci G y_MS_hasValues d [vr (mR M a0 39)] M (fun x4 M3 => i32 x4 ∧ mOk M3 ∧ (∀ v7 : Int, v7 = (if (x4 = 0) then 1 else 0) → mK M3 a0 = 14 ∧ ∀ M13, M13 = mUI M3 a0 0 v7 → ((mI M13 a0 0 = 0) → (mK M13 (mR M13 a0 39) = 17 ∧ Cv G y_MS_adopt d [vr (mR M13 a0 39)] M13 (fun M19 => mOk M19 ∧ (Q M19)))) ∧ (¬ (mI M13 a0 0 = 0) → (Q M13))))) :
    Cv G y_MM_adopt (d + 1) [vr a0] M Q := by
  refine wm_open (y := y_MM_adopt) rfl (Nat.le_of_ble_eq_true rfl) (L := [vr a0]) rfl ?_
  obtain ⟨h1, h⟩ := h
  obtain ⟨h2, h⟩ := h
  refine wm_aload_n d_MM_adopt_0 rfl rfl ?_
  refine wm_aload_n d_MM_adopt_1 rfl rfl ?_
  refine gf_MM_117 rfl d_MM_adopt_2 h1 ?_
  refine cf_MM_593 rfl d_MM_adopt_5 h2 (Nat.le_of_ble_eq_true rfl) (Ci.mono h (fun x4 M3 h => ?_))
  obtain ⟨h5, hOM3, h⟩ := h
  have hJ : ∀ v7 : Int, v7 = (if (x4 = 0) then 1 else 0) → mWm G y_MM_adopt (d + 1) 16 [vr a0] [vi v7, vr a0] M3 (fun r9 M9 => r9 = none ∧ Q M9) := by
    intro v7 e9
    have h := h v7 e9
    have h10 : i32 v7 := by rw [e9]; (repeat' split) <;> first | exact ⟨by decide, by decide⟩ | exact ⟨by decide, by decide⟩
    have h11 : (v7 = 0 ∨ v7 = 1) := by rw [e9]; (repeat' split) <;> decide
    obtain ⟨h12, h⟩ := h
    obtain ⟨M13, e14⟩ : ∃ M13, M13 = mUI M3 a0 0 v7 := ⟨_, rfl⟩
    replace h := h M13 e14
    have hOM13 : mOk M13 := by rw [e14]; exact mOk_UI hOM3 h10
    refine pf_MM_142 rfl d_MM_adopt_16 h12 h10 e14 ?_
    refine wm_aload_n d_MM_adopt_19 rfl rfl ?_
    refine gf_MM_142 rfl d_MM_adopt_20 (by rw [e14]; exact h12) ?_
    refine wm_if_ne (tgt := 33) d_MM_adopt_23 rfl (hOM13 _ _).1 (fun c17 => ?_) (fun c17 => ?_)
    · replace h := h.2 c17
      refine wm_return d_MM_adopt_33 rfl ?_
      exact ⟨rfl, h⟩
    · replace c17 := Classical.not_not.mp c17
      replace h := h.1 c17
      obtain ⟨h18, h⟩ := h
      refine wm_aload_n d_MM_adopt_26 rfl rfl ?_
      refine gf_MM_117 rfl d_MM_adopt_27 (by rw [e14]; exact h12) ?_
      refine cf_MM_596 rfl d_MM_adopt_30 h18 (Nat.le_of_ble_eq_true rfl) (Cv.mono h (fun M19 h => ?_))
      obtain ⟨hOM19, h⟩ := h
      refine wm_return d_MM_adopt_33 rfl ?_
      exact ⟨rfl, h⟩
  clear h
  refine wm_if_eq (tgt := 15) d_MM_adopt_8 rfl h5 (fun c6 => ?_) (fun c6 => ?_)
  · refine wm_iconst d_MM_adopt_15 ?_
    exact hJ 1 (if_pos c6).symm
  · refine wm_iconst d_MM_adopt_11 ?_
    refine wm_goto (tgt := 16) d_MM_adopt_12 rfl ?_
    exact hJ 0 (if_neg c6).symm
theorem d_MM_judge_0 : decode y_MM_judge.2.1 0 = .ok (.aload_n 0, 1) := by decide +kernel
theorem d_MM_judge_1 : decode y_MM_judge.2.1 1 = .ok (.iload_n 1, 1) := by decide +kernel
theorem d_MM_judge_2 : decode y_MM_judge.2.1 2 = .ok (.iconst 1, 1) := by decide +kernel
theorem d_MM_judge_3 : decode y_MM_judge.2.1 3 = .ok (.if_icmp .eq 12, 3) := by decide +kernel
theorem d_MM_judge_15 : decode y_MM_judge.2.1 15 = .ok (.aload_n 0, 1) := by decide +kernel
theorem d_MM_judge_16 : decode y_MM_judge.2.1 16 = .ok (.getfield 532, 3) := by decide +kernel
theorem d_MM_judge_19 : decode y_MM_judge.2.1 19 = .ok (.ifCond .ne 7, 3) := by decide +kernel
theorem d_MM_judge_22 : decode y_MM_judge.2.1 22 = .ok (.iconst 2, 1) := by decide +kernel
theorem d_MM_judge_23 : decode y_MM_judge.2.1 23 = .ok (.goto 4, 3) := by decide +kernel
theorem d_MM_judge_26 : decode y_MM_judge.2.1 26 = .ok (.iconst 0, 1) := by decide +kernel
theorem d_MM_judge_6 : decode y_MM_judge.2.1 6 = .ok (.iload_n 1, 1) := by decide +kernel
theorem d_MM_judge_7 : decode y_MM_judge.2.1 7 = .ok (.iconst 2, 1) := by decide +kernel
theorem d_MM_judge_8 : decode y_MM_judge.2.1 8 = .ok (.if_icmp .eq 7, 3) := by decide +kernel
theorem d_MM_judge_11 : decode y_MM_judge.2.1 11 = .ok (.iconst 1, 1) := by decide +kernel
theorem d_MM_judge_12 : decode y_MM_judge.2.1 12 = .ok (.goto 15, 3) := by decide +kernel
theorem d_MM_judge_27 : decode y_MM_judge.2.1 27 = .ok (.putfield 142, 3) := by decide +kernel
theorem d_MM_judge_30 : decode y_MM_judge.2.1 30 = .ok (.aload_n 0, 1) := by decide +kernel
theorem d_MM_judge_31 : decode y_MM_judge.2.1 31 = .ok (.getfield 142, 3) := by decide +kernel
theorem d_MM_judge_34 : decode y_MM_judge.2.1 34 = .ok (.ifCond .le 7, 3) := by decide +kernel
theorem d_MM_judge_41 : decode y_MM_judge.2.1 41 = .ok (.aload_n 0, 1) := by decide +kernel
theorem d_MM_judge_42 : decode y_MM_judge.2.1 42 = .ok (.getfield 117, 3) := by decide +kernel
theorem d_MM_judge_45 : decode y_MM_judge.2.1 45 = .ok (.iload_n 1, 1) := by decide +kernel
theorem d_MM_judge_37 : decode y_MM_judge.2.1 37 = .ok (.iconst 0, 1) := by decide +kernel
theorem d_MM_judge_38 : decode y_MM_judge.2.1 38 = .ok (.goto 11, 3) := by decide +kernel
theorem d_MM_judge_49 : decode y_MM_judge.2.1 49 = .ok (.ireturn, 1) := by decide +kernel
theorem d_MM_judge_46 : decode y_MM_judge.2.1 46 = .ok (.invokevirtual 599, 3) := by decide +kernel
theorem k_MM_judge {G : mG} {d : Nat} {a0 : Nat} {l1 : Int} {M : mM} {Q : Int → mM → Prop} (hO : mOk M) (hi_l1 : i32 l1)
    (h : (((l1 = 1) → mK M a0 = 14) ∧ (¬ (l1 = 1) → ((l1 = 2) → mK M a0 = 14))) ∧ ∀ v7 : Int, v7 = (if l1 = 1 then (if mI M a0 29 = 0 then 2 else 0) else (if l1 = 2 then (if mI M a0 29 = 0 then 2 else 0) else 1)) → mK M a0 = 14 ∧ ∀ M12, M12 = mUI M a0 0 v7 → ((mI M12 a0 0 ≤ 0) → (mK M12 (mR M12 a0 39) = 17 ∧ Ci G y_MS_judge d [vr (mR M12 a0 39), vi l1] M12 (fun x19 M18 => i32 x19 ∧ mOk M18 ∧ (Q x19 M18)))) ∧ (¬ (mI M12 a0 0 ≤ 0) → (Q 0 M12))) :
    Ci G y_MM_judge (d + 1) [vr a0, vi l1] M Q := by
  refine wm_open (y := y_MM_judge) rfl (Nat.le_of_ble_eq_true rfl) (L := [vr a0, vi l1]) rfl ?_
  refine wm_aload_n d_MM_judge_0 rfl rfl ?_
  refine wm_iload_n d_MM_judge_1 rfl rfl ?_
  refine wm_iconst d_MM_judge_2 ?_
  obtain ⟨s8, h⟩ := h
  have hJ : ∀ v7 : Int, v7 = (if l1 = 1 then (if mI M a0 29 = 0 then 2 else 0) else (if l1 = 2 then (if mI M a0 29 = 0 then 2 else 0) else 1)) → mWm G y_MM_judge (d + 1) 27 [vr a0, vi l1] [vi v7, vr a0] M (fun r9 M9 => ∃ x9, r9 = some (vi x9) ∧ Q x9 M9) := by
    intro v7 e9
    have h := h v7 e9
    have h10 : i32 v7 := by rw [e9]; (repeat' split) <;> first | exact ⟨by decide, by decide⟩ | exact ⟨by decide, by decide⟩ | exact ⟨by decide, by decide⟩
    obtain ⟨h11, h⟩ := h
    obtain ⟨M12, e13⟩ : ∃ M12, M12 = mUI M a0 0 v7 := ⟨_, rfl⟩
    replace h := h M12 e13
    have hOM12 : mOk M12 := by rw [e13]; exact mOk_UI hO h10
    refine pf_MM_142 rfl d_MM_judge_27 h11 h10 e13 ?_
    refine wm_aload_n d_MM_judge_30 rfl rfl ?_
    refine gf_MM_142 rfl d_MM_judge_31 (by rw [e13]; exact h11) ?_
    refine wm_if_le (tgt := 41) d_MM_judge_34 rfl (hOM12 _ _).1 (fun c16 => ?_) (fun c16 => ?_)
    · replace h := h.1 c16
      obtain ⟨h17, h⟩ := h
      refine wm_aload_n d_MM_judge_41 rfl rfl ?_
      refine gf_MM_117 rfl d_MM_judge_42 (by rw [e13]; exact h11) ?_
      refine wm_iload_n d_MM_judge_45 rfl rfl ?_
      refine cf_MM_599 rfl d_MM_judge_46 h17 (Nat.le_of_ble_eq_true rfl) (Ci.mono h (fun x19 M18 h => ?_))
      obtain ⟨h20, hOM18, h⟩ := h
      refine wm_ireturn d_MM_judge_49 rfl rfl ?_
      exact ⟨_, rfl, h⟩
    · replace h := h.2 c16
      refine wm_iconst d_MM_judge_37 ?_
      refine wm_goto (tgt := 49) d_MM_judge_38 rfl ?_
      refine wm_ireturn d_MM_judge_49 rfl rfl ?_
      exact ⟨_, rfl, h⟩
  clear h
  obtain ⟨s21, s22⟩ := s8
  refine wm_icmp_eq (tgt := 15) d_MM_judge_3 rfl hi_l1 ⟨by decide, by decide⟩ (fun c1 => ?_) (fun c1 => ?_)
  · have s21 := s21 c1
    have h2 := s21
    refine wm_aload_n d_MM_judge_15 rfl rfl ?_
    refine gf_MM_532 rfl d_MM_judge_16 h2 ?_
    refine wm_if_ne (tgt := 26) d_MM_judge_19 rfl (hO _ _).1 (fun c3 => ?_) (fun c3 => ?_)
    · refine wm_iconst d_MM_judge_26 ?_
      exact hJ 0 (by rw [if_pos c1, if_neg c3])
    · replace c3 := Classical.not_not.mp c3
      refine wm_iconst d_MM_judge_22 ?_
      refine wm_goto (tgt := 27) d_MM_judge_23 rfl ?_
      exact hJ 2 (by rw [if_pos c1, if_pos c3])
  · have s22 := s22 c1
    have s23 := s22
    refine wm_iload_n d_MM_judge_6 rfl rfl ?_
    refine wm_iconst d_MM_judge_7 ?_
    refine wm_icmp_eq (tgt := 15) d_MM_judge_8 rfl hi_l1 ⟨by decide, by decide⟩ (fun c4 => ?_) (fun c4 => ?_)
    · have s23 := s23 c4
      have h5 := s23
      refine wm_aload_n d_MM_judge_15 rfl rfl ?_
      refine gf_MM_532 rfl d_MM_judge_16 h5 ?_
      refine wm_if_ne (tgt := 26) d_MM_judge_19 rfl (hO _ _).1 (fun c6 => ?_) (fun c6 => ?_)
      · refine wm_iconst d_MM_judge_26 ?_
        exact hJ 0 (by rw [if_neg c1, if_pos c4, if_neg c6])
      · replace c6 := Classical.not_not.mp c6
        refine wm_iconst d_MM_judge_22 ?_
        refine wm_goto (tgt := 27) d_MM_judge_23 rfl ?_
        exact hJ 2 (by rw [if_neg c1, if_pos c4, if_pos c6])
    · refine wm_iconst d_MM_judge_11 ?_
      refine wm_goto (tgt := 27) d_MM_judge_12 rfl ?_
      exact hJ 1 (by rw [if_neg c1, if_neg c4])
theorem d_MM_print_0 : decode y_MM_print.2.1 0 = .ok (.aload_n 0, 1) := by decide +kernel
theorem d_MM_print_1 : decode y_MM_print.2.1 1 = .ok (.iconst 0, 1) := by decide +kernel
theorem d_MM_print_2 : decode y_MM_print.2.1 2 = .ok (.putfield 142, 3) := by decide +kernel
theorem d_MM_print_5 : decode y_MM_print.2.1 5 = .ok (.aload_n 0, 1) := by decide +kernel
theorem d_MM_print_6 : decode y_MM_print.2.1 6 = .ok (.getfield 117, 3) := by decide +kernel
theorem d_MM_print_9 : decode y_MM_print.2.1 9 = .ok (.iload_n 1, 1) := by decide +kernel
theorem d_MM_print_10 : decode y_MM_print.2.1 10 = .ok (.iload_n 2, 1) := by decide +kernel
theorem d_MM_print_11 : decode y_MM_print.2.1 11 = .ok (.invokevirtual 602, 3) := by decide +kernel
theorem d_MM_print_14 : decode y_MM_print.2.1 14 = .ok (.ifCond .ne 5, 3) := by decide +kernel
theorem d_MM_print_17 : decode y_MM_print.2.1 17 = .ok (.iconst (-1), 1) := by decide +kernel
theorem d_MM_print_18 : decode y_MM_print.2.1 18 = .ok (.ireturn, 1) := by decide +kernel
theorem d_MM_print_19 : decode y_MM_print.2.1 19 = .ok (.aload_n 0, 1) := by decide +kernel
theorem d_MM_print_20 : decode y_MM_print.2.1 20 = .ok (.aload_n 0, 1) := by decide +kernel
theorem d_MM_print_21 : decode y_MM_print.2.1 21 = .ok (.getfield 117, 3) := by decide +kernel
theorem d_MM_print_24 : decode y_MM_print.2.1 24 = .ok (.iload_n 1, 1) := by decide +kernel
theorem d_MM_print_25 : decode y_MM_print.2.1 25 = .ok (.iload_n 2, 1) := by decide +kernel
theorem d_MM_print_26 : decode y_MM_print.2.1 26 = .ok (.aload_n 0, 1) := by decide +kernel
theorem d_MM_print_27 : decode y_MM_print.2.1 27 = .ok (.getfield 139, 3) := by decide +kernel
theorem d_MM_print_30 : decode y_MM_print.2.1 30 = .ok (.invokevirtual 605, 3) := by decide +kernel
theorem d_MM_print_33 : decode y_MM_print.2.1 33 = .ok (.putfield 609, 3) := by decide +kernel
theorem d_MM_print_36 : decode y_MM_print.2.1 36 = .ok (.aload_n 0, 1) := by decide +kernel
theorem d_MM_print_37 : decode y_MM_print.2.1 37 = .ok (.getfield 609, 3) := by decide +kernel
theorem d_MM_print_40 : decode y_MM_print.2.1 40 = .ok (.ireturn, 1) := by decide +kernel
theorem k_MM_print {G : mG} {d : Nat} {a0 : Nat} {l1 : Int} {l2 : Int} {M : mM} {Q : Int → mM → Prop} (hO : mOk M) (hi_l1 : i32 l1) (hi_l2 : i32 l2)
    (h : mK M a0 = 14 ∧ ∀ M2, M2 = mUI M a0 0 0 → mK M2 (mR M2 a0 39) = 17 ∧ Ci G y_MS_isThere d [vr (mR M2 a0 39), vi l1, vi l2] M2 (fun x6 M5 => i32 x6 ∧ mOk M5 ∧ (((x6 = 0) → (Q (-1) M5)) ∧ (¬ (x6 = 0) → (mK M5 a0 = 14 ∧ mK M5 (mR M5 a0 39) = 17 ∧ Ci G y_MS_print d [vr (mR M5 a0 39), vi l1, vi l2, vr (mR M5 a0 47)] M5 (fun x13 M12 => i32 x13 ∧ mOk M12 ∧ (mK M12 a0 = 14 ∧ ∀ M16, M16 = mUI M12 a0 48 x13 → Q (mI M16 a0 48) M16))))))) :
    Ci G y_MM_print (d + 1) [vr a0, vi l1, vi l2] M Q := by
  refine wm_open (y := y_MM_print) rfl (Nat.le_of_ble_eq_true rfl) (L := [vr a0, vi l1, vi l2]) rfl ?_
  obtain ⟨h1, h⟩ := h
  obtain ⟨M2, e3⟩ : ∃ M2, M2 = mUI M a0 0 0 := ⟨_, rfl⟩
  replace h := h M2 e3
  obtain ⟨h4, h⟩ := h
  refine wm_aload_n d_MM_print_0 rfl rfl ?_
  refine wm_iconst d_MM_print_1 ?_
  have hOM2 : mOk M2 := by rw [e3]; exact mOk_UI hO ⟨by decide, by decide⟩
  refine pf_MM_142 rfl d_MM_print_2 h1 ⟨by decide, by decide⟩ e3 ?_
  refine wm_aload_n d_MM_print_5 rfl rfl ?_
  refine gf_MM_117 rfl d_MM_print_6 (by rw [e3]; exact h1) ?_
  refine wm_iload_n d_MM_print_9 rfl rfl ?_
  refine wm_iload_n d_MM_print_10 rfl rfl ?_
  refine cf_MM_602 rfl d_MM_print_11 h4 (Nat.le_of_ble_eq_true rfl) (Ci.mono h (fun x6 M5 h => ?_))
  obtain ⟨h7, hOM5, h⟩ := h
  refine wm_if_ne (tgt := 19) d_MM_print_14 rfl h7 (fun c9 => ?_) (fun c9 => ?_)
  · replace h := h.2 c9
    obtain ⟨h10, h⟩ := h
    obtain ⟨h11, h⟩ := h
    refine wm_aload_n d_MM_print_19 rfl rfl ?_
    refine wm_aload_n d_MM_print_20 rfl rfl ?_
    refine gf_MM_117 rfl d_MM_print_21 h10 ?_
    refine wm_iload_n d_MM_print_24 rfl rfl ?_
    refine wm_iload_n d_MM_print_25 rfl rfl ?_
    refine wm_aload_n d_MM_print_26 rfl rfl ?_
    refine gf_MM_139 rfl d_MM_print_27 h10 ?_
    refine cf_MM_605 rfl d_MM_print_30 h11 (Nat.le_of_ble_eq_true rfl) (Ci.mono h (fun x13 M12 h => ?_))
    obtain ⟨h14, hOM12, h⟩ := h
    obtain ⟨h15, h⟩ := h
    obtain ⟨M16, e17⟩ : ∃ M16, M16 = mUI M12 a0 48 x13 := ⟨_, rfl⟩
    replace h := h M16 e17
    have hOM16 : mOk M16 := by rw [e17]; exact mOk_UI hOM12 h14
    refine pf_MM_609 rfl d_MM_print_33 h15 h14 e17 ?_
    refine wm_aload_n d_MM_print_36 rfl rfl ?_
    refine gf_MM_609 rfl d_MM_print_37 (by rw [e17]; exact h15) ?_
    refine wm_ireturn d_MM_print_40 rfl rfl ?_
    exact ⟨_, rfl, h⟩
  · replace c9 := Classical.not_not.mp c9
    replace h := h.1 c9
    refine wm_iconst d_MM_print_17 ?_
    refine wm_ireturn d_MM_print_18 rfl rfl ?_
    exact ⟨_, rfl, h⟩
theorem d_MM_character_0 : decode y_MM_character.2.1 0 = .ok (.aload_n 0, 1) := by decide +kernel
theorem d_MM_character_1 : decode y_MM_character.2.1 1 = .ok (.iconst 0, 1) := by decide +kernel
theorem d_MM_character_2 : decode y_MM_character.2.1 2 = .ok (.putfield 142, 3) := by decide +kernel
theorem d_MM_character_5 : decode y_MM_character.2.1 5 = .ok (.iload_n 1, 1) := by decide +kernel
theorem d_MM_character_6 : decode y_MM_character.2.1 6 = .ok (.ifCond .lt 20, 3) := by decide +kernel
theorem d_MM_character_26 : decode y_MM_character.2.1 26 = .ok (.iconst (-1), 1) := by decide +kernel
theorem d_MM_character_9 : decode y_MM_character.2.1 9 = .ok (.iload_n 1, 1) := by decide +kernel
theorem d_MM_character_10 : decode y_MM_character.2.1 10 = .ok (.aload_n 0, 1) := by decide +kernel
theorem d_MM_character_11 : decode y_MM_character.2.1 11 = .ok (.getfield 609, 3) := by decide +kernel
theorem d_MM_character_14 : decode y_MM_character.2.1 14 = .ok (.if_icmp .ge 12, 3) := by decide +kernel
theorem d_MM_character_17 : decode y_MM_character.2.1 17 = .ok (.aload_n 0, 1) := by decide +kernel
theorem d_MM_character_18 : decode y_MM_character.2.1 18 = .ok (.getfield 139, 3) := by decide +kernel
theorem d_MM_character_21 : decode y_MM_character.2.1 21 = .ok (.iload_n 1, 1) := by decide +kernel
theorem d_MM_character_22 : decode y_MM_character.2.1 22 = .ok (.iaload, 1) := by decide +kernel
theorem d_MM_character_23 : decode y_MM_character.2.1 23 = .ok (.goto 4, 3) := by decide +kernel
theorem d_MM_character_27 : decode y_MM_character.2.1 27 = .ok (.ireturn, 1) := by decide +kernel
theorem k_MM_character {G : mG} {d : Nat} {a0 : Nat} {l1 : Int} {M : mM} {Q : Int → mM → Prop} (hO : mOk M) (hi_l1 : i32 l1)
    (h : mK M a0 = 14 ∧ ∀ M2, M2 = mUI M a0 0 0 → (¬ (l1 < 0) → (¬ (mI M2 a0 48 ≤ l1) → (mK M2 (mR M2 a0 47) = 30 ∧ ((0 : Int) ≤ l1 ∧ l1 < (mN M2 (mR M2 a0 47) : Int))))) ∧ ∀ v8 : Int, v8 = (if ((l1 < 0) ∨ (mI M2 a0 48 ≤ l1)) then (-1) else mI M2 (mR M2 a0 47) (Int.toNat l1)) → Q v8 M2) :
    Ci G y_MM_character d [vr a0, vi l1] M Q := by
  refine wm_open (y := y_MM_character) rfl (Nat.le_of_ble_eq_true rfl) (L := [vr a0, vi l1]) rfl ?_
  obtain ⟨h1, h⟩ := h
  obtain ⟨M2, e3⟩ : ∃ M2, M2 = mUI M a0 0 0 := ⟨_, rfl⟩
  replace h := h M2 e3
  refine wm_aload_n d_MM_character_0 rfl rfl ?_
  refine wm_iconst d_MM_character_1 ?_
  have hOM2 : mOk M2 := by rw [e3]; exact mOk_UI hO ⟨by decide, by decide⟩
  refine pf_MM_142 rfl d_MM_character_2 h1 ⟨by decide, by decide⟩ e3 ?_
  refine wm_iload_n d_MM_character_5 rfl rfl ?_
  obtain ⟨s9, h⟩ := h
  have hJ : ∀ v8 : Int, v8 = (if ((l1 < 0) ∨ (mI M2 a0 48 ≤ l1)) then (-1) else mI M2 (mR M2 a0 47) (Int.toNat l1)) → mWm G y_MM_character d 27 [vd, vd] [vi v8] M2 (fun r9 M9 => ∃ x9, r9 = some (vi x9) ∧ Q x9 M9) := by
    intro v8 e10
    have h := h v8 e10
    refine wm_ireturn d_MM_character_27 rfl rfl ?_
    exact ⟨_, rfl, h⟩
  clear h
  have s11 := s9
  refine wm_if_lt (tgt := 26) d_MM_character_6 rfl hi_l1 (fun c4 => ?_) (fun c4 => ?_)
  · refine wm_iconst d_MM_character_26 ?_
    refine wm_less (L' := [vd, vd]) ⟨Or.inl rfl, Or.inl rfl, trivial⟩ ?_
    exact hJ (-1) (if_pos (Or.inl c4)).symm
  · have s11 := s11 c4
    have s12 := s11
    refine wm_iload_n d_MM_character_9 rfl rfl ?_
    refine wm_aload_n d_MM_character_10 rfl rfl ?_
    refine gf_MM_609 rfl d_MM_character_11 (by rw [e3]; exact h1) ?_
    refine wm_icmp_ge (tgt := 26) d_MM_character_14 rfl hi_l1 (hOM2 _ _).1 (fun c5 => ?_) (fun c5 => ?_)
    · refine wm_iconst d_MM_character_26 ?_
      refine wm_less (L' := [vd, vd]) ⟨Or.inl rfl, Or.inl rfl, trivial⟩ ?_
      exact hJ (-1) (if_pos (Or.inr c5)).symm
    · have s12 := s12 c5
      obtain ⟨h6, h7⟩ := s12
      refine wm_aload_n d_MM_character_17 rfl rfl ?_
      refine gf_MM_139 rfl d_MM_character_18 (by rw [e3]; exact h1) ?_
      refine wm_iload_n d_MM_character_21 rfl rfl ?_
      refine wm_iald d_MM_character_22 h6 h7 ?_
      refine wm_goto (tgt := 27) d_MM_character_23 rfl ?_
      refine wm_less (L' := [vd, vd]) ⟨Or.inl rfl, Or.inl rfl, trivial⟩ ?_
      exact hJ (mI M2 (mR M2 a0 47) (Int.toNat l1)) (if_neg (fun z13 => Or.elim z13 c4 c5)).symm
theorem d_MM_compare_0 : decode y_MM_compare.2.1 0 = .ok (.aload_n 0, 1) := by decide +kernel
theorem d_MM_compare_1 : decode y_MM_compare.2.1 1 = .ok (.iconst 0, 1) := by decide +kernel
theorem d_MM_compare_2 : decode y_MM_compare.2.1 2 = .ok (.putfield 142, 3) := by decide +kernel
theorem d_MM_compare_5 : decode y_MM_compare.2.1 5 = .ok (.aload_n 0, 1) := by decide +kernel
theorem d_MM_compare_6 : decode y_MM_compare.2.1 6 = .ok (.getfield 117, 3) := by decide +kernel
theorem d_MM_compare_9 : decode y_MM_compare.2.1 9 = .ok (.iload_n 1, 1) := by decide +kernel
theorem d_MM_compare_10 : decode y_MM_compare.2.1 10 = .ok (.iload_n 2, 1) := by decide +kernel
theorem d_MM_compare_11 : decode y_MM_compare.2.1 11 = .ok (.invokevirtual 602, 3) := by decide +kernel
theorem d_MM_compare_14 : decode y_MM_compare.2.1 14 = .ok (.ifCond .eq 31, 3) := by decide +kernel
theorem d_MM_compare_45 : decode y_MM_compare.2.1 45 = .ok (.bipush (-2), 2) := by decide +kernel
theorem d_MM_compare_17 : decode y_MM_compare.2.1 17 = .ok (.aload_n 0, 1) := by decide +kernel
theorem d_MM_compare_18 : decode y_MM_compare.2.1 18 = .ok (.getfield 117, 3) := by decide +kernel
theorem d_MM_compare_21 : decode y_MM_compare.2.1 21 = .ok (.iload_n 3, 1) := by decide +kernel
theorem d_MM_compare_22 : decode y_MM_compare.2.1 22 = .ok (.iload 4, 2) := by decide +kernel
theorem d_MM_compare_47 : decode y_MM_compare.2.1 47 = .ok (.ireturn, 1) := by decide +kernel
theorem d_MM_compare_24 : decode y_MM_compare.2.1 24 = .ok (.invokevirtual 602, 3) := by decide +kernel
theorem d_MM_compare_27 : decode y_MM_compare.2.1 27 = .ok (.ifCond .eq 18, 3) := by decide +kernel
theorem d_MM_compare_30 : decode y_MM_compare.2.1 30 = .ok (.aload_n 0, 1) := by decide +kernel
theorem d_MM_compare_31 : decode y_MM_compare.2.1 31 = .ok (.getfield 117, 3) := by decide +kernel
theorem d_MM_compare_34 : decode y_MM_compare.2.1 34 = .ok (.iload_n 1, 1) := by decide +kernel
theorem d_MM_compare_35 : decode y_MM_compare.2.1 35 = .ok (.iload_n 2, 1) := by decide +kernel
theorem d_MM_compare_36 : decode y_MM_compare.2.1 36 = .ok (.iload_n 3, 1) := by decide +kernel
theorem d_MM_compare_37 : decode y_MM_compare.2.1 37 = .ok (.iload 4, 2) := by decide +kernel
theorem d_MM_compare_39 : decode y_MM_compare.2.1 39 = .ok (.invokevirtual 612, 3) := by decide +kernel
theorem d_MM_compare_42 : decode y_MM_compare.2.1 42 = .ok (.goto 5, 3) := by decide +kernel
theorem k_MM_compare {G : mG} {d : Nat} {a0 : Nat} {l1 : Int} {l2 : Int} {l3 : Int} {l4 : Int} {M : mM} {Q : Int → mM → Prop} (hO : mOk M) (hi_l1 : i32 l1) (hi_l2 : i32 l2) (hi_l3 : i32 l3) (hi_l4 : i32 l4)
    (h : mK M a0 = 14 ∧ ∀ M2, M2 = mUI M a0 0 0 → mK M2 (mR M2 a0 39) = 17 ∧ Ci G y_MS_isThere d [vr (mR M2 a0 39), vi l1, vi l2] M2 (fun x6 M5 => i32 x6 ∧ mOk M5 ∧ (((x6 = 0) → (Q (-2) M5)) ∧ (¬ (x6 = 0) → (mK M5 a0 = 14 ∧ mK M5 (mR M5 a0 39) = 17 ∧ Ci G y_MS_isThere d [vr (mR M5 a0 39), vi l3, vi l4] M5 (fun x15 M14 => i32 x15 ∧ mOk M14 ∧ (((x15 = 0) → (Q (-2) M14)) ∧ (¬ (x15 = 0) → (mK M14 a0 = 14 ∧ mK M14 (mR M14 a0 39) = 17 ∧ Ci G y_MS_compare d [vr (mR M14 a0 39), vi l1, vi l2, vi l3, vi l4] M14 (fun x24 M23 => i32 x24 ∧ mOk M23 ∧ (Q x24 M23))))))))))) :
    Ci G y_MM_compare (d + 1) [vr a0, vi l1, vi l2, vi l3, vi l4] M Q := by
  refine wm_open (y := y_MM_compare) rfl (Nat.le_of_ble_eq_true rfl) (L := [vr a0, vi l1, vi l2, vi l3, vi l4]) rfl ?_
  obtain ⟨h1, h⟩ := h
  obtain ⟨M2, e3⟩ : ∃ M2, M2 = mUI M a0 0 0 := ⟨_, rfl⟩
  replace h := h M2 e3
  obtain ⟨h4, h⟩ := h
  refine wm_aload_n d_MM_compare_0 rfl rfl ?_
  refine wm_iconst d_MM_compare_1 ?_
  have hOM2 : mOk M2 := by rw [e3]; exact mOk_UI hO ⟨by decide, by decide⟩
  refine pf_MM_142 rfl d_MM_compare_2 h1 ⟨by decide, by decide⟩ e3 ?_
  refine wm_aload_n d_MM_compare_5 rfl rfl ?_
  refine gf_MM_117 rfl d_MM_compare_6 (by rw [e3]; exact h1) ?_
  refine wm_iload_n d_MM_compare_9 rfl rfl ?_
  refine wm_iload_n d_MM_compare_10 rfl rfl ?_
  refine cf_MM_602 rfl d_MM_compare_11 h4 (Nat.le_of_ble_eq_true rfl) (Ci.mono h (fun x6 M5 h => ?_))
  obtain ⟨h7, hOM5, h⟩ := h
  refine wm_if_eq (tgt := 45) d_MM_compare_14 rfl h7 (fun c11 => ?_) (fun c11 => ?_)
  · replace h := h.1 c11
    refine wm_bipush d_MM_compare_45 (by decide) ?_
    refine wm_ireturn d_MM_compare_47 rfl rfl ?_
    exact ⟨_, rfl, h⟩
  · replace h := h.2 c11
    obtain ⟨h12, h⟩ := h
    obtain ⟨h13, h⟩ := h
    refine wm_aload_n d_MM_compare_17 rfl rfl ?_
    refine gf_MM_117 rfl d_MM_compare_18 h12 ?_
    refine wm_iload_n d_MM_compare_21 rfl rfl ?_
    refine wm_iload d_MM_compare_22 rfl ?_
    refine cf_MM_602 rfl d_MM_compare_24 h13 (Nat.le_of_ble_eq_true rfl) (Ci.mono h (fun x15 M14 h => ?_))
    obtain ⟨h16, hOM14, h⟩ := h
    refine wm_if_eq (tgt := 45) d_MM_compare_27 rfl h16 (fun c20 => ?_) (fun c20 => ?_)
    · replace h := h.1 c20
      refine wm_bipush d_MM_compare_45 (by decide) ?_
      refine wm_ireturn d_MM_compare_47 rfl rfl ?_
      exact ⟨_, rfl, h⟩
    · replace h := h.2 c20
      obtain ⟨h21, h⟩ := h
      obtain ⟨h22, h⟩ := h
      refine wm_aload_n d_MM_compare_30 rfl rfl ?_
      refine gf_MM_117 rfl d_MM_compare_31 h21 ?_
      refine wm_iload_n d_MM_compare_34 rfl rfl ?_
      refine wm_iload_n d_MM_compare_35 rfl rfl ?_
      refine wm_iload_n d_MM_compare_36 rfl rfl ?_
      refine wm_iload d_MM_compare_37 rfl ?_
      refine cf_MM_612 rfl d_MM_compare_39 h22 (Nat.le_of_ble_eq_true rfl) (Ci.mono h (fun x24 M23 h => ?_))
      obtain ⟨h25, hOM23, h⟩ := h
      refine wm_goto (tgt := 47) d_MM_compare_42 rfl ?_
      refine wm_ireturn d_MM_compare_47 rfl rfl ?_
      exact ⟨_, rfl, h⟩
theorem d_MM_billionths_0 : decode y_MM_billionths.2.1 0 = .ok (.aload_n 0, 1) := by decide +kernel
theorem d_MM_billionths_1 : decode y_MM_billionths.2.1 1 = .ok (.iconst 0, 1) := by decide +kernel
theorem d_MM_billionths_2 : decode y_MM_billionths.2.1 2 = .ok (.putfield 142, 3) := by decide +kernel
theorem d_MM_billionths_5 : decode y_MM_billionths.2.1 5 = .ok (.aload_n 0, 1) := by decide +kernel
theorem d_MM_billionths_6 : decode y_MM_billionths.2.1 6 = .ok (.getfield 117, 3) := by decide +kernel
theorem d_MM_billionths_9 : decode y_MM_billionths.2.1 9 = .ok (.iload_n 1, 1) := by decide +kernel
theorem d_MM_billionths_10 : decode y_MM_billionths.2.1 10 = .ok (.iload_n 2, 1) := by decide +kernel
theorem d_MM_billionths_11 : decode y_MM_billionths.2.1 11 = .ok (.invokevirtual 602, 3) := by decide +kernel
theorem d_MM_billionths_14 : decode y_MM_billionths.2.1 14 = .ok (.ifCond .eq 15, 3) := by decide +kernel
theorem d_MM_billionths_29 : decode y_MM_billionths.2.1 29 = .ok (.iconst (-1), 1) := by decide +kernel
theorem d_MM_billionths_17 : decode y_MM_billionths.2.1 17 = .ok (.aload_n 0, 1) := by decide +kernel
theorem d_MM_billionths_18 : decode y_MM_billionths.2.1 18 = .ok (.getfield 117, 3) := by decide +kernel
theorem d_MM_billionths_21 : decode y_MM_billionths.2.1 21 = .ok (.iload_n 1, 1) := by decide +kernel
theorem d_MM_billionths_22 : decode y_MM_billionths.2.1 22 = .ok (.iload_n 2, 1) := by decide +kernel
theorem d_MM_billionths_30 : decode y_MM_billionths.2.1 30 = .ok (.ireturn, 1) := by decide +kernel
theorem d_MM_billionths_23 : decode y_MM_billionths.2.1 23 = .ok (.invokevirtual 616, 3) := by decide +kernel
theorem d_MM_billionths_26 : decode y_MM_billionths.2.1 26 = .ok (.goto 4, 3) := by decide +kernel
theorem k_MM_billionths {G : mG} {d : Nat} {a0 : Nat} {l1 : Int} {l2 : Int} {M : mM} {Q : Int → mM → Prop} (hO : mOk M) (hi_l1 : i32 l1) (hi_l2 : i32 l2)
    (h : mK M a0 = 14 ∧ ∀ M2, M2 = mUI M a0 0 0 → mK M2 (mR M2 a0 39) = 17 ∧ Ci G y_MS_isThere d [vr (mR M2 a0 39), vi l1, vi l2] M2 (fun x6 M5 => i32 x6 ∧ mOk M5 ∧ (((x6 = 0) → (Q (-1) M5)) ∧ (¬ (x6 = 0) → (mK M5 a0 = 14 ∧ mK M5 (mR M5 a0 39) = 17 ∧ Ci G y_MS_billionths d [vr (mR M5 a0 39), vi l1, vi l2] M5 (fun x15 M14 => i32 x15 ∧ mOk M14 ∧ (Q x15 M14))))))) :
    Ci G y_MM_billionths (d + 1) [vr a0, vi l1, vi l2] M Q := by
  refine wm_open (y := y_MM_billionths) rfl (Nat.le_of_ble_eq_true rfl) (L := [vr a0, vi l1, vi l2]) rfl ?_
  obtain ⟨h1, h⟩ := h
  obtain ⟨M2, e3⟩ : ∃ M2, M2 = mUI M a0 0 0 := ⟨_, rfl⟩
  replace h := h M2 e3
  obtain ⟨h4, h⟩ := h
  refine wm_aload_n d_MM_billionths_0 rfl rfl ?_
  refine wm_iconst d_MM_billionths_1 ?_
  have hOM2 : mOk M2 := by rw [e3]; exact mOk_UI hO ⟨by decide, by decide⟩
  refine pf_MM_142 rfl d_MM_billionths_2 h1 ⟨by decide, by decide⟩ e3 ?_
  refine wm_aload_n d_MM_billionths_5 rfl rfl ?_
  refine gf_MM_117 rfl d_MM_billionths_6 (by rw [e3]; exact h1) ?_
  refine wm_iload_n d_MM_billionths_9 rfl rfl ?_
  refine wm_iload_n d_MM_billionths_10 rfl rfl ?_
  refine cf_MM_602 rfl d_MM_billionths_11 h4 (Nat.le_of_ble_eq_true rfl) (Ci.mono h (fun x6 M5 h => ?_))
  obtain ⟨h7, hOM5, h⟩ := h
  refine wm_if_eq (tgt := 29) d_MM_billionths_14 rfl h7 (fun c11 => ?_) (fun c11 => ?_)
  · replace h := h.1 c11
    refine wm_iconst d_MM_billionths_29 ?_
    refine wm_ireturn d_MM_billionths_30 rfl rfl ?_
    exact ⟨_, rfl, h⟩
  · replace h := h.2 c11
    obtain ⟨h12, h⟩ := h
    obtain ⟨h13, h⟩ := h
    refine wm_aload_n d_MM_billionths_17 rfl rfl ?_
    refine gf_MM_117 rfl d_MM_billionths_18 h12 ?_
    refine wm_iload_n d_MM_billionths_21 rfl rfl ?_
    refine wm_iload_n d_MM_billionths_22 rfl rfl ?_
    refine cf_MM_616 rfl d_MM_billionths_23 h13 (Nat.le_of_ble_eq_true rfl) (Ci.mono h (fun x15 M14 h => ?_))
    obtain ⟨h16, hOM14, h⟩ := h
    refine wm_goto (tgt := 30) d_MM_billionths_26 rfl ?_
    refine wm_ireturn d_MM_billionths_30 rfl rfl ?_
    exact ⟨_, rfl, h⟩
theorem d_MM_choice_0 : decode y_MM_choice.2.1 0 = .ok (.aload_n 0, 1) := by decide +kernel
theorem d_MM_choice_1 : decode y_MM_choice.2.1 1 = .ok (.iload_n 1, 1) := by decide +kernel
theorem d_MM_choice_2 : decode y_MM_choice.2.1 2 = .ok (.invokevirtual 569, 3) := by decide +kernel
theorem d_MM_choice_5 : decode y_MM_choice.2.1 5 = .ok (.ifCond .eq 24, 3) := by decide +kernel
theorem d_MM_choice_29 : decode y_MM_choice.2.1 29 = .ok (.iconst (-1), 1) := by decide +kernel
theorem d_MM_choice_8 : decode y_MM_choice.2.1 8 = .ok (.aload_n 0, 1) := by decide +kernel
theorem d_MM_choice_9 : decode y_MM_choice.2.1 9 = .ok (.getfield 117, 3) := by decide +kernel
theorem d_MM_choice_30 : decode y_MM_choice.2.1 30 = .ok (.ireturn, 1) := by decide +kernel
theorem d_MM_choice_12 : decode y_MM_choice.2.1 12 = .ok (.invokevirtual 593, 3) := by decide +kernel
theorem d_MM_choice_15 : decode y_MM_choice.2.1 15 = .ok (.ifCond .eq 14, 3) := by decide +kernel
theorem d_MM_choice_18 : decode y_MM_choice.2.1 18 = .ok (.aload_n 0, 1) := by decide +kernel
theorem d_MM_choice_19 : decode y_MM_choice.2.1 19 = .ok (.getfield 117, 3) := by decide +kernel
theorem d_MM_choice_22 : decode y_MM_choice.2.1 22 = .ok (.iload_n 1, 1) := by decide +kernel
theorem d_MM_choice_23 : decode y_MM_choice.2.1 23 = .ok (.invokevirtual 619, 3) := by decide +kernel
theorem d_MM_choice_26 : decode y_MM_choice.2.1 26 = .ok (.goto 4, 3) := by decide +kernel
theorem k_MM_choice {G : mG} {d : Nat} {a0 : Nat} {l1 : Int} {M : mM} {Q : Int → mM → Prop} (hO : mOk M) (hi_l1 : i32 l1)
    (h : mK M a0 = 14 ∧ Ci G y_MM_isState d [vr a0, vi l1] M (fun x3 M2 => i32 x3 ∧ mOk M2 ∧ (((x3 = 0) → (Q (-1) M2)) ∧ (¬ (x3 = 0) → (mK M2 a0 = 14 ∧ mK M2 (mR M2 a0 39) = 17 ∧ Ci G y_MS_hasValues d [vr (mR M2 a0 39)] M2 (fun x12 M11 => i32 x12 ∧ mOk M11 ∧ (((x12 = 0) → (Q (-1) M11)) ∧ (¬ (x12 = 0) → (mK M11 a0 = 14 ∧ mK M11 (mR M11 a0 39) = 17 ∧ Ci G y_MS_choiceOf d [vr (mR M11 a0 39), vi l1] M11 (fun x21 M20 => i32 x21 ∧ mOk M20 ∧ (Q x21 M20))))))))))) :
    Ci G y_MM_choice (d + 1) [vr a0, vi l1] M Q := by
  refine wm_open (y := y_MM_choice) rfl (Nat.le_of_ble_eq_true rfl) (L := [vr a0, vi l1]) rfl ?_
  obtain ⟨h1, h⟩ := h
  refine wm_aload_n d_MM_choice_0 rfl rfl ?_
  refine wm_iload_n d_MM_choice_1 rfl rfl ?_
  refine cf_MM_569 rfl d_MM_choice_2 h1 (Nat.le_of_ble_eq_true rfl) (Ci.mono h (fun x3 M2 h => ?_))
  obtain ⟨h4, hOM2, h⟩ := h
  refine wm_if_eq (tgt := 29) d_MM_choice_5 rfl h4 (fun c8 => ?_) (fun c8 => ?_)
  · replace h := h.1 c8
    refine wm_iconst d_MM_choice_29 ?_
    refine wm_ireturn d_MM_choice_30 rfl rfl ?_
    exact ⟨_, rfl, h⟩
  · replace h := h.2 c8
    obtain ⟨h9, h⟩ := h
    obtain ⟨h10, h⟩ := h
    refine wm_aload_n d_MM_choice_8 rfl rfl ?_
    refine gf_MM_117 rfl d_MM_choice_9 h9 ?_
    refine cf_MM_593 rfl d_MM_choice_12 h10 (Nat.le_of_ble_eq_true rfl) (Ci.mono h (fun x12 M11 h => ?_))
    obtain ⟨h13, hOM11, h⟩ := h
    refine wm_if_eq (tgt := 29) d_MM_choice_15 rfl h13 (fun c17 => ?_) (fun c17 => ?_)
    · replace h := h.1 c17
      refine wm_iconst d_MM_choice_29 ?_
      refine wm_ireturn d_MM_choice_30 rfl rfl ?_
      exact ⟨_, rfl, h⟩
    · replace h := h.2 c17
      obtain ⟨h18, h⟩ := h
      obtain ⟨h19, h⟩ := h
      refine wm_aload_n d_MM_choice_18 rfl rfl ?_
      refine gf_MM_117 rfl d_MM_choice_19 h18 ?_
      refine wm_iload_n d_MM_choice_22 rfl rfl ?_
      refine cf_MM_619 rfl d_MM_choice_23 h19 (Nat.le_of_ble_eq_true rfl) (Ci.mono h (fun x21 M20 h => ?_))
      obtain ⟨h22, hOM20, h⟩ := h
      refine wm_goto (tgt := 30) d_MM_choice_26 rfl ?_
      refine wm_ireturn d_MM_choice_30 rfl rfl ?_
      exact ⟨_, rfl, h⟩
theorem d_MM_rank_0 : decode y_MM_rank.2.1 0 = .ok (.aload_n 0, 1) := by decide +kernel
theorem d_MM_rank_1 : decode y_MM_rank.2.1 1 = .ok (.iload_n 1, 1) := by decide +kernel
theorem d_MM_rank_2 : decode y_MM_rank.2.1 2 = .ok (.invokevirtual 569, 3) := by decide +kernel
theorem d_MM_rank_5 : decode y_MM_rank.2.1 5 = .ok (.ifCond .eq 24, 3) := by decide +kernel
theorem d_MM_rank_29 : decode y_MM_rank.2.1 29 = .ok (.iconst (-1), 1) := by decide +kernel
theorem d_MM_rank_8 : decode y_MM_rank.2.1 8 = .ok (.aload_n 0, 1) := by decide +kernel
theorem d_MM_rank_9 : decode y_MM_rank.2.1 9 = .ok (.getfield 117, 3) := by decide +kernel
theorem d_MM_rank_30 : decode y_MM_rank.2.1 30 = .ok (.ireturn, 1) := by decide +kernel
theorem d_MM_rank_12 : decode y_MM_rank.2.1 12 = .ok (.invokevirtual 593, 3) := by decide +kernel
theorem d_MM_rank_15 : decode y_MM_rank.2.1 15 = .ok (.ifCond .eq 14, 3) := by decide +kernel
theorem d_MM_rank_18 : decode y_MM_rank.2.1 18 = .ok (.aload_n 0, 1) := by decide +kernel
theorem d_MM_rank_19 : decode y_MM_rank.2.1 19 = .ok (.getfield 117, 3) := by decide +kernel
theorem d_MM_rank_22 : decode y_MM_rank.2.1 22 = .ok (.iload_n 1, 1) := by decide +kernel
theorem d_MM_rank_23 : decode y_MM_rank.2.1 23 = .ok (.invokevirtual 622, 3) := by decide +kernel
theorem d_MM_rank_26 : decode y_MM_rank.2.1 26 = .ok (.goto 4, 3) := by decide +kernel
theorem k_MM_rank {G : mG} {d : Nat} {a0 : Nat} {l1 : Int} {M : mM} {Q : Int → mM → Prop} (hO : mOk M) (hi_l1 : i32 l1)
    (h : mK M a0 = 14 ∧ Ci G y_MM_isState d [vr a0, vi l1] M (fun x3 M2 => i32 x3 ∧ mOk M2 ∧ (((x3 = 0) → (Q (-1) M2)) ∧ (¬ (x3 = 0) → (mK M2 a0 = 14 ∧ mK M2 (mR M2 a0 39) = 17 ∧ Ci G y_MS_hasValues d [vr (mR M2 a0 39)] M2 (fun x12 M11 => i32 x12 ∧ mOk M11 ∧ (((x12 = 0) → (Q (-1) M11)) ∧ (¬ (x12 = 0) → (mK M11 a0 = 14 ∧ mK M11 (mR M11 a0 39) = 17 ∧ Ci G y_MS_rankOf d [vr (mR M11 a0 39), vi l1] M11 (fun x21 M20 => i32 x21 ∧ mOk M20 ∧ (Q x21 M20))))))))))) :
    Ci G y_MM_rank (d + 1) [vr a0, vi l1] M Q := by
  refine wm_open (y := y_MM_rank) rfl (Nat.le_of_ble_eq_true rfl) (L := [vr a0, vi l1]) rfl ?_
  obtain ⟨h1, h⟩ := h
  refine wm_aload_n d_MM_rank_0 rfl rfl ?_
  refine wm_iload_n d_MM_rank_1 rfl rfl ?_
  refine cf_MM_569 rfl d_MM_rank_2 h1 (Nat.le_of_ble_eq_true rfl) (Ci.mono h (fun x3 M2 h => ?_))
  obtain ⟨h4, hOM2, h⟩ := h
  refine wm_if_eq (tgt := 29) d_MM_rank_5 rfl h4 (fun c8 => ?_) (fun c8 => ?_)
  · replace h := h.1 c8
    refine wm_iconst d_MM_rank_29 ?_
    refine wm_ireturn d_MM_rank_30 rfl rfl ?_
    exact ⟨_, rfl, h⟩
  · replace h := h.2 c8
    obtain ⟨h9, h⟩ := h
    obtain ⟨h10, h⟩ := h
    refine wm_aload_n d_MM_rank_8 rfl rfl ?_
    refine gf_MM_117 rfl d_MM_rank_9 h9 ?_
    refine cf_MM_593 rfl d_MM_rank_12 h10 (Nat.le_of_ble_eq_true rfl) (Ci.mono h (fun x12 M11 h => ?_))
    obtain ⟨h13, hOM11, h⟩ := h
    refine wm_if_eq (tgt := 29) d_MM_rank_15 rfl h13 (fun c17 => ?_) (fun c17 => ?_)
    · replace h := h.1 c17
      refine wm_iconst d_MM_rank_29 ?_
      refine wm_ireturn d_MM_rank_30 rfl rfl ?_
      exact ⟨_, rfl, h⟩
    · replace h := h.2 c17
      obtain ⟨h18, h⟩ := h
      obtain ⟨h19, h⟩ := h
      refine wm_aload_n d_MM_rank_18 rfl rfl ?_
      refine gf_MM_117 rfl d_MM_rank_19 h18 ?_
      refine wm_iload_n d_MM_rank_22 rfl rfl ?_
      refine cf_MM_622 rfl d_MM_rank_23 h19 (Nat.le_of_ble_eq_true rfl) (Ci.mono h (fun x21 M20 h => ?_))
      obtain ⟨h22, hOM20, h⟩ := h
      refine wm_goto (tgt := 30) d_MM_rank_26 rfl ?_
      refine wm_ireturn d_MM_rank_30 rfl rfl ?_
      exact ⟨_, rfl, h⟩
theorem d_MM_next_0 : decode y_MM_next.2.1 0 = .ok (.aload_n 0, 1) := by decide +kernel
theorem d_MM_next_1 : decode y_MM_next.2.1 1 = .ok (.iload_n 1, 1) := by decide +kernel
theorem d_MM_next_2 : decode y_MM_next.2.1 2 = .ok (.invokevirtual 569, 3) := by decide +kernel
theorem d_MM_next_5 : decode y_MM_next.2.1 5 = .ok (.ifCond .eq 19, 3) := by decide +kernel
theorem d_MM_next_24 : decode y_MM_next.2.1 24 = .ok (.iconst (-1), 1) := by decide +kernel
theorem d_MM_next_8 : decode y_MM_next.2.1 8 = .ok (.iload_n 2, 1) := by decide +kernel
theorem d_MM_next_9 : decode y_MM_next.2.1 9 = .ok (.ifCond .lt 15, 3) := by decide +kernel
theorem d_MM_next_12 : decode y_MM_next.2.1 12 = .ok (.aload_n 0, 1) := by decide +kernel
theorem d_MM_next_13 : decode y_MM_next.2.1 13 = .ok (.getfield 117, 3) := by decide +kernel
theorem d_MM_next_16 : decode y_MM_next.2.1 16 = .ok (.iload_n 1, 1) := by decide +kernel
theorem d_MM_next_17 : decode y_MM_next.2.1 17 = .ok (.iload_n 2, 1) := by decide +kernel
theorem d_MM_next_25 : decode y_MM_next.2.1 25 = .ok (.ireturn, 1) := by decide +kernel
theorem d_MM_next_18 : decode y_MM_next.2.1 18 = .ok (.invokevirtual 625, 3) := by decide +kernel
theorem d_MM_next_21 : decode y_MM_next.2.1 21 = .ok (.goto 4, 3) := by decide +kernel
theorem k_MM_next {G : mG} {d : Nat} {a0 : Nat} {l1 : Int} {l2 : Int} {M : mM} {Q : Int → mM → Prop} (hO : mOk M) (hi_l1 : i32 l1) (hi_l2 : i32 l2)
    (h : mK M a0 = 14 ∧ Ci G y_MM_isState d [vr a0, vi l1] M (fun x3 M2 => i32 x3 ∧ mOk M2 ∧ ((((x3 = 0) ∨ (l2 < 0)) → (Q (-1) M2)) ∧ (¬ ((x3 = 0) ∨ (l2 < 0)) → (mK M2 a0 = 14 ∧ mK M2 (mR M2 a0 39) = 17 ∧ Ci G y_MS_nextOf d [vr (mR M2 a0 39), vi l1, vi l2] M2 (fun x16 M15 => i32 x16 ∧ mOk M15 ∧ (Q x16 M15))))))) :
    Ci G y_MM_next (d + 1) [vr a0, vi l1, vi l2] M Q := by
  refine wm_open (y := y_MM_next) rfl (Nat.le_of_ble_eq_true rfl) (L := [vr a0, vi l1, vi l2]) rfl ?_
  obtain ⟨h1, h⟩ := h
  refine wm_aload_n d_MM_next_0 rfl rfl ?_
  refine wm_iload_n d_MM_next_1 rfl rfl ?_
  refine cf_MM_569 rfl d_MM_next_2 h1 (Nat.le_of_ble_eq_true rfl) (Ci.mono h (fun x3 M2 h => ?_))
  obtain ⟨h4, hOM2, h⟩ := h
  have hE0 : ((x3 = 0) ∨ (l2 < 0)) → mWm G y_MM_next (d + 1) 24 [vr a0, vi l1, vi l2] [] M2 (fun r9 M9 => ∃ x9, r9 = some (vi x9) ∧ Q x9 M9) := by
    intro q11
    have h := h.1 q11
    refine wm_iconst d_MM_next_24 ?_
    refine wm_ireturn d_MM_next_25 rfl rfl ?_
    exact ⟨_, rfl, h⟩
  have hE1 : ¬ ((x3 = 0) ∨ (l2 < 0)) → mWm G y_MM_next (d + 1) 12 [vr a0, vi l1, vi l2] [] M2 (fun r9 M9 => ∃ x9, r9 = some (vi x9) ∧ Q x9 M9) := by
    intro q12
    have h := h.2 q12
    obtain ⟨h13, h⟩ := h
    obtain ⟨h14, h⟩ := h
    refine wm_aload_n d_MM_next_12 rfl rfl ?_
    refine gf_MM_117 rfl d_MM_next_13 h13 ?_
    refine wm_iload_n d_MM_next_16 rfl rfl ?_
    refine wm_iload_n d_MM_next_17 rfl rfl ?_
    refine cf_MM_625 rfl d_MM_next_18 h14 (Nat.le_of_ble_eq_true rfl) (Ci.mono h (fun x16 M15 h => ?_))
    obtain ⟨h17, hOM15, h⟩ := h
    refine wm_goto (tgt := 25) d_MM_next_21 rfl ?_
    refine wm_ireturn d_MM_next_25 rfl rfl ?_
    exact ⟨_, rfl, h⟩
  clear h
  refine wm_if_eq (tgt := 24) d_MM_next_5 rfl h4 (fun c9 => ?_) (fun c9 => ?_)
  · exact hE0 (Or.inl c9)
  · refine wm_iload_n d_MM_next_8 rfl rfl ?_
    refine wm_if_lt (tgt := 24) d_MM_next_9 rfl hi_l2 (fun c8 => ?_) (fun c8 => ?_)
    · exact hE0 (Or.inr c8)
    · exact hE1 (fun z18 => Or.elim z18 c9 c8)
theorem d_MM_check_0 : decode y_MM_check.2.1 0 = .ok (.aload_n 0, 1) := by decide +kernel
theorem d_MM_check_1 : decode y_MM_check.2.1 1 = .ok (.iconst 0, 1) := by decide +kernel
theorem d_MM_check_2 : decode y_MM_check.2.1 2 = .ok (.putfield 142, 3) := by decide +kernel
theorem d_MM_check_5 : decode y_MM_check.2.1 5 = .ok (.aload_n 0, 1) := by decide +kernel
theorem d_MM_check_6 : decode y_MM_check.2.1 6 = .ok (.getfield 117, 3) := by decide +kernel
theorem d_MM_check_9 : decode y_MM_check.2.1 9 = .ok (.invokevirtual 593, 3) := by decide +kernel
theorem d_MM_check_12 : decode y_MM_check.2.1 12 = .ok (.ifCond .eq 7, 3) := by decide +kernel
theorem d_MM_check_19 : decode y_MM_check.2.1 19 = .ok (.iconst (-1), 1) := by decide +kernel
theorem d_MM_check_15 : decode y_MM_check.2.1 15 = .ok (.iconst 1, 1) := by decide +kernel
theorem d_MM_check_16 : decode y_MM_check.2.1 16 = .ok (.goto 4, 3) := by decide +kernel
theorem d_MM_check_20 : decode y_MM_check.2.1 20 = .ok (.ireturn, 1) := by decide +kernel
theorem k_MM_check {G : mG} {d : Nat} {a0 : Nat} {M : mM} {Q : Int → mM → Prop} (hO : mOk M)
    (h : mK M a0 = 14 ∧ ∀ M2, M2 = mUI M a0 0 0 → mK M2 (mR M2 a0 39) = 17 ∧ Ci G y_MS_hasValues d [vr (mR M2 a0 39)] M2 (fun x6 M5 => i32 x6 ∧ mOk M5 ∧ (∀ v9 : Int, v9 = (if (x6 = 0) then (-1) else 1) → Q v9 M5))) :
    Ci G y_MM_check (d + 1) [vr a0] M Q := by
  refine wm_open (y := y_MM_check) rfl (Nat.le_of_ble_eq_true rfl) (L := [vr a0]) rfl ?_
  obtain ⟨h1, h⟩ := h
  obtain ⟨M2, e3⟩ : ∃ M2, M2 = mUI M a0 0 0 := ⟨_, rfl⟩
  replace h := h M2 e3
  obtain ⟨h4, h⟩ := h
  refine wm_aload_n d_MM_check_0 rfl rfl ?_
  refine wm_iconst d_MM_check_1 ?_
  have hOM2 : mOk M2 := by rw [e3]; exact mOk_UI hO ⟨by decide, by decide⟩
  refine pf_MM_142 rfl d_MM_check_2 h1 ⟨by decide, by decide⟩ e3 ?_
  refine wm_aload_n d_MM_check_5 rfl rfl ?_
  refine gf_MM_117 rfl d_MM_check_6 (by rw [e3]; exact h1) ?_
  refine cf_MM_593 rfl d_MM_check_9 h4 (Nat.le_of_ble_eq_true rfl) (Ci.mono h (fun x6 M5 h => ?_))
  obtain ⟨h7, hOM5, h⟩ := h
  have hJ : ∀ v9 : Int, v9 = (if (x6 = 0) then (-1) else 1) → mWm G y_MM_check (d + 1) 20 [vd] [vi v9] M5 (fun r9 M9 => ∃ x9, r9 = some (vi x9) ∧ Q x9 M9) := by
    intro v9 e11
    have h := h v9 e11
    have h12 : i32 v9 := by rw [e11]; (repeat' split) <;> first | exact ⟨by decide, by decide⟩ | exact ⟨by decide, by decide⟩
    refine wm_ireturn d_MM_check_20 rfl rfl ?_
    exact ⟨_, rfl, h⟩
  clear h
  refine wm_if_eq (tgt := 19) d_MM_check_12 rfl h7 (fun c8 => ?_) (fun c8 => ?_)
  · refine wm_iconst d_MM_check_19 ?_
    refine wm_less (L' := [vd]) ⟨Or.inl rfl, trivial⟩ ?_
    exact hJ (-1) (if_pos c8).symm
  · refine wm_iconst d_MM_check_15 ?_
    refine wm_goto (tgt := 20) d_MM_check_16 rfl ?_
    refine wm_less (L' := [vd]) ⟨Or.inl rfl, trivial⟩ ?_
    exact hJ 1 (if_neg c8).symm
theorem d_Fr_init_0 : decode y_Fr_init.2.1 0 = .ok (.aload_n 0, 1) := by decide +kernel
theorem d_Fr_init_1 : decode y_Fr_init.2.1 1 = .ok (.invokespecial 1, 3) := by decide +kernel
theorem d_Fr_init_4 : decode y_Fr_init.2.1 4 = .ok (.aload_n 0, 1) := by decide +kernel
theorem d_Fr_init_5 : decode y_Fr_init.2.1 5 = .ok (.new 7, 3) := by decide +kernel
theorem d_Fr_init_8 : decode y_Fr_init.2.1 8 = .ok (.dup, 1) := by decide +kernel
theorem d_Fr_init_9 : decode y_Fr_init.2.1 9 = .ok (.invokespecial 9, 3) := by decide +kernel
theorem d_Fr_init_12 : decode y_Fr_init.2.1 12 = .ok (.putfield 10, 3) := by decide +kernel
theorem d_Fr_init_15 : decode y_Fr_init.2.1 15 = .ok (.aload_n 0, 1) := by decide +kernel
theorem d_Fr_init_16 : decode y_Fr_init.2.1 16 = .ok (.new 7, 3) := by decide +kernel
theorem d_Fr_init_19 : decode y_Fr_init.2.1 19 = .ok (.dup, 1) := by decide +kernel
theorem d_Fr_init_20 : decode y_Fr_init.2.1 20 = .ok (.invokespecial 9, 3) := by decide +kernel
theorem d_Fr_init_23 : decode y_Fr_init.2.1 23 = .ok (.putfield 16, 3) := by decide +kernel
theorem d_Fr_init_26 : decode y_Fr_init.2.1 26 = .ok (.aload_n 0, 1) := by decide +kernel
theorem d_Fr_init_27 : decode y_Fr_init.2.1 27 = .ok (.iconst 1, 1) := by decide +kernel
theorem d_Fr_init_28 : decode y_Fr_init.2.1 28 = .ok (.putfield 19, 3) := by decide +kernel
theorem d_Fr_init_31 : decode y_Fr_init.2.1 31 = .ok (.return_, 1) := by decide +kernel
theorem k_Fr_init {G : mG} {d : Nat} {a0 : Nat} {M : mM} {Q : mM → Prop} (hO : mOk M)
    (h : 0 < a0 ∧ ∀ M2, M2 = mNew M 10 0 2 → Cv G y_Na_init d [vr (mZ M)] M2 (fun M4 => mOk M4 ∧ (mK M4 a0 = 11 ∧ ∀ M8, M8 = mUR M4 a0 0 (mZ M) → ∀ M10, M10 = mNew M8 10 0 2 → Cv G y_Na_init d [vr (mZ M8)] M10 (fun M12 => mOk M12 ∧ (mK M12 a0 = 11 ∧ ∀ M16, M16 = mUR M12 a0 1 (mZ M8) → ∀ M18, M18 = mUI M16 a0 2 1 → Q M18))))) :
    Cv G y_Fr_init (d + 1) [vr a0] M Q := by
  refine wm_open (y := y_Fr_init) rfl (Nat.le_of_ble_eq_true rfl) (L := [vr a0]) rfl ?_
  obtain ⟨h1, h⟩ := h
  obtain ⟨M2, e3⟩ : ∃ M2, M2 = mNew M 10 0 2 := ⟨_, rfl⟩
  replace h := h M2 e3
  refine wm_aload_n d_Fr_init_0 rfl rfl ?_
  refine wm_objInit trivial k3_15 kO_inst kO_code (Nat.le_of_ble_eq_true rfl) d_Fr_init_1 h1 ?_
  refine wm_aload_n d_Fr_init_4 rfl rfl ?_
  have hOM2 : mOk M2 := by rw [e3]; exact mOk_New hO
  refine nf_Fr_7 rfl d_Fr_init_5 e3 ?_
  refine wm_dup d_Fr_init_8 rfl ?_
  refine cf_Fr_9 rfl d_Fr_init_9 (by rw [e3]; exact if_pos rfl) (Nat.le_of_ble_eq_true rfl) (Cv.mono h (fun M4 h => ?_))
  obtain ⟨hOM4, h⟩ := h
  obtain ⟨h7, h⟩ := h
  obtain ⟨M8, e9⟩ : ∃ M8, M8 = mUR M4 a0 0 (mZ M) := ⟨_, rfl⟩
  replace h := h M8 e9
  obtain ⟨M10, e11⟩ : ∃ M10, M10 = mNew M8 10 0 2 := ⟨_, rfl⟩
  replace h := h M10 e11
  have hOM8 : mOk M8 := by rw [e9]; exact mOk_UR hOM4
  refine pf_Fr_10 rfl rfl d_Fr_init_12 h7 e9 ?_
  refine wm_aload_n d_Fr_init_15 rfl rfl ?_
  have hOM10 : mOk M10 := by rw [e11]; exact mOk_New hOM8
  refine nf_Fr_7 rfl d_Fr_init_16 e11 ?_
  refine wm_dup d_Fr_init_19 rfl ?_
  refine cf_Fr_9 rfl d_Fr_init_20 (by rw [e11]; exact if_pos rfl) (Nat.le_of_ble_eq_true rfl) (Cv.mono h (fun M12 h => ?_))
  obtain ⟨hOM12, h⟩ := h
  obtain ⟨h15, h⟩ := h
  obtain ⟨M16, e17⟩ : ∃ M16, M16 = mUR M12 a0 1 (mZ M8) := ⟨_, rfl⟩
  replace h := h M16 e17
  obtain ⟨M18, e19⟩ : ∃ M18, M18 = mUI M16 a0 2 1 := ⟨_, rfl⟩
  replace h := h M18 e19
  have hOM16 : mOk M16 := by rw [e17]; exact mOk_UR hOM12
  refine pf_Fr_16 rfl rfl d_Fr_init_23 h15 e17 ?_
  refine wm_aload_n d_Fr_init_26 rfl rfl ?_
  refine wm_iconst d_Fr_init_27 ?_
  have hOM18 : mOk M18 := by rw [e19]; exact mOk_UI hOM16 ⟨by decide, by decide⟩
  refine pf_Fr_19 rfl d_Fr_init_28 (by rw [e17]; exact h15) ⟨by decide, by decide⟩ e19 ?_
  refine wm_return d_Fr_init_31 rfl ?_
  exact ⟨rfl, h⟩
theorem d_Fr_put0_0 : decode y_Fr_put0.2.1 0 = .ok (.aload_n 0, 1) := by decide +kernel
theorem d_Fr_put0_1 : decode y_Fr_put0.2.1 1 = .ok (.getfield 10, 3) := by decide +kernel
theorem d_Fr_put0_4 : decode y_Fr_put0.2.1 4 = .ok (.iload_n 1, 1) := by decide +kernel
theorem d_Fr_put0_5 : decode y_Fr_put0.2.1 5 = .ok (.invokevirtual 23, 3) := by decide +kernel
theorem d_Fr_put0_8 : decode y_Fr_put0.2.1 8 = .ok (.aload_n 0, 1) := by decide +kernel
theorem d_Fr_put0_9 : decode y_Fr_put0.2.1 9 = .ok (.getfield 16, 3) := by decide +kernel
theorem d_Fr_put0_12 : decode y_Fr_put0.2.1 12 = .ok (.iconst 1, 1) := by decide +kernel
theorem d_Fr_put0_13 : decode y_Fr_put0.2.1 13 = .ok (.invokevirtual 23, 3) := by decide +kernel
theorem d_Fr_put0_16 : decode y_Fr_put0.2.1 16 = .ok (.aload_n 0, 1) := by decide +kernel
theorem d_Fr_put0_17 : decode y_Fr_put0.2.1 17 = .ok (.iconst 1, 1) := by decide +kernel
theorem d_Fr_put0_18 : decode y_Fr_put0.2.1 18 = .ok (.putfield 19, 3) := by decide +kernel
theorem d_Fr_put0_21 : decode y_Fr_put0.2.1 21 = .ok (.return_, 1) := by decide +kernel
theorem k_Fr_put0 {G : mG} {d : Nat} {a0 : Nat} {l1 : Int} {M : mM} {Q : mM → Prop} (hO : mOk M) (hi_l1 : i32 l1)
    (h : mK M a0 = 11 ∧ mK M (mR M a0 0) = 10 ∧ Cv G y_Na_put0 d [vr (mR M a0 0), vi l1] M (fun M3 => mOk M3 ∧ (mK M3 a0 = 11 ∧ mK M3 (mR M3 a0 1) = 10 ∧ Cv G y_Na_put0 d [vr (mR M3 a0 1), vi 1] M3 (fun M8 => mOk M8 ∧ (mK M8 a0 = 11 ∧ ∀ M12, M12 = mUI M8 a0 2 1 → Q M12))))) :
    Cv G y_Fr_put0 (d + 1) [vr a0, vi l1] M Q := by
  refine wm_open (y := y_Fr_put0) rfl (Nat.le_of_ble_eq_true rfl) (L := [vr a0, vi l1]) rfl ?_
  obtain ⟨h1, h⟩ := h
  obtain ⟨h2, h⟩ := h
  refine wm_aload_n d_Fr_put0_0 rfl rfl ?_
  refine gf_Fr_10 rfl d_Fr_put0_1 h1 ?_
  refine wm_iload_n d_Fr_put0_4 rfl rfl ?_
  refine cf_Fr_23 rfl d_Fr_put0_5 h2 (Nat.le_of_ble_eq_true rfl) (Cv.mono h (fun M3 h => ?_))
  obtain ⟨hOM3, h⟩ := h
  obtain ⟨h6, h⟩ := h
  obtain ⟨h7, h⟩ := h
  refine wm_aload_n d_Fr_put0_8 rfl rfl ?_
  refine gf_Fr_16 rfl d_Fr_put0_9 h6 ?_
  refine wm_iconst d_Fr_put0_12 ?_
  refine cf_Fr_23 rfl d_Fr_put0_13 h7 (Nat.le_of_ble_eq_true rfl) (Cv.mono h (fun M8 h => ?_))
  obtain ⟨hOM8, h⟩ := h
  obtain ⟨h11, h⟩ := h
  obtain ⟨M12, e13⟩ : ∃ M12, M12 = mUI M8 a0 2 1 := ⟨_, rfl⟩
  replace h := h M12 e13
  refine wm_aload_n d_Fr_put0_16 rfl rfl ?_
  refine wm_iconst d_Fr_put0_17 ?_
  have hOM12 : mOk M12 := by rw [e13]; exact mOk_UI hOM8 ⟨by decide, by decide⟩
  refine pf_Fr_19 rfl d_Fr_put0_18 h11 ⟨by decide, by decide⟩ e13 ?_
  refine wm_return d_Fr_put0_21 rfl ?_
  exact ⟨rfl, h⟩
theorem d_Fr_put1_0 : decode y_Fr_put1.2.1 0 = .ok (.aload_n 0, 1) := by decide +kernel
theorem d_Fr_put1_1 : decode y_Fr_put1.2.1 1 = .ok (.getfield 10, 3) := by decide +kernel
theorem d_Fr_put1_4 : decode y_Fr_put1.2.1 4 = .ok (.aload_n 1, 1) := by decide +kernel
theorem d_Fr_put1_5 : decode y_Fr_put1.2.1 5 = .ok (.getfield 10, 3) := by decide +kernel
theorem d_Fr_put1_8 : decode y_Fr_put1.2.1 8 = .ok (.invokevirtual 27, 3) := by decide +kernel
theorem d_Fr_put1_11 : decode y_Fr_put1.2.1 11 = .ok (.aload_n 0, 1) := by decide +kernel
theorem d_Fr_put1_12 : decode y_Fr_put1.2.1 12 = .ok (.getfield 16, 3) := by decide +kernel
theorem d_Fr_put1_15 : decode y_Fr_put1.2.1 15 = .ok (.aload_n 1, 1) := by decide +kernel
theorem d_Fr_put1_16 : decode y_Fr_put1.2.1 16 = .ok (.getfield 16, 3) := by decide +kernel
theorem d_Fr_put1_19 : decode y_Fr_put1.2.1 19 = .ok (.invokevirtual 27, 3) := by decide +kernel
theorem d_Fr_put1_22 : decode y_Fr_put1.2.1 22 = .ok (.aload_n 0, 1) := by decide +kernel
theorem d_Fr_put1_23 : decode y_Fr_put1.2.1 23 = .ok (.aload_n 1, 1) := by decide +kernel
theorem d_Fr_put1_24 : decode y_Fr_put1.2.1 24 = .ok (.getfield 19, 3) := by decide +kernel
theorem d_Fr_put1_27 : decode y_Fr_put1.2.1 27 = .ok (.putfield 19, 3) := by decide +kernel
theorem d_Fr_put1_30 : decode y_Fr_put1.2.1 30 = .ok (.return_, 1) := by decide +kernel
theorem k_Fr_put1 {G : mG} {d : Nat} {a0 : Nat} {a1 : Nat} {M : mM} {Q : mM → Prop} (hO : mOk M)
    (h : mK M a0 = 11 ∧ mK M a1 = 11 ∧ mK M (mR M a0 0) = 10 ∧ Cv G y_Na_put1 d [vr (mR M a0 0), vr (mR M a1 0)] M (fun M4 => mOk M4 ∧ (mK M4 a0 = 11 ∧ mK M4 a1 = 11 ∧ mK M4 (mR M4 a0 1) = 10 ∧ Cv G y_Na_put1 d [vr (mR M4 a0 1), vr (mR M4 a1 1)] M4 (fun M10 => mOk M10 ∧ (mK M10 a1 = 11 ∧ mK M10 a0 = 11 ∧ ∀ M15, M15 = mUI M10 a0 2 (mI M10 a1 2) → Q M15))))) :
    Cv G y_Fr_put1 (d + 1) [vr a0, vr a1] M Q := by
  refine wm_open (y := y_Fr_put1) rfl (Nat.le_of_ble_eq_true rfl) (L := [vr a0, vr a1]) rfl ?_
  obtain ⟨h1, h⟩ := h
  obtain ⟨h2, h⟩ := h
  obtain ⟨h3, h⟩ := h
  refine wm_aload_n d_Fr_put1_0 rfl rfl ?_
  refine gf_Fr_10 rfl d_Fr_put1_1 h1 ?_
  refine wm_aload_n d_Fr_put1_4 rfl rfl ?_
  refine gf_Fr_10 rfl d_Fr_put1_5 h2 ?_
  refine cf_Fr_27 rfl d_Fr_put1_8 h3 (Nat.le_of_ble_eq_true rfl) (Cv.mono h (fun M4 h => ?_))
  obtain ⟨hOM4, h⟩ := h
  obtain ⟨h7, h⟩ := h
  obtain ⟨h8, h⟩ := h
  obtain ⟨h9, h⟩ := h
  refine wm_aload_n d_Fr_put1_11 rfl rfl ?_
  refine gf_Fr_16 rfl d_Fr_put1_12 h7 ?_
  refine wm_aload_n d_Fr_put1_15 rfl rfl ?_
  refine gf_Fr_16 rfl d_Fr_put1_16 h8 ?_
  refine cf_Fr_27 rfl d_Fr_put1_19 h9 (Nat.le_of_ble_eq_true rfl) (Cv.mono h (fun M10 h => ?_))
  obtain ⟨hOM10, h⟩ := h
  obtain ⟨h13, h⟩ := h
  obtain ⟨h14, h⟩ := h
  obtain ⟨M15, e16⟩ : ∃ M15, M15 = mUI M10 a0 2 (mI M10 a1 2) := ⟨_, rfl⟩
  replace h := h M15 e16
  refine wm_aload_n d_Fr_put1_22 rfl rfl ?_
  refine wm_aload_n d_Fr_put1_23 rfl rfl ?_
  refine gf_Fr_19 rfl d_Fr_put1_24 h13 ?_
  have hOM15 : mOk M15 := by rw [e16]; exact mOk_UI hOM10 (hOM10 _ _).1
  refine pf_Fr_19 rfl d_Fr_put1_27 h14 (hOM10 _ _).1 e16 ?_
  refine wm_return d_Fr_put1_30 rfl ?_
  exact ⟨rfl, h⟩
theorem d_Fs_init_0 : decode y_Fs_init.2.1 0 = .ok (.aload_n 0, 1) := by decide +kernel
theorem d_Fs_init_1 : decode y_Fs_init.2.1 1 = .ok (.invokespecial 3, 3) := by decide +kernel
theorem d_Fs_init_4 : decode y_Fs_init.2.1 4 = .ok (.aload_n 0, 1) := by decide +kernel
theorem d_Fs_init_5 : decode y_Fs_init.2.1 5 = .ok (.iconst 0, 1) := by decide +kernel
theorem d_Fs_init_6 : decode y_Fs_init.2.1 6 = .ok (.anewarray 9, 3) := by decide +kernel
theorem d_Fs_init_9 : decode y_Fs_init.2.1 9 = .ok (.putfield 11, 3) := by decide +kernel
theorem d_Fs_init_12 : decode y_Fs_init.2.1 12 = .ok (.aload_n 0, 1) := by decide +kernel
theorem d_Fs_init_13 : decode y_Fs_init.2.1 13 = .ok (.iconst 0, 1) := by decide +kernel
theorem d_Fs_init_14 : decode y_Fs_init.2.1 14 = .ok (.putfield 17, 3) := by decide +kernel
theorem d_Fs_init_17 : decode y_Fs_init.2.1 17 = .ok (.return_, 1) := by decide +kernel
theorem k_Fs_init {G : mG} {d : Nat} {a0 : Nat} {M : mM} {Q : mM → Prop} (hO : mOk M)
    (h : 0 < a0 ∧ ∀ M2, M2 = mNew M 35 0 0 → mK M2 a0 = 13 ∧ ∀ M5, M5 = mUR M2 a0 0 (mZ M) → ∀ M7, M7 = mUI M5 a0 1 0 → Q M7) :
    Cv G y_Fs_init (d + 1) [vr a0] M Q := by
  refine wm_open (y := y_Fs_init) rfl (Nat.le_of_ble_eq_true rfl) (L := [vr a0]) rfl ?_
  obtain ⟨h1, h⟩ := h
  obtain ⟨M2, e3⟩ : ∃ M2, M2 = mNew M 35 0 0 := ⟨_, rfl⟩
  replace h := h M2 e3
  obtain ⟨h4, h⟩ := h
  obtain ⟨M5, e6⟩ : ∃ M5, M5 = mUR M2 a0 0 (mZ M) := ⟨_, rfl⟩
  replace h := h M5 e6
  obtain ⟨M7, e8⟩ : ∃ M7, M7 = mUI M5 a0 1 0 := ⟨_, rfl⟩
  replace h := h M7 e8
  refine wm_aload_n d_Fs_init_0 rfl rfl ?_
  refine wm_objInit trivial k3_168 kO_inst kO_code (Nat.le_of_ble_eq_true rfl) d_Fs_init_1 h1 ?_
  refine wm_aload_n d_Fs_init_4 rfl rfl ?_
  refine wm_iconst d_Fs_init_5 ?_
  have hOM2 : mOk M2 := by rw [e3]; exact mOk_New hO
  refine wm_anewE 5 rfl (fun _ => rfl) k3_169 k3_170 ⟨by decide, by decide⟩ d_Fs_init_6 e3 ?_
  have hOM5 : mOk M5 := by rw [e6]; exact mOk_UR hOM2
  refine pf_Fs_11 rfl d_Fs_init_9 h4 e6 ?_
  refine wm_aload_n d_Fs_init_12 rfl rfl ?_
  refine wm_iconst d_Fs_init_13 ?_
  have hOM7 : mOk M7 := by rw [e8]; exact mOk_UI hOM5 (m_b32 (by decide))
  refine pf_Fs_17 rfl d_Fs_init_14 (by rw [e6]; exact h4) (by decide) e8 ?_
  refine wm_return d_Fs_init_17 rfl ?_
  exact ⟨rfl, h⟩
