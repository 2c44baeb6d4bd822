theorem d_MW_bit_0 : decode y_MW_bit.2.1 0 = .ok (.iload_n 1, 1) := by decide +kernel
theorem d_MW_bit_1 : decode y_MW_bit.2.1 1 = .ok (.bipush 24, 2) := by decide +kernel
theorem d_MW_bit_3 : decode y_MW_bit.2.1 3 = .ok (.idiv, 1) := by decide +kernel
theorem d_MW_bit_4 : decode y_MW_bit.2.1 4 = .ok (.aload_n 0, 1) := by decide +kernel
theorem d_MW_bit_5 : decode y_MW_bit.2.1 5 = .ok (.getfield 13, 3) := by decide +kernel
theorem d_MW_bit_8 : decode y_MW_bit.2.1 8 = .ok (.if_icmp .ge 27, 3) := by decide +kernel
theorem d_MW_bit_35 : decode y_MW_bit.2.1 35 = .ok (.iconst 0, 1) := by decide +kernel
theorem d_MW_bit_11 : decode y_MW_bit.2.1 11 = .ok (.aload_n 0, 1) := by decide +kernel
theorem d_MW_bit_12 : decode y_MW_bit.2.1 12 = .ok (.getfield 7, 3) := by decide +kernel
theorem d_MW_bit_15 : decode y_MW_bit.2.1 15 = .ok (.iload_n 1, 1) := by decide +kernel
theorem d_MW_bit_16 : decode y_MW_bit.2.1 16 = .ok (.bipush 24, 2) := by decide +kernel
theorem d_MW_bit_18 : decode y_MW_bit.2.1 18 = .ok (.idiv, 1) := by decide +kernel
theorem d_MW_bit_19 : decode y_MW_bit.2.1 19 = .ok (.iaload, 1) := by decide +kernel
theorem d_MW_bit_20 : decode y_MW_bit.2.1 20 = .ok (.iload_n 1, 1) := by decide +kernel
theorem d_MW_bit_21 : decode y_MW_bit.2.1 21 = .ok (.bipush 24, 2) := by decide +kernel
theorem d_MW_bit_23 : decode y_MW_bit.2.1 23 = .ok (.irem, 1) := by decide +kernel
theorem d_MW_bit_24 : decode y_MW_bit.2.1 24 = .ok (.ishr, 1) := by decide +kernel
theorem d_MW_bit_25 : decode y_MW_bit.2.1 25 = .ok (.iconst 1, 1) := by decide +kernel
theorem d_MW_bit_26 : decode y_MW_bit.2.1 26 = .ok (.iand, 1) := by decide +kernel
theorem d_MW_bit_27 : decode y_MW_bit.2.1 27 = .ok (.iconst 1, 1) := by decide +kernel
theorem d_MW_bit_28 : decode y_MW_bit.2.1 28 = .ok (.if_icmp .ne 7, 3) := by decide +kernel
theorem d_MW_bit_31 : decode y_MW_bit.2.1 31 = .ok (.iconst 1, 1) := by decide +kernel
theorem d_MW_bit_32 : decode y_MW_bit.2.1 32 = .ok (.goto 4, 3) := by decide +kernel
theorem d_MW_bit_36 : decode y_MW_bit.2.1 36 = .ok (.ireturn, 1) := by decide +kernel
theorem k_MW_bit {G : mG} {d : Nat} {a0 : Nat} {l1 : Int} {M : mM} {Q : Int → mM → Prop} (hO : mOk M) (hi_l1 : i32 l1)
    (h : mK M a0 = 20 ∧ (¬ (mI M a0 1 ≤ Int.tdiv l1 24) → (mK M (mR M a0 0) = 30 ∧ ((0 : Int) ≤ Int.tdiv l1 24 ∧ Int.tdiv l1 24 < (mN M (mR M a0 0) : Int)))) ∧ ∀ v6 : Int, v6 = (if ((mI M a0 1 ≤ Int.tdiv l1 24) ∨ (¬ (andI (shrI (mI M (mR M a0 0) (Int.toNat (Int.tdiv l1 24))) (Int.tmod l1 24)) 1 = 1))) then 0 else 1) → Q v6 M) :
    Ci G y_MW_bit d [vr a0, vi l1] M Q := by
  refine wm_open (y := y_MW_bit) rfl (Nat.le_of_ble_eq_true rfl) (L := [vr a0, vi l1]) rfl ?_
  obtain ⟨h1, h⟩ := h
  refine wm_iload_n d_MW_bit_0 rfl rfl ?_
  refine wm_bipush d_MW_bit_1 (by decide) ?_
  refine wm_idiv d_MW_bit_3 hi_l1 ⟨by decide, by decide⟩ (by decide) ?_
  refine wm_aload_n d_MW_bit_4 rfl rfl ?_
  refine gf_MW_13 rfl d_MW_bit_5 h1 ?_
  obtain ⟨s7, h⟩ := h
  have hJ : ∀ v6 : Int, v6 = (if ((mI M a0 1 ≤ Int.tdiv l1 24) ∨ (¬ (andI (shrI (mI M (mR M a0 0) (Int.toNat (Int.tdiv l1 24))) (Int.tmod l1 24)) 1 = 1))) then 0 else 1) → mWm G y_MW_bit d 36 [vd, vd] [vi v6] M (fun r9 M9 => ∃ x9, r9 = some (vi x9) ∧ Q x9 M9) := by
    intro v6 e8
    have h := h v6 e8
    have h9 : i32 v6 := by rw [e8]; (repeat' split) <;> first | exact ⟨by decide, by decide⟩ | exact ⟨by decide, by decide⟩
    have h10 : (v6 = 0 ∨ v6 = 1) := by rw [e8]; (repeat' split) <;> decide
    refine wm_ireturn d_MW_bit_36 rfl (m_nb h10) ?_
    exact ⟨_, rfl, h⟩
  clear h
  have s11 := s7
  refine wm_icmp_ge (tgt := 35) d_MW_bit_8 rfl (m_tdiv32 hi_l1 (by decide)) (hO _ _).1 (fun c2 => ?_) (fun c2 => ?_)
  · refine wm_iconst d_MW_bit_35 ?_
    refine wm_less (L' := [vd, vd]) ⟨Or.inl rfl, Or.inl rfl, trivial⟩ ?_
    exact hJ 0 (if_pos (Or.inl c2)).symm
  · have s11 := s11 c2
    obtain ⟨h3, h4⟩ := s11
    refine wm_aload_n d_MW_bit_11 rfl rfl ?_
    refine gf_MW_7 rfl d_MW_bit_12 h1 ?_
    refine wm_iload_n d_MW_bit_15 rfl rfl ?_
    refine wm_bipush d_MW_bit_16 (by decide) ?_
    refine wm_idiv d_MW_bit_18 hi_l1 ⟨by decide, by decide⟩ (by decide) ?_
    refine wm_iald d_MW_bit_19 h3 h4 ?_
    refine wm_iload_n d_MW_bit_20 rfl rfl ?_
    refine wm_bipush d_MW_bit_21 (by decide) ?_
    refine wm_irem d_MW_bit_23 hi_l1 ⟨by decide, by decide⟩ (by decide) ?_
    refine wm_ishr d_MW_bit_24 ?_
    refine wm_iconst d_MW_bit_25 ?_
    refine wm_iand d_MW_bit_26 ?_
    refine wm_iconst d_MW_bit_27 ?_
    refine wm_icmp_ne (tgt := 35) d_MW_bit_28 rfl (m_i32 _) ⟨by decide, by decide⟩ (fun c5 => ?_) (fun c5 => ?_)
    · refine wm_iconst d_MW_bit_35 ?_
      refine wm_less (L' := [vd, vd]) ⟨Or.inl rfl, Or.inl rfl, trivial⟩ ?_
      exact hJ 0 (if_pos (Or.inr c5)).symm
    · replace c5 := Classical.not_not.mp c5
      refine wm_iconst d_MW_bit_31 ?_
      refine wm_goto (tgt := 36) d_MW_bit_32 rfl ?_
      refine wm_less (L' := [vd, vd]) ⟨Or.inl rfl, Or.inl rfl, trivial⟩ ?_
      exact hJ 1 (if_neg (fun z12 => Or.elim z12 c2 (fun z13 => z13 c5))).symm
theorem d_MW_tenth_0 : decode y_MW_tenth.2.1 0 = .ok (.iconst 0, 1) := by decide +kernel
theorem d_MW_tenth_1 : decode y_MW_tenth.2.1 1 = .ok (.istore_n 1, 1) := by decide +kernel
theorem d_MW_tenth_2 : decode y_MW_tenth.2.1 2 = .ok (.aload_n 0, 1) := by decide +kernel
theorem d_MW_tenth_3 : decode y_MW_tenth.2.1 3 = .ok (.getfield 13, 3) := by decide +kernel
theorem d_MW_tenth_6 : decode y_MW_tenth.2.1 6 = .ok (.iconst 1, 1) := by decide +kernel
theorem d_MW_tenth_7 : decode y_MW_tenth.2.1 7 = .ok (.isub, 1) := by decide +kernel
theorem d_MW_tenth_8 : decode y_MW_tenth.2.1 8 = .ok (.istore_n 2, 1) := by decide +kernel
theorem d_MW_tenth_9 : decode y_MW_tenth.2.1 9 = .ok (.iload_n 2, 1) := by decide +kernel
theorem d_MW_tenth_10 : decode y_MW_tenth.2.1 10 = .ok (.ifCond .lt 36, 3) := by decide +kernel
theorem d_MW_tenth_46 : decode y_MW_tenth.2.1 46 = .ok (.aload_n 0, 1) := by decide +kernel
theorem d_MW_tenth_13 : decode y_MW_tenth.2.1 13 = .ok (.iload_n 1, 1) := by decide +kernel
theorem d_MW_tenth_14 : decode y_MW_tenth.2.1 14 = .ok (.ldc 23, 2) := by decide +kernel
theorem d_MW_tenth_16 : decode y_MW_tenth.2.1 16 = .ok (.imul, 1) := by decide +kernel
theorem d_MW_tenth_17 : decode y_MW_tenth.2.1 17 = .ok (.aload_n 0, 1) := by decide +kernel
theorem d_MW_tenth_18 : decode y_MW_tenth.2.1 18 = .ok (.getfield 7, 3) := by decide +kernel
theorem d_MW_tenth_21 : decode y_MW_tenth.2.1 21 = .ok (.iload_n 2, 1) := by decide +kernel
theorem d_MW_tenth_22 : decode y_MW_tenth.2.1 22 = .ok (.iaload, 1) := by decide +kernel
theorem d_MW_tenth_23 : decode y_MW_tenth.2.1 23 = .ok (.iadd, 1) := by decide +kernel
theorem d_MW_tenth_24 : decode y_MW_tenth.2.1 24 = .ok (.istore_n 3, 1) := by decide +kernel
theorem d_MW_tenth_25 : decode y_MW_tenth.2.1 25 = .ok (.aload_n 0, 1) := by decide +kernel
theorem d_MW_tenth_26 : decode y_MW_tenth.2.1 26 = .ok (.getfield 7, 3) := by decide +kernel
theorem d_MW_tenth_29 : decode y_MW_tenth.2.1 29 = .ok (.iload_n 2, 1) := by decide +kernel
theorem d_MW_tenth_30 : decode y_MW_tenth.2.1 30 = .ok (.iload_n 3, 1) := by decide +kernel
theorem d_MW_tenth_31 : decode y_MW_tenth.2.1 31 = .ok (.bipush 10, 2) := by decide +kernel
theorem d_MW_tenth_33 : decode y_MW_tenth.2.1 33 = .ok (.idiv, 1) := by decide +kernel
theorem d_MW_tenth_34 : decode y_MW_tenth.2.1 34 = .ok (.iastore, 1) := by decide +kernel
theorem d_MW_tenth_35 : decode y_MW_tenth.2.1 35 = .ok (.iload_n 3, 1) := by decide +kernel
theorem d_MW_tenth_36 : decode y_MW_tenth.2.1 36 = .ok (.bipush 10, 2) := by decide +kernel
theorem d_MW_tenth_38 : decode y_MW_tenth.2.1 38 = .ok (.irem, 1) := by decide +kernel
theorem d_MW_tenth_39 : decode y_MW_tenth.2.1 39 = .ok (.istore_n 1, 1) := by decide +kernel
theorem d_MW_tenth_40 : decode y_MW_tenth.2.1 40 = .ok (.iinc 2 (-1), 3) := by decide +kernel
theorem d_MW_tenth_43 : decode y_MW_tenth.2.1 43 = .ok (.goto (-34), 3) := by decide +kernel
theorem d_MW_tenth_47 : decode y_MW_tenth.2.1 47 = .ok (.invokevirtual 24, 3) := by decide +kernel
theorem d_MW_tenth_50 : decode y_MW_tenth.2.1 50 = .ok (.iload_n 1, 1) := by decide +kernel
theorem d_MW_tenth_51 : decode y_MW_tenth.2.1 51 = .ok (.ireturn, 1) := by decide +kernel
def h_MW_tenth_9 (G : mG) (d : Nat) (a0 : Nat) (l1 : Int) (l2 : Int) (M : mM) (Q : Int → mM → Prop) : Prop := mWm G y_MW_tenth (d + 1) 9 [vr a0, vi l1, vi l2, vd] [] M (fun r9 M9 => ∃ x9, r9 = some (vi x9) ∧ Q x9 M9)
theorem k_MW_tenth {G : mG} {d : Nat} {a0 : Nat} {M : mM} {Q : Int → mM → Prop} (hO : mOk M)
    (h : mK M a0 = 20 ∧ h_MW_tenth_9 G d a0 0 ((mI M a0 1) - 1) M Q) :
    Ci G y_MW_tenth (d + 1) [vr a0] M Q := by
  refine wm_open (y := y_MW_tenth) rfl (Nat.le_of_ble_eq_true rfl) (L := [vr a0, vd, vd, vd]) rfl ?_
  obtain ⟨h1, h⟩ := h
  refine wm_iconst d_MW_tenth_0 ?_
  refine wm_istore_n d_MW_tenth_1 rfl (by decide) (L' := [vr a0, vi 0, vd, vd]) rfl ?_
  refine wm_aload_n d_MW_tenth_2 rfl rfl ?_
  refine gf_MW_13 rfl d_MW_tenth_3 h1 ?_
  refine wm_iconst d_MW_tenth_6 ?_
  refine wm_isub d_MW_tenth_7 ?_
  refine wm_istore_n d_MW_tenth_8 rfl (by decide) (L' := [vr a0, vi 0, vi ((mI M a0 1) - 1), vd]) rfl ?_
  exact h
theorem k_MW_tenth_9 {G : mG} {d : Nat} {a0 : Nat} {l1 : Int} {l2 : Int} {M : mM} {Q : Int → mM → Prop} (hO : mOk M) (hi_l1 : i32 l1) (hi_l2 : i32 l2)
    (h : ((l2 < 0) → (mK M a0 = 20 ∧ Cv G y_MW_trim d [vr a0] M (fun M10 => mOk M10 ∧ (Q l1 M10)))) ∧ (¬ (l2 < 0) → (mK M a0 = 20 ∧ mK M (mR M a0 0) = 30 ∧ ((0 : Int) ≤ l2 ∧ l2 < (mN M (mR M a0 0) : Int)) ∧ i32 ((l1 * 16777216) + (mI M (mR M a0 0) (Int.toNat l2))) ∧ ((0 : Int) ≤ l2 ∧ l2 < (mN M (mR M a0 0) : Int)) ∧ ∀ M18, M18 = mUI M (mR M a0 0) (Int.toNat l2) (Int.tdiv ((l1 * 16777216) + (mI M (mR M a0 0) (Int.toNat l2))) 10) → h_MW_tenth_9 G d a0 (Int.tmod ((l1 * 16777216) + (mI M (mR M a0 0) (Int.toNat l2))) 10) (l2 + (-1)) M18 Q))) :
    h_MW_tenth_9 G d a0 l1 l2 M Q := by
  unfold h_MW_tenth_9
  refine wm_iload_n d_MW_tenth_9 rfl rfl ?_
  refine wm_if_lt (tgt := 46) d_MW_tenth_10 rfl hi_l2 (fun c8 => ?_) (fun c8 => ?_)
  · replace h := h.1 c8
    obtain ⟨h9, h⟩ := h
    refine wm_aload_n d_MW_tenth_46 rfl rfl ?_
    refine cf_MW_24 rfl d_MW_tenth_47 h9 (Nat.le_of_ble_eq_true rfl) (Cv.mono h (fun M10 h => ?_))
    obtain ⟨hOM10, h⟩ := h
    refine wm_iload_n d_MW_tenth_50 rfl rfl ?_
    refine wm_ireturn d_MW_tenth_51 rfl rfl ?_
    exact ⟨_, rfl, h⟩
  · replace h := h.2 c8
    obtain ⟨h13, h⟩ := h
    obtain ⟨h14, h⟩ := h
    obtain ⟨h15, h⟩ := h
    obtain ⟨h16, h⟩ := h
    obtain ⟨h17, h⟩ := h
    obtain ⟨M18, e19⟩ : ∃ M18, M18 = mUI M (mR M a0 0) (Int.toNat l2) (Int.tdiv ((l1 * 16777216) + (mI M (mR M a0 0) (Int.toNat l2))) 10) := ⟨_, rfl⟩
    replace h := h M18 e19
    refine wm_iload_n d_MW_tenth_13 rfl rfl ?_
    refine wm_ldc (x := 16777216) d_MW_tenth_14 k13_26 (by decide) ?_
    refine wm_imul d_MW_tenth_16 ?_
    refine wm_aload_n d_MW_tenth_17 rfl rfl ?_
    refine gf_MW_7 rfl d_MW_tenth_18 h13 ?_
    refine wm_iload_n d_MW_tenth_21 rfl rfl ?_
    refine wm_iald d_MW_tenth_22 h14 h15 ?_
    refine wm_iadd d_MW_tenth_23 ?_
    refine wm_istore_n d_MW_tenth_24 rfl (by decide) (L' := [vr a0, vi l1, vi l2, vi ((l1 * 16777216) + (mI M (mR M a0 0) (Int.toNat l2)))]) rfl ?_
    refine wm_aload_n d_MW_tenth_25 rfl rfl ?_
    refine gf_MW_7 rfl d_MW_tenth_26 h13 ?_
    refine wm_iload_n d_MW_tenth_29 rfl rfl ?_
    refine wm_iload_n d_MW_tenth_30 rfl rfl ?_
    refine wm_bipush d_MW_tenth_31 (by decide) ?_
    refine wm_idiv d_MW_tenth_33 h16 ⟨by decide, by decide⟩ (by decide) ?_
    have hOM18 : mOk M18 := by rw [e19]; exact mOk_UI hO (m_tdiv32 h16 (by decide))
    refine wm_iastE d_MW_tenth_34 h14 h17 (m_tdiv32 h16 (by decide)) e19 ?_
    refine wm_iload_n d_MW_tenth_35 rfl rfl ?_
    refine wm_bipush d_MW_tenth_36 (by decide) ?_
    refine wm_irem d_MW_tenth_38 h16 ⟨by decide, by decide⟩ (by decide) ?_
    refine wm_istore_n d_MW_tenth_39 rfl (by decide) (L' := [vr a0, vi (Int.tmod ((l1 * 16777216) + (mI M (mR M a0 0) (Int.toNat l2))) 10), vi l2, vi ((l1 * 16777216) + (mI M (mR M a0 0) (Int.toNat l2)))]) rfl ?_
    refine wm_iinc d_MW_tenth_40 (by decide) rfl (L' := [vr a0, vi (Int.tmod ((l1 * 16777216) + (mI M (mR M a0 0) (Int.toNat l2))) 10), vi (l2 + (-1)), vi ((l1 * 16777216) + (mI M (mR M a0 0) (Int.toNat l2)))]) rfl ?_
    refine wm_goto (tgt := 9) d_MW_tenth_43 rfl ?_
    refine wm_less (L' := [vr a0, vi (Int.tmod ((l1 * 16777216) + (mI M (mR M a0 0) (Int.toNat l2))) 10), vi (l2 + (-1)), vd]) ⟨Or.inr rfl, Or.inr rfl, Or.inr rfl, Or.inl rfl, trivial⟩ ?_
    exact h
theorem d_JA_copyOf_0 : decode y_JA_copyOf.2.1 0 = .ok (.iload_n 1, 1) := by decide +kernel
theorem d_JA_copyOf_1 : decode y_JA_copyOf.2.1 1 = .ok (.aload_n 0, 1) := by decide +kernel
theorem d_JA_copyOf_2 : decode y_JA_copyOf.2.1 2 = .ok (.arraylength, 1) := by decide +kernel
theorem d_JA_copyOf_3 : decode y_JA_copyOf.2.1 3 = .ok (.if_icmp .ne 11, 3) := by decide +kernel
theorem d_JA_copyOf_6 : decode y_JA_copyOf.2.1 6 = .ok (.aload_n 0, 1) := by decide +kernel
theorem d_JA_copyOf_14 : decode y_JA_copyOf.2.1 14 = .ok (.iload_n 1, 1) := by decide +kernel
theorem d_JA_copyOf_15 : decode y_JA_copyOf.2.1 15 = .ok (.newarray .int, 2) := by decide +kernel
theorem d_JA_copyOf_17 : decode y_JA_copyOf.2.1 17 = .ok (.astore_n 2, 1) := by decide +kernel
theorem d_JA_copyOf_18 : decode y_JA_copyOf.2.1 18 = .ok (.aload_n 0, 1) := by decide +kernel
theorem d_JA_copyOf_19 : decode y_JA_copyOf.2.1 19 = .ok (.iconst 0, 1) := by decide +kernel
theorem d_JA_copyOf_20 : decode y_JA_copyOf.2.1 20 = .ok (.aload_n 2, 1) := by decide +kernel
theorem d_JA_copyOf_21 : decode y_JA_copyOf.2.1 21 = .ok (.iconst 0, 1) := by decide +kernel
theorem d_JA_copyOf_22 : decode y_JA_copyOf.2.1 22 = .ok (.aload_n 0, 1) := by decide +kernel
theorem d_JA_copyOf_23 : decode y_JA_copyOf.2.1 23 = .ok (.arraylength, 1) := by decide +kernel
theorem d_JA_copyOf_24 : decode y_JA_copyOf.2.1 24 = .ok (.iload_n 1, 1) := by decide +kernel
theorem d_JA_copyOf_25 : decode y_JA_copyOf.2.1 25 = .ok (.invokestatic 304, 3) := by decide +kernel
theorem d_JA_copyOf_28 : decode y_JA_copyOf.2.1 28 = .ok (.invokestatic 150, 3) := by decide +kernel
theorem d_JA_copyOf_31 : decode y_JA_copyOf.2.1 31 = .ok (.aload_n 2, 1) := by decide +kernel
theorem d_JA_copyOf_32 : decode y_JA_copyOf.2.1 32 = .ok (.areturn, 1) := by decide +kernel
theorem k_JA_copyOf {G : mG} {d : Nat} {a0 : Nat} {l1 : Int} {M : mM} {Q : Nat → mM → Prop} (hO : mOk M) (hi_l1 : i32 l1)
    (h : mK M a0 = 30 ∧ i32 (mN M a0 : Int) ∧ ((l1 = (mN M a0 : Int)) → (False)) ∧ (¬ (l1 = (mN M a0 : Int)) → (((0 : Int) ≤ l1 ∧ l1 ≤ 16777216) ∧ ∀ M7, M7 = mNew M 30 (Int.toNat l1) (Int.toNat l1) → mK M7 a0 = 30 ∧ i32 (mN M7 a0 : Int) ∧ ((0 : Int) ≤ 0 ∧ (0 : Int) ≤ 0 ∧ (0 : Int) ≤ (if l1 < (mN M7 a0 : Int) then l1 else (mN M7 a0 : Int)) ∧ 0 + (if l1 < (mN M7 a0 : Int) then l1 else (mN M7 a0 : Int)) ≤ (mN M7 a0 : Int) ∧ 0 + (if l1 < (mN M7 a0 : Int) then l1 else (mN M7 a0 : Int)) ≤ (mN M7 (mZ M) : Int)) ∧ ∀ M12, M12 = mCpy M7 a0 (mZ M) 0 0 (Int.toNat (if l1 < (mN M7 a0 : Int) then l1 else (mN M7 a0 : Int))) → Q (mZ M) M12))) :
    Cr G y_JA_copyOf (d + 1) [vr a0, vi l1] M Q := by
  refine wm_open (y := y_JA_copyOf) rfl (Nat.le_of_ble_eq_true rfl) (L := [vr a0, vi l1, vd]) rfl ?_
  obtain ⟨h1, h⟩ := h
  obtain ⟨h4, h⟩ := h
  refine wm_iload_n d_JA_copyOf_0 rfl rfl ?_
  refine wm_aload_n d_JA_copyOf_1 rfl rfl ?_
  refine wm_alen 0 rfl (fun _ => rfl) d_JA_copyOf_2 h1 ?_
  refine wm_icmp_ne (tgt := 14) d_JA_copyOf_3 rfl hi_l1 h4 (fun c5 => ?_) (fun c5 => ?_)
  · replace h := h.2 c5
    obtain ⟨h6, h⟩ := h
    obtain ⟨M7, e8⟩ : ∃ M7, M7 = mNew M 30 (Int.toNat l1) (Int.toNat l1) := ⟨_, rfl⟩
    replace h := h M7 e8
    obtain ⟨h9, h⟩ := h
    obtain ⟨h10, h⟩ := h
    obtain ⟨h11, h⟩ := h
    obtain ⟨M12, e13⟩ : ∃ M12, M12 = mCpy M7 a0 (mZ M) 0 0 (Int.toNat (if l1 < (mN M7 a0 : Int) then l1 else (mN M7 a0 : Int))) := ⟨_, rfl⟩
    replace h := h M12 e13
    refine wm_iload_n d_JA_copyOf_14 rfl rfl ?_
    have hOM7 : mOk M7 := by rw [e8]; exact mOk_New hO
    refine wm_newarrE 0 (atype := .int) (ty := .int) rfl rfl (fun _ => rfl) rfl rfl (by decide) k1_82 h6 d_JA_copyOf_15 e8 ?_
    refine wm_astore_n d_JA_copyOf_17 rfl (by decide) (L' := [vr a0, vi l1, vr (mZ M)]) rfl ?_
    refine wm_aload_n d_JA_copyOf_18 rfl rfl ?_
    refine wm_iconst d_JA_copyOf_19 ?_
    refine wm_aload_n d_JA_copyOf_20 rfl rfl ?_
    refine wm_iconst d_JA_copyOf_21 ?_
    refine wm_aload_n d_JA_copyOf_22 rfl rfl ?_
    refine wm_alen 0 rfl (fun _ => rfl) d_JA_copyOf_23 h9 ?_
    refine wm_iload_n d_JA_copyOf_24 rfl rfl ?_
    refine wm_mmin k5_67 (Nat.le_of_ble_eq_true rfl) h10 hi_l1 d_JA_copyOf_25 ?_
    have hOM12 : mOk M12 := by rw [e13]; exact mOk_Cpy hOM7
    refine wm_copyi k5_68 (Nat.le_of_ble_eq_true rfl) h9 (by rw [e8]; exact if_pos rfl) h11 d_JA_copyOf_28 e13 ?_
    refine wm_aload_n d_JA_copyOf_31 rfl rfl ?_
    refine wm_areturn d_JA_copyOf_32 rfl (Or.inr ⟨_, rfl⟩) ?_
    exact ⟨_, rfl, h⟩
  · replace c5 := Classical.not_not.mp c5
    replace h := h.1 c5
    refine wm_aload_n d_JA_copyOf_6 rfl rfl ?_
    exact h.elim
theorem d_JA_fillR_0 : decode y_JA_fillR.2.1 0 = .ok (.aload_n 0, 1) := by decide +kernel
theorem d_JA_fillR_1 : decode y_JA_fillR.2.1 1 = .ok (.arraylength, 1) := by decide +kernel
theorem d_JA_fillR_2 : decode y_JA_fillR.2.1 2 = .ok (.iload_n 1, 1) := by decide +kernel
theorem d_JA_fillR_3 : decode y_JA_fillR.2.1 3 = .ok (.iload_n 2, 1) := by decide +kernel
theorem d_JA_fillR_4 : decode y_JA_fillR.2.1 4 = .ok (.invokestatic 13, 3) := by decide +kernel
theorem d_JA_fillR_7 : decode y_JA_fillR.2.1 7 = .ok (.iload_n 1, 1) := by decide +kernel
theorem d_JA_fillR_8 : decode y_JA_fillR.2.1 8 = .ok (.istore 4, 2) := by decide +kernel
theorem d_JA_fillR_10 : decode y_JA_fillR.2.1 10 = .ok (.iload 4, 2) := by decide +kernel
theorem d_JA_fillR_12 : decode y_JA_fillR.2.1 12 = .ok (.iload_n 2, 1) := by decide +kernel
theorem d_JA_fillR_13 : decode y_JA_fillR.2.1 13 = .ok (.if_icmp .ge 14, 3) := by decide +kernel
theorem d_JA_fillR_27 : decode y_JA_fillR.2.1 27 = .ok (.return_, 1) := by decide +kernel
theorem d_JA_fillR_16 : decode y_JA_fillR.2.1 16 = .ok (.aload_n 0, 1) := by decide +kernel
theorem d_JA_fillR_17 : decode y_JA_fillR.2.1 17 = .ok (.iload 4, 2) := by decide +kernel
theorem d_JA_fillR_19 : decode y_JA_fillR.2.1 19 = .ok (.iload_n 3, 1) := by decide +kernel
theorem d_JA_fillR_20 : decode y_JA_fillR.2.1 20 = .ok (.iastore, 1) := by decide +kernel
theorem d_JA_fillR_21 : decode y_JA_fillR.2.1 21 = .ok (.iinc 4 1, 3) := by decide +kernel
theorem d_JA_fillR_24 : decode y_JA_fillR.2.1 24 = .ok (.goto (-14), 3) := by decide +kernel
def h_JA_fillR_10 (G : mG) (d : Nat) (a0 : Nat) (l2 : Int) (l3 : Int) (l4 : Int) (M : mM) (Q : mM → Prop) : Prop := mWm G y_JA_fillR (d + 1) 10 [vr a0, vd, vi l2, vi l3, vi l4] [] M (fun r9 M9 => r9 = none ∧ Q M9)
theorem k_JA_fillR {G : mG} {d : Nat} {a0 : Nat} {l1 : Int} {l2 : Int} {l3 : Int} {M : mM} {Q : mM → Prop} (hO : mOk M) (hi_l1 : i32 l1) (hi_l2 : i32 l2) (hi_l3 : i32 l3)
    (h : mK M a0 = 30 ∧ Cv G y_JA_rangeCheck d [vi (mN M a0 : Int), vi l1, vi l2] M (fun M2 => mOk M2 ∧ (h_JA_fillR_10 G d a0 l2 l3 l1 M2 Q))) :
    Cv G y_JA_fillR (d + 1) [vr a0, vi l1, vi l2, vi l3] M Q := by
  refine wm_open (y := y_JA_fillR) rfl (Nat.le_of_ble_eq_true rfl) (L := [vr a0, vi l1, vi l2, vi l3, vd]) rfl ?_
  obtain ⟨h1, h⟩ := h
  refine wm_aload_n d_JA_fillR_0 rfl rfl ?_
  refine wm_alen 0 rfl (fun _ => rfl) d_JA_fillR_1 h1 ?_
  refine wm_iload_n d_JA_fillR_2 rfl rfl ?_
  refine wm_iload_n d_JA_fillR_3 rfl rfl ?_
  refine cf_JA_13 rfl d_JA_fillR_4 (Nat.le_of_ble_eq_true rfl) (Cv.mono h (fun M2 h => ?_))
  obtain ⟨hOM2, h⟩ := h
  refine wm_iload_n d_JA_fillR_7 rfl rfl ?_
  refine wm_istore d_JA_fillR_8 (by decide) (L' := [vr a0, vi l1, vi l2, vi l3, vi l1]) rfl ?_
  refine wm_less (L' := [vr a0, vd, vi l2, vi l3, vi l1]) ⟨Or.inr rfl, Or.inl rfl, Or.inr rfl, Or.inr rfl, Or.inr rfl, trivial⟩ ?_
  exact h
theorem k_JA_fillR_10 {G : mG} {d : Nat} {a0 : Nat} {l2 : Int} {l3 : Int} {l4 : Int} {M : mM} {Q : mM → Prop} (hO : mOk M) (hi_l2 : i32 l2) (hi_l3 : i32 l3) (hi_l4 : i32 l4)
    (h : ((l2 ≤ l4) → (Q M)) ∧ (¬ (l2 ≤ l4) → (mK M a0 = 30 ∧ ((0 : Int) ≤ l4 ∧ l4 < (mN M a0 : Int)) ∧ ∀ M11, M11 = mUI M a0 (Int.toNat l4) l3 → h_JA_fillR_10 G d a0 l2 l3 (l4 + 1) M11 Q))) :
    h_JA_fillR_10 G d a0 l2 l3 l4 M Q := by
  unfold h_JA_fillR_10
  refine wm_iload d_JA_fillR_10 rfl ?_
  refine wm_iload_n d_JA_fillR_12 rfl rfl ?_
  refine wm_icmp_ge (tgt := 27) d_JA_fillR_13 rfl hi_l4 hi_l2 (fun c8 => ?_) (fun c8 => ?_)
  · replace h := h.1 c8
    refine wm_return d_JA_fillR_27 rfl ?_
    exact ⟨rfl, h⟩
  · replace h := h.2 c8
    obtain ⟨h9, h⟩ := h
    obtain ⟨h10, h⟩ := h
    obtain ⟨M11, e12⟩ : ∃ M11, M11 = mUI M a0 (Int.toNat l4) l3 := ⟨_, rfl⟩
    replace h := h M11 e12
    refine wm_aload_n d_JA_fillR_16 rfl rfl ?_
    refine wm_iload d_JA_fillR_17 rfl ?_
    refine wm_iload_n d_JA_fillR_19 rfl rfl ?_
    have hOM11 : mOk M11 := by rw [e12]; exact mOk_UI hO hi_l3
    refine wm_iastE d_JA_fillR_20 h9 h10 hi_l3 e12 ?_
    refine wm_iinc d_JA_fillR_21 (by decide) rfl (L' := [vr a0, vd, vi l2, vi l3, vi (l4 + 1)]) rfl ?_
    refine wm_goto (tgt := 10) d_JA_fillR_24 rfl ?_
    exact h
theorem d_JA_fill_0 : decode y_JA_fill.2.1 0 = .ok (.iconst 0, 1) := by decide +kernel
theorem d_JA_fill_1 : decode y_JA_fill.2.1 1 = .ok (.istore_n 2, 1) := by decide +kernel
theorem d_JA_fill_2 : decode y_JA_fill.2.1 2 = .ok (.aload_n 0, 1) := by decide +kernel
theorem d_JA_fill_3 : decode y_JA_fill.2.1 3 = .ok (.arraylength, 1) := by decide +kernel
theorem d_JA_fill_4 : decode y_JA_fill.2.1 4 = .ok (.istore_n 3, 1) := by decide +kernel
theorem d_JA_fill_5 : decode y_JA_fill.2.1 5 = .ok (.iload_n 2, 1) := by decide +kernel
theorem d_JA_fill_6 : decode y_JA_fill.2.1 6 = .ok (.iload_n 3, 1) := by decide +kernel
theorem d_JA_fill_7 : decode y_JA_fill.2.1 7 = .ok (.if_icmp .ge 13, 3) := by decide +kernel
theorem d_JA_fill_20 : decode y_JA_fill.2.1 20 = .ok (.return_, 1) := by decide +kernel
theorem d_JA_fill_10 : decode y_JA_fill.2.1 10 = .ok (.aload_n 0, 1) := by decide +kernel
theorem d_JA_fill_11 : decode y_JA_fill.2.1 11 = .ok (.iload_n 2, 1) := by decide +kernel
theorem d_JA_fill_12 : decode y_JA_fill.2.1 12 = .ok (.iload_n 1, 1) := by decide +kernel
theorem d_JA_fill_13 : decode y_JA_fill.2.1 13 = .ok (.iastore, 1) := by decide +kernel
theorem d_JA_fill_14 : decode y_JA_fill.2.1 14 = .ok (.iinc 2 1, 3) := by decide +kernel
theorem d_JA_fill_17 : decode y_JA_fill.2.1 17 = .ok (.goto (-12), 3) := by decide +kernel
def h_JA_fill_5 (G : mG) (d : Nat) (a0 : Nat) (l1 : Int) (l2 : Int) (l3 : Int) (M : mM) (Q : mM → Prop) : Prop := mWm G y_JA_fill d 5 [vr a0, vi l1, vi l2, vi l3] [] M (fun r9 M9 => r9 = none ∧ Q M9)
theorem k_JA_fill {G : mG} {d : Nat} {a0 : Nat} {l1 : Int} {M : mM} {Q : mM → Prop} (hO : mOk M) (hi_l1 : i32 l1)
    (h : mK M a0 = 30 ∧ h_JA_fill_5 G d a0 l1 0 (mN M a0 : Int) M Q) :
    Cv G y_JA_fill d [vr a0, vi l1] M Q := by
  refine wm_open (y := y_JA_fill) rfl (Nat.le_of_ble_eq_true rfl) (L := [vr a0, vi l1, vd, vd]) rfl ?_
  obtain ⟨h1, h⟩ := h
  refine wm_iconst d_JA_fill_0 ?_
  refine wm_istore_n d_JA_fill_1 rfl (by decide) (L' := [vr a0, vi l1, vi 0, vd]) rfl ?_
  refine wm_aload_n d_JA_fill_2 rfl rfl ?_
  refine wm_alen 0 rfl (fun _ => rfl) d_JA_fill_3 h1 ?_
  refine wm_istore_n d_JA_fill_4 rfl (by decide) (L' := [vr a0, vi l1, vi 0, vi (mN M a0 : Int)]) rfl ?_
  exact h
theorem k_JA_fill_5 {G : mG} {d : Nat} {a0 : Nat} {l1 : Int} {l2 : Int} {l3 : Int} {M : mM} {Q : mM → Prop} (hO : mOk M) (hi_l1 : i32 l1) (hi_l2 : i32 l2) (hi_l3 : i32 l3)
    (h : ((l3 ≤ l2) → (Q M)) ∧ (¬ (l3 ≤ l2) → (mK M a0 = 30 ∧ ((0 : Int) ≤ l2 ∧ l2 < (mN M a0 : Int)) ∧ ∀ M8, M8 = mUI M a0 (Int.toNat l2) l1 → h_JA_fill_5 G d a0 l1 (l2 + 1) l3 M8 Q))) :
    h_JA_fill_5 G d a0 l1 l2 l3 M Q := by
  unfold h_JA_fill_5
  refine wm_iload_n d_JA_fill_5 rfl rfl ?_
  refine wm_iload_n d_JA_fill_6 rfl rfl ?_
  refine wm_icmp_ge (tgt := 20) d_JA_fill_7 rfl hi_l2 hi_l3 (fun c5 => ?_) (fun c5 => ?_)
  · replace h := h.1 c5
    refine wm_return d_JA_fill_20 rfl ?_
    exact ⟨rfl, h⟩
  · replace h := h.2 c5
    obtain ⟨h6, h⟩ := h
    obtain ⟨h7, h⟩ := h
    obtain ⟨M8, e9⟩ : ∃ M8, M8 = mUI M a0 (Int.toNat l2) l1 := ⟨_, rfl⟩
    replace h := h M8 e9
    refine wm_aload_n d_JA_fill_10 rfl rfl ?_
    refine wm_iload_n d_JA_fill_11 rfl rfl ?_
    refine wm_iload_n d_JA_fill_12 rfl rfl ?_
    have hOM8 : mOk M8 := by rw [e9]; exact mOk_UI hO hi_l1
    refine wm_iastE d_JA_fill_13 h6 h7 hi_l1 e9 ?_
    refine wm_iinc d_JA_fill_14 (by decide) rfl (L' := [vr a0, vi l1, vi (l2 + 1), vi l3]) rfl ?_
    refine wm_goto (tgt := 5) d_JA_fill_17 rfl ?_
    exact h
theorem d_JA_rangeCheck_0 : decode y_JA_rangeCheck.2.1 0 = .ok (.iload_n 1, 1) := by decide +kernel
theorem d_JA_rangeCheck_1 : decode y_JA_rangeCheck.2.1 1 = .ok (.iload_n 2, 1) := by decide +kernel
theorem d_JA_rangeCheck_2 : decode y_JA_rangeCheck.2.1 2 = .ok (.if_icmp .le 44, 3) := by decide +kernel
theorem d_JA_rangeCheck_46 : decode y_JA_rangeCheck.2.1 46 = .ok (.iload_n 1, 1) := by decide +kernel
theorem d_JA_rangeCheck_47 : decode y_JA_rangeCheck.2.1 47 = .ok (.ifCond .ge 12, 3) := by decide +kernel
theorem d_JA_rangeCheck_59 : decode y_JA_rangeCheck.2.1 59 = .ok (.iload_n 2, 1) := by decide +kernel
theorem d_JA_rangeCheck_60 : decode y_JA_rangeCheck.2.1 60 = .ok (.iload_n 0, 1) := by decide +kernel
theorem d_JA_rangeCheck_61 : decode y_JA_rangeCheck.2.1 61 = .ok (.if_icmp .le 12, 3) := by decide +kernel
theorem d_JA_rangeCheck_73 : decode y_JA_rangeCheck.2.1 73 = .ok (.return_, 1) := by decide +kernel
theorem k_JA_rangeCheck {G : mG} {d : Nat} {l0 : Int} {l1 : Int} {l2 : Int} {M : mM} {Q : mM → Prop} (hO : mOk M) (hi_l0 : i32 l0) (hi_l1 : i32 l1) (hi_l2 : i32 l2)
    (h : ((l1 ≤ l2) → (((0 ≤ l1) → (((l2 ≤ l0) → (Q M)) ∧ (¬ (l2 ≤ l0) → (False)))) ∧ (¬ (0 ≤ l1) → (False)))) ∧ (¬ (l1 ≤ l2) → (False))) :
    Cv G y_JA_rangeCheck (d + 1) [vi l0, vi l1, vi l2] M Q := by
  refine wm_open (y := y_JA_rangeCheck) rfl (Nat.le_of_ble_eq_true rfl) (L := [vi l0, vi l1, vi l2]) rfl ?_
  refine wm_iload_n d_JA_rangeCheck_0 rfl rfl ?_
  refine wm_iload_n d_JA_rangeCheck_1 rfl rfl ?_
  refine wm_icmp_le (tgt := 46) d_JA_rangeCheck_2 rfl hi_l1 hi_l2 (fun c4 => ?_) (fun c4 => ?_)
  · replace h := h.1 c4
    refine wm_iload_n d_JA_rangeCheck_46 rfl rfl ?_
    refine wm_if_ge (tgt := 59) d_JA_rangeCheck_47 rfl hi_l1 (fun c7 => ?_) (fun c7 => ?_)
    · replace h := h.1 c7
      refine wm_iload_n d_JA_rangeCheck_59 rfl rfl ?_
      refine wm_iload_n d_JA_rangeCheck_60 rfl rfl ?_
      refine wm_icmp_le (tgt := 73) d_JA_rangeCheck_61 rfl hi_l2 hi_l0 (fun c9 => ?_) (fun c9 => ?_)
      · replace h := h.1 c9
        refine wm_return d_JA_rangeCheck_73 rfl ?_
        exact ⟨rfl, h⟩
      · replace h := h.2 c9
        exact h.elim
    · replace h := h.2 c7
      exact h.elim
  · replace h := h.2 c4
    exact h.elim
theorem d_JI_nlz_0 : decode y_JI_nlz.2.1 0 = .ok (.iload_n 0, 1) := by decide +kernel
theorem d_JI_nlz_1 : decode y_JI_nlz.2.1 1 = .ok (.ifCond .gt 14, 3) := by decide +kernel
theorem d_JI_nlz_15 : decode y_JI_nlz.2.1 15 = .ok (.bipush 31, 2) := by decide +kernel
theorem d_JI_nlz_17 : decode y_JI_nlz.2.1 17 = .ok (.istore_n 1, 1) := by decide +kernel
theorem d_JI_nlz_18 : decode y_JI_nlz.2.1 18 = .ok (.iload_n 0, 1) := by decide +kernel
theorem d_JI_nlz_19 : decode y_JI_nlz.2.1 19 = .ok (.ldc_w 264, 3) := by decide +kernel
theorem d_JI_nlz_4 : decode y_JI_nlz.2.1 4 = .ok (.iload_n 0, 1) := by decide +kernel
theorem d_JI_nlz_5 : decode y_JI_nlz.2.1 5 = .ok (.ifCond .ne 8, 3) := by decide +kernel
theorem d_JI_nlz_8 : decode y_JI_nlz.2.1 8 = .ok (.bipush 32, 2) := by decide +kernel
theorem d_JI_nlz_10 : decode y_JI_nlz.2.1 10 = .ok (.goto 4, 3) := by decide +kernel
theorem d_JI_nlz_14 : decode y_JI_nlz.2.1 14 = .ok (.ireturn, 1) := by decide +kernel
theorem d_JI_nlz_13 : decode y_JI_nlz.2.1 13 = .ok (.iconst 0, 1) := by decide +kernel
theorem d_JI_nlz_22 : decode y_JI_nlz.2.1 22 = .ok (.if_icmp .lt 11, 3) := by decide +kernel
theorem d_JI_nlz_25 : decode y_JI_nlz.2.1 25 = .ok (.iinc 1 (-16), 3) := by decide +kernel
theorem d_JI_nlz_28 : decode y_JI_nlz.2.1 28 = .ok (.iload_n 0, 1) := by decide +kernel
theorem d_JI_nlz_29 : decode y_JI_nlz.2.1 29 = .ok (.bipush 16, 2) := by decide +kernel
theorem d_JI_nlz_31 : decode y_JI_nlz.2.1 31 = .ok (.iushr, 1) := by decide +kernel
theorem d_JI_nlz_32 : decode y_JI_nlz.2.1 32 = .ok (.istore_n 0, 1) := by decide +kernel
theorem d_JI_nlz_33 : decode y_JI_nlz.2.1 33 = .ok (.iload_n 0, 1) := by decide +kernel
theorem d_JI_nlz_34 : decode y_JI_nlz.2.1 34 = .ok (.sipush 256, 3) := by decide +kernel
theorem d_JI_nlz_37 : decode y_JI_nlz.2.1 37 = .ok (.if_icmp .lt 11, 3) := by decide +kernel
theorem d_JI_nlz_40 : decode y_JI_nlz.2.1 40 = .ok (.iinc 1 (-8), 3) := by decide +kernel
theorem d_JI_nlz_43 : decode y_JI_nlz.2.1 43 = .ok (.iload_n 0, 1) := by decide +kernel
theorem d_JI_nlz_44 : decode y_JI_nlz.2.1 44 = .ok (.bipush 8, 2) := by decide +kernel
theorem d_JI_nlz_46 : decode y_JI_nlz.2.1 46 = .ok (.iushr, 1) := by decide +kernel
theorem d_JI_nlz_47 : decode y_JI_nlz.2.1 47 = .ok (.istore_n 0, 1) := by decide +kernel
theorem d_JI_nlz_48 : decode y_JI_nlz.2.1 48 = .ok (.iload_n 0, 1) := by decide +kernel
theorem d_JI_nlz_49 : decode y_JI_nlz.2.1 49 = .ok (.bipush 16, 2) := by decide +kernel
theorem d_JI_nlz_51 : decode y_JI_nlz.2.1 51 = .ok (.if_icmp .lt 10, 3) := by decide +kernel
theorem d_JI_nlz_54 : decode y_JI_nlz.2.1 54 = .ok (.iinc 1 (-4), 3) := by decide +kernel
theorem d_JI_nlz_57 : decode y_JI_nlz.2.1 57 = .ok (.iload_n 0, 1) := by decide +kernel
theorem d_JI_nlz_58 : decode y_JI_nlz.2.1 58 = .ok (.iconst 4, 1) := by decide +kernel
theorem d_JI_nlz_59 : decode y_JI_nlz.2.1 59 = .ok (.iushr, 1) := by decide +kernel
theorem d_JI_nlz_60 : decode y_JI_nlz.2.1 60 = .ok (.istore_n 0, 1) := by decide +kernel
theorem d_JI_nlz_61 : decode y_JI_nlz.2.1 61 = .ok (.iload_n 0, 1) := by decide +kernel
theorem d_JI_nlz_62 : decode y_JI_nlz.2.1 62 = .ok (.iconst 4, 1) := by decide +kernel
theorem d_JI_nlz_63 : decode y_JI_nlz.2.1 63 = .ok (.if_icmp .lt 10, 3) := by decide +kernel
theorem d_JI_nlz_66 : decode y_JI_nlz.2.1 66 = .ok (.iinc 1 (-2), 3) := by decide +kernel
theorem d_JI_nlz_69 : decode y_JI_nlz.2.1 69 = .ok (.iload_n 0, 1) := by decide +kernel
theorem d_JI_nlz_70 : decode y_JI_nlz.2.1 70 = .ok (.iconst 2, 1) := by decide +kernel
theorem d_JI_nlz_71 : decode y_JI_nlz.2.1 71 = .ok (.iushr, 1) := by decide +kernel
theorem d_JI_nlz_72 : decode y_JI_nlz.2.1 72 = .ok (.istore_n 0, 1) := by decide +kernel
theorem d_JI_nlz_73 : decode y_JI_nlz.2.1 73 = .ok (.iload_n 1, 1) := by decide +kernel
theorem d_JI_nlz_74 : decode y_JI_nlz.2.1 74 = .ok (.iload_n 0, 1) := by decide +kernel
theorem d_JI_nlz_75 : decode y_JI_nlz.2.1 75 = .ok (.iconst 1, 1) := by decide +kernel
theorem d_JI_nlz_76 : decode y_JI_nlz.2.1 76 = .ok (.iushr, 1) := by decide +kernel
theorem d_JI_nlz_77 : decode y_JI_nlz.2.1 77 = .ok (.isub, 1) := by decide +kernel
theorem d_JI_nlz_78 : decode y_JI_nlz.2.1 78 = .ok (.ireturn, 1) := by decide +kernel
theorem k_JI_nlz {G : mG} {d : Nat} {l0 : Int} {M : mM} {Q : Int → mM → Prop} (hO : mOk M) (hi_l0 : i32 l0)
    (h : ((0 < l0) → (∀ v5 : Int, v5 = (if (l0 < 65536) then l0 else ushrI l0 16) → ∀ v6 : Int, v6 = (if (l0 < 65536) then 31 else 31 + (-16)) → ∀ v12 : Int, v12 = (if (v5 < 256) then v5 else ushrI v5 8) → ∀ v13 : Int, v13 = (if (v5 < 256) then v6 else v6 + (-8)) → ∀ v19 : Int, v19 = (if (v12 < 16) then v12 else ushrI v12 4) → ∀ v20 : Int, v20 = (if (v12 < 16) then v13 else v13 + (-4)) → ∀ v26 : Int, v26 = (if (v19 < 4) then v19 else ushrI v19 2) → ∀ v27 : Int, v27 = (if (v19 < 4) then v20 else v20 + (-2)) → Q (v27 - (ushrI v26 1)) M)) ∧ (¬ (0 < l0) → (∀ v41 : Int, v41 = (if (l0 = 0) then 32 else 0) → Q v41 M))) :
    Ci G y_JI_nlz d [vi l0] M Q := by
  refine wm_open (y := y_JI_nlz) rfl (Nat.le_of_ble_eq_true rfl) (L := [vi l0, vd]) rfl ?_
  refine wm_iload_n d_JI_nlz_0 rfl rfl ?_
  refine wm_if_gt (tgt := 15) d_JI_nlz_1 rfl hi_l0 (fun c3 => ?_) (fun c3 => ?_)
  · replace h := h.1 c3
    refine wm_bipush d_JI_nlz_15 (by decide) ?_
    refine wm_istore_n d_JI_nlz_17 rfl (by decide) (L' := [vi l0, vi 31]) rfl ?_
    refine wm_iload_n d_JI_nlz_18 rfl rfl ?_
    refine wm_ldcw (x := 65536) d_JI_nlz_19 k5_236 (by decide) ?_
    have hJ : ∀ v5 : Int, v5 = (if (l0 < 65536) then l0 else ushrI l0 16) → ∀ v6 : Int, v6 = (if (l0 < 65536) then 31 else 31 + (-16)) → mWm G y_JI_nlz d 33 [vi v5, vi v6] [] M (fun r9 M9 => ∃ x9, r9 = some (vi x9) ∧ Q x9 M9) := by
      intro v5 e8
      intro v6 e9
      have h := h v5 e8 v6 e9
      have h10 : i32 v5 := by rw [e8]; (repeat' split) <;> first | exact hi_l0 | exact (m_i32 _)
      refine wm_iload_n d_JI_nlz_33 rfl rfl ?_
      refine wm_sipush d_JI_nlz_34 (by decide) ?_
      have hJ : ∀ v12 : Int, v12 = (if (v5 < 256) then v5 else ushrI v5 8) → ∀ v13 : Int, v13 = (if (v5 < 256) then v6 else v6 + (-8)) → mWm G y_JI_nlz d 48 [vi v12, vi v13] [] M (fun r9 M9 => ∃ x9, r9 = some (vi x9) ∧ Q x9 M9) := by
        intro v12 e15
        intro v13 e16
        have h := h v12 e15 v13 e16
        have h17 : i32 v12 := by rw [e15]; (repeat' split) <;> first | exact h10 | exact (m_i32 _)
        refine wm_iload_n d_JI_nlz_48 rfl rfl ?_
        refine wm_bipush d_JI_nlz_49 (by decide) ?_
        have hJ : ∀ v19 : Int, v19 = (if (v12 < 16) then v12 else ushrI v12 4) → ∀ v20 : Int, v20 = (if (v12 < 16) then v13 else v13 + (-4)) → mWm G y_JI_nlz d 61 [vi v19, vi v20] [] M (fun r9 M9 => ∃ x9, r9 = some (vi x9) ∧ Q x9 M9) := by
          intro v19 e22
          intro v20 e23
          have h := h v19 e22 v20 e23
          have h24 : i32 v19 := by rw [e22]; (repeat' split) <;> first | exact h17 | exact (m_i32 _)
          refine wm_iload_n d_JI_nlz_61 rfl rfl ?_
          refine wm_iconst d_JI_nlz_62 ?_
          have hJ : ∀ v26 : Int, v26 = (if (v19 < 4) then v19 else ushrI v19 2) → ∀ v27 : Int, v27 = (if (v19 < 4) then v20 else v20 + (-2)) → mWm G y_JI_nlz d 73 [vi v26, vi v27] [] M (fun r9 M9 => ∃ x9, r9 = some (vi x9) ∧ Q x9 M9) := by
            intro v26 e29
            intro v27 e30
            have h := h v26 e29 v27 e30
            have h31 : i32 v26 := by rw [e29]; (repeat' split) <;> first | exact h24 | exact (m_i32 _)
            refine wm_iload_n d_JI_nlz_73 rfl rfl ?_
            refine wm_iload_n d_JI_nlz_74 rfl rfl ?_
            refine wm_iconst d_JI_nlz_75 ?_
            refine wm_iushr d_JI_nlz_76 ?_
            refine wm_isub d_JI_nlz_77 ?_
            refine wm_ireturn d_JI_nlz_78 rfl rfl ?_
            exact ⟨_, rfl, h⟩
          clear h
          refine wm_icmp_lt (tgt := 73) d_JI_nlz_63 rfl h24 ⟨by decide, by decide⟩ (fun c25 => ?_) (fun c25 => ?_)
          · exact hJ v19 (if_pos c25).symm v20 (if_pos c25).symm
          · refine wm_iinc d_JI_nlz_66 (by decide) rfl (L' := [vi v19, vi (v20 + (-2))]) rfl ?_
            refine wm_iload_n d_JI_nlz_69 rfl rfl ?_
            refine wm_iconst d_JI_nlz_70 ?_
            refine wm_iushr d_JI_nlz_71 ?_
            refine wm_istore_n d_JI_nlz_72 rfl (by decide) (L' := [vi (ushrI v19 2), vi (v20 + (-2))]) rfl ?_
            exact hJ (ushrI v19 2) (if_neg c25).symm (v20 + (-2)) (if_neg c25).symm
        clear h
        refine wm_icmp_lt (tgt := 61) d_JI_nlz_51 rfl h17 ⟨by decide, by decide⟩ (fun c18 => ?_) (fun c18 => ?_)
        · exact hJ v12 (if_pos c18).symm v13 (if_pos c18).symm
        · refine wm_iinc d_JI_nlz_54 (by decide) rfl (L' := [vi v12, vi (v13 + (-4))]) rfl ?_
          refine wm_iload_n d_JI_nlz_57 rfl rfl ?_
          refine wm_iconst d_JI_nlz_58 ?_
          refine wm_iushr d_JI_nlz_59 ?_
          refine wm_istore_n d_JI_nlz_60 rfl (by decide) (L' := [vi (ushrI v12 4), vi (v13 + (-4))]) rfl ?_
          exact hJ (ushrI v12 4) (if_neg c18).symm (v13 + (-4)) (if_neg c18).symm
      clear h
      refine wm_icmp_lt (tgt := 48) d_JI_nlz_37 rfl h10 ⟨by decide, by decide⟩ (fun c11 => ?_) (fun c11 => ?_)
      · exact hJ v5 (if_pos c11).symm v6 (if_pos c11).symm
      · refine wm_iinc d_JI_nlz_40 (by decide) rfl (L' := [vi v5, vi (v6 + (-8))]) rfl ?_
        refine wm_iload_n d_JI_nlz_43 rfl rfl ?_
        refine wm_bipush d_JI_nlz_44 (by decide) ?_
        refine wm_iushr d_JI_nlz_46 ?_
        refine wm_istore_n d_JI_nlz_47 rfl (by decide) (L' := [vi (ushrI v5 8), vi (v6 + (-8))]) rfl ?_
        exact hJ (ushrI v5 8) (if_neg c11).symm (v6 + (-8)) (if_neg c11).symm
    clear h
    refine wm_icmp_lt (tgt := 33) d_JI_nlz_22 rfl hi_l0 ⟨by decide, by decide⟩ (fun c4 => ?_) (fun c4 => ?_)
    · exact hJ l0 (if_pos c4).symm 31 (if_pos c4).symm
    · refine wm_iinc d_JI_nlz_25 (by decide) rfl (L' := [vi l0, vi (31 + (-16))]) rfl ?_
      refine wm_iload_n d_JI_nlz_28 rfl rfl ?_
      refine wm_bipush d_JI_nlz_29 (by decide) ?_
      refine wm_iushr d_JI_nlz_31 ?_
      refine wm_istore_n d_JI_nlz_32 rfl (by decide) (L' := [vi (ushrI l0 16), vi (31 + (-16))]) rfl ?_
      exact hJ (ushrI l0 16) (if_neg c4).symm (31 + (-16)) (if_neg c4).symm
  · replace h := h.2 c3
    refine wm_iload_n d_JI_nlz_4 rfl rfl ?_
    have hJ : ∀ v41 : Int, v41 = (if (l0 = 0) then 32 else 0) → mWm G y_JI_nlz d 14 [vd, vd] [vi v41] M (fun r9 M9 => ∃ x9, r9 = some (vi x9) ∧ Q x9 M9) := by
      intro v41 e43
      have h := h v41 e43
      have h44 : i32 v41 := by rw [e43]; (repeat' split) <;> first | exact ⟨by decide, by decide⟩ | exact ⟨by decide, by decide⟩
      refine wm_ireturn d_JI_nlz_14 rfl rfl ?_
      exact ⟨_, rfl, h⟩
    clear h
    refine wm_if_ne (tgt := 13) d_JI_nlz_5 rfl hi_l0 (fun c40 => ?_) (fun c40 => ?_)
    · refine wm_iconst d_JI_nlz_13 ?_
      refine wm_less (L' := [vd, vd]) ⟨Or.inl rfl, Or.inl rfl, trivial⟩ ?_
      exact hJ 0 (if_neg c40).symm
    · replace c40 := Classical.not_not.mp c40
      refine wm_bipush d_JI_nlz_8 (by decide) ?_
      refine wm_goto (tgt := 14) d_JI_nlz_10 rfl ?_
      refine wm_less (L' := [vd, vd]) ⟨Or.inl rfl, Or.inl rfl, trivial⟩ ?_
      exact hJ 32 (if_pos c40).symm
theorem d_JL_compare_0 : decode y_JL_compare.2.1 0 = .ok (.lload_n 0, 1) := by decide +kernel
theorem d_JL_compare_1 : decode y_JL_compare.2.1 1 = .ok (.lload_n 2, 1) := by decide +kernel
theorem d_JL_compare_2 : decode y_JL_compare.2.1 2 = .ok (.lcmp, 1) := by decide +kernel
theorem d_JL_compare_3 : decode y_JL_compare.2.1 3 = .ok (.ifCond .ge 7, 3) := by decide +kernel
theorem d_JL_compare_10 : decode y_JL_compare.2.1 10 = .ok (.lload_n 0, 1) := by decide +kernel
theorem d_JL_compare_11 : decode y_JL_compare.2.1 11 = .ok (.lload_n 2, 1) := by decide +kernel
theorem d_JL_compare_12 : decode y_JL_compare.2.1 12 = .ok (.lcmp, 1) := by decide +kernel
theorem d_JL_compare_13 : decode y_JL_compare.2.1 13 = .ok (.ifCond .ne 7, 3) := by decide +kernel
theorem d_JL_compare_16 : decode y_JL_compare.2.1 16 = .ok (.iconst 0, 1) := by decide +kernel
theorem d_JL_compare_17 : decode y_JL_compare.2.1 17 = .ok (.goto 4, 3) := by decide +kernel
theorem d_JL_compare_20 : decode y_JL_compare.2.1 20 = .ok (.iconst 1, 1) := by decide +kernel
theorem d_JL_compare_6 : decode y_JL_compare.2.1 6 = .ok (.iconst (-1), 1) := by decide +kernel
theorem d_JL_compare_7 : decode y_JL_compare.2.1 7 = .ok (.goto 14, 3) := by decide +kernel
theorem d_JL_compare_21 : decode y_JL_compare.2.1 21 = .ok (.ireturn, 1) := by decide +kernel
theorem k_JL_compare {G : mG} {d : Nat} {j0 : Int} {j2 : Int} {M : mM} {Q : Int → mM → Prop} (hO : mOk M) (hi_j0 : i64 j0) (hi_j2 : i64 j2)
    (h : ∀ v3 : Int, v3 = (if 0 ≤ cmpL j0 j2 then (if cmpL j0 j2 = 0 then 0 else 1) else (-1)) → Q v3 M) :
    Ci G y_JL_compare d [vl j0, vl j2] M Q := by
  refine wm_open (y := y_JL_compare) rfl (Nat.le_of_ble_eq_true rfl) (L := [vl j0, vd, vl j2, vd]) rfl ?_
  refine wm_lload_n d_JL_compare_0 rfl rfl ?_
  refine wm_lload_n d_JL_compare_1 rfl rfl ?_
  refine wm_lcmp d_JL_compare_2 hi_j0 hi_j2 ?_
  have hJ : ∀ v3 : Int, v3 = (if 0 ≤ cmpL j0 j2 then (if cmpL j0 j2 = 0 then 0 else 1) else (-1)) → mWm G y_JL_compare d 21 [vd, vd, vd, vd] [vi v3] M (fun r9 M9 => ∃ x9, r9 = some (vi x9) ∧ Q x9 M9) := by
    intro v3 e5
    have h := h v3 e5
    have h6 : i32 v3 := by rw [e5]; (repeat' split) <;> first | exact ⟨by decide, by decide⟩ | exact ⟨by decide, by decide⟩ | exact ⟨by decide, by decide⟩
    refine wm_ireturn d_JL_compare_21 rfl rfl ?_
    exact ⟨_, rfl, h⟩
  clear h
  refine wm_if_ge (tgt := 10) d_JL_compare_3 rfl (m_cmp32 _ _) (fun c1 => ?_) (fun c1 => ?_)
  · refine wm_lload_n d_JL_compare_10 rfl rfl ?_
    refine wm_lload_n d_JL_compare_11 rfl rfl ?_
    refine wm_lcmp d_JL_compare_12 hi_j0 hi_j2 ?_
    refine wm_if_ne (tgt := 20) d_JL_compare_13 rfl (m_cmp32 _ _) (fun c2 => ?_) (fun c2 => ?_)
    · refine wm_iconst d_JL_compare_20 ?_
      refine wm_less (L' := [vd, vd, vd, vd]) ⟨Or.inl rfl, Or.inl rfl, Or.inl rfl, Or.inl rfl, trivial⟩ ?_
      exact hJ 1 (by rw [if_pos c1, if_neg c2])
    · replace c2 := Classical.not_not.mp c2
      refine wm_iconst d_JL_compare_16 ?_
      refine wm_goto (tgt := 21) d_JL_compare_17 rfl ?_
      refine wm_less (L' := [vd, vd, vd, vd]) ⟨Or.inl rfl, Or.inl rfl, Or.inl rfl, Or.inl rfl, trivial⟩ ?_
      exact hJ 0 (by rw [if_pos c1, if_pos c2])
  · refine wm_iconst d_JL_compare_6 ?_
    refine wm_goto (tgt := 21) d_JL_compare_7 rfl ?_
    refine wm_less (L' := [vd, vd, vd, vd]) ⟨Or.inl rfl, Or.inl rfl, Or.inl rfl, Or.inl rfl, trivial⟩ ?_
    exact hJ (-1) (by rw [if_neg c1])
