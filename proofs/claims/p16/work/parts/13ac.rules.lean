theorem d_MM_isLetter_0 : decode y_MM_isLetter.2.1 0 = .ok (.iload_n 0, 1) := by decide +kernel
theorem d_MM_isLetter_1 : decode y_MM_isLetter.2.1 1 = .ok (.bipush 97, 2) := by decide +kernel
theorem d_MM_isLetter_3 : decode y_MM_isLetter.2.1 3 = .ok (.if_icmp .lt 9, 3) := by decide +kernel
theorem d_MM_isLetter_12 : decode y_MM_isLetter.2.1 12 = .ok (.iload_n 0, 1) := by decide +kernel
theorem d_MM_isLetter_13 : decode y_MM_isLetter.2.1 13 = .ok (.bipush 65, 2) := by decide +kernel
theorem d_MM_isLetter_15 : decode y_MM_isLetter.2.1 15 = .ok (.if_icmp .lt 13, 3) := by decide +kernel
theorem d_MM_isLetter_28 : decode y_MM_isLetter.2.1 28 = .ok (.iconst 0, 1) := by decide +kernel
theorem d_MM_isLetter_18 : decode y_MM_isLetter.2.1 18 = .ok (.iload_n 0, 1) := by decide +kernel
theorem d_MM_isLetter_19 : decode y_MM_isLetter.2.1 19 = .ok (.bipush 90, 2) := by decide +kernel
theorem d_MM_isLetter_21 : decode y_MM_isLetter.2.1 21 = .ok (.if_icmp .gt 7, 3) := by decide +kernel
theorem d_MM_isLetter_24 : decode y_MM_isLetter.2.1 24 = .ok (.iconst 1, 1) := by decide +kernel
theorem d_MM_isLetter_25 : decode y_MM_isLetter.2.1 25 = .ok (.goto 4, 3) := by decide +kernel
theorem d_MM_isLetter_6 : decode y_MM_isLetter.2.1 6 = .ok (.iload_n 0, 1) := by decide +kernel
theorem d_MM_isLetter_7 : decode y_MM_isLetter.2.1 7 = .ok (.bipush 122, 2) := by decide +kernel
theorem d_MM_isLetter_9 : decode y_MM_isLetter.2.1 9 = .ok (.if_icmp .le 15, 3) := by decide +kernel
theorem d_MM_isLetter_29 : decode y_MM_isLetter.2.1 29 = .ok (.ireturn, 1) := by decide +kernel
theorem k_MM_isLetter {G : mG} {d : Nat} {l0 : Int} {M : mM} {Q : Int → mM → Prop} (hO : mOk M) (hi_l0 : i32 l0)
    (h : ∀ v7 : Int, v7 = (if (((l0 < 97) ∧ ((l0 < 65) ∨ (90 < l0))) ∨ ((¬ (l0 < 97)) ∧ ((¬ (l0 ≤ 122)) ∧ ((l0 < 65) ∨ (90 < l0))))) then 0 else 1) → Q v7 M) :
    Ci G y_MM_isLetter d [vi l0] M Q := by
  refine wm_open (y := y_MM_isLetter) rfl (Nat.le_of_ble_eq_true rfl) (L := [vi l0]) rfl ?_
  refine wm_iload_n d_MM_isLetter_0 rfl rfl ?_
  refine wm_bipush d_MM_isLetter_1 (by decide) ?_
  have hJ : ∀ v7 : Int, v7 = (if (((l0 < 97) ∧ ((l0 < 65) ∨ (90 < l0))) ∨ ((¬ (l0 < 97)) ∧ ((¬ (l0 ≤ 122)) ∧ ((l0 < 65) ∨ (90 < l0))))) then 0 else 1) → mWm G y_MM_isLetter d 29 [vd] [vi v7] M (fun r9 M9 => ∃ x9, r9 = some (vi x9) ∧ Q x9 M9) := by
    intro v7 e9
    have h := h v7 e9
    have h10 : i32 v7 := by rw [e9]; (repeat' split) <;> first | exact ⟨by decide, by decide⟩ | exact ⟨by decide, by decide⟩
    have h11 : (v7 = 0 ∨ v7 = 1) := by rw [e9]; (repeat' split) <;> decide
    refine wm_ireturn d_MM_isLetter_29 rfl (m_nb h11) ?_
    exact ⟨_, rfl, h⟩
  clear h
  refine wm_icmp_lt (tgt := 12) d_MM_isLetter_3 rfl hi_l0 ⟨by decide, by decide⟩ (fun c1 => ?_) (fun c1 => ?_)
  · refine wm_iload_n d_MM_isLetter_12 rfl rfl ?_
    refine wm_bipush d_MM_isLetter_13 (by decide) ?_
    refine wm_icmp_lt (tgt := 28) d_MM_isLetter_15 rfl hi_l0 ⟨by decide, by decide⟩ (fun c2 => ?_) (fun c2 => ?_)
    · refine wm_iconst d_MM_isLetter_28 ?_
      refine wm_less (L' := [vd]) ⟨Or.inl rfl, trivial⟩ ?_
      exact hJ 0 (if_pos (Or.inl ⟨c1, (Or.inl c2)⟩)).symm
    · refine wm_iload_n d_MM_isLetter_18 rfl rfl ?_
      refine wm_bipush d_MM_isLetter_19 (by decide) ?_
      refine wm_icmp_gt (tgt := 28) d_MM_isLetter_21 rfl hi_l0 ⟨by decide, by decide⟩ (fun c3 => ?_) (fun c3 => ?_)
      · refine wm_iconst d_MM_isLetter_28 ?_
        refine wm_less (L' := [vd]) ⟨Or.inl rfl, trivial⟩ ?_
        exact hJ 0 (if_pos (Or.inl ⟨c1, (Or.inr c3)⟩)).symm
      · refine wm_iconst d_MM_isLetter_24 ?_
        refine wm_goto (tgt := 29) d_MM_isLetter_25 rfl ?_
        refine wm_less (L' := [vd]) ⟨Or.inl rfl, trivial⟩ ?_
        exact hJ 1 (if_neg (fun z12 => Or.elim z12 (fun w => (fun z13 => Or.elim z13 c2 c3) w.2) (fun w => w.1 c1))).symm
  · refine wm_iload_n d_MM_isLetter_6 rfl rfl ?_
    refine wm_bipush d_MM_isLetter_7 (by decide) ?_
    refine wm_icmp_le (tgt := 24) d_MM_isLetter_9 rfl hi_l0 ⟨by decide, by decide⟩ (fun c4 => ?_) (fun c4 => ?_)
    · refine wm_iconst d_MM_isLetter_24 ?_
      refine wm_goto (tgt := 29) d_MM_isLetter_25 rfl ?_
      refine wm_less (L' := [vd]) ⟨Or.inl rfl, trivial⟩ ?_
      exact hJ 1 (if_neg (fun z15 => Or.elim z15 (fun w => c1 w.1) (fun w => (fun z16 => z16.1 c4) w.2))).symm
    · refine wm_iload_n d_MM_isLetter_12 rfl rfl ?_
      refine wm_bipush d_MM_isLetter_13 (by decide) ?_
      refine wm_icmp_lt (tgt := 28) d_MM_isLetter_15 rfl hi_l0 ⟨by decide, by decide⟩ (fun c5 => ?_) (fun c5 => ?_)
      · refine wm_iconst d_MM_isLetter_28 ?_
        refine wm_less (L' := [vd]) ⟨Or.inl rfl, trivial⟩ ?_
        exact hJ 0 (if_pos (Or.inr ⟨c1, ⟨c4, (Or.inl c5)⟩⟩)).symm
      · refine wm_iload_n d_MM_isLetter_18 rfl rfl ?_
        refine wm_bipush d_MM_isLetter_19 (by decide) ?_
        refine wm_icmp_gt (tgt := 28) d_MM_isLetter_21 rfl hi_l0 ⟨by decide, by decide⟩ (fun c6 => ?_) (fun c6 => ?_)
        · refine wm_iconst d_MM_isLetter_28 ?_
          refine wm_less (L' := [vd]) ⟨Or.inl rfl, trivial⟩ ?_
          exact hJ 0 (if_pos (Or.inr ⟨c1, ⟨c4, (Or.inr c6)⟩⟩)).symm
        · refine wm_iconst d_MM_isLetter_24 ?_
          refine wm_goto (tgt := 29) d_MM_isLetter_25 rfl ?_
          refine wm_less (L' := [vd]) ⟨Or.inl rfl, trivial⟩ ?_
          exact hJ 1 (if_neg (fun z17 => Or.elim z17 (fun w => c1 w.1) (fun w => (fun z18 => (fun z19 => Or.elim z19 c5 c6) z18.2) w.2))).symm
theorem d_MM_isDigit_0 : decode y_MM_isDigit.2.1 0 = .ok (.iload_n 0, 1) := by decide +kernel
theorem d_MM_isDigit_1 : decode y_MM_isDigit.2.1 1 = .ok (.bipush 48, 2) := by decide +kernel
theorem d_MM_isDigit_3 : decode y_MM_isDigit.2.1 3 = .ok (.if_icmp .lt 13, 3) := by decide +kernel
theorem d_MM_isDigit_16 : decode y_MM_isDigit.2.1 16 = .ok (.iconst 0, 1) := by decide +kernel
theorem d_MM_isDigit_6 : decode y_MM_isDigit.2.1 6 = .ok (.iload_n 0, 1) := by decide +kernel
theorem d_MM_isDigit_7 : decode y_MM_isDigit.2.1 7 = .ok (.bipush 57, 2) := by decide +kernel
theorem d_MM_isDigit_9 : decode y_MM_isDigit.2.1 9 = .ok (.if_icmp .gt 7, 3) := by decide +kernel
theorem d_MM_isDigit_12 : decode y_MM_isDigit.2.1 12 = .ok (.iconst 1, 1) := by decide +kernel
theorem d_MM_isDigit_13 : decode y_MM_isDigit.2.1 13 = .ok (.goto 4, 3) := by decide +kernel
theorem d_MM_isDigit_17 : decode y_MM_isDigit.2.1 17 = .ok (.ireturn, 1) := by decide +kernel
theorem k_MM_isDigit {G : mG} {d : Nat} {l0 : Int} {M : mM} {Q : Int → mM → Prop} (hO : mOk M) (hi_l0 : i32 l0)
    (h : ∀ v3 : Int, v3 = (if ((l0 < 48) ∨ (57 < l0)) then 0 else 1) → Q v3 M) :
    Ci G y_MM_isDigit d [vi l0] M Q := by
  refine wm_open (y := y_MM_isDigit) rfl (Nat.le_of_ble_eq_true rfl) (L := [vi l0]) rfl ?_
  refine wm_iload_n d_MM_isDigit_0 rfl rfl ?_
  refine wm_bipush d_MM_isDigit_1 (by decide) ?_
  have hJ : ∀ v3 : Int, v3 = (if ((l0 < 48) ∨ (57 < l0)) then 0 else 1) → mWm G y_MM_isDigit d 17 [vd] [vi v3] M (fun r9 M9 => ∃ x9, r9 = some (vi x9) ∧ Q x9 M9) := by
    intro v3 e5
    have h := h v3 e5
    have h6 : i32 v3 := by rw [e5]; (repeat' split) <;> first | exact ⟨by decide, by decide⟩ | exact ⟨by decide, by decide⟩
    have h7 : (v3 = 0 ∨ v3 = 1) := by rw [e5]; (repeat' split) <;> decide
    refine wm_ireturn d_MM_isDigit_17 rfl (m_nb h7) ?_
    exact ⟨_, rfl, h⟩
  clear h
  refine wm_icmp_lt (tgt := 16) d_MM_isDigit_3 rfl hi_l0 ⟨by decide, by decide⟩ (fun c1 => ?_) (fun c1 => ?_)
  · refine wm_iconst d_MM_isDigit_16 ?_
    refine wm_less (L' := [vd]) ⟨Or.inl rfl, trivial⟩ ?_
    exact hJ 0 (if_pos (Or.inl c1)).symm
  · refine wm_iload_n d_MM_isDigit_6 rfl rfl ?_
    refine wm_bipush d_MM_isDigit_7 (by decide) ?_
    refine wm_icmp_gt (tgt := 16) d_MM_isDigit_9 rfl hi_l0 ⟨by decide, by decide⟩ (fun c2 => ?_) (fun c2 => ?_)
    · refine wm_iconst d_MM_isDigit_16 ?_
      refine wm_less (L' := [vd]) ⟨Or.inl rfl, trivial⟩ ?_
      exact hJ 0 (if_pos (Or.inr c2)).symm
    · refine wm_iconst d_MM_isDigit_12 ?_
      refine wm_goto (tgt := 17) d_MM_isDigit_13 rfl ?_
      refine wm_less (L' := [vd]) ⟨Or.inl rfl, trivial⟩ ?_
      exact hJ 1 (if_neg (fun z8 => Or.elim z8 c1 c2)).symm
theorem d_MM_isBlank_0 : decode y_MM_isBlank.2.1 0 = .ok (.iload_n 0, 1) := by decide +kernel
theorem d_MM_isBlank_1 : decode y_MM_isBlank.2.1 1 = .ok (.bipush 9, 2) := by decide +kernel
theorem d_MM_isBlank_3 : decode y_MM_isBlank.2.1 3 = .ok (.if_icmp .eq 21, 3) := by decide +kernel
theorem d_MM_isBlank_24 : decode y_MM_isBlank.2.1 24 = .ok (.iconst 1, 1) := by decide +kernel
theorem d_MM_isBlank_25 : decode y_MM_isBlank.2.1 25 = .ok (.goto 4, 3) := by decide +kernel
theorem d_MM_isBlank_6 : decode y_MM_isBlank.2.1 6 = .ok (.iload_n 0, 1) := by decide +kernel
theorem d_MM_isBlank_7 : decode y_MM_isBlank.2.1 7 = .ok (.bipush 10, 2) := by decide +kernel
theorem d_MM_isBlank_9 : decode y_MM_isBlank.2.1 9 = .ok (.if_icmp .eq 15, 3) := by decide +kernel
theorem d_MM_isBlank_12 : decode y_MM_isBlank.2.1 12 = .ok (.iload_n 0, 1) := by decide +kernel
theorem d_MM_isBlank_13 : decode y_MM_isBlank.2.1 13 = .ok (.bipush 13, 2) := by decide +kernel
theorem d_MM_isBlank_15 : decode y_MM_isBlank.2.1 15 = .ok (.if_icmp .eq 9, 3) := by decide +kernel
theorem d_MM_isBlank_18 : decode y_MM_isBlank.2.1 18 = .ok (.iload_n 0, 1) := by decide +kernel
theorem d_MM_isBlank_19 : decode y_MM_isBlank.2.1 19 = .ok (.bipush 32, 2) := by decide +kernel
theorem d_MM_isBlank_21 : decode y_MM_isBlank.2.1 21 = .ok (.if_icmp .ne 7, 3) := by decide +kernel
theorem d_MM_isBlank_28 : decode y_MM_isBlank.2.1 28 = .ok (.iconst 0, 1) := by decide +kernel
theorem d_MM_isBlank_29 : decode y_MM_isBlank.2.1 29 = .ok (.ireturn, 1) := by decide +kernel
theorem k_MM_isBlank {G : mG} {d : Nat} {l0 : Int} {M : mM} {Q : Int → mM → Prop} (hO : mOk M) (hi_l0 : i32 l0)
    (h : ∀ v5 : Int, v5 = (if ((l0 = 9) ∨ ((l0 = 10) ∨ ((l0 = 13) ∨ (l0 = 32)))) then 1 else 0) → Q v5 M) :
    Ci G y_MM_isBlank d [vi l0] M Q := by
  refine wm_open (y := y_MM_isBlank) rfl (Nat.le_of_ble_eq_true rfl) (L := [vi l0]) rfl ?_
  refine wm_iload_n d_MM_isBlank_0 rfl rfl ?_
  refine wm_bipush d_MM_isBlank_1 (by decide) ?_
  have hJ : ∀ v5 : Int, v5 = (if ((l0 = 9) ∨ ((l0 = 10) ∨ ((l0 = 13) ∨ (l0 = 32)))) then 1 else 0) → mWm G y_MM_isBlank d 29 [vd] [vi v5] M (fun r9 M9 => ∃ x9, r9 = some (vi x9) ∧ Q x9 M9) := by
    intro v5 e7
    have h := h v5 e7
    have h8 : i32 v5 := by rw [e7]; (repeat' split) <;> first | exact ⟨by decide, by decide⟩ | exact ⟨by decide, by decide⟩
    have h9 : (v5 = 0 ∨ v5 = 1) := by rw [e7]; (repeat' split) <;> decide
    refine wm_ireturn d_MM_isBlank_29 rfl (m_nb h9) ?_
    exact ⟨_, rfl, h⟩
  clear h
  refine wm_icmp_eq (tgt := 24) d_MM_isBlank_3 rfl hi_l0 ⟨by decide, by decide⟩ (fun c1 => ?_) (fun c1 => ?_)
  · refine wm_iconst d_MM_isBlank_24 ?_
    refine wm_goto (tgt := 29) d_MM_isBlank_25 rfl ?_
    refine wm_less (L' := [vd]) ⟨Or.inl rfl, trivial⟩ ?_
    exact hJ 1 (if_pos (Or.inl c1)).symm
  · refine wm_iload_n d_MM_isBlank_6 rfl rfl ?_
    refine wm_bipush d_MM_isBlank_7 (by decide) ?_
    refine wm_icmp_eq (tgt := 24) d_MM_isBlank_9 rfl hi_l0 ⟨by decide, by decide⟩ (fun c2 => ?_) (fun c2 => ?_)
    · refine wm_iconst d_MM_isBlank_24 ?_
      refine wm_goto (tgt := 29) d_MM_isBlank_25 rfl ?_
      refine wm_less (L' := [vd]) ⟨Or.inl rfl, trivial⟩ ?_
      exact hJ 1 (if_pos (Or.inr (Or.inl c2))).symm
    · refine wm_iload_n d_MM_isBlank_12 rfl rfl ?_
      refine wm_bipush d_MM_isBlank_13 (by decide) ?_
      refine wm_icmp_eq (tgt := 24) d_MM_isBlank_15 rfl hi_l0 ⟨by decide, by decide⟩ (fun c3 => ?_) (fun c3 => ?_)
      · refine wm_iconst d_MM_isBlank_24 ?_
        refine wm_goto (tgt := 29) d_MM_isBlank_25 rfl ?_
        refine wm_less (L' := [vd]) ⟨Or.inl rfl, trivial⟩ ?_
        exact hJ 1 (if_pos (Or.inr (Or.inr (Or.inl c3)))).symm
      · refine wm_iload_n d_MM_isBlank_18 rfl rfl ?_
        refine wm_bipush d_MM_isBlank_19 (by decide) ?_
        refine wm_icmp_ne (tgt := 28) d_MM_isBlank_21 rfl hi_l0 ⟨by decide, by decide⟩ (fun c4 => ?_) (fun c4 => ?_)
        · refine wm_iconst d_MM_isBlank_28 ?_
          refine wm_less (L' := [vd]) ⟨Or.inl rfl, trivial⟩ ?_
          exact hJ 0 (if_neg (fun z10 => Or.elim z10 c1 (fun z11 => Or.elim z11 c2 (fun z12 => Or.elim z12 c3 c4)))).symm
        · replace c4 := Classical.not_not.mp c4
          refine wm_iconst d_MM_isBlank_24 ?_
          refine wm_goto (tgt := 29) d_MM_isBlank_25 rfl ?_
          refine wm_less (L' := [vd]) ⟨Or.inl rfl, trivial⟩ ?_
          exact hJ 1 (if_pos (Or.inr (Or.inr (Or.inr c4)))).symm
theorem d_MM_skip_0 : decode y_MM_skip.2.1 0 = .ok (.iload_n 1, 1) := by decide +kernel
theorem d_MM_skip_1 : decode y_MM_skip.2.1 1 = .ok (.istore_n 2, 1) := by decide +kernel
theorem d_MM_skip_2 : decode y_MM_skip.2.1 2 = .ok (.iload_n 2, 1) := by decide +kernel
theorem d_MM_skip_3 : decode y_MM_skip.2.1 3 = .ok (.aload_n 0, 1) := by decide +kernel
theorem d_MM_skip_4 : decode y_MM_skip.2.1 4 = .ok (.getfield 16, 3) := by decide +kernel
theorem d_MM_skip_7 : decode y_MM_skip.2.1 7 = .ok (.getfield 145, 3) := by decide +kernel
theorem d_MM_skip_10 : decode y_MM_skip.2.1 10 = .ok (.if_icmp .ge 67, 3) := by decide +kernel
theorem d_MM_skip_13 : decode y_MM_skip.2.1 13 = .ok (.aload_n 0, 1) := by decide +kernel
theorem d_MM_skip_14 : decode y_MM_skip.2.1 14 = .ok (.iload_n 2, 1) := by decide +kernel
theorem d_MM_skip_77 : decode y_MM_skip.2.1 77 = .ok (.iload_n 2, 1) := by decide +kernel
theorem d_MM_skip_78 : decode y_MM_skip.2.1 78 = .ok (.ireturn, 1) := by decide +kernel
theorem d_MM_skip_15 : decode y_MM_skip.2.1 15 = .ok (.invokevirtual 159, 3) := by decide +kernel
theorem d_MM_skip_18 : decode y_MM_skip.2.1 18 = .ok (.invokestatic 162, 3) := by decide +kernel
theorem d_MM_skip_21 : decode y_MM_skip.2.1 21 = .ok (.ifCond .ne 13, 3) := by decide +kernel
theorem d_MM_skip_24 : decode y_MM_skip.2.1 24 = .ok (.aload_n 0, 1) := by decide +kernel
theorem d_MM_skip_25 : decode y_MM_skip.2.1 25 = .ok (.iload_n 2, 1) := by decide +kernel
theorem d_MM_skip_26 : decode y_MM_skip.2.1 26 = .ok (.invokevirtual 159, 3) := by decide +kernel
theorem d_MM_skip_29 : decode y_MM_skip.2.1 29 = .ok (.bipush 35, 2) := by decide +kernel
theorem d_MM_skip_31 : decode y_MM_skip.2.1 31 = .ok (.if_icmp .ne 46, 3) := by decide +kernel
theorem d_MM_skip_34 : decode y_MM_skip.2.1 34 = .ok (.aload_n 0, 1) := by decide +kernel
theorem d_MM_skip_35 : decode y_MM_skip.2.1 35 = .ok (.iload_n 2, 1) := by decide +kernel
theorem d_MM_skip_36 : decode y_MM_skip.2.1 36 = .ok (.invokevirtual 159, 3) := by decide +kernel
theorem d_MM_skip_39 : decode y_MM_skip.2.1 39 = .ok (.bipush 35, 2) := by decide +kernel
theorem d_MM_skip_41 : decode y_MM_skip.2.1 41 = .ok (.if_icmp .ne 30, 3) := by decide +kernel
theorem d_MM_skip_71 : decode y_MM_skip.2.1 71 = .ok (.iinc 2 1, 3) := by decide +kernel
theorem d_MM_skip_74 : decode y_MM_skip.2.1 74 = .ok (.goto (-72), 3) := by decide +kernel
theorem d_MM_skip_44 : decode y_MM_skip.2.1 44 = .ok (.iload_n 2, 1) := by decide +kernel
theorem d_MM_skip_45 : decode y_MM_skip.2.1 45 = .ok (.aload_n 0, 1) := by decide +kernel
theorem d_MM_skip_46 : decode y_MM_skip.2.1 46 = .ok (.getfield 16, 3) := by decide +kernel
theorem d_MM_skip_49 : decode y_MM_skip.2.1 49 = .ok (.getfield 145, 3) := by decide +kernel
theorem d_MM_skip_52 : decode y_MM_skip.2.1 52 = .ok (.if_icmp .ge (-50), 3) := by decide +kernel
theorem d_MM_skip_55 : decode y_MM_skip.2.1 55 = .ok (.aload_n 0, 1) := by decide +kernel
theorem d_MM_skip_56 : decode y_MM_skip.2.1 56 = .ok (.iload_n 2, 1) := by decide +kernel
theorem d_MM_skip_57 : decode y_MM_skip.2.1 57 = .ok (.invokevirtual 159, 3) := by decide +kernel
theorem d_MM_skip_60 : decode y_MM_skip.2.1 60 = .ok (.bipush 10, 2) := by decide +kernel
theorem d_MM_skip_62 : decode y_MM_skip.2.1 62 = .ok (.if_icmp .eq (-60), 3) := by decide +kernel
theorem d_MM_skip_65 : decode y_MM_skip.2.1 65 = .ok (.iinc 2 1, 3) := by decide +kernel
theorem d_MM_skip_68 : decode y_MM_skip.2.1 68 = .ok (.goto (-24), 3) := by decide +kernel
def h_MM_skip_2 (G : mG) (d : Nat) (a0 : Nat) (l2 : Int) (M : mM) (Q : Int → mM → Prop) : Prop := mWm G y_MM_skip (d + 1) 2 [vr a0, vd, vi l2] [] M (fun r9 M9 => ∃ x9, r9 = some (vi x9) ∧ Q x9 M9)
def h_MM_skip_44 (G : mG) (d : Nat) (a0 : Nat) (l2 : Int) (M : mM) (Q : Int → mM → Prop) : Prop := mWm G y_MM_skip (d + 1) 44 [vr a0, vd, vi l2] [] M (fun r9 M9 => ∃ x9, r9 = some (vi x9) ∧ Q x9 M9)
theorem k_MM_skip {G : mG} {d : Nat} {a0 : Nat} {l1 : Int} {M : mM} {Q : Int → mM → Prop} (hO : mOk M) (hi_l1 : i32 l1)
    (h : h_MM_skip_2 G d a0 l1 M Q) :
    Ci G y_MM_skip (d + 1) [vr a0, vi l1] M Q := by
  refine wm_open (y := y_MM_skip) rfl (Nat.le_of_ble_eq_true rfl) (L := [vr a0, vi l1, vd]) rfl ?_
  refine wm_iload_n d_MM_skip_0 rfl rfl ?_
  refine wm_istore_n d_MM_skip_1 rfl (by decide) (L' := [vr a0, vi l1, vi l1]) rfl ?_
  refine wm_less (L' := [vr a0, vd, vi l1]) ⟨Or.inr rfl, Or.inl rfl, Or.inr rfl, trivial⟩ ?_
  exact h
theorem k_MM_skip_2 {G : mG} {d : Nat} {a0 : Nat} {l2 : Int} {M : mM} {Q : Int → mM → Prop} (hO : mOk M) (hi_l2 : i32 l2)
    (h : mK M a0 = 14 ∧ mK M (mR M a0 2) = 15 ∧ ((mI M (mR M a0 2) 1 ≤ l2) → (Q l2 M)) ∧ (¬ (mI M (mR M a0 2) 1 ≤ l2) → (Ci G y_MM_letter d [vr a0, vi l2] M (fun x6 M5 => i32 x6 ∧ mOk M5 ∧ (Ci G y_MM_isBlank d [vi x6] M5 (fun x9 M8 => i32 x9 ∧ mOk M8 ∧ (((x9 = 0) → (mK M8 a0 = 14 ∧ Ci G y_MM_letter d [vr a0, vi l2] M8 (fun x15 M14 => i32 x15 ∧ mOk M14 ∧ (((x15 = 35) → (mK M14 a0 = 14 ∧ Ci G y_MM_letter d [vr a0, vi l2] M14 (fun x21 M20 => i32 x21 ∧ mOk M20 ∧ (((x21 = 35) → (h_MM_skip_44 G d a0 l2 M20 Q)) ∧ (¬ (x21 = 35) → (h_MM_skip_2 G d a0 (l2 + 1) M20 Q)))))) ∧ (¬ (x15 = 35) → (Q l2 M14)))))) ∧ (¬ (x9 = 0) → (mK M8 a0 = 14 ∧ Ci G y_MM_letter d [vr a0, vi l2] M8 (fun x27 M26 => i32 x27 ∧ mOk M26 ∧ (((x27 = 35) → (h_MM_skip_44 G d a0 l2 M26 Q)) ∧ (¬ (x27 = 35) → (h_MM_skip_2 G d a0 (l2 + 1) M26 Q))))))))))))) :
    h_MM_skip_2 G d a0 l2 M Q := by
  unfold h_MM_skip_2
  obtain ⟨h1, h⟩ := h
  obtain ⟨h2, h⟩ := h
  refine wm_iload_n d_MM_skip_2 rfl rfl ?_
  refine wm_aload_n d_MM_skip_3 rfl rfl ?_
  refine gf_MM_16 rfl d_MM_skip_4 h1 ?_
  refine gf_MM_145 rfl d_MM_skip_7 h2 ?_
  refine wm_icmp_ge (tgt := 77) d_MM_skip_10 rfl hi_l2 (hO _ _).1 (fun c4 => ?_) (fun c4 => ?_)
  · replace h := h.1 c4
    refine wm_iload_n d_MM_skip_77 rfl rfl ?_
    refine wm_ireturn d_MM_skip_78 rfl rfl ?_
    exact ⟨_, rfl, h⟩
  · replace h := h.2 c4
    refine wm_aload_n d_MM_skip_13 rfl rfl ?_
    refine wm_iload_n d_MM_skip_14 rfl rfl ?_
    refine cf_MM_159 rfl d_MM_skip_15 h1 (Nat.le_of_ble_eq_true rfl) (Ci.mono h (fun x6 M5 h => ?_))
    obtain ⟨h7, hOM5, h⟩ := h
    refine cf_MM_162 rfl d_MM_skip_18 (Nat.le_of_ble_eq_true rfl) (Ci.mono h (fun x9 M8 h => ?_))
    obtain ⟨h10, hOM8, h⟩ := h
    refine wm_if_ne (tgt := 34) d_MM_skip_21 rfl h10 (fun c12 => ?_) (fun c12 => ?_)
    · replace h := h.2 c12
      obtain ⟨h25, h⟩ := h
      refine wm_aload_n d_MM_skip_34 rfl rfl ?_
      refine wm_iload_n d_MM_skip_35 rfl rfl ?_
      refine cf_MM_159 rfl d_MM_skip_36 h25 (Nat.le_of_ble_eq_true rfl) (Ci.mono h (fun x27 M26 h => ?_))
      obtain ⟨h28, hOM26, h⟩ := h
      refine wm_bipush d_MM_skip_39 (by decide) ?_
      refine wm_icmp_ne (tgt := 71) d_MM_skip_41 rfl h28 ⟨by decide, by decide⟩ (fun c30 => ?_) (fun c30 => ?_)
      · replace h := h.2 c30
        refine wm_iinc d_MM_skip_71 (by decide) rfl (L' := [vr a0, vd, vi (l2 + 1)]) rfl ?_
        refine wm_goto (tgt := 2) d_MM_skip_74 rfl ?_
        exact h
      · replace c30 := Classical.not_not.mp c30
        replace h := h.1 c30
        exact h
    · replace c12 := Classical.not_not.mp c12
      replace h := h.1 c12
      obtain ⟨h13, h⟩ := h
      refine wm_aload_n d_MM_skip_24 rfl rfl ?_
      refine wm_iload_n d_MM_skip_25 rfl rfl ?_
      refine cf_MM_159 rfl d_MM_skip_26 h13 (Nat.le_of_ble_eq_true rfl) (Ci.mono h (fun x15 M14 h => ?_))
      obtain ⟨h16, hOM14, h⟩ := h
      refine wm_bipush d_MM_skip_29 (by decide) ?_
      refine wm_icmp_ne (tgt := 77) d_MM_skip_31 rfl h16 ⟨by decide, by decide⟩ (fun c18 => ?_) (fun c18 => ?_)
      · replace h := h.2 c18
        refine wm_iload_n d_MM_skip_77 rfl rfl ?_
        refine wm_ireturn d_MM_skip_78 rfl rfl ?_
        exact ⟨_, rfl, h⟩
      · replace c18 := Classical.not_not.mp c18
        replace h := h.1 c18
        obtain ⟨h19, h⟩ := h
        refine wm_aload_n d_MM_skip_34 rfl rfl ?_
        refine wm_iload_n d_MM_skip_35 rfl rfl ?_
        refine cf_MM_159 rfl d_MM_skip_36 h19 (Nat.le_of_ble_eq_true rfl) (Ci.mono h (fun x21 M20 h => ?_))
        obtain ⟨h22, hOM20, h⟩ := h
        refine wm_bipush d_MM_skip_39 (by decide) ?_
        refine wm_icmp_ne (tgt := 71) d_MM_skip_41 rfl h22 ⟨by decide, by decide⟩ (fun c24 => ?_) (fun c24 => ?_)
        · replace h := h.2 c24
          refine wm_iinc d_MM_skip_71 (by decide) rfl (L' := [vr a0, vd, vi (l2 + 1)]) rfl ?_
          refine wm_goto (tgt := 2) d_MM_skip_74 rfl ?_
          exact h
        · replace c24 := Classical.not_not.mp c24
          replace h := h.1 c24
          exact h
theorem k_MM_skip_44 {G : mG} {d : Nat} {a0 : Nat} {l2 : Int} {M : mM} {Q : Int → mM → Prop} (hO : mOk M) (hi_l2 : i32 l2)
    (h : mK M a0 = 14 ∧ mK M (mR M a0 2) = 15 ∧ ((mI M (mR M a0 2) 1 ≤ l2) → (h_MM_skip_2 G d a0 l2 M Q)) ∧ (¬ (mI M (mR M a0 2) 1 ≤ l2) → (Ci G y_MM_letter d [vr a0, vi l2] M (fun x36 M35 => i32 x36 ∧ mOk M35 ∧ (((x36 = 10) → (h_MM_skip_2 G d a0 l2 M35 Q)) ∧ (¬ (x36 = 10) → (h_MM_skip_44 G d a0 (l2 + 1) M35 Q))))))) :
    h_MM_skip_44 G d a0 l2 M Q := by
  unfold h_MM_skip_44
  obtain ⟨h31, h⟩ := h
  obtain ⟨h32, h⟩ := h
  refine wm_iload_n d_MM_skip_44 rfl rfl ?_
  refine wm_aload_n d_MM_skip_45 rfl rfl ?_
  refine gf_MM_16 rfl d_MM_skip_46 h31 ?_
  refine gf_MM_145 rfl d_MM_skip_49 h32 ?_
  refine wm_icmp_ge (tgt := 2) d_MM_skip_52 rfl hi_l2 (hO _ _).1 (fun c34 => ?_) (fun c34 => ?_)
  · replace h := h.1 c34
    exact h
  · replace h := h.2 c34
    refine wm_aload_n d_MM_skip_55 rfl rfl ?_
    refine wm_iload_n d_MM_skip_56 rfl rfl ?_
    refine cf_MM_159 rfl d_MM_skip_57 h31 (Nat.le_of_ble_eq_true rfl) (Ci.mono h (fun x36 M35 h => ?_))
    obtain ⟨h37, hOM35, h⟩ := h
    refine wm_bipush d_MM_skip_60 (by decide) ?_
    refine wm_icmp_eq (tgt := 2) d_MM_skip_62 rfl h37 ⟨by decide, by decide⟩ (fun c39 => ?_) (fun c39 => ?_)
    · replace h := h.1 c39
      exact h
    · replace h := h.2 c39
      refine wm_iinc d_MM_skip_65 (by decide) rfl (L' := [vr a0, vd, vi (l2 + 1)]) rfl ?_
      refine wm_goto (tgt := 44) d_MM_skip_68 rfl ?_
      exact h
theorem d_MM_signKind_0 : decode y_MM_signKind.2.1 0 = .ok (.aload_n 0, 1) := by decide +kernel
theorem d_MM_signKind_1 : decode y_MM_signKind.2.1 1 = .ok (.iload_n 1, 1) := by decide +kernel
theorem d_MM_signKind_2 : decode y_MM_signKind.2.1 2 = .ok (.iconst 1, 1) := by decide +kernel
theorem d_MM_signKind_3 : decode y_MM_signKind.2.1 3 = .ok (.iadd, 1) := by decide +kernel
theorem d_MM_signKind_4 : decode y_MM_signKind.2.1 4 = .ok (.invokevirtual 159, 3) := by decide +kernel
theorem d_MM_signKind_7 : decode y_MM_signKind.2.1 7 = .ok (.istore_n 2, 1) := by decide +kernel
theorem d_MM_signKind_8 : decode y_MM_signKind.2.1 8 = .ok (.aload_n 0, 1) := by decide +kernel
theorem d_MM_signKind_9 : decode y_MM_signKind.2.1 9 = .ok (.iload_n 1, 1) := by decide +kernel
theorem d_MM_signKind_10 : decode y_MM_signKind.2.1 10 = .ok (.invokevirtual 159, 3) := by decide +kernel
theorem d_MM_signKind_13 : decode y_MM_signKind.2.1 13 = .ok (.lookupswitch 275 #[(33, 191), (37, 245), (38, 248), (39, 272), (40, 266), (41, 269), (42, 239), (43, 236), (44, 263), (45, 177), (46, 163), (47, 242), (58, 257), (59, 260), (60, 205), (61, 233), (62, 219), (63, 254), (124, 251)], 163) := by decide +kernel
theorem z_MM_signKind_13_s : lkS #[(33, 191), (37, 245), (38, 248), (39, 272), (40, 266), (41, 269), (42, 239), (43, 236), (44, 263), (45, 177), (46, 163), (47, 242), (58, 257), (59, 260), (60, 205), (61, 233), (62, 219), (63, 254), (124, 251)] := by unfold lkS; decide
theorem d_MM_signKind_204 : decode y_MM_signKind.2.1 204 = .ok (.iload_n 2, 1) := by decide +kernel
theorem d_MM_signKind_205 : decode y_MM_signKind.2.1 205 = .ok (.bipush 61, 2) := by decide +kernel
theorem d_MM_signKind_207 : decode y_MM_signKind.2.1 207 = .ok (.if_icmp .ne 8, 3) := by decide +kernel
theorem d_MM_signKind_210 : decode y_MM_signKind.2.1 210 = .ok (.bipush 18, 2) := by decide +kernel
theorem d_MM_signKind_212 : decode y_MM_signKind.2.1 212 = .ok (.goto 5, 3) := by decide +kernel
theorem d_MM_signKind_215 : decode y_MM_signKind.2.1 215 = .ok (.bipush 31, 2) := by decide +kernel
theorem d_MM_signKind_217 : decode y_MM_signKind.2.1 217 = .ok (.ireturn, 1) := by decide +kernel
theorem d_MM_signKind_258 : decode y_MM_signKind.2.1 258 = .ok (.bipush 28, 2) := by decide +kernel
theorem d_MM_signKind_260 : decode y_MM_signKind.2.1 260 = .ok (.ireturn, 1) := by decide +kernel
theorem d_MM_signKind_261 : decode y_MM_signKind.2.1 261 = .ok (.bipush 29, 2) := by decide +kernel
theorem d_MM_signKind_263 : decode y_MM_signKind.2.1 263 = .ok (.ireturn, 1) := by decide +kernel
theorem d_MM_signKind_285 : decode y_MM_signKind.2.1 285 = .ok (.bipush 38, 2) := by decide +kernel
theorem d_MM_signKind_287 : decode y_MM_signKind.2.1 287 = .ok (.ireturn, 1) := by decide +kernel
theorem d_MM_signKind_279 : decode y_MM_signKind.2.1 279 = .ok (.bipush 36, 2) := by decide +kernel
theorem d_MM_signKind_281 : decode y_MM_signKind.2.1 281 = .ok (.ireturn, 1) := by decide +kernel
theorem d_MM_signKind_282 : decode y_MM_signKind.2.1 282 = .ok (.bipush 37, 2) := by decide +kernel
theorem d_MM_signKind_284 : decode y_MM_signKind.2.1 284 = .ok (.ireturn, 1) := by decide +kernel
theorem d_MM_signKind_252 : decode y_MM_signKind.2.1 252 = .ok (.bipush 26, 2) := by decide +kernel
theorem d_MM_signKind_254 : decode y_MM_signKind.2.1 254 = .ok (.ireturn, 1) := by decide +kernel
theorem d_MM_signKind_249 : decode y_MM_signKind.2.1 249 = .ok (.bipush 24, 2) := by decide +kernel
theorem d_MM_signKind_251 : decode y_MM_signKind.2.1 251 = .ok (.ireturn, 1) := by decide +kernel
theorem d_MM_signKind_276 : decode y_MM_signKind.2.1 276 = .ok (.bipush 35, 2) := by decide +kernel
theorem d_MM_signKind_278 : decode y_MM_signKind.2.1 278 = .ok (.ireturn, 1) := by decide +kernel
theorem d_MM_signKind_190 : decode y_MM_signKind.2.1 190 = .ok (.iload_n 2, 1) := by decide +kernel
theorem d_MM_signKind_191 : decode y_MM_signKind.2.1 191 = .ok (.bipush 62, 2) := by decide +kernel
theorem d_MM_signKind_193 : decode y_MM_signKind.2.1 193 = .ok (.if_icmp .ne 8, 3) := by decide +kernel
theorem d_MM_signKind_196 : decode y_MM_signKind.2.1 196 = .ok (.bipush 17, 2) := by decide +kernel
theorem d_MM_signKind_198 : decode y_MM_signKind.2.1 198 = .ok (.goto 5, 3) := by decide +kernel
theorem d_MM_signKind_201 : decode y_MM_signKind.2.1 201 = .ok (.bipush 25, 2) := by decide +kernel
theorem d_MM_signKind_203 : decode y_MM_signKind.2.1 203 = .ok (.ireturn, 1) := by decide +kernel
theorem d_MM_signKind_176 : decode y_MM_signKind.2.1 176 = .ok (.iload_n 2, 1) := by decide +kernel
theorem d_MM_signKind_177 : decode y_MM_signKind.2.1 177 = .ok (.bipush 46, 2) := by decide +kernel
theorem d_MM_signKind_179 : decode y_MM_signKind.2.1 179 = .ok (.if_icmp .ne 8, 3) := by decide +kernel
theorem d_MM_signKind_182 : decode y_MM_signKind.2.1 182 = .ok (.bipush 16, 2) := by decide +kernel
theorem d_MM_signKind_184 : decode y_MM_signKind.2.1 184 = .ok (.goto 5, 3) := by decide +kernel
theorem d_MM_signKind_187 : decode y_MM_signKind.2.1 187 = .ok (.bipush 39, 2) := by decide +kernel
theorem d_MM_signKind_189 : decode y_MM_signKind.2.1 189 = .ok (.ireturn, 1) := by decide +kernel
theorem d_MM_signKind_255 : decode y_MM_signKind.2.1 255 = .ok (.bipush 27, 2) := by decide +kernel
theorem d_MM_signKind_257 : decode y_MM_signKind.2.1 257 = .ok (.ireturn, 1) := by decide +kernel
theorem d_MM_signKind_270 : decode y_MM_signKind.2.1 270 = .ok (.bipush 33, 2) := by decide +kernel
theorem d_MM_signKind_272 : decode y_MM_signKind.2.1 272 = .ok (.ireturn, 1) := by decide +kernel
theorem d_MM_signKind_273 : decode y_MM_signKind.2.1 273 = .ok (.bipush 34, 2) := by decide +kernel
theorem d_MM_signKind_275 : decode y_MM_signKind.2.1 275 = .ok (.ireturn, 1) := by decide +kernel
theorem d_MM_signKind_218 : decode y_MM_signKind.2.1 218 = .ok (.iload_n 2, 1) := by decide +kernel
theorem d_MM_signKind_219 : decode y_MM_signKind.2.1 219 = .ok (.bipush 61, 2) := by decide +kernel
theorem d_MM_signKind_221 : decode y_MM_signKind.2.1 221 = .ok (.if_icmp .ne 8, 3) := by decide +kernel
theorem d_MM_signKind_224 : decode y_MM_signKind.2.1 224 = .ok (.bipush 19, 2) := by decide +kernel
theorem d_MM_signKind_226 : decode y_MM_signKind.2.1 226 = .ok (.goto 5, 3) := by decide +kernel
theorem d_MM_signKind_229 : decode y_MM_signKind.2.1 229 = .ok (.bipush 21, 2) := by decide +kernel
theorem d_MM_signKind_231 : decode y_MM_signKind.2.1 231 = .ok (.ireturn, 1) := by decide +kernel
theorem d_MM_signKind_246 : decode y_MM_signKind.2.1 246 = .ok (.bipush 23, 2) := by decide +kernel
theorem d_MM_signKind_248 : decode y_MM_signKind.2.1 248 = .ok (.ireturn, 1) := by decide +kernel
theorem d_MM_signKind_232 : decode y_MM_signKind.2.1 232 = .ok (.iload_n 2, 1) := by decide +kernel
theorem d_MM_signKind_233 : decode y_MM_signKind.2.1 233 = .ok (.bipush 61, 2) := by decide +kernel
theorem d_MM_signKind_235 : decode y_MM_signKind.2.1 235 = .ok (.if_icmp .ne 8, 3) := by decide +kernel
theorem d_MM_signKind_238 : decode y_MM_signKind.2.1 238 = .ok (.bipush 20, 2) := by decide +kernel
theorem d_MM_signKind_240 : decode y_MM_signKind.2.1 240 = .ok (.goto 5, 3) := by decide +kernel
theorem d_MM_signKind_243 : decode y_MM_signKind.2.1 243 = .ok (.bipush 22, 2) := by decide +kernel
theorem d_MM_signKind_245 : decode y_MM_signKind.2.1 245 = .ok (.ireturn, 1) := by decide +kernel
theorem d_MM_signKind_267 : decode y_MM_signKind.2.1 267 = .ok (.bipush 32, 2) := by decide +kernel
theorem d_MM_signKind_269 : decode y_MM_signKind.2.1 269 = .ok (.ireturn, 1) := by decide +kernel
theorem d_MM_signKind_264 : decode y_MM_signKind.2.1 264 = .ok (.bipush 30, 2) := by decide +kernel
theorem d_MM_signKind_266 : decode y_MM_signKind.2.1 266 = .ok (.ireturn, 1) := by decide +kernel
theorem d_MM_signKind_288 : decode y_MM_signKind.2.1 288 = .ok (.bipush 39, 2) := by decide +kernel
theorem d_MM_signKind_290 : decode y_MM_signKind.2.1 290 = .ok (.ireturn, 1) := by decide +kernel
theorem k_MM_signKind {G : mG} {d : Nat} {a0 : Nat} {l1 : Int} {M : mM} {Q : Int → mM → Prop} (hO : mOk M) (hi_l1 : i32 l1)
    (h : mK M a0 = 14 ∧ Ci G y_MM_letter d [vr a0, vi (l1 + 1)] M (fun x3 M2 => i32 x3 ∧ mOk M2 ∧ (mK M2 a0 = 14 ∧ Ci G y_MM_letter d [vr a0, vi l1] M2 (fun x7 M6 => i32 x7 ∧ mOk M6 ∧ (((x7 = 33) → (∀ v11 : Int, v11 = (if (x3 = 61) then 18 else 31) → Q v11 M6)) ∧ (¬ (x7 = 33) → (((x7 = 37) → (Q 28 M6)) ∧ (¬ (x7 = 37) → (((x7 = 38) → (Q 29 M6)) ∧ (¬ (x7 = 38) → (((x7 = 39) → (Q 38 M6)) ∧ (¬ (x7 = 39) → (((x7 = 40) → (Q 36 M6)) ∧ (¬ (x7 = 40) → (((x7 = 41) → (Q 37 M6)) ∧ (¬ (x7 = 41) → (((x7 = 42) → (Q 26 M6)) ∧ (¬ (x7 = 42) → (((x7 = 43) → (Q 24 M6)) ∧ (¬ (x7 = 43) → (((x7 = 44) → (Q 35 M6)) ∧ (¬ (x7 = 44) → (((x7 = 45) → (∀ v26 : Int, v26 = (if (x3 = 62) then 17 else 25) → Q v26 M6)) ∧ (¬ (x7 = 45) → (((x7 = 46) → (∀ v33 : Int, v33 = (if (x3 = 46) then 16 else 39) → Q v33 M6)) ∧ (¬ (x7 = 46) → (((x7 = 47) → (Q 27 M6)) ∧ (¬ (x7 = 47) → (((x7 = 58) → (Q 33 M6)) ∧ (¬ (x7 = 58) → (((x7 = 59) → (Q 34 M6)) ∧ (¬ (x7 = 59) → (((x7 = 60) → (∀ v43 : Int, v43 = (if (x3 = 61) then 19 else 21) → Q v43 M6)) ∧ (¬ (x7 = 60) → (((x7 = 61) → (Q 23 M6)) ∧ (¬ (x7 = 61) → (((x7 = 62) → (∀ v51 : Int, v51 = (if (x3 = 61) then 20 else 22) → Q v51 M6)) ∧ (¬ (x7 = 62) → (((x7 = 63) → (Q 32 M6)) ∧ (¬ (x7 = 63) → (((x7 = 124) → (Q 30 M6)) ∧ (¬ (x7 = 124) → (Q 39 M6))))))))))))))))))))))))))))))))))))))))))) :
    Ci G y_MM_signKind (d + 1) [vr a0, vi l1] M Q := by
  refine wm_open (y := y_MM_signKind) rfl (Nat.le_of_ble_eq_true rfl) (L := [vr a0, vi l1, vd]) rfl ?_
  obtain ⟨h1, h⟩ := h
  refine wm_aload_n d_MM_signKind_0 rfl rfl ?_
  refine wm_iload_n d_MM_signKind_1 rfl rfl ?_
  refine wm_iconst d_MM_signKind_2 ?_
  refine wm_iadd d_MM_signKind_3 ?_
  refine cf_MM_159 rfl d_MM_signKind_4 h1 (Nat.le_of_ble_eq_true rfl) (Ci.mono h (fun x3 M2 h => ?_))
  obtain ⟨h4, hOM2, h⟩ := h
  obtain ⟨h5, h⟩ := h
  refine wm_istore_n d_MM_signKind_7 rfl (by decide) (L' := [vr a0, vi l1, vi x3]) rfl ?_
  refine wm_aload_n d_MM_signKind_8 rfl rfl ?_
  refine wm_iload_n d_MM_signKind_9 rfl rfl ?_
  refine cf_MM_159 rfl d_MM_signKind_10 h5 (Nat.le_of_ble_eq_true rfl) (Ci.mono h (fun x7 M6 h => ?_))
  obtain ⟨h8, hOM6, h⟩ := h
  by_cases c9 : x7 = 33
  · replace h := h.1 c9
    refine wm_lookup (tgt := 204) (off := 191) d_MM_signKind_13 z_MM_signKind_13_s h8 (by rw [c9]; rfl) rfl ?_
    refine wm_iload_n d_MM_signKind_204 rfl rfl ?_
    refine wm_bipush d_MM_signKind_205 (by decide) ?_
    have hJ : ∀ v11 : Int, v11 = (if (x3 = 61) then 18 else 31) → mWm G y_MM_signKind (d + 1) 217 [vd, vd, vd] [vi v11] M6 (fun r9 M9 => ∃ x9, r9 = some (vi x9) ∧ Q x9 M9) := by
      intro v11 e13
      have h := h v11 e13
      have h14 : i32 v11 := by rw [e13]; (repeat' split) <;> first | exact ⟨by decide, by decide⟩ | exact ⟨by decide, by decide⟩
      refine wm_ireturn d_MM_signKind_217 rfl rfl ?_
      exact ⟨_, rfl, h⟩
    clear h
    refine wm_icmp_ne (tgt := 215) d_MM_signKind_207 rfl h4 ⟨by decide, by decide⟩ (fun c10 => ?_) (fun c10 => ?_)
    · refine wm_bipush d_MM_signKind_215 (by decide) ?_
      refine wm_less (L' := [vd, vd, vd]) ⟨Or.inl rfl, Or.inl rfl, Or.inl rfl, trivial⟩ ?_
      exact hJ 31 (if_neg c10).symm
    · replace c10 := Classical.not_not.mp c10
      refine wm_bipush d_MM_signKind_210 (by decide) ?_
      refine wm_goto (tgt := 217) d_MM_signKind_212 rfl ?_
      refine wm_less (L' := [vd, vd, vd]) ⟨Or.inl rfl, Or.inl rfl, Or.inl rfl, trivial⟩ ?_
      exact hJ 18 (if_pos c10).symm
  · replace h := h.2 c9
    by_cases c16 : x7 = 37
    · replace h := h.1 c16
      refine wm_lookup (tgt := 258) (off := 245) d_MM_signKind_13 z_MM_signKind_13_s h8 (by rw [c16]; rfl) rfl ?_
      refine wm_bipush d_MM_signKind_258 (by decide) ?_
      refine wm_ireturn d_MM_signKind_260 rfl rfl ?_
      exact ⟨_, rfl, h⟩
    · replace h := h.2 c16
      by_cases c17 : x7 = 38
      · replace h := h.1 c17
        refine wm_lookup (tgt := 261) (off := 248) d_MM_signKind_13 z_MM_signKind_13_s h8 (by rw [c17]; rfl) rfl ?_
        refine wm_bipush d_MM_signKind_261 (by decide) ?_
        refine wm_ireturn d_MM_signKind_263 rfl rfl ?_
        exact ⟨_, rfl, h⟩
      · replace h := h.2 c17
        by_cases c18 : x7 = 39
        · replace h := h.1 c18
          refine wm_lookup (tgt := 285) (off := 272) d_MM_signKind_13 z_MM_signKind_13_s h8 (by rw [c18]; rfl) rfl ?_
          refine wm_bipush d_MM_signKind_285 (by decide) ?_
          refine wm_ireturn d_MM_signKind_287 rfl rfl ?_
          exact ⟨_, rfl, h⟩
        · replace h := h.2 c18
          by_cases c19 : x7 = 40
          · replace h := h.1 c19
            refine wm_lookup (tgt := 279) (off := 266) d_MM_signKind_13 z_MM_signKind_13_s h8 (by rw [c19]; rfl) rfl ?_
            refine wm_bipush d_MM_signKind_279 (by decide) ?_
            refine wm_ireturn d_MM_signKind_281 rfl rfl ?_
            exact ⟨_, rfl, h⟩
          · replace h := h.2 c19
            by_cases c20 : x7 = 41
            · replace h := h.1 c20
              refine wm_lookup (tgt := 282) (off := 269) d_MM_signKind_13 z_MM_signKind_13_s h8 (by rw [c20]; rfl) rfl ?_
              refine wm_bipush d_MM_signKind_282 (by decide) ?_
              refine wm_ireturn d_MM_signKind_284 rfl rfl ?_
              exact ⟨_, rfl, h⟩
            · replace h := h.2 c20
              by_cases c21 : x7 = 42
              · replace h := h.1 c21
                refine wm_lookup (tgt := 252) (off := 239) d_MM_signKind_13 z_MM_signKind_13_s h8 (by rw [c21]; rfl) rfl ?_
                refine wm_bipush d_MM_signKind_252 (by decide) ?_
                refine wm_ireturn d_MM_signKind_254 rfl rfl ?_
                exact ⟨_, rfl, h⟩
              · replace h := h.2 c21
                by_cases c22 : x7 = 43
                · replace h := h.1 c22
                  refine wm_lookup (tgt := 249) (off := 236) d_MM_signKind_13 z_MM_signKind_13_s h8 (by rw [c22]; rfl) rfl ?_
                  refine wm_bipush d_MM_signKind_249 (by decide) ?_
                  refine wm_ireturn d_MM_signKind_251 rfl rfl ?_
                  exact ⟨_, rfl, h⟩
                · replace h := h.2 c22
                  by_cases c23 : x7 = 44
                  · replace h := h.1 c23
                    refine wm_lookup (tgt := 276) (off := 263) d_MM_signKind_13 z_MM_signKind_13_s h8 (by rw [c23]; rfl) rfl ?_
                    refine wm_bipush d_MM_signKind_276 (by decide) ?_
                    refine wm_ireturn d_MM_signKind_278 rfl rfl ?_
                    exact ⟨_, rfl, h⟩
                  · replace h := h.2 c23
                    by_cases c24 : x7 = 45
                    · replace h := h.1 c24
                      refine wm_lookup (tgt := 190) (off := 177) d_MM_signKind_13 z_MM_signKind_13_s h8 (by rw [c24]; rfl) rfl ?_
                      refine wm_iload_n d_MM_signKind_190 rfl rfl ?_
                      refine wm_bipush d_MM_signKind_191 (by decide) ?_
                      have hJ : ∀ v26 : Int, v26 = (if (x3 = 62) then 17 else 25) → mWm G y_MM_signKind (d + 1) 203 [vd, vd, vd] [vi v26] M6 (fun r9 M9 => ∃ x9, r9 = some (vi x9) ∧ Q x9 M9) := by
                        intro v26 e28
                        have h := h v26 e28
                        have h29 : i32 v26 := by rw [e28]; (repeat' split) <;> first | exact ⟨by decide, by decide⟩ | exact ⟨by decide, by decide⟩
                        refine wm_ireturn d_MM_signKind_203 rfl rfl ?_
                        exact ⟨_, rfl, h⟩
                      clear h
                      refine wm_icmp_ne (tgt := 201) d_MM_signKind_193 rfl h4 ⟨by decide, by decide⟩ (fun c25 => ?_) (fun c25 => ?_)
                      · refine wm_bipush d_MM_signKind_201 (by decide) ?_
                        refine wm_less (L' := [vd, vd, vd]) ⟨Or.inl rfl, Or.inl rfl, Or.inl rfl, trivial⟩ ?_
                        exact hJ 25 (if_neg c25).symm
                      · replace c25 := Classical.not_not.mp c25
                        refine wm_bipush d_MM_signKind_196 (by decide) ?_
                        refine wm_goto (tgt := 203) d_MM_signKind_198 rfl ?_
                        refine wm_less (L' := [vd, vd, vd]) ⟨Or.inl rfl, Or.inl rfl, Or.inl rfl, trivial⟩ ?_
                        exact hJ 17 (if_pos c25).symm
                    · replace h := h.2 c24
                      by_cases c31 : x7 = 46
                      · replace h := h.1 c31
                        refine wm_lookup (tgt := 176) (off := 163) d_MM_signKind_13 z_MM_signKind_13_s h8 (by rw [c31]; rfl) rfl ?_
                        refine wm_iload_n d_MM_signKind_176 rfl rfl ?_
                        refine wm_bipush d_MM_signKind_177 (by decide) ?_
                        have hJ : ∀ v33 : Int, v33 = (if (x3 = 46) then 16 else 39) → mWm G y_MM_signKind (d + 1) 189 [vd, vd, vd] [vi v33] M6 (fun r9 M9 => ∃ x9, r9 = some (vi x9) ∧ Q x9 M9) := by
                          intro v33 e35
                          have h := h v33 e35
                          have h36 : i32 v33 := by rw [e35]; (repeat' split) <;> first | exact ⟨by decide, by decide⟩ | exact ⟨by decide, by decide⟩
                          refine wm_ireturn d_MM_signKind_189 rfl rfl ?_
                          exact ⟨_, rfl, h⟩
                        clear h
                        refine wm_icmp_ne (tgt := 187) d_MM_signKind_179 rfl h4 ⟨by decide, by decide⟩ (fun c32 => ?_) (fun c32 => ?_)
                        · refine wm_bipush d_MM_signKind_187 (by decide) ?_
                          refine wm_less (L' := [vd, vd, vd]) ⟨Or.inl rfl, Or.inl rfl, Or.inl rfl, trivial⟩ ?_
                          exact hJ 39 (if_neg c32).symm
                        · replace c32 := Classical.not_not.mp c32
                          refine wm_bipush d_MM_signKind_182 (by decide) ?_
                          refine wm_goto (tgt := 189) d_MM_signKind_184 rfl ?_
                          refine wm_less (L' := [vd, vd, vd]) ⟨Or.inl rfl, Or.inl rfl, Or.inl rfl, trivial⟩ ?_
                          exact hJ 16 (if_pos c32).symm
                      · replace h := h.2 c31
                        by_cases c38 : x7 = 47
                        · replace h := h.1 c38
                          refine wm_lookup (tgt := 255) (off := 242) d_MM_signKind_13 z_MM_signKind_13_s h8 (by rw [c38]; rfl) rfl ?_
                          refine wm_bipush d_MM_signKind_255 (by decide) ?_
                          refine wm_ireturn d_MM_signKind_257 rfl rfl ?_
                          exact ⟨_, rfl, h⟩
                        · replace h := h.2 c38
                          by_cases c39 : x7 = 58
                          · replace h := h.1 c39
                            refine wm_lookup (tgt := 270) (off := 257) d_MM_signKind_13 z_MM_signKind_13_s h8 (by rw [c39]; rfl) rfl ?_
                            refine wm_bipush d_MM_signKind_270 (by decide) ?_
                            refine wm_ireturn d_MM_signKind_272 rfl rfl ?_
                            exact ⟨_, rfl, h⟩
                          · replace h := h.2 c39
                            by_cases c40 : x7 = 59
                            · replace h := h.1 c40
                              refine wm_lookup (tgt := 273) (off := 260) d_MM_signKind_13 z_MM_signKind_13_s h8 (by rw [c40]; rfl) rfl ?_
                              refine wm_bipush d_MM_signKind_273 (by decide) ?_
                              refine wm_ireturn d_MM_signKind_275 rfl rfl ?_
                              exact ⟨_, rfl, h⟩
                            · replace h := h.2 c40
                              by_cases c41 : x7 = 60
                              · replace h := h.1 c41
                                refine wm_lookup (tgt := 218) (off := 205) d_MM_signKind_13 z_MM_signKind_13_s h8 (by rw [c41]; rfl) rfl ?_
                                refine wm_iload_n d_MM_signKind_218 rfl rfl ?_
                                refine wm_bipush d_MM_signKind_219 (by decide) ?_
                                have hJ : ∀ v43 : Int, v43 = (if (x3 = 61) then 19 else 21) → mWm G y_MM_signKind (d + 1) 231 [vd, vd, vd] [vi v43] M6 (fun r9 M9 => ∃ x9, r9 = some (vi x9) ∧ Q x9 M9) := by
                                  intro v43 e45
                                  have h := h v43 e45
                                  have h46 : i32 v43 := by rw [e45]; (repeat' split) <;> first | exact ⟨by decide, by decide⟩ | exact ⟨by decide, by decide⟩
                                  refine wm_ireturn d_MM_signKind_231 rfl rfl ?_
                                  exact ⟨_, rfl, h⟩
                                clear h
                                refine wm_icmp_ne (tgt := 229) d_MM_signKind_221 rfl h4 ⟨by decide, by decide⟩ (fun c42 => ?_) (fun c42 => ?_)
                                · refine wm_bipush d_MM_signKind_229 (by decide) ?_
                                  refine wm_less (L' := [vd, vd, vd]) ⟨Or.inl rfl, Or.inl rfl, Or.inl rfl, trivial⟩ ?_
                                  exact hJ 21 (if_neg c42).symm
                                · replace c42 := Classical.not_not.mp c42
                                  refine wm_bipush d_MM_signKind_224 (by decide) ?_
                                  refine wm_goto (tgt := 231) d_MM_signKind_226 rfl ?_
                                  refine wm_less (L' := [vd, vd, vd]) ⟨Or.inl rfl, Or.inl rfl, Or.inl rfl, trivial⟩ ?_
                                  exact hJ 19 (if_pos c42).symm
                              · replace h := h.2 c41
                                by_cases c48 : x7 = 61
                                · replace h := h.1 c48
                                  refine wm_lookup (tgt := 246) (off := 233) d_MM_signKind_13 z_MM_signKind_13_s h8 (by rw [c48]; rfl) rfl ?_
                                  refine wm_bipush d_MM_signKind_246 (by decide) ?_
                                  refine wm_ireturn d_MM_signKind_248 rfl rfl ?_
                                  exact ⟨_, rfl, h⟩
                                · replace h := h.2 c48
                                  by_cases c49 : x7 = 62
                                  · replace h := h.1 c49
                                    refine wm_lookup (tgt := 232) (off := 219) d_MM_signKind_13 z_MM_signKind_13_s h8 (by rw [c49]; rfl) rfl ?_
                                    refine wm_iload_n d_MM_signKind_232 rfl rfl ?_
                                    refine wm_bipush d_MM_signKind_233 (by decide) ?_
                                    have hJ : ∀ v51 : Int, v51 = (if (x3 = 61) then 20 else 22) → mWm G y_MM_signKind (d + 1) 245 [vd, vd, vd] [vi v51] M6 (fun r9 M9 => ∃ x9, r9 = some (vi x9) ∧ Q x9 M9) := by
                                      intro v51 e53
                                      have h := h v51 e53
                                      have h54 : i32 v51 := by rw [e53]; (repeat' split) <;> first | exact ⟨by decide, by decide⟩ | exact ⟨by decide, by decide⟩
                                      refine wm_ireturn d_MM_signKind_245 rfl rfl ?_
                                      exact ⟨_, rfl, h⟩
                                    clear h
                                    refine wm_icmp_ne (tgt := 243) d_MM_signKind_235 rfl h4 ⟨by decide, by decide⟩ (fun c50 => ?_) (fun c50 => ?_)
                                    · refine wm_bipush d_MM_signKind_243 (by decide) ?_
                                      refine wm_less (L' := [vd, vd, vd]) ⟨Or.inl rfl, Or.inl rfl, Or.inl rfl, trivial⟩ ?_
                                      exact hJ 22 (if_neg c50).symm
                                    · replace c50 := Classical.not_not.mp c50
                                      refine wm_bipush d_MM_signKind_238 (by decide) ?_
                                      refine wm_goto (tgt := 245) d_MM_signKind_240 rfl ?_
                                      refine wm_less (L' := [vd, vd, vd]) ⟨Or.inl rfl, Or.inl rfl, Or.inl rfl, trivial⟩ ?_
                                      exact hJ 20 (if_pos c50).symm
                                  · replace h := h.2 c49
                                    by_cases c56 : x7 = 63
                                    · replace h := h.1 c56
                                      refine wm_lookup (tgt := 267) (off := 254) d_MM_signKind_13 z_MM_signKind_13_s h8 (by rw [c56]; rfl) rfl ?_
                                      refine wm_bipush d_MM_signKind_267 (by decide) ?_
                                      refine wm_ireturn d_MM_signKind_269 rfl rfl ?_
                                      exact ⟨_, rfl, h⟩
                                    · replace h := h.2 c56
                                      by_cases c57 : x7 = 124
                                      · replace h := h.1 c57
                                        refine wm_lookup (tgt := 264) (off := 251) d_MM_signKind_13 z_MM_signKind_13_s h8 (by rw [c57]; rfl) rfl ?_
                                        refine wm_bipush d_MM_signKind_264 (by decide) ?_
                                        refine wm_ireturn d_MM_signKind_266 rfl rfl ?_
                                        exact ⟨_, rfl, h⟩
                                      · replace h := h.2 c57
                                        refine wm_lookup (tgt := 288) (off := 275) d_MM_signKind_13 z_MM_signKind_13_s h8 (by simp [Op.lookupswitch.offset]; repeat rw [if_neg (by omega)]) rfl ?_
                                        refine wm_bipush d_MM_signKind_288 (by decide) ?_
                                        refine wm_ireturn d_MM_signKind_290 rfl rfl ?_
                                        exact ⟨_, rfl, h⟩
theorem d_MM_word0_0 : decode y_MM_word0.2.1 0 = .ok (.aload_n 0, 1) := by decide +kernel
theorem d_MM_word0_1 : decode y_MM_word0.2.1 1 = .ok (.getfield 19, 3) := by decide +kernel
theorem d_MM_word0_4 : decode y_MM_word0.2.1 4 = .ok (.iload_n 1, 1) := by decide +kernel
theorem d_MM_word0_5 : decode y_MM_word0.2.1 5 = .ok (.invokevirtual 152, 3) := by decide +kernel
theorem d_MM_word0_8 : decode y_MM_word0.2.1 8 = .ok (.aload_n 0, 1) := by decide +kernel
theorem d_MM_word0_9 : decode y_MM_word0.2.1 9 = .ok (.getfield 22, 3) := by decide +kernel
theorem d_MM_word0_12 : decode y_MM_word0.2.1 12 = .ok (.iload_n 2, 1) := by decide +kernel
theorem d_MM_word0_13 : decode y_MM_word0.2.1 13 = .ok (.invokevirtual 152, 3) := by decide +kernel
theorem d_MM_word0_16 : decode y_MM_word0.2.1 16 = .ok (.aload_n 0, 1) := by decide +kernel
theorem d_MM_word0_17 : decode y_MM_word0.2.1 17 = .ok (.getfield 25, 3) := by decide +kernel
theorem d_MM_word0_20 : decode y_MM_word0.2.1 20 = .ok (.iload_n 3, 1) := by decide +kernel
theorem d_MM_word0_21 : decode y_MM_word0.2.1 21 = .ok (.invokevirtual 152, 3) := by decide +kernel
theorem d_MM_word0_24 : decode y_MM_word0.2.1 24 = .ok (.return_, 1) := by decide +kernel
theorem k_MM_word0 {G : mG} {d : Nat} {a0 : Nat} {l1 : Int} {l2 : Int} {l3 : Int} {M : mM} {Q : mM → Prop} (hO : mOk M) (hi_l1 : i32 l1) (hi_l2 : i32 l2) (hi_l3 : i32 l3)
    (h : mK M a0 = 14 ∧ mK M (mR M a0 3) = 15 ∧ Cv G y_MN_add d [vr (mR M a0 3), vi l1] M (fun M3 => mOk M3 ∧ (mK M3 a0 = 14 ∧ mK M3 (mR M3 a0 4) = 15 ∧ Cv G y_MN_add d [vr (mR M3 a0 4), vi l2] M3 (fun M8 => mOk M8 ∧ (mK M8 a0 = 14 ∧ mK M8 (mR M8 a0 5) = 15 ∧ Cv G y_MN_add d [vr (mR M8 a0 5), vi l3] M8 (fun M13 => mOk M13 ∧ (Q M13))))))) :
    Cv G y_MM_word0 (d + 1) [vr a0, vi l1, vi l2, vi l3] M Q := by
  refine wm_open (y := y_MM_word0) rfl (Nat.le_of_ble_eq_true rfl) (L := [vr a0, vi l1, vi l2, vi l3]) rfl ?_
  obtain ⟨h1, h⟩ := h
  obtain ⟨h2, h⟩ := h
  refine wm_aload_n d_MM_word0_0 rfl rfl ?_
  refine gf_MM_19 rfl d_MM_word0_1 h1 ?_
  refine wm_iload_n d_MM_word0_4 rfl rfl ?_
  refine cf_MM_152 rfl d_MM_word0_5 h2 (Nat.le_of_ble_eq_true rfl) (Cv.mono h (fun M3 h => ?_))
  obtain ⟨hOM3, h⟩ := h
  obtain ⟨h6, h⟩ := h
  obtain ⟨h7, h⟩ := h
  refine wm_aload_n d_MM_word0_8 rfl rfl ?_
  refine gf_MM_22 rfl d_MM_word0_9 h6 ?_
  refine wm_iload_n d_MM_word0_12 rfl rfl ?_
  refine cf_MM_152 rfl d_MM_word0_13 h7 (Nat.le_of_ble_eq_true rfl) (Cv.mono h (fun M8 h => ?_))
  obtain ⟨hOM8, h⟩ := h
  obtain ⟨h11, h⟩ := h
  obtain ⟨h12, h⟩ := h
  refine wm_aload_n d_MM_word0_16 rfl rfl ?_
  refine gf_MM_25 rfl d_MM_word0_17 h11 ?_
  refine wm_iload_n d_MM_word0_20 rfl rfl ?_
  refine cf_MM_152 rfl d_MM_word0_21 h12 (Nat.le_of_ble_eq_true rfl) (Cv.mono h (fun M13 h => ?_))
  obtain ⟨hOM13, h⟩ := h
  refine wm_return d_MM_word0_24 rfl ?_
  exact ⟨rfl, h⟩
theorem d_MM_cut_0 : decode y_MM_cut.2.1 0 = .ok (.aload_n 0, 1) := by decide +kernel
theorem d_MM_cut_1 : decode y_MM_cut.2.1 1 = .ok (.getfield 19, 3) := by decide +kernel
theorem d_MM_cut_4 : decode y_MM_cut.2.1 4 = .ok (.iconst 0, 1) := by decide +kernel
theorem d_MM_cut_5 : decode y_MM_cut.2.1 5 = .ok (.putfield 145, 3) := by decide +kernel
theorem d_MM_cut_8 : decode y_MM_cut.2.1 8 = .ok (.aload_n 0, 1) := by decide +kernel
theorem d_MM_cut_9 : decode y_MM_cut.2.1 9 = .ok (.getfield 22, 3) := by decide +kernel
theorem d_MM_cut_12 : decode y_MM_cut.2.1 12 = .ok (.iconst 0, 1) := by decide +kernel
theorem d_MM_cut_13 : decode y_MM_cut.2.1 13 = .ok (.putfield 145, 3) := by decide +kernel
theorem d_MM_cut_16 : decode y_MM_cut.2.1 16 = .ok (.aload_n 0, 1) := by decide +kernel
theorem d_MM_cut_17 : decode y_MM_cut.2.1 17 = .ok (.getfield 25, 3) := by decide +kernel
theorem d_MM_cut_20 : decode y_MM_cut.2.1 20 = .ok (.iconst 0, 1) := by decide +kernel
theorem d_MM_cut_21 : decode y_MM_cut.2.1 21 = .ok (.putfield 145, 3) := by decide +kernel
theorem d_MM_cut_24 : decode y_MM_cut.2.1 24 = .ok (.aload_n 0, 1) := by decide +kernel
theorem d_MM_cut_25 : decode y_MM_cut.2.1 25 = .ok (.iconst 0, 1) := by decide +kernel
theorem d_MM_cut_26 : decode y_MM_cut.2.1 26 = .ok (.invokevirtual 206, 3) := by decide +kernel
theorem d_MM_cut_29 : decode y_MM_cut.2.1 29 = .ok (.istore_n 1, 1) := by decide +kernel
theorem d_MM_cut_30 : decode y_MM_cut.2.1 30 = .ok (.iconst 1, 1) := by decide +kernel
theorem d_MM_cut_31 : decode y_MM_cut.2.1 31 = .ok (.istore_n 2, 1) := by decide +kernel
theorem d_MM_cut_32 : decode y_MM_cut.2.1 32 = .ok (.iload_n 2, 1) := by decide +kernel
theorem d_MM_cut_33 : decode y_MM_cut.2.1 33 = .ok (.ifCond .eq 207, 3) := by decide +kernel
theorem d_MM_cut_36 : decode y_MM_cut.2.1 36 = .ok (.iload_n 1, 1) := by decide +kernel
theorem d_MM_cut_37 : decode y_MM_cut.2.1 37 = .ok (.aload_n 0, 1) := by decide +kernel
theorem d_MM_cut_38 : decode y_MM_cut.2.1 38 = .ok (.getfield 16, 3) := by decide +kernel
theorem d_MM_cut_41 : decode y_MM_cut.2.1 41 = .ok (.getfield 145, 3) := by decide +kernel
theorem d_MM_cut_44 : decode y_MM_cut.2.1 44 = .ok (.if_icmp .ge 196, 3) := by decide +kernel
theorem d_MM_cut_47 : decode y_MM_cut.2.1 47 = .ok (.iload_n 1, 1) := by decide +kernel
theorem d_MM_cut_48 : decode y_MM_cut.2.1 48 = .ok (.istore_n 3, 1) := by decide +kernel
theorem d_MM_cut_49 : decode y_MM_cut.2.1 49 = .ok (.aload_n 0, 1) := by decide +kernel
theorem d_MM_cut_50 : decode y_MM_cut.2.1 50 = .ok (.iload_n 1, 1) := by decide +kernel
theorem d_MM_cut_240 : decode y_MM_cut.2.1 240 = .ok (.iload_n 2, 1) := by decide +kernel
theorem d_MM_cut_241 : decode y_MM_cut.2.1 241 = .ok (.ifCond .eq 22, 3) := by decide +kernel
theorem d_MM_cut_244 : decode y_MM_cut.2.1 244 = .ok (.aload_n 0, 1) := by decide +kernel
theorem d_MM_cut_245 : decode y_MM_cut.2.1 245 = .ok (.iconst 0, 1) := by decide +kernel
theorem d_MM_cut_246 : decode y_MM_cut.2.1 246 = .ok (.aload_n 0, 1) := by decide +kernel
theorem d_MM_cut_247 : decode y_MM_cut.2.1 247 = .ok (.getfield 16, 3) := by decide +kernel
theorem d_MM_cut_250 : decode y_MM_cut.2.1 250 = .ok (.getfield 145, 3) := by decide +kernel
theorem d_MM_cut_253 : decode y_MM_cut.2.1 253 = .ok (.aload_n 0, 1) := by decide +kernel
theorem d_MM_cut_254 : decode y_MM_cut.2.1 254 = .ok (.getfield 16, 3) := by decide +kernel
theorem d_MM_cut_257 : decode y_MM_cut.2.1 257 = .ok (.getfield 145, 3) := by decide +kernel
theorem d_MM_cut_260 : decode y_MM_cut.2.1 260 = .ok (.invokevirtual 222, 3) := by decide +kernel
theorem d_MM_cut_51 : decode y_MM_cut.2.1 51 = .ok (.invokevirtual 159, 3) := by decide +kernel
theorem d_MM_cut_54 : decode y_MM_cut.2.1 54 = .ok (.invokestatic 209, 3) := by decide +kernel
theorem d_MM_cut_57 : decode y_MM_cut.2.1 57 = .ok (.ifCond .eq 65, 3) := by decide +kernel
theorem d_MM_cut_122 : decode y_MM_cut.2.1 122 = .ok (.aload_n 0, 1) := by decide +kernel
theorem d_MM_cut_123 : decode y_MM_cut.2.1 123 = .ok (.iload_n 1, 1) := by decide +kernel
theorem d_MM_cut_124 : decode y_MM_cut.2.1 124 = .ok (.invokevirtual 159, 3) := by decide +kernel
theorem d_MM_cut_127 : decode y_MM_cut.2.1 127 = .ok (.invokestatic 212, 3) := by decide +kernel
theorem d_MM_cut_130 : decode y_MM_cut.2.1 130 = .ok (.ifCond .eq 39, 3) := by decide +kernel
theorem d_MM_cut_169 : decode y_MM_cut.2.1 169 = .ok (.aload_n 0, 1) := by decide +kernel
theorem d_MM_cut_170 : decode y_MM_cut.2.1 170 = .ok (.iload_n 1, 1) := by decide +kernel
theorem d_MM_cut_171 : decode y_MM_cut.2.1 171 = .ok (.invokevirtual 219, 3) := by decide +kernel
theorem d_MM_cut_174 : decode y_MM_cut.2.1 174 = .ok (.istore 4, 2) := by decide +kernel
theorem d_MM_cut_176 : decode y_MM_cut.2.1 176 = .ok (.iload 4, 2) := by decide +kernel
theorem d_MM_cut_178 : decode y_MM_cut.2.1 178 = .ok (.bipush 16, 2) := by decide +kernel
theorem d_MM_cut_180 : decode y_MM_cut.2.1 180 = .ok (.if_icmp .lt 14, 3) := by decide +kernel
theorem d_MM_cut_194 : decode y_MM_cut.2.1 194 = .ok (.iconst 0, 1) := by decide +kernel
theorem d_MM_cut_183 : decode y_MM_cut.2.1 183 = .ok (.iload 4, 2) := by decide +kernel
theorem d_MM_cut_185 : decode y_MM_cut.2.1 185 = .ok (.bipush 20, 2) := by decide +kernel
theorem d_MM_cut_187 : decode y_MM_cut.2.1 187 = .ok (.if_icmp .gt 7, 3) := by decide +kernel
theorem d_MM_cut_190 : decode y_MM_cut.2.1 190 = .ok (.iconst 1, 1) := by decide +kernel
theorem d_MM_cut_191 : decode y_MM_cut.2.1 191 = .ok (.goto 4, 3) := by decide +kernel
theorem d_MM_cut_195 : decode y_MM_cut.2.1 195 = .ok (.istore 5, 2) := by decide +kernel
theorem d_MM_cut_197 : decode y_MM_cut.2.1 197 = .ok (.iload_n 1, 1) := by decide +kernel
theorem d_MM_cut_198 : decode y_MM_cut.2.1 198 = .ok (.iload 5, 2) := by decide +kernel
theorem d_MM_cut_200 : decode y_MM_cut.2.1 200 = .ok (.ifCond .eq 7, 3) := by decide +kernel
theorem d_MM_cut_207 : decode y_MM_cut.2.1 207 = .ok (.iconst 1, 1) := by decide +kernel
theorem d_MM_cut_203 : decode y_MM_cut.2.1 203 = .ok (.iconst 2, 1) := by decide +kernel
theorem d_MM_cut_204 : decode y_MM_cut.2.1 204 = .ok (.goto 4, 3) := by decide +kernel
theorem d_MM_cut_208 : decode y_MM_cut.2.1 208 = .ok (.iadd, 1) := by decide +kernel
theorem d_MM_cut_209 : decode y_MM_cut.2.1 209 = .ok (.istore_n 3, 1) := by decide +kernel
theorem d_MM_cut_210 : decode y_MM_cut.2.1 210 = .ok (.aload_n 0, 1) := by decide +kernel
theorem d_MM_cut_211 : decode y_MM_cut.2.1 211 = .ok (.iload 4, 2) := by decide +kernel
theorem d_MM_cut_213 : decode y_MM_cut.2.1 213 = .ok (.iload_n 1, 1) := by decide +kernel
theorem d_MM_cut_214 : decode y_MM_cut.2.1 214 = .ok (.iload_n 3, 1) := by decide +kernel
theorem d_MM_cut_215 : decode y_MM_cut.2.1 215 = .ok (.invokevirtual 222, 3) := by decide +kernel
theorem d_MM_cut_218 : decode y_MM_cut.2.1 218 = .ok (.iload 4, 2) := by decide +kernel
theorem d_MM_cut_220 : decode y_MM_cut.2.1 220 = .ok (.bipush 39, 2) := by decide +kernel
theorem d_MM_cut_222 : decode y_MM_cut.2.1 222 = .ok (.if_icmp .eq 7, 3) := by decide +kernel
theorem d_MM_cut_229 : decode y_MM_cut.2.1 229 = .ok (.iconst 0, 1) := by decide +kernel
theorem d_MM_cut_225 : decode y_MM_cut.2.1 225 = .ok (.iconst 1, 1) := by decide +kernel
theorem d_MM_cut_226 : decode y_MM_cut.2.1 226 = .ok (.goto 4, 3) := by decide +kernel
theorem d_MM_cut_230 : decode y_MM_cut.2.1 230 = .ok (.istore_n 2, 1) := by decide +kernel
theorem d_MM_cut_231 : decode y_MM_cut.2.1 231 = .ok (.aload_n 0, 1) := by decide +kernel
theorem d_MM_cut_232 : decode y_MM_cut.2.1 232 = .ok (.iload_n 3, 1) := by decide +kernel
theorem d_MM_cut_233 : decode y_MM_cut.2.1 233 = .ok (.invokevirtual 206, 3) := by decide +kernel
theorem d_MM_cut_236 : decode y_MM_cut.2.1 236 = .ok (.istore_n 1, 1) := by decide +kernel
theorem d_MM_cut_237 : decode y_MM_cut.2.1 237 = .ok (.goto (-205), 3) := by decide +kernel
theorem d_MM_cut_60 : decode y_MM_cut.2.1 60 = .ok (.aload_n 0, 1) := by decide +kernel
theorem d_MM_cut_61 : decode y_MM_cut.2.1 61 = .ok (.iload_n 3, 1) := by decide +kernel
theorem d_MM_cut_62 : decode y_MM_cut.2.1 62 = .ok (.invokevirtual 159, 3) := by decide +kernel
theorem d_MM_cut_65 : decode y_MM_cut.2.1 65 = .ok (.invokestatic 209, 3) := by decide +kernel
theorem d_MM_cut_68 : decode y_MM_cut.2.1 68 = .ok (.ifCond .ne 24, 3) := by decide +kernel
theorem d_MM_cut_71 : decode y_MM_cut.2.1 71 = .ok (.aload_n 0, 1) := by decide +kernel
theorem d_MM_cut_72 : decode y_MM_cut.2.1 72 = .ok (.iload_n 3, 1) := by decide +kernel
theorem d_MM_cut_73 : decode y_MM_cut.2.1 73 = .ok (.invokevirtual 159, 3) := by decide +kernel
theorem d_MM_cut_76 : decode y_MM_cut.2.1 76 = .ok (.invokestatic 212, 3) := by decide +kernel
theorem d_MM_cut_79 : decode y_MM_cut.2.1 79 = .ok (.ifCond .ne 13, 3) := by decide +kernel
theorem d_MM_cut_82 : decode y_MM_cut.2.1 82 = .ok (.aload_n 0, 1) := by decide +kernel
theorem d_MM_cut_83 : decode y_MM_cut.2.1 83 = .ok (.iload_n 3, 1) := by decide +kernel
theorem d_MM_cut_84 : decode y_MM_cut.2.1 84 = .ok (.invokevirtual 159, 3) := by decide +kernel
theorem d_MM_cut_87 : decode y_MM_cut.2.1 87 = .ok (.bipush 95, 2) := by decide +kernel
theorem d_MM_cut_89 : decode y_MM_cut.2.1 89 = .ok (.if_icmp .ne 9, 3) := by decide +kernel
theorem d_MM_cut_98 : decode y_MM_cut.2.1 98 = .ok (.iload_n 3, 1) := by decide +kernel
theorem d_MM_cut_99 : decode y_MM_cut.2.1 99 = .ok (.iload_n 1, 1) := by decide +kernel
theorem d_MM_cut_100 : decode y_MM_cut.2.1 100 = .ok (.isub, 1) := by decide +kernel
theorem d_MM_cut_101 : decode y_MM_cut.2.1 101 = .ok (.bipush 40, 2) := by decide +kernel
theorem d_MM_cut_103 : decode y_MM_cut.2.1 103 = .ok (.if_icmp .le 8, 3) := by decide +kernel
theorem d_MM_cut_111 : decode y_MM_cut.2.1 111 = .ok (.aload_n 0, 1) := by decide +kernel
theorem d_MM_cut_112 : decode y_MM_cut.2.1 112 = .ok (.iload_n 1, 1) := by decide +kernel
theorem d_MM_cut_113 : decode y_MM_cut.2.1 113 = .ok (.iload_n 3, 1) := by decide +kernel
theorem d_MM_cut_106 : decode y_MM_cut.2.1 106 = .ok (.bipush 39, 2) := by decide +kernel
theorem d_MM_cut_108 : decode y_MM_cut.2.1 108 = .ok (.goto 9, 3) := by decide +kernel
theorem d_MM_cut_92 : decode y_MM_cut.2.1 92 = .ok (.iinc 3 1, 3) := by decide +kernel
theorem d_MM_cut_95 : decode y_MM_cut.2.1 95 = .ok (.goto (-35), 3) := by decide +kernel
theorem d_MM_cut_114 : decode y_MM_cut.2.1 114 = .ok (.invokevirtual 215, 3) := by decide +kernel
theorem d_MM_cut_117 : decode y_MM_cut.2.1 117 = .ok (.istore 4, 2) := by decide +kernel
theorem d_MM_cut_119 : decode y_MM_cut.2.1 119 = .ok (.goto 91, 3) := by decide +kernel
theorem d_MM_cut_133 : decode y_MM_cut.2.1 133 = .ok (.aload_n 0, 1) := by decide +kernel
theorem d_MM_cut_134 : decode y_MM_cut.2.1 134 = .ok (.iload_n 3, 1) := by decide +kernel
theorem d_MM_cut_135 : decode y_MM_cut.2.1 135 = .ok (.invokevirtual 159, 3) := by decide +kernel
theorem d_MM_cut_138 : decode y_MM_cut.2.1 138 = .ok (.invokestatic 212, 3) := by decide +kernel
theorem d_MM_cut_141 : decode y_MM_cut.2.1 141 = .ok (.ifCond .eq 9, 3) := by decide +kernel
theorem d_MM_cut_150 : decode y_MM_cut.2.1 150 = .ok (.iload_n 3, 1) := by decide +kernel
theorem d_MM_cut_151 : decode y_MM_cut.2.1 151 = .ok (.iload_n 1, 1) := by decide +kernel
theorem d_MM_cut_152 : decode y_MM_cut.2.1 152 = .ok (.isub, 1) := by decide +kernel
theorem d_MM_cut_153 : decode y_MM_cut.2.1 153 = .ok (.bipush 9, 2) := by decide +kernel
theorem d_MM_cut_144 : decode y_MM_cut.2.1 144 = .ok (.iinc 3 1, 3) := by decide +kernel
theorem d_MM_cut_147 : decode y_MM_cut.2.1 147 = .ok (.goto (-14), 3) := by decide +kernel
theorem d_MM_cut_155 : decode y_MM_cut.2.1 155 = .ok (.if_icmp .le 8, 3) := by decide +kernel
theorem d_MM_cut_163 : decode y_MM_cut.2.1 163 = .ok (.iconst 2, 1) := by decide +kernel
theorem d_MM_cut_164 : decode y_MM_cut.2.1 164 = .ok (.istore 4, 2) := by decide +kernel
theorem d_MM_cut_166 : decode y_MM_cut.2.1 166 = .ok (.goto 44, 3) := by decide +kernel
theorem d_MM_cut_158 : decode y_MM_cut.2.1 158 = .ok (.bipush 39, 2) := by decide +kernel
theorem d_MM_cut_160 : decode y_MM_cut.2.1 160 = .ok (.goto 4, 3) := by decide +kernel
theorem d_MM_cut_263 : decode y_MM_cut.2.1 263 = .ok (.return_, 1) := by decide +kernel
def h_MM_cut_32 (G : mG) (d : Nat) (a0 : Nat) (l1 : Int) (l2 : Int) (M : mM) (Q : mM → Prop) : Prop := mWm G y_MM_cut (d + 1) 32 [vr a0, vi l1, vi l2, vd, vd, vd] [] M (fun r9 M9 => r9 = none ∧ Q M9)
def h_MM_cut_60 (G : mG) (d : Nat) (a0 : Nat) (l1 : Int) (l3 : Int) (M : mM) (Q : mM → Prop) : Prop := mWm G y_MM_cut (d + 1) 60 [vr a0, vi l1, vd, vi l3, vd, vd] [] M (fun r9 M9 => r9 = none ∧ Q M9)
def h_MM_cut_117 (G : mG) (d : Nat) (a0 : Nat) (l1 : Int) (l3 : Int) (k0 : Int) (M : mM) (Q : mM → Prop) : Prop := mWm G y_MM_cut (d + 1) 117 [vr a0, vi l1, vd, vi l3, vd, vd] [vi k0] M (fun r9 M9 => r9 = none ∧ Q M9)
def h_MM_cut_133 (G : mG) (d : Nat) (a0 : Nat) (l1 : Int) (l3 : Int) (M : mM) (Q : mM → Prop) : Prop := mWm G y_MM_cut (d + 1) 133 [vr a0, vi l1, vd, vi l3, vd, vd] [] M (fun r9 M9 => r9 = none ∧ Q M9)
def h_MM_cut_263 (G : mG) (d : Nat) (M : mM) (Q : mM → Prop) : Prop := mWm G y_MM_cut (d + 1) 263 [vd, vd, vd, vd, vd, vd] [] M (fun r9 M9 => r9 = none ∧ Q M9)
theorem k_MM_cut {G : mG} {d : Nat} {a0 : Nat} {M : mM} {Q : mM → Prop} (hO : mOk M)
    (h : mK M a0 = 14 ∧ mK M (mR M a0 3) = 15 ∧ ∀ M3, M3 = mUI M (mR M a0 3) 1 0 → mK M3 (mR M3 a0 4) = 15 ∧ ∀ M6, M6 = mUI M3 (mR M3 a0 4) 1 0 → mK M6 (mR M6 a0 5) = 15 ∧ ∀ M9, M9 = mUI M6 (mR M6 a0 5) 1 0 → Ci G y_MM_skip d [vr a0, vi 0] M9 (fun x12 M11 => i32 x12 ∧ mOk M11 ∧ (h_MM_cut_32 G d a0 x12 1 M11 Q))) :
    Cv G y_MM_cut (d + 1) [vr a0] M Q := by
  refine wm_open (y := y_MM_cut) rfl (Nat.le_of_ble_eq_true rfl) (L := [vr a0, vd, vd, vd, vd, vd]) rfl ?_
  obtain ⟨h1, h⟩ := h
  obtain ⟨h2, h⟩ := h
  obtain ⟨M3, e4⟩ : ∃ M3, M3 = mUI M (mR M a0 3) 1 0 := ⟨_, rfl⟩
  replace h := h M3 e4
  obtain ⟨h5, h⟩ := h
  obtain ⟨M6, e7⟩ : ∃ M6, M6 = mUI M3 (mR M3 a0 4) 1 0 := ⟨_, rfl⟩
  replace h := h M6 e7
  obtain ⟨h8, h⟩ := h
  obtain ⟨M9, e10⟩ : ∃ M9, M9 = mUI M6 (mR M6 a0 5) 1 0 := ⟨_, rfl⟩
  replace h := h M9 e10
  refine wm_aload_n d_MM_cut_0 rfl rfl ?_
  refine gf_MM_19 rfl d_MM_cut_1 h1 ?_
  refine wm_iconst d_MM_cut_4 ?_
  have hOM3 : mOk M3 := by rw [e4]; exact mOk_UI hO ⟨by decide, by decide⟩
  refine pf_MM_145 rfl d_MM_cut_5 h2 ⟨by decide, by decide⟩ e4 ?_
  refine wm_aload_n d_MM_cut_8 rfl rfl ?_
  refine gf_MM_22 rfl d_MM_cut_9 (by rw [e4]; exact h1) ?_
  refine wm_iconst d_MM_cut_12 ?_
  have hOM6 : mOk M6 := by rw [e7]; exact mOk_UI hOM3 ⟨by decide, by decide⟩
  refine pf_MM_145 rfl d_MM_cut_13 h5 ⟨by decide, by decide⟩ e7 ?_
  refine wm_aload_n d_MM_cut_16 rfl rfl ?_
  refine gf_MM_25 rfl d_MM_cut_17 (by rw [e7, e4]; exact h1) ?_
  refine wm_iconst d_MM_cut_20 ?_
  have hOM9 : mOk M9 := by rw [e10]; exact mOk_UI hOM6 ⟨by decide, by decide⟩
  refine pf_MM_145 rfl d_MM_cut_21 h8 ⟨by decide, by decide⟩ e10 ?_
  refine wm_aload_n d_MM_cut_24 rfl rfl ?_
  refine wm_iconst d_MM_cut_25 ?_
  refine cf_MM_206 rfl d_MM_cut_26 (by rw [e10, e7, e4]; exact h1) (Nat.le_of_ble_eq_true rfl) (Ci.mono h (fun x12 M11 h => ?_))
  obtain ⟨h13, hOM11, h⟩ := h
  refine wm_istore_n d_MM_cut_29 rfl (by decide) (L' := [vr a0, vi x12, vd, vd, vd, vd]) rfl ?_
  refine wm_iconst d_MM_cut_30 ?_
  refine wm_istore_n d_MM_cut_31 rfl (by decide) (L' := [vr a0, vi x12, vi 1, vd, vd, vd]) rfl ?_
  exact h
theorem k_MM_cut_32 {G : mG} {d : Nat} {a0 : Nat} {l1 : Int} {l2 : Int} {M : mM} {Q : mM → Prop} (hO : mOk M) (hi_l1 : i32 l1) (hi_l2 : i32 l2)
    (h : (¬ (l2 = 0) → (mK M a0 = 14 ∧ mK M (mR M a0 2) = 15)) ∧ (((l2 = 0) ∨ (mI M (mR M a0 2) 1 ≤ l1)) → (((l2 = 0) → (h_MM_cut_263 G d  M Q)) ∧ (¬ (l2 = 0) → (mK M a0 = 14 ∧ mK M (mR M a0 2) = 15 ∧ Cv G y_MM_word0 d [vr a0, vi 0, vi (mI M (mR M a0 2) 1), vi (mI M (mR M a0 2) 1)] M (fun M24 => mOk M24 ∧ (h_MM_cut_263 G d  M24 Q)))))) ∧ (¬ ((l2 = 0) ∨ (mI M (mR M a0 2) 1 ≤ l1)) → (mK M a0 = 14 ∧ Ci G y_MM_letter d [vr a0, vi l1] M (fun x30 M29 => i32 x30 ∧ mOk M29 ∧ (Ci G y_MM_isLetter d [vi x30] M29 (fun x33 M32 => i32 x33 ∧ mOk M32 ∧ (((x33 = 0) → (mK M32 a0 = 14 ∧ Ci G y_MM_letter d [vr a0, vi l1] M32 (fun x39 M38 => i32 x39 ∧ mOk M38 ∧ (Ci G y_MM_isDigit d [vi x39] M38 (fun x42 M41 => i32 x42 ∧ mOk M41 ∧ (((x42 = 0) → (mK M41 a0 = 14 ∧ Ci G y_MM_signKind d [vr a0, vi l1] M41 (fun x48 M47 => i32 x48 ∧ mOk M47 ∧ (∀ v52 : Int, v52 = (if ((x48 < 16) ∨ (20 < x48)) then 0 else 1) → ∀ v58 : Int, v58 = (if (v52 = 0) then 1 else 2) → mK M47 a0 = 14 ∧ Cv G y_MM_word0 d [vr a0, vi x48, vi l1, vi (l1 + v58)] M47 (fun M63 => mOk M63 ∧ (∀ v67 : Int, v67 = (if (x48 = 39) then 0 else 1) → mK M63 a0 = 14 ∧ Ci G y_MM_skip d [vr a0, vi (l1 + v58)] M63 (fun x74 M73 => i32 x74 ∧ mOk M73 ∧ (h_MM_cut_32 G d a0 x74 v67 M73 Q)))))))) ∧ (¬ (x42 = 0) → (h_MM_cut_133 G d a0 l1 l1 M41 Q)))))))) ∧ (¬ (x33 = 0) → (h_MM_cut_60 G d a0 l1 l1 M32 Q))))))))) :
    h_MM_cut_32 G d a0 l1 l2 M Q := by
  unfold h_MM_cut_32
  refine wm_iload_n d_MM_cut_32 rfl rfl ?_
  obtain ⟨s18, h⟩ := h
  have hE0 : ((l2 = 0) ∨ (mI M (mR M a0 2) 1 ≤ l1)) → mWm G y_MM_cut (d + 1) 240 [vr a0, vi l1, vi l2, vd, vd, vd] [] M (fun r9 M9 => r9 = none ∧ Q M9) := by
    intro q19
    have h := h.1 q19
    refine wm_iload_n d_MM_cut_240 rfl rfl ?_
    refine wm_if_eq (tgt := 263) d_MM_cut_241 rfl hi_l2 (fun c21 => ?_) (fun c21 => ?_)
    · replace h := h.1 c21
      refine wm_less (L' := [vd, vd, vd, vd, vd, vd]) ⟨Or.inl rfl, Or.inl rfl, Or.inl rfl, Or.inl rfl, Or.inl rfl, Or.inl rfl, trivial⟩ ?_
      exact h
    · replace h := h.2 c21
      obtain ⟨h22, h⟩ := h
      obtain ⟨h23, h⟩ := h
      refine wm_aload_n d_MM_cut_244 rfl rfl ?_
      refine wm_iconst d_MM_cut_245 ?_
      refine wm_aload_n d_MM_cut_246 rfl rfl ?_
      refine gf_MM_16 rfl d_MM_cut_247 h22 ?_
      refine gf_MM_145 rfl d_MM_cut_250 h23 ?_
      refine wm_aload_n d_MM_cut_253 rfl rfl ?_
      refine gf_MM_16 rfl d_MM_cut_254 h22 ?_
      refine gf_MM_145 rfl d_MM_cut_257 h23 ?_
      refine cf_MM_222 rfl d_MM_cut_260 h22 (Nat.le_of_ble_eq_true rfl) (Cv.mono h (fun M24 h => ?_))
      obtain ⟨hOM24, h⟩ := h
      refine wm_less (L' := [vd, vd, vd, vd, vd, vd]) ⟨Or.inl rfl, Or.inl rfl, Or.inl rfl, Or.inl rfl, Or.inl rfl, Or.inl rfl, trivial⟩ ?_
      exact h
  have hE1 : ¬ ((l2 = 0) ∨ (mI M (mR M a0 2) 1 ≤ l1)) → mWm G y_MM_cut (d + 1) 47 [vr a0, vi l1, vi l2, vd, vd, vd] [] M (fun r9 M9 => r9 = none ∧ Q M9) := by
    intro q27
    have h := h.2 q27
    obtain ⟨h28, h⟩ := h
    refine wm_iload_n d_MM_cut_47 rfl rfl ?_
    refine wm_istore_n d_MM_cut_48 rfl (by decide) (L' := [vr a0, vi l1, vi l2, vi l1, vd, vd]) rfl ?_
    refine wm_aload_n d_MM_cut_49 rfl rfl ?_
    refine wm_iload_n d_MM_cut_50 rfl rfl ?_
    refine cf_MM_159 rfl d_MM_cut_51 h28 (Nat.le_of_ble_eq_true rfl) (Ci.mono h (fun x30 M29 h => ?_))
    obtain ⟨h31, hOM29, h⟩ := h
    refine cf_MM_209 rfl d_MM_cut_54 (Nat.le_of_ble_eq_true rfl) (Ci.mono h (fun x33 M32 h => ?_))
    obtain ⟨h34, hOM32, h⟩ := h
    refine wm_if_eq (tgt := 122) d_MM_cut_57 rfl h34 (fun c36 => ?_) (fun c36 => ?_)
    · replace h := h.1 c36
      obtain ⟨h37, h⟩ := h
      refine wm_aload_n d_MM_cut_122 rfl rfl ?_
      refine wm_iload_n d_MM_cut_123 rfl rfl ?_
      refine cf_MM_159 rfl d_MM_cut_124 h37 (Nat.le_of_ble_eq_true rfl) (Ci.mono h (fun x39 M38 h => ?_))
      obtain ⟨h40, hOM38, h⟩ := h
      refine cf_MM_212 rfl d_MM_cut_127 (Nat.le_of_ble_eq_true rfl) (Ci.mono h (fun x42 M41 h => ?_))
      obtain ⟨h43, hOM41, h⟩ := h
      refine wm_if_eq (tgt := 169) d_MM_cut_130 rfl h43 (fun c45 => ?_) (fun c45 => ?_)
      · replace h := h.1 c45
        obtain ⟨h46, h⟩ := h
        refine wm_aload_n d_MM_cut_169 rfl rfl ?_
        refine wm_iload_n d_MM_cut_170 rfl rfl ?_
        refine cf_MM_219 rfl d_MM_cut_171 h46 (Nat.le_of_ble_eq_true rfl) (Ci.mono h (fun x48 M47 h => ?_))
        obtain ⟨h49, hOM47, h⟩ := h
        refine wm_istore d_MM_cut_174 (by decide) (L' := [vr a0, vi l1, vi l2, vi l1, vi x48, vd]) rfl ?_
        refine wm_iload d_MM_cut_176 rfl ?_
        refine wm_bipush d_MM_cut_178 (by decide) ?_
        have hJ : ∀ v52 : Int, v52 = (if ((x48 < 16) ∨ (20 < x48)) then 0 else 1) → mWm G y_MM_cut (d + 1) 195 [vr a0, vi l1, vd, vd, vi x48, vd] [vi v52] M47 (fun r9 M9 => r9 = none ∧ Q M9) := by
          intro v52 e54
          have h := h v52 e54
          have h55 : i32 v52 := by rw [e54]; (repeat' split) <;> first | exact ⟨by decide, by decide⟩ | exact ⟨by decide, by decide⟩
          have h56 : (v52 = 0 ∨ v52 = 1) := by rw [e54]; (repeat' split) <;> decide
          refine wm_istore d_MM_cut_195 (by decide) (L' := [vr a0, vi l1, vd, vd, vi x48, vi v52]) rfl ?_
          refine wm_iload_n d_MM_cut_197 rfl rfl ?_
          refine wm_iload d_MM_cut_198 rfl ?_
          have hJ : ∀ v58 : Int, v58 = (if (v52 = 0) then 1 else 2) → mWm G y_MM_cut (d + 1) 208 [vr a0, vi l1, vd, vd, vi x48, vd] [vi v58, vi l1] M47 (fun r9 M9 => r9 = none ∧ Q M9) := by
            intro v58 e60
            have h := h v58 e60
            have h61 : i32 v58 := by rw [e60]; (repeat' split) <;> first | exact ⟨by decide, by decide⟩ | exact ⟨by decide, by decide⟩
            obtain ⟨h62, h⟩ := h
            refine wm_iadd d_MM_cut_208 ?_
            refine wm_istore_n d_MM_cut_209 rfl (by decide) (L' := [vr a0, vi l1, vd, vi (l1 + v58), vi x48, vd]) rfl ?_
            refine wm_aload_n d_MM_cut_210 rfl rfl ?_
            refine wm_iload d_MM_cut_211 rfl ?_
            refine wm_iload_n d_MM_cut_213 rfl rfl ?_
            refine wm_iload_n d_MM_cut_214 rfl rfl ?_
            refine cf_MM_222 rfl d_MM_cut_215 h62 (Nat.le_of_ble_eq_true rfl) (Cv.mono h (fun M63 h => ?_))
            obtain ⟨hOM63, h⟩ := h
            refine wm_iload d_MM_cut_218 rfl ?_
            refine wm_bipush d_MM_cut_220 (by decide) ?_
            have hJ : ∀ v67 : Int, v67 = (if (x48 = 39) then 0 else 1) → mWm G y_MM_cut (d + 1) 230 [vr a0, vd, vd, vi (l1 + v58), vd, vd] [vi v67] M63 (fun r9 M9 => r9 = none ∧ Q M9) := by
              intro v67 e69
              have h := h v67 e69
              have h70 : i32 v67 := by rw [e69]; (repeat' split) <;> first | exact ⟨by decide, by decide⟩ | exact ⟨by decide, by decide⟩
              have h71 : (v67 = 0 ∨ v67 = 1) := by rw [e69]; (repeat' split) <;> decide
              obtain ⟨h72, h⟩ := h
              refine wm_istore_n d_MM_cut_230 rfl (by decide) (L' := [vr a0, vd, vi v67, vi (l1 + v58), vd, vd]) rfl ?_
              refine wm_aload_n d_MM_cut_231 rfl rfl ?_
              refine wm_iload_n d_MM_cut_232 rfl rfl ?_
              refine cf_MM_206 rfl d_MM_cut_233 h72 (Nat.le_of_ble_eq_true rfl) (Ci.mono h (fun x74 M73 h => ?_))
              obtain ⟨h75, hOM73, h⟩ := h
              refine wm_istore_n d_MM_cut_236 rfl (by decide) (L' := [vr a0, vi x74, vi v67, vi (l1 + v58), vd, vd]) rfl ?_
              refine wm_goto (tgt := 32) d_MM_cut_237 rfl ?_
              refine wm_less (L' := [vr a0, vi x74, vi v67, vd, vd, vd]) ⟨Or.inr rfl, Or.inr rfl, Or.inr rfl, Or.inl rfl, Or.inl rfl, Or.inl rfl, trivial⟩ ?_
              exact h
            clear h
            refine wm_icmp_eq (tgt := 229) d_MM_cut_222 rfl h49 ⟨by decide, by decide⟩ (fun c66 => ?_) (fun c66 => ?_)
            · refine wm_iconst d_MM_cut_229 ?_
              refine wm_less (L' := [vr a0, vd, vd, vi (l1 + v58), vd, vd]) ⟨Or.inr rfl, Or.inl rfl, Or.inl rfl, Or.inr rfl, Or.inl rfl, Or.inl rfl, trivial⟩ ?_
              exact hJ 0 (if_pos c66).symm
            · refine wm_iconst d_MM_cut_225 ?_
              refine wm_goto (tgt := 230) d_MM_cut_226 rfl ?_
              refine wm_less (L' := [vr a0, vd, vd, vi (l1 + v58), vd, vd]) ⟨Or.inr rfl, Or.inl rfl, Or.inl rfl, Or.inr rfl, Or.inl rfl, Or.inl rfl, trivial⟩ ?_
              exact hJ 1 (if_neg c66).symm
          clear h
          refine wm_if_eq (tgt := 207) d_MM_cut_200 rfl h55 (fun c57 => ?_) (fun c57 => ?_)
          · refine wm_iconst d_MM_cut_207 ?_
            refine wm_less (L' := [vr a0, vi l1, vd, vd, vi x48, vd]) ⟨Or.inr rfl, Or.inr rfl, Or.inl rfl, Or.inl rfl, Or.inr rfl, Or.inl rfl, trivial⟩ ?_
            exact hJ 1 (if_pos c57).symm
          · refine wm_iconst d_MM_cut_203 ?_
            refine wm_goto (tgt := 208) d_MM_cut_204 rfl ?_
            refine wm_less (L' := [vr a0, vi l1, vd, vd, vi x48, vd]) ⟨Or.inr rfl, Or.inr rfl, Or.inl rfl, Or.inl rfl, Or.inr rfl, Or.inl rfl, trivial⟩ ?_
            exact hJ 2 (if_neg c57).symm
        clear h
        refine wm_icmp_lt (tgt := 194) d_MM_cut_180 rfl h49 ⟨by decide, by decide⟩ (fun c50 => ?_) (fun c50 => ?_)
        · refine wm_iconst d_MM_cut_194 ?_
          refine wm_less (L' := [vr a0, vi l1, vd, vd, vi x48, vd]) ⟨Or.inr rfl, Or.inr rfl, Or.inl rfl, Or.inl rfl, Or.inr rfl, Or.inl rfl, trivial⟩ ?_
          exact hJ 0 (if_pos (Or.inl c50)).symm
        · refine wm_iload d_MM_cut_183 rfl ?_
          refine wm_bipush d_MM_cut_185 (by decide) ?_
          refine wm_icmp_gt (tgt := 194) d_MM_cut_187 rfl h49 ⟨by decide, by decide⟩ (fun c51 => ?_) (fun c51 => ?_)
          · refine wm_iconst d_MM_cut_194 ?_
            refine wm_less (L' := [vr a0, vi l1, vd, vd, vi x48, vd]) ⟨Or.inr rfl, Or.inr rfl, Or.inl rfl, Or.inl rfl, Or.inr rfl, Or.inl rfl, trivial⟩ ?_
            exact hJ 0 (if_pos (Or.inr c51)).symm
          · refine wm_iconst d_MM_cut_190 ?_
            refine wm_goto (tgt := 195) d_MM_cut_191 rfl ?_
            refine wm_less (L' := [vr a0, vi l1, vd, vd, vi x48, vd]) ⟨Or.inr rfl, Or.inr rfl, Or.inl rfl, Or.inl rfl, Or.inr rfl, Or.inl rfl, trivial⟩ ?_
            exact hJ 1 (if_neg (fun z78 => Or.elim z78 c50 c51)).symm
      · replace h := h.2 c45
        refine wm_less (L' := [vr a0, vi l1, vd, vi l1, vd, vd]) ⟨Or.inr rfl, Or.inr rfl, Or.inl rfl, Or.inr rfl, Or.inl rfl, Or.inl rfl, trivial⟩ ?_
        exact h
    · replace h := h.2 c36
      refine wm_less (L' := [vr a0, vi l1, vd, vi l1, vd, vd]) ⟨Or.inr rfl, Or.inr rfl, Or.inl rfl, Or.inr rfl, Or.inl rfl, Or.inl rfl, trivial⟩ ?_
      exact h
  clear h
  have s80 := s18
  refine wm_if_eq (tgt := 240) d_MM_cut_33 rfl hi_l2 (fun c17 => ?_) (fun c17 => ?_)
  · exact hE0 (Or.inl c17)
  · have s80 := s80 c17
    obtain ⟨h14, h15⟩ := s80
    refine wm_iload_n d_MM_cut_36 rfl rfl ?_
    refine wm_aload_n d_MM_cut_37 rfl rfl ?_
    refine gf_MM_16 rfl d_MM_cut_38 h14 ?_
    refine gf_MM_145 rfl d_MM_cut_41 h15 ?_
    refine wm_icmp_ge (tgt := 240) d_MM_cut_44 rfl hi_l1 (hO _ _).1 (fun c16 => ?_) (fun c16 => ?_)
    · exact hE0 (Or.inr c16)
    · exact hE1 (fun z81 => Or.elim z81 c17 c16)
theorem k_MM_cut_60 {G : mG} {d : Nat} {a0 : Nat} {l1 : Int} {l3 : Int} {M : mM} {Q : mM → Prop} (hO : mOk M) (hi_l1 : i32 l1) (hi_l3 : i32 l3)
    (h : mK M a0 = 14 ∧ Ci G y_MM_letter d [vr a0, vi l3] M (fun x85 M84 => i32 x85 ∧ mOk M84 ∧ (Ci G y_MM_isLetter d [vi x85] M84 (fun x88 M87 => i32 x88 ∧ mOk M87 ∧ (((x88 = 0) → (mK M87 a0 = 14 ∧ Ci G y_MM_letter d [vr a0, vi l3] M87 (fun x94 M93 => i32 x94 ∧ mOk M93 ∧ (Ci G y_MM_isDigit d [vi x94] M93 (fun x97 M96 => i32 x97 ∧ mOk M96 ∧ (((x97 = 0) → (mK M96 a0 = 14 ∧ Ci G y_MM_letter d [vr a0, vi l3] M96 (fun x103 M102 => i32 x103 ∧ mOk M102 ∧ (((x103 = 95) → (h_MM_cut_60 G d a0 l1 (l3 + 1) M102 Q)) ∧ (¬ (x103 = 95) → (i32 (l3 - l1) ∧ ((l3 - l1 ≤ 40) → (mK M102 a0 = 14 ∧ Ci G y_MM_wordKind d [vr a0, vi l1, vi l3] M102 (fun x115 M114 => i32 x115 ∧ mOk M114 ∧ (h_MM_cut_117 G d a0 l1 l3 x115 M114 Q)))) ∧ (¬ (l3 - l1 ≤ 40) → (h_MM_cut_117 G d a0 l1 l3 39 M102 Q)))))))) ∧ (¬ (x97 = 0) → (h_MM_cut_60 G d a0 l1 (l3 + 1) M96 Q)))))))) ∧ (¬ (x88 = 0) → (h_MM_cut_60 G d a0 l1 (l3 + 1) M87 Q))))))) :
    h_MM_cut_60 G d a0 l1 l3 M Q := by
  unfold h_MM_cut_60
  obtain ⟨h83, h⟩ := h
  refine wm_aload_n d_MM_cut_60 rfl rfl ?_
  refine wm_iload_n d_MM_cut_61 rfl rfl ?_
  refine cf_MM_159 rfl d_MM_cut_62 h83 (Nat.le_of_ble_eq_true rfl) (Ci.mono h (fun x85 M84 h => ?_))
  obtain ⟨h86, hOM84, h⟩ := h
  refine cf_MM_209 rfl d_MM_cut_65 (Nat.le_of_ble_eq_true rfl) (Ci.mono h (fun x88 M87 h => ?_))
  obtain ⟨h89, hOM87, h⟩ := h
  refine wm_if_ne (tgt := 92) d_MM_cut_68 rfl h89 (fun c91 => ?_) (fun c91 => ?_)
  · replace h := h.2 c91
    refine wm_iinc d_MM_cut_92 (by decide) rfl (L' := [vr a0, vi l1, vd, vi (l3 + 1), vd, vd]) rfl ?_
    refine wm_goto (tgt := 60) d_MM_cut_95 rfl ?_
    exact h
  · replace c91 := Classical.not_not.mp c91
    replace h := h.1 c91
    obtain ⟨h92, h⟩ := h
    refine wm_aload_n d_MM_cut_71 rfl rfl ?_
    refine wm_iload_n d_MM_cut_72 rfl rfl ?_
    refine cf_MM_159 rfl d_MM_cut_73 h92 (Nat.le_of_ble_eq_true rfl) (Ci.mono h (fun x94 M93 h => ?_))
    obtain ⟨h95, hOM93, h⟩ := h
    refine cf_MM_212 rfl d_MM_cut_76 (Nat.le_of_ble_eq_true rfl) (Ci.mono h (fun x97 M96 h => ?_))
    obtain ⟨h98, hOM96, h⟩ := h
    refine wm_if_ne (tgt := 92) d_MM_cut_79 rfl h98 (fun c100 => ?_) (fun c100 => ?_)
    · replace h := h.2 c100
      refine wm_iinc d_MM_cut_92 (by decide) rfl (L' := [vr a0, vi l1, vd, vi (l3 + 1), vd, vd]) rfl ?_
      refine wm_goto (tgt := 60) d_MM_cut_95 rfl ?_
      exact h
    · replace c100 := Classical.not_not.mp c100
      replace h := h.1 c100
      obtain ⟨h101, h⟩ := h
      refine wm_aload_n d_MM_cut_82 rfl rfl ?_
      refine wm_iload_n d_MM_cut_83 rfl rfl ?_
      refine cf_MM_159 rfl d_MM_cut_84 h101 (Nat.le_of_ble_eq_true rfl) (Ci.mono h (fun x103 M102 h => ?_))
      obtain ⟨h104, hOM102, h⟩ := h
      refine wm_bipush d_MM_cut_87 (by decide) ?_
      refine wm_icmp_ne (tgt := 98) d_MM_cut_89 rfl h104 ⟨by decide, by decide⟩ (fun c108 => ?_) (fun c108 => ?_)
      · replace h := h.2 c108
        obtain ⟨h111, h⟩ := h
        refine wm_iload_n d_MM_cut_98 rfl rfl ?_
        refine wm_iload_n d_MM_cut_99 rfl rfl ?_
        refine wm_isub d_MM_cut_100 ?_
        refine wm_bipush d_MM_cut_101 (by decide) ?_
        refine wm_icmp_le (tgt := 111) d_MM_cut_103 rfl h111 ⟨by decide, by decide⟩ (fun c112 => ?_) (fun c112 => ?_)
        · replace h := h.1 c112
          obtain ⟨h113, h⟩ := h
          refine wm_aload_n d_MM_cut_111 rfl rfl ?_
          refine wm_iload_n d_MM_cut_112 rfl rfl ?_
          refine wm_iload_n d_MM_cut_113 rfl rfl ?_
          refine cf_MM_215 rfl d_MM_cut_114 h113 (Nat.le_of_ble_eq_true rfl) (Ci.mono h (fun x115 M114 h => ?_))
          obtain ⟨h116, hOM114, h⟩ := h
          exact h
        · replace h := h.2 c112
          refine wm_bipush d_MM_cut_106 (by decide) ?_
          refine wm_goto (tgt := 117) d_MM_cut_108 rfl ?_
          exact h
      · replace c108 := Classical.not_not.mp c108
        replace h := h.1 c108
        refine wm_iinc d_MM_cut_92 (by decide) rfl (L' := [vr a0, vi l1, vd, vi (l3 + 1), vd, vd]) rfl ?_
        refine wm_goto (tgt := 60) d_MM_cut_95 rfl ?_
        exact h
theorem k_MM_cut_117 {G : mG} {d : Nat} {a0 : Nat} {l1 : Int} {l3 : Int} {k0 : Int} {M : mM} {Q : mM → Prop} (hO : mOk M) (hi_l1 : i32 l1) (hi_l3 : i32 l3) (hi_k0 : i32 k0)
    (h : mK M a0 = 14 ∧ Cv G y_MM_word0 d [vr a0, vi k0, vi l1, vi l3] M (fun M118 => mOk M118 ∧ (∀ v122 : Int, v122 = (if (k0 = 39) then 0 else 1) → mK M118 a0 = 14 ∧ Ci G y_MM_skip d [vr a0, vi l3] M118 (fun x129 M128 => i32 x129 ∧ mOk M128 ∧ (h_MM_cut_32 G d a0 x129 v122 M128 Q))))) :
    h_MM_cut_117 G d a0 l1 l3 k0 M Q := by
  unfold h_MM_cut_117
  obtain ⟨h117, h⟩ := h
  refine wm_istore d_MM_cut_117 (by decide) (L' := [vr a0, vi l1, vd, vi l3, vi k0, vd]) rfl ?_
  refine wm_goto (tgt := 210) d_MM_cut_119 rfl ?_
  refine wm_aload_n d_MM_cut_210 rfl rfl ?_
  refine wm_iload d_MM_cut_211 rfl ?_
  refine wm_iload_n d_MM_cut_213 rfl rfl ?_
  refine wm_iload_n d_MM_cut_214 rfl rfl ?_
  refine cf_MM_222 rfl d_MM_cut_215 h117 (Nat.le_of_ble_eq_true rfl) (Cv.mono h (fun M118 h => ?_))
  obtain ⟨hOM118, h⟩ := h
  refine wm_iload d_MM_cut_218 rfl ?_
  refine wm_bipush d_MM_cut_220 (by decide) ?_
  have hJ : ∀ v122 : Int, v122 = (if (k0 = 39) then 0 else 1) → mWm G y_MM_cut (d + 1) 230 [vr a0, vd, vd, vi l3, vd, vd] [vi v122] M118 (fun r9 M9 => r9 = none ∧ Q M9) := by
    intro v122 e124
    have h := h v122 e124
    have h125 : i32 v122 := by rw [e124]; (repeat' split) <;> first | exact ⟨by decide, by decide⟩ | exact ⟨by decide, by decide⟩
    have h126 : (v122 = 0 ∨ v122 = 1) := by rw [e124]; (repeat' split) <;> decide
    obtain ⟨h127, h⟩ := h
    refine wm_istore_n d_MM_cut_230 rfl (by decide) (L' := [vr a0, vd, vi v122, vi l3, vd, vd]) rfl ?_
    refine wm_aload_n d_MM_cut_231 rfl rfl ?_
    refine wm_iload_n d_MM_cut_232 rfl rfl ?_
    refine cf_MM_206 rfl d_MM_cut_233 h127 (Nat.le_of_ble_eq_true rfl) (Ci.mono h (fun x129 M128 h => ?_))
    obtain ⟨h130, hOM128, h⟩ := h
    refine wm_istore_n d_MM_cut_236 rfl (by decide) (L' := [vr a0, vi x129, vi v122, vi l3, vd, vd]) rfl ?_
    refine wm_goto (tgt := 32) d_MM_cut_237 rfl ?_
    refine wm_less (L' := [vr a0, vi x129, vi v122, vd, vd, vd]) ⟨Or.inr rfl, Or.inr rfl, Or.inr rfl, Or.inl rfl, Or.inl rfl, Or.inl rfl, trivial⟩ ?_
    exact h
  clear h
  refine wm_icmp_eq (tgt := 229) d_MM_cut_222 rfl hi_k0 ⟨by decide, by decide⟩ (fun c121 => ?_) (fun c121 => ?_)
  · refine wm_iconst d_MM_cut_229 ?_
    refine wm_less (L' := [vr a0, vd, vd, vi l3, vd, vd]) ⟨Or.inr rfl, Or.inl rfl, Or.inl rfl, Or.inr rfl, Or.inl rfl, Or.inl rfl, trivial⟩ ?_
    exact hJ 0 (if_pos c121).symm
  · refine wm_iconst d_MM_cut_225 ?_
    refine wm_goto (tgt := 230) d_MM_cut_226 rfl ?_
    refine wm_less (L' := [vr a0, vd, vd, vi l3, vd, vd]) ⟨Or.inr rfl, Or.inl rfl, Or.inl rfl, Or.inr rfl, Or.inl rfl, Or.inl rfl, trivial⟩ ?_
    exact hJ 1 (if_neg c121).symm
theorem k_MM_cut_133 {G : mG} {d : Nat} {a0 : Nat} {l1 : Int} {l3 : Int} {M : mM} {Q : mM → Prop} (hO : mOk M) (hi_l1 : i32 l1) (hi_l3 : i32 l3)
    (h : mK M a0 = 14 ∧ Ci G y_MM_letter d [vr a0, vi l3] M (fun x134 M133 => i32 x134 ∧ mOk M133 ∧ (Ci G y_MM_isDigit d [vi x134] M133 (fun x137 M136 => i32 x137 ∧ mOk M136 ∧ (((x137 = 0) → (i32 (l3 - l1) ∧ ∀ v145 : Int, v145 = (if (l3 - l1 ≤ 9) then 2 else 39) → mK M136 a0 = 14 ∧ Cv G y_MM_word0 d [vr a0, vi v145, vi l1, vi l3] M136 (fun M150 => mOk M150 ∧ (∀ v154 : Int, v154 = (if (v145 = 39) then 0 else 1) → mK M150 a0 = 14 ∧ Ci G y_MM_skip d [vr a0, vi l3] M150 (fun x161 M160 => i32 x161 ∧ mOk M160 ∧ (h_MM_cut_32 G d a0 x161 v154 M160 Q)))))) ∧ (¬ (x137 = 0) → (h_MM_cut_133 G d a0 l1 (l3 + 1) M136 Q))))))) :
    h_MM_cut_133 G d a0 l1 l3 M Q := by
  unfold h_MM_cut_133
  obtain ⟨h132, h⟩ := h
  refine wm_aload_n d_MM_cut_133 rfl rfl ?_
  refine wm_iload_n d_MM_cut_134 rfl rfl ?_
  refine cf_MM_159 rfl d_MM_cut_135 h132 (Nat.le_of_ble_eq_true rfl) (Ci.mono h (fun x134 M133 h => ?_))
  obtain ⟨h135, hOM133, h⟩ := h
  refine cf_MM_212 rfl d_MM_cut_138 (Nat.le_of_ble_eq_true rfl) (Ci.mono h (fun x137 M136 h => ?_))
  obtain ⟨h138, hOM136, h⟩ := h
  refine wm_if_eq (tgt := 150) d_MM_cut_141 rfl h138 (fun c142 => ?_) (fun c142 => ?_)
  · replace h := h.1 c142
    obtain ⟨h143, h⟩ := h
    refine wm_iload_n d_MM_cut_150 rfl rfl ?_
    refine wm_iload_n d_MM_cut_151 rfl rfl ?_
    refine wm_isub d_MM_cut_152 ?_
    refine wm_bipush d_MM_cut_153 (by decide) ?_
    have hJ : ∀ v145 : Int, v145 = (if (l3 - l1 ≤ 9) then 2 else 39) → mWm G y_MM_cut (d + 1) 164 [vr a0, vi l1, vd, vi l3, vd, vd] [vi v145] M136 (fun r9 M9 => r9 = none ∧ Q M9) := by
      intro v145 e147
      have h := h v145 e147
      have h148 : i32 v145 := by rw [e147]; (repeat' split) <;> first | exact ⟨by decide, by decide⟩ | exact ⟨by decide, by decide⟩
      obtain ⟨h149, h⟩ := h
      refine wm_istore d_MM_cut_164 (by decide) (L' := [vr a0, vi l1, vd, vi l3, vi v145, vd]) rfl ?_
      refine wm_goto (tgt := 210) d_MM_cut_166 rfl ?_
      refine wm_aload_n d_MM_cut_210 rfl rfl ?_
      refine wm_iload d_MM_cut_211 rfl ?_
      refine wm_iload_n d_MM_cut_213 rfl rfl ?_
      refine wm_iload_n d_MM_cut_214 rfl rfl ?_
      refine cf_MM_222 rfl d_MM_cut_215 h149 (Nat.le_of_ble_eq_true rfl) (Cv.mono h (fun M150 h => ?_))
      obtain ⟨hOM150, h⟩ := h
      refine wm_iload d_MM_cut_218 rfl ?_
      refine wm_bipush d_MM_cut_220 (by decide) ?_
      have hJ : ∀ v154 : Int, v154 = (if (v145 = 39) then 0 else 1) → mWm G y_MM_cut (d + 1) 230 [vr a0, vd, vd, vi l3, vd, vd] [vi v154] M150 (fun r9 M9 => r9 = none ∧ Q M9) := by
        intro v154 e156
        have h := h v154 e156
        have h157 : i32 v154 := by rw [e156]; (repeat' split) <;> first | exact ⟨by decide, by decide⟩ | exact ⟨by decide, by decide⟩
        have h158 : (v154 = 0 ∨ v154 = 1) := by rw [e156]; (repeat' split) <;> decide
        obtain ⟨h159, h⟩ := h
        refine wm_istore_n d_MM_cut_230 rfl (by decide) (L' := [vr a0, vd, vi v154, vi l3, vd, vd]) rfl ?_
        refine wm_aload_n d_MM_cut_231 rfl rfl ?_
        refine wm_iload_n d_MM_cut_232 rfl rfl ?_
        refine cf_MM_206 rfl d_MM_cut_233 h159 (Nat.le_of_ble_eq_true rfl) (Ci.mono h (fun x161 M160 h => ?_))
        obtain ⟨h162, hOM160, h⟩ := h
        refine wm_istore_n d_MM_cut_236 rfl (by decide) (L' := [vr a0, vi x161, vi v154, vi l3, vd, vd]) rfl ?_
        refine wm_goto (tgt := 32) d_MM_cut_237 rfl ?_
        refine wm_less (L' := [vr a0, vi x161, vi v154, vd, vd, vd]) ⟨Or.inr rfl, Or.inr rfl, Or.inr rfl, Or.inl rfl, Or.inl rfl, Or.inl rfl, trivial⟩ ?_
        exact h
      clear h
      refine wm_icmp_eq (tgt := 229) d_MM_cut_222 rfl h148 ⟨by decide, by decide⟩ (fun c153 => ?_) (fun c153 => ?_)
      · refine wm_iconst d_MM_cut_229 ?_
        refine wm_less (L' := [vr a0, vd, vd, vi l3, vd, vd]) ⟨Or.inr rfl, Or.inl rfl, Or.inl rfl, Or.inr rfl, Or.inl rfl, Or.inl rfl, trivial⟩ ?_
        exact hJ 0 (if_pos c153).symm
      · refine wm_iconst d_MM_cut_225 ?_
        refine wm_goto (tgt := 230) d_MM_cut_226 rfl ?_
        refine wm_less (L' := [vr a0, vd, vd, vi l3, vd, vd]) ⟨Or.inr rfl, Or.inl rfl, Or.inl rfl, Or.inr rfl, Or.inl rfl, Or.inl rfl, trivial⟩ ?_
        exact hJ 1 (if_neg c153).symm
    clear h
    refine wm_icmp_le (tgt := 163) d_MM_cut_155 rfl h143 ⟨by decide, by decide⟩ (fun c144 => ?_) (fun c144 => ?_)
    · refine wm_iconst d_MM_cut_163 ?_
      exact hJ 2 (if_pos c144).symm
    · refine wm_bipush d_MM_cut_158 (by decide) ?_
      refine wm_goto (tgt := 164) d_MM_cut_160 rfl ?_
      exact hJ 39 (if_neg c144).symm
  · replace h := h.2 c142
    refine wm_iinc d_MM_cut_144 (by decide) rfl (L' := [vr a0, vi l1, vd, vi (l3 + 1), vd, vd]) rfl ?_
    refine wm_goto (tgt := 133) d_MM_cut_147 rfl ?_
    exact h
theorem k_MM_cut_263 {G : mG} {d : Nat} {M : mM} {Q : mM → Prop} (hO : mOk M)
    (h : Q M) :
    h_MM_cut_263 G d  M Q := by
  unfold h_MM_cut_263
  refine wm_return d_MM_cut_263 rfl ?_
  exact ⟨rfl, h⟩
theorem d_MM_want_0 : decode y_MM_want.2.1 0 = .ok (.aload_n 0, 1) := by decide +kernel
theorem d_MM_want_1 : decode y_MM_want.2.1 1 = .ok (.getfield 28, 3) := by decide +kernel
theorem d_MM_want_4 : decode y_MM_want.2.1 4 = .ok (.iload_n 3, 1) := by decide +kernel
theorem d_MM_want_5 : decode y_MM_want.2.1 5 = .ok (.invokevirtual 152, 3) := by decide +kernel
theorem d_MM_want_8 : decode y_MM_want.2.1 8 = .ok (.aload_n 0, 1) := by decide +kernel
theorem d_MM_want_9 : decode y_MM_want.2.1 9 = .ok (.getfield 28, 3) := by decide +kernel
theorem d_MM_want_12 : decode y_MM_want.2.1 12 = .ok (.iload_n 2, 1) := by decide +kernel
theorem d_MM_want_13 : decode y_MM_want.2.1 13 = .ok (.invokevirtual 152, 3) := by decide +kernel
theorem d_MM_want_16 : decode y_MM_want.2.1 16 = .ok (.aload_n 0, 1) := by decide +kernel
theorem d_MM_want_17 : decode y_MM_want.2.1 17 = .ok (.getfield 28, 3) := by decide +kernel
theorem d_MM_want_20 : decode y_MM_want.2.1 20 = .ok (.iload_n 1, 1) := by decide +kernel
theorem d_MM_want_21 : decode y_MM_want.2.1 21 = .ok (.invokevirtual 152, 3) := by decide +kernel
theorem d_MM_want_24 : decode y_MM_want.2.1 24 = .ok (.return_, 1) := by decide +kernel
theorem k_MM_want {G : mG} {d : Nat} {a0 : Nat} {l1 : Int} {l2 : Int} {l3 : Int} {M : mM} {Q : mM → Prop} (hO : mOk M) (hi_l1 : i32 l1) (hi_l2 : i32 l2) (hi_l3 : i32 l3)
    (h : mK M a0 = 14 ∧ mK M (mR M a0 6) = 15 ∧ Cv G y_MN_add d [vr (mR M a0 6), vi l3] M (fun M3 => mOk M3 ∧ (mK M3 a0 = 14 ∧ mK M3 (mR M3 a0 6) = 15 ∧ Cv G y_MN_add d [vr (mR M3 a0 6), vi l2] M3 (fun M8 => mOk M8 ∧ (mK M8 a0 = 14 ∧ mK M8 (mR M8 a0 6) = 15 ∧ Cv G y_MN_add d [vr (mR M8 a0 6), vi l1] M8 (fun M13 => mOk M13 ∧ (Q M13))))))) :
    Cv G y_MM_want (d + 1) [vr a0, vi l1, vi l2, vi l3] M Q := by
  refine wm_open (y := y_MM_want) rfl (Nat.le_of_ble_eq_true rfl) (L := [vr a0, vi l1, vi l2, vi l3]) rfl ?_
  obtain ⟨h1, h⟩ := h
  obtain ⟨h2, h⟩ := h
  refine wm_aload_n d_MM_want_0 rfl rfl ?_
  refine gf_MM_28 rfl d_MM_want_1 h1 ?_
  refine wm_iload_n d_MM_want_4 rfl rfl ?_
  refine cf_MM_152 rfl d_MM_want_5 h2 (Nat.le_of_ble_eq_true rfl) (Cv.mono h (fun M3 h => ?_))
  obtain ⟨hOM3, h⟩ := h
  obtain ⟨h6, h⟩ := h
  obtain ⟨h7, h⟩ := h
  refine wm_aload_n d_MM_want_8 rfl rfl ?_
  refine gf_MM_28 rfl d_MM_want_9 h6 ?_
  refine wm_iload_n d_MM_want_12 rfl rfl ?_
  refine cf_MM_152 rfl d_MM_want_13 h7 (Nat.le_of_ble_eq_true rfl) (Cv.mono h (fun M8 h => ?_))
  obtain ⟨hOM8, h⟩ := h
  obtain ⟨h11, h⟩ := h
  obtain ⟨h12, h⟩ := h
  refine wm_aload_n d_MM_want_16 rfl rfl ?_
  refine gf_MM_28 rfl d_MM_want_17 h11 ?_
  refine wm_iload_n d_MM_want_20 rfl rfl ?_
  refine cf_MM_152 rfl d_MM_want_21 h12 (Nat.le_of_ble_eq_true rfl) (Cv.mono h (fun M13 h => ?_))
  obtain ⟨hOM13, h⟩ := h
  refine wm_return d_MM_want_24 rfl ?_
  exact ⟨rfl, h⟩
theorem d_MM_level_0 : decode y_MM_level.2.1 0 = .ok (.aload_n 0, 1) := by decide +kernel
theorem d_MM_level_1 : decode y_MM_level.2.1 1 = .ok (.aload_n 0, 1) := by decide +kernel
theorem d_MM_level_2 : decode y_MM_level.2.1 2 = .ok (.getfield 226, 3) := by decide +kernel
theorem d_MM_level_5 : decode y_MM_level.2.1 5 = .ok (.iconst 1, 1) := by decide +kernel
theorem d_MM_level_6 : decode y_MM_level.2.1 6 = .ok (.iadd, 1) := by decide +kernel
theorem d_MM_level_7 : decode y_MM_level.2.1 7 = .ok (.putfield 226, 3) := by decide +kernel
theorem d_MM_level_10 : decode y_MM_level.2.1 10 = .ok (.aload_n 0, 1) := by decide +kernel
theorem d_MM_level_11 : decode y_MM_level.2.1 11 = .ok (.getfield 226, 3) := by decide +kernel
theorem d_MM_level_14 : decode y_MM_level.2.1 14 = .ok (.bipush 40, 2) := by decide +kernel
theorem d_MM_level_16 : decode y_MM_level.2.1 16 = .ok (.if_icmp .gt 7, 3) := by decide +kernel
theorem d_MM_level_23 : decode y_MM_level.2.1 23 = .ok (.iconst 0, 1) := by decide +kernel
theorem d_MM_level_19 : decode y_MM_level.2.1 19 = .ok (.iconst 1, 1) := by decide +kernel
theorem d_MM_level_20 : decode y_MM_level.2.1 20 = .ok (.goto 4, 3) := by decide +kernel
theorem d_MM_level_24 : decode y_MM_level.2.1 24 = .ok (.ireturn, 1) := by decide +kernel
theorem k_MM_level {G : mG} {d : Nat} {a0 : Nat} {M : mM} {Q : Int → mM → Prop} (hO : mOk M)
    (h : mK M a0 = 14 ∧ i32 ((mI M a0 7) + 1) ∧ ∀ M3, M3 = mUI M a0 7 ((mI M a0 7) + 1) → ∀ v6 : Int, v6 = (if (40 < mI M3 a0 7) then 0 else 1) → Q v6 M3) :
    Ci G y_MM_level d [vr a0] M Q := by
  refine wm_open (y := y_MM_level) rfl (Nat.le_of_ble_eq_true rfl) (L := [vr a0]) rfl ?_
  obtain ⟨h1, h⟩ := h
  obtain ⟨h2, h⟩ := h
  obtain ⟨M3, e4⟩ : ∃ M3, M3 = mUI M a0 7 ((mI M a0 7) + 1) := ⟨_, rfl⟩
  replace h := h M3 e4
  refine wm_aload_n d_MM_level_0 rfl rfl ?_
  refine wm_aload_n d_MM_level_1 rfl rfl ?_
  refine gf_MM_226 rfl d_MM_level_2 h1 ?_
  refine wm_iconst d_MM_level_5 ?_
  refine wm_iadd d_MM_level_6 ?_
  have hOM3 : mOk M3 := by rw [e4]; exact mOk_UI hO h2
  refine pf_MM_226 rfl d_MM_level_7 h1 h2 e4 ?_
  refine wm_aload_n d_MM_level_10 rfl rfl ?_
  refine gf_MM_226 rfl d_MM_level_11 (by rw [e4]; exact h1) ?_
  refine wm_bipush d_MM_level_14 (by decide) ?_
  have hJ : ∀ v6 : Int, v6 = (if (40 < mI M3 a0 7) then 0 else 1) → mWm G y_MM_level d 24 [vd] [vi v6] M3 (fun r9 M9 => ∃ x9, r9 = some (vi x9) ∧ Q x9 M9) := by
    intro v6 e8
    have h := h v6 e8
    have h9 : i32 v6 := by rw [e8]; (repeat' split) <;> first | exact ⟨by decide, by decide⟩ | exact ⟨by decide, by decide⟩
    have h10 : (v6 = 0 ∨ v6 = 1) := by rw [e8]; (repeat' split) <;> decide
    refine wm_ireturn d_MM_level_24 rfl (m_nb h10) ?_
    exact ⟨_, rfl, h⟩
  clear h
  refine wm_icmp_gt (tgt := 23) d_MM_level_16 rfl (hOM3 _ _).1 ⟨by decide, by decide⟩ (fun c5 => ?_) (fun c5 => ?_)
  · refine wm_iconst d_MM_level_23 ?_
    refine wm_less (L' := [vd]) ⟨Or.inl rfl, trivial⟩ ?_
    exact hJ 0 (if_pos c5).symm
  · refine wm_iconst d_MM_level_19 ?_
    refine wm_goto (tgt := 24) d_MM_level_20 rfl ?_
    refine wm_less (L' := [vd]) ⟨Or.inl rfl, trivial⟩ ?_
    exact hJ 1 (if_neg c5).symm
theorem d_MM_isComparison_0 : decode y_MM_isComparison.2.1 0 = .ok (.iload_n 0, 1) := by decide +kernel
theorem d_MM_isComparison_1 : decode y_MM_isComparison.2.1 1 = .ok (.bipush 23, 2) := by decide +kernel
theorem d_MM_isComparison_3 : decode y_MM_isComparison.2.1 3 = .ok (.if_icmp .eq 33, 3) := by decide +kernel
theorem d_MM_isComparison_36 : decode y_MM_isComparison.2.1 36 = .ok (.iconst 1, 1) := by decide +kernel
theorem d_MM_isComparison_37 : decode y_MM_isComparison.2.1 37 = .ok (.goto 4, 3) := by decide +kernel
theorem d_MM_isComparison_6 : decode y_MM_isComparison.2.1 6 = .ok (.iload_n 0, 1) := by decide +kernel
theorem d_MM_isComparison_7 : decode y_MM_isComparison.2.1 7 = .ok (.bipush 18, 2) := by decide +kernel
theorem d_MM_isComparison_9 : decode y_MM_isComparison.2.1 9 = .ok (.if_icmp .eq 27, 3) := by decide +kernel
theorem d_MM_isComparison_12 : decode y_MM_isComparison.2.1 12 = .ok (.iload_n 0, 1) := by decide +kernel
theorem d_MM_isComparison_13 : decode y_MM_isComparison.2.1 13 = .ok (.bipush 21, 2) := by decide +kernel
theorem d_MM_isComparison_15 : decode y_MM_isComparison.2.1 15 = .ok (.if_icmp .eq 21, 3) := by decide +kernel
theorem d_MM_isComparison_18 : decode y_MM_isComparison.2.1 18 = .ok (.iload_n 0, 1) := by decide +kernel
theorem d_MM_isComparison_19 : decode y_MM_isComparison.2.1 19 = .ok (.bipush 19, 2) := by decide +kernel
theorem d_MM_isComparison_21 : decode y_MM_isComparison.2.1 21 = .ok (.if_icmp .eq 15, 3) := by decide +kernel
theorem d_MM_isComparison_24 : decode y_MM_isComparison.2.1 24 = .ok (.iload_n 0, 1) := by decide +kernel
theorem d_MM_isComparison_25 : decode y_MM_isComparison.2.1 25 = .ok (.bipush 22, 2) := by decide +kernel
theorem d_MM_isComparison_27 : decode y_MM_isComparison.2.1 27 = .ok (.if_icmp .eq 9, 3) := by decide +kernel
theorem d_MM_isComparison_30 : decode y_MM_isComparison.2.1 30 = .ok (.iload_n 0, 1) := by decide +kernel
theorem d_MM_isComparison_31 : decode y_MM_isComparison.2.1 31 = .ok (.bipush 20, 2) := by decide +kernel
theorem d_MM_isComparison_33 : decode y_MM_isComparison.2.1 33 = .ok (.if_icmp .ne 7, 3) := by decide +kernel
theorem d_MM_isComparison_40 : decode y_MM_isComparison.2.1 40 = .ok (.iconst 0, 1) := by decide +kernel
theorem d_MM_isComparison_41 : decode y_MM_isComparison.2.1 41 = .ok (.ireturn, 1) := by decide +kernel
theorem k_MM_isComparison {G : mG} {d : Nat} {l0 : Int} {M : mM} {Q : Int → mM → Prop} (hO : mOk M) (hi_l0 : i32 l0)
    (h : ∀ v7 : Int, v7 = (if ((l0 = 23) ∨ ((l0 = 18) ∨ ((l0 = 21) ∨ ((l0 = 19) ∨ ((l0 = 22) ∨ (l0 = 20)))))) then 1 else 0) → Q v7 M) :
    Ci G y_MM_isComparison d [vi l0] M Q := by
  refine wm_open (y := y_MM_isComparison) rfl (Nat.le_of_ble_eq_true rfl) (L := [vi l0]) rfl ?_
  refine wm_iload_n d_MM_isComparison_0 rfl rfl ?_
  refine wm_bipush d_MM_isComparison_1 (by decide) ?_
  have hJ : ∀ v7 : Int, v7 = (if ((l0 = 23) ∨ ((l0 = 18) ∨ ((l0 = 21) ∨ ((l0 = 19) ∨ ((l0 = 22) ∨ (l0 = 20)))))) then 1 else 0) → mWm G y_MM_isComparison d 41 [vd] [vi v7] M (fun r9 M9 => ∃ x9, r9 = some (vi x9) ∧ Q x9 M9) := by
    intro v7 e9
    have h := h v7 e9
    have h10 : i32 v7 := by rw [e9]; (repeat' split) <;> first | exact ⟨by decide, by decide⟩ | exact ⟨by decide, by decide⟩
    have h11 : (v7 = 0 ∨ v7 = 1) := by rw [e9]; (repeat' split) <;> decide
    refine wm_ireturn d_MM_isComparison_41 rfl (m_nb h11) ?_
    exact ⟨_, rfl, h⟩
  clear h
  refine wm_icmp_eq (tgt := 36) d_MM_isComparison_3 rfl hi_l0 ⟨by decide, by decide⟩ (fun c1 => ?_) (fun c1 => ?_)
  · refine wm_iconst d_MM_isComparison_36 ?_
    refine wm_goto (tgt := 41) d_MM_isComparison_37 rfl ?_
    refine wm_less (L' := [vd]) ⟨Or.inl rfl, trivial⟩ ?_
    exact hJ 1 (if_pos (Or.inl c1)).symm
  · refine wm_iload_n d_MM_isComparison_6 rfl rfl ?_
    refine wm_bipush d_MM_isComparison_7 (by decide) ?_
    refine wm_icmp_eq (tgt := 36) d_MM_isComparison_9 rfl hi_l0 ⟨by decide, by decide⟩ (fun c2 => ?_) (fun c2 => ?_)
    · refine wm_iconst d_MM_isComparison_36 ?_
      refine wm_goto (tgt := 41) d_MM_isComparison_37 rfl ?_
      refine wm_less (L' := [vd]) ⟨Or.inl rfl, trivial⟩ ?_
      exact hJ 1 (if_pos (Or.inr (Or.inl c2))).symm
    · refine wm_iload_n d_MM_isComparison_12 rfl rfl ?_
      refine wm_bipush d_MM_isComparison_13 (by decide) ?_
      refine wm_icmp_eq (tgt := 36) d_MM_isComparison_15 rfl hi_l0 ⟨by decide, by decide⟩ (fun c3 => ?_) (fun c3 => ?_)
      · refine wm_iconst d_MM_isComparison_36 ?_
        refine wm_goto (tgt := 41) d_MM_isComparison_37 rfl ?_
        refine wm_less (L' := [vd]) ⟨Or.inl rfl, trivial⟩ ?_
        exact hJ 1 (if_pos (Or.inr (Or.inr (Or.inl c3)))).symm
      · refine wm_iload_n d_MM_isComparison_18 rfl rfl ?_
        refine wm_bipush d_MM_isComparison_19 (by decide) ?_
        refine wm_icmp_eq (tgt := 36) d_MM_isComparison_21 rfl hi_l0 ⟨by decide, by decide⟩ (fun c4 => ?_) (fun c4 => ?_)
        · refine wm_iconst d_MM_isComparison_36 ?_
          refine wm_goto (tgt := 41) d_MM_isComparison_37 rfl ?_
          refine wm_less (L' := [vd]) ⟨Or.inl rfl, trivial⟩ ?_
          exact hJ 1 (if_pos (Or.inr (Or.inr (Or.inr (Or.inl c4))))).symm
        · refine wm_iload_n d_MM_isComparison_24 rfl rfl ?_
          refine wm_bipush d_MM_isComparison_25 (by decide) ?_
          refine wm_icmp_eq (tgt := 36) d_MM_isComparison_27 rfl hi_l0 ⟨by decide, by decide⟩ (fun c5 => ?_) (fun c5 => ?_)
          · refine wm_iconst d_MM_isComparison_36 ?_
            refine wm_goto (tgt := 41) d_MM_isComparison_37 rfl ?_
            refine wm_less (L' := [vd]) ⟨Or.inl rfl, trivial⟩ ?_
            exact hJ 1 (if_pos (Or.inr (Or.inr (Or.inr (Or.inr (Or.inl c5)))))).symm
          · refine wm_iload_n d_MM_isComparison_30 rfl rfl ?_
            refine wm_bipush d_MM_isComparison_31 (by decide) ?_
            refine wm_icmp_ne (tgt := 40) d_MM_isComparison_33 rfl hi_l0 ⟨by decide, by decide⟩ (fun c6 => ?_) (fun c6 => ?_)
            · refine wm_iconst d_MM_isComparison_40 ?_
              refine wm_less (L' := [vd]) ⟨Or.inl rfl, trivial⟩ ?_
              exact hJ 0 (if_neg (fun z12 => Or.elim z12 c1 (fun z13 => Or.elim z13 c2 (fun z14 => Or.elim z14 c3 (fun z15 => Or.elim z15 c4 (fun z16 => Or.elim z16 c5 c6)))))).symm
            · replace c6 := Classical.not_not.mp c6
              refine wm_iconst d_MM_isComparison_36 ?_
              refine wm_goto (tgt := 41) d_MM_isComparison_37 rfl ?_
              refine wm_less (L' := [vd]) ⟨Or.inl rfl, trivial⟩ ?_
              exact hJ 1 (if_pos (Or.inr (Or.inr (Or.inr (Or.inr (Or.inr c6)))))).symm
theorem d_MM_readText_0 : decode y_MM_readText.2.1 0 = .ok (.aload_n 0, 1) := by decide +kernel
theorem d_MM_readText_1 : decode y_MM_readText.2.1 1 = .ok (.getfield 28, 3) := by decide +kernel
theorem d_MM_readText_4 : decode y_MM_readText.2.1 4 = .ok (.iconst 0, 1) := by decide +kernel
theorem d_MM_readText_5 : decode y_MM_readText.2.1 5 = .ok (.putfield 145, 3) := by decide +kernel
theorem d_MM_readText_8 : decode y_MM_readText.2.1 8 = .ok (.aload_n 0, 1) := by decide +kernel
theorem d_MM_readText_9 : decode y_MM_readText.2.1 9 = .ok (.iconst 0, 1) := by decide +kernel
theorem d_MM_readText_10 : decode y_MM_readText.2.1 10 = .ok (.putfield 226, 3) := by decide +kernel
theorem d_MM_readText_13 : decode y_MM_readText.2.1 13 = .ok (.aload_n 0, 1) := by decide +kernel
theorem d_MM_readText_14 : decode y_MM_readText.2.1 14 = .ok (.iconst (-1), 1) := by decide +kernel
theorem d_MM_readText_15 : decode y_MM_readText.2.1 15 = .ok (.putfield 229, 3) := by decide +kernel
theorem d_MM_readText_18 : decode y_MM_readText.2.1 18 = .ok (.aload_n 0, 1) := by decide +kernel
theorem d_MM_readText_19 : decode y_MM_readText.2.1 19 = .ok (.getfield 28, 3) := by decide +kernel
theorem d_MM_readText_22 : decode y_MM_readText.2.1 22 = .ok (.bipush 50, 2) := by decide +kernel
theorem d_MM_readText_24 : decode y_MM_readText.2.1 24 = .ok (.invokevirtual 152, 3) := by decide +kernel
theorem d_MM_readText_27 : decode y_MM_readText.2.1 27 = .ok (.iconst 0, 1) := by decide +kernel
theorem d_MM_readText_28 : decode y_MM_readText.2.1 28 = .ok (.istore_n 1, 1) := by decide +kernel
theorem d_MM_readText_29 : decode y_MM_readText.2.1 29 = .ok (.aload_n 0, 1) := by decide +kernel
theorem d_MM_readText_30 : decode y_MM_readText.2.1 30 = .ok (.getfield 229, 3) := by decide +kernel
theorem d_MM_readText_33 : decode y_MM_readText.2.1 33 = .ok (.ifCond .ge 128, 3) := by decide +kernel
theorem d_MM_readText_36 : decode y_MM_readText.2.1 36 = .ok (.aload_n 0, 1) := by decide +kernel
theorem d_MM_readText_37 : decode y_MM_readText.2.1 37 = .ok (.getfield 28, 3) := by decide +kernel
theorem d_MM_readText_40 : decode y_MM_readText.2.1 40 = .ok (.getfield 145, 3) := by decide +kernel
theorem d_MM_readText_43 : decode y_MM_readText.2.1 43 = .ok (.ifCond .le 118, 3) := by decide +kernel
theorem d_MM_readText_46 : decode y_MM_readText.2.1 46 = .ok (.aload_n 0, 1) := by decide +kernel
theorem d_MM_readText_47 : decode y_MM_readText.2.1 47 = .ok (.getfield 28, 3) := by decide +kernel
theorem d_MM_readText_161 : decode y_MM_readText.2.1 161 = .ok (.aload_n 0, 1) := by decide +kernel
theorem d_MM_readText_162 : decode y_MM_readText.2.1 162 = .ok (.getfield 229, 3) := by decide +kernel
theorem d_MM_readText_165 : decode y_MM_readText.2.1 165 = .ok (.ifCond .ge 7, 3) := by decide +kernel
theorem d_MM_readText_172 : decode y_MM_readText.2.1 172 = .ok (.iconst 0, 1) := by decide +kernel
theorem d_MM_readText_168 : decode y_MM_readText.2.1 168 = .ok (.iconst 1, 1) := by decide +kernel
theorem d_MM_readText_169 : decode y_MM_readText.2.1 169 = .ok (.goto 4, 3) := by decide +kernel
theorem d_MM_readText_173 : decode y_MM_readText.2.1 173 = .ok (.ireturn, 1) := by decide +kernel
theorem d_MM_readText_50 : decode y_MM_readText.2.1 50 = .ok (.invokevirtual 232, 3) := by decide +kernel
theorem d_MM_readText_53 : decode y_MM_readText.2.1 53 = .ok (.istore_n 2, 1) := by decide +kernel
theorem d_MM_readText_54 : decode y_MM_readText.2.1 54 = .ok (.aload_n 0, 1) := by decide +kernel
theorem d_MM_readText_55 : decode y_MM_readText.2.1 55 = .ok (.getfield 19, 3) := by decide +kernel
theorem d_MM_readText_58 : decode y_MM_readText.2.1 58 = .ok (.iload_n 1, 1) := by decide +kernel
theorem d_MM_readText_59 : decode y_MM_readText.2.1 59 = .ok (.invokevirtual 155, 3) := by decide +kernel
theorem d_MM_readText_62 : decode y_MM_readText.2.1 62 = .ok (.istore_n 3, 1) := by decide +kernel
theorem d_MM_readText_63 : decode y_MM_readText.2.1 63 = .ok (.iload_n 2, 1) := by decide +kernel
theorem d_MM_readText_64 : decode y_MM_readText.2.1 64 = .ok (.bipush 75, 2) := by decide +kernel
theorem d_MM_readText_66 : decode y_MM_readText.2.1 66 = .ok (.if_icmp .ne 16, 3) := by decide +kernel
theorem d_MM_readText_69 : decode y_MM_readText.2.1 69 = .ok (.aload_n 0, 1) := by decide +kernel
theorem d_MM_readText_70 : decode y_MM_readText.2.1 70 = .ok (.aload_n 0, 1) := by decide +kernel
theorem d_MM_readText_71 : decode y_MM_readText.2.1 71 = .ok (.getfield 226, 3) := by decide +kernel
theorem d_MM_readText_74 : decode y_MM_readText.2.1 74 = .ok (.iconst 1, 1) := by decide +kernel
theorem d_MM_readText_75 : decode y_MM_readText.2.1 75 = .ok (.isub, 1) := by decide +kernel
theorem d_MM_readText_76 : decode y_MM_readText.2.1 76 = .ok (.putfield 226, 3) := by decide +kernel
theorem d_MM_readText_79 : decode y_MM_readText.2.1 79 = .ok (.goto 79, 3) := by decide +kernel
theorem d_MM_readText_158 : decode y_MM_readText.2.1 158 = .ok (.goto (-129), 3) := by decide +kernel
theorem d_MM_readText_82 : decode y_MM_readText.2.1 82 = .ok (.iload_n 2, 1) := by decide +kernel
theorem d_MM_readText_83 : decode y_MM_readText.2.1 83 = .ok (.bipush 50, 2) := by decide +kernel
theorem d_MM_readText_85 : decode y_MM_readText.2.1 85 = .ok (.if_icmp .ge 23, 3) := by decide +kernel
theorem d_MM_readText_108 : decode y_MM_readText.2.1 108 = .ok (.iload_n 2, 1) := by decide +kernel
theorem d_MM_readText_109 : decode y_MM_readText.2.1 109 = .ok (.bipush 61, 2) := by decide +kernel
theorem d_MM_readText_88 : decode y_MM_readText.2.1 88 = .ok (.aload_n 0, 1) := by decide +kernel
theorem d_MM_readText_89 : decode y_MM_readText.2.1 89 = .ok (.iload_n 2, 1) := by decide +kernel
theorem d_MM_readText_90 : decode y_MM_readText.2.1 90 = .ok (.iload_n 3, 1) := by decide +kernel
theorem d_MM_readText_111 : decode y_MM_readText.2.1 111 = .ok (.if_icmp .ge 12, 3) := by decide +kernel
theorem d_MM_readText_123 : decode y_MM_readText.2.1 123 = .ok (.aload_n 0, 1) := by decide +kernel
theorem d_MM_readText_124 : decode y_MM_readText.2.1 124 = .ok (.iload_n 2, 1) := by decide +kernel
theorem d_MM_readText_125 : decode y_MM_readText.2.1 125 = .ok (.iload_n 3, 1) := by decide +kernel
theorem d_MM_readText_114 : decode y_MM_readText.2.1 114 = .ok (.aload_n 0, 1) := by decide +kernel
theorem d_MM_readText_115 : decode y_MM_readText.2.1 115 = .ok (.iload_n 2, 1) := by decide +kernel
theorem d_MM_readText_116 : decode y_MM_readText.2.1 116 = .ok (.iload_n 3, 1) := by decide +kernel
theorem d_MM_readText_126 : decode y_MM_readText.2.1 126 = .ok (.invokevirtual 238, 3) := by decide +kernel
theorem d_MM_readText_117 : decode y_MM_readText.2.1 117 = .ok (.invokevirtual 235, 3) := by decide +kernel
theorem d_MM_readText_120 : decode y_MM_readText.2.1 120 = .ok (.goto 9, 3) := by decide +kernel
theorem d_MM_readText_91 : decode y_MM_readText.2.1 91 = .ok (.if_icmp .ne 7, 3) := by decide +kernel
theorem d_MM_readText_94 : decode y_MM_readText.2.1 94 = .ok (.iconst (-1), 1) := by decide +kernel
theorem d_MM_readText_95 : decode y_MM_readText.2.1 95 = .ok (.goto 4, 3) := by decide +kernel
theorem d_MM_readText_98 : decode y_MM_readText.2.1 98 = .ok (.iload_n 1, 1) := by decide +kernel
theorem d_MM_readText_99 : decode y_MM_readText.2.1 99 = .ok (.putfield 229, 3) := by decide +kernel
theorem d_MM_readText_102 : decode y_MM_readText.2.1 102 = .ok (.iinc 1 1, 3) := by decide +kernel
theorem d_MM_readText_105 : decode y_MM_readText.2.1 105 = .ok (.goto 53, 3) := by decide +kernel
theorem d_MM_readText_129 : decode y_MM_readText.2.1 129 = .ok (.istore 4, 2) := by decide +kernel
theorem d_MM_readText_131 : decode y_MM_readText.2.1 131 = .ok (.aload_n 0, 1) := by decide +kernel
theorem d_MM_readText_132 : decode y_MM_readText.2.1 132 = .ok (.iload 4, 2) := by decide +kernel
theorem d_MM_readText_134 : decode y_MM_readText.2.1 134 = .ok (.ifCond .ge 7, 3) := by decide +kernel
theorem d_MM_readText_141 : decode y_MM_readText.2.1 141 = .ok (.iconst (-1), 1) := by decide +kernel
theorem d_MM_readText_137 : decode y_MM_readText.2.1 137 = .ok (.iload_n 1, 1) := by decide +kernel
theorem d_MM_readText_138 : decode y_MM_readText.2.1 138 = .ok (.goto 4, 3) := by decide +kernel
theorem d_MM_readText_142 : decode y_MM_readText.2.1 142 = .ok (.putfield 229, 3) := by decide +kernel
theorem d_MM_readText_145 : decode y_MM_readText.2.1 145 = .ok (.iload 4, 2) := by decide +kernel
theorem d_MM_readText_147 : decode y_MM_readText.2.1 147 = .ok (.ifCond .le 9, 3) := by decide +kernel
theorem d_MM_readText_156 : decode y_MM_readText.2.1 156 = .ok (.iload_n 1, 1) := by decide +kernel
theorem d_MM_readText_150 : decode y_MM_readText.2.1 150 = .ok (.iload_n 1, 1) := by decide +kernel
theorem d_MM_readText_151 : decode y_MM_readText.2.1 151 = .ok (.iconst 1, 1) := by decide +kernel
theorem d_MM_readText_152 : decode y_MM_readText.2.1 152 = .ok (.iadd, 1) := by decide +kernel
theorem d_MM_readText_153 : decode y_MM_readText.2.1 153 = .ok (.goto 4, 3) := by decide +kernel
theorem d_MM_readText_157 : decode y_MM_readText.2.1 157 = .ok (.istore_n 1, 1) := by decide +kernel
def h_MM_readText_29 (G : mG) (d : Nat) (a0 : Nat) (l1 : Int) (M : mM) (Q : Int → mM → Prop) : Prop := mWm G y_MM_readText (d + 1) 29 [vr a0, vi l1, vd, vd, vd] [] M (fun r9 M9 => ∃ x9, r9 = some (vi x9) ∧ Q x9 M9)
def h_MM_readText_129 (G : mG) (d : Nat) (a0 : Nat) (l1 : Int) (k0 : Int) (M : mM) (Q : Int → mM → Prop) : Prop := mWm G y_MM_readText (d + 1) 129 [vr a0, vi l1, vd, vd, vd] [vi k0] M (fun r9 M9 => ∃ x9, r9 = some (vi x9) ∧ Q x9 M9)
theorem k_MM_readText {G : mG} {d : Nat} {a0 : Nat} {M : mM} {Q : Int → mM → Prop} (hO : mOk M)
    (h : mK M a0 = 14 ∧ mK M (mR M a0 6) = 15 ∧ ∀ M3, M3 = mUI M (mR M a0 6) 1 0 → ∀ M5, M5 = mUI M3 a0 7 0 → ∀ M7, M7 = mUI M5 a0 8 (-1) → mK M7 (mR M7 a0 6) = 15 ∧ Cv G y_MN_add d [vr (mR M7 a0 6), vi 50] M7 (fun M10 => mOk M10 ∧ (h_MM_readText_29 G d a0 0 M10 Q))) :
    Ci G y_MM_readText (d + 1) [vr a0] M Q := by
  refine wm_open (y := y_MM_readText) rfl (Nat.le_of_ble_eq_true rfl) (L := [vr a0, vd, vd, vd, vd]) rfl ?_
  obtain ⟨h1, h⟩ := h
  obtain ⟨h2, h⟩ := h
  obtain ⟨M3, e4⟩ : ∃ M3, M3 = mUI M (mR M a0 6) 1 0 := ⟨_, rfl⟩
  replace h := h M3 e4
  obtain ⟨M5, e6⟩ : ∃ M5, M5 = mUI M3 a0 7 0 := ⟨_, rfl⟩
  replace h := h M5 e6
  obtain ⟨M7, e8⟩ : ∃ M7, M7 = mUI M5 a0 8 (-1) := ⟨_, rfl⟩
  replace h := h M7 e8
  obtain ⟨h9, h⟩ := h
  refine wm_aload_n d_MM_readText_0 rfl rfl ?_
  refine gf_MM_28 rfl d_MM_readText_1 h1 ?_
  refine wm_iconst d_MM_readText_4 ?_
  have hOM3 : mOk M3 := by rw [e4]; exact mOk_UI hO ⟨by decide, by decide⟩
  refine pf_MM_145 rfl d_MM_readText_5 h2 ⟨by decide, by decide⟩ e4 ?_
  refine wm_aload_n d_MM_readText_8 rfl rfl ?_
  refine wm_iconst d_MM_readText_9 ?_
  have hOM5 : mOk M5 := by rw [e6]; exact mOk_UI hOM3 ⟨by decide, by decide⟩
  refine pf_MM_226 rfl d_MM_readText_10 (by rw [e4]; exact h1) ⟨by decide, by decide⟩ e6 ?_
  refine wm_aload_n d_MM_readText_13 rfl rfl ?_
  refine wm_iconst d_MM_readText_14 ?_
  have hOM7 : mOk M7 := by rw [e8]; exact mOk_UI hOM5 ⟨by decide, by decide⟩
  refine pf_MM_229 rfl d_MM_readText_15 (by rw [e6, e4]; exact h1) ⟨by decide, by decide⟩ e8 ?_
  refine wm_aload_n d_MM_readText_18 rfl rfl ?_
  refine gf_MM_28 rfl d_MM_readText_19 (by rw [e8, e6, e4]; exact h1) ?_
  refine wm_bipush d_MM_readText_22 (by decide) ?_
  refine cf_MM_152 rfl d_MM_readText_24 h9 (Nat.le_of_ble_eq_true rfl) (Cv.mono h (fun M10 h => ?_))
  obtain ⟨hOM10, h⟩ := h
  refine wm_iconst d_MM_readText_27 ?_
  refine wm_istore_n d_MM_readText_28 rfl (by decide) (L' := [vr a0, vi 0, vd, vd, vd]) rfl ?_
  exact h
theorem k_MM_readText_29 {G : mG} {d : Nat} {a0 : Nat} {l1 : Int} {M : mM} {Q : Int → mM → Prop} (hO : mOk M) (hi_l1 : i32 l1)
    (h : mK M a0 = 14 ∧ (¬ (0 ≤ mI M a0 8) → mK M (mR M a0 6) = 15) ∧ (((0 ≤ mI M a0 8) ∨ (mI M (mR M a0 6) 1 ≤ 0)) → (∀ v20 : Int, v20 = (if (0 ≤ mI M a0 8) then 0 else 1) → Q v20 M)) ∧ (¬ ((0 ≤ mI M a0 8) ∨ (mI M (mR M a0 6) 1 ≤ 0)) → (mK M (mR M a0 6) = 15 ∧ Ci G y_MN_take d [vr (mR M a0 6)] M (fun x29 M28 => i32 x29 ∧ mOk M28 ∧ (mK M28 a0 = 14 ∧ mK M28 (mR M28 a0 3) = 15 ∧ Ci G y_MN_at d [vr (mR M28 a0 3), vi l1] M28 (fun x34 M33 => i32 x34 ∧ mOk M33 ∧ (((x29 = 75) → (mK M33 a0 = 14 ∧ i32 ((mI M33 a0 7) - 1) ∧ ∀ M44, M44 = mUI M33 a0 7 ((mI M33 a0 7) - 1) → h_MM_readText_29 G d a0 l1 M44 Q)) ∧ (¬ (x29 = 75) → (((50 ≤ x29) → (((61 ≤ x29) → (mK M33 a0 = 14 ∧ Ci G y_MM_rule0 d [vr a0, vi x29, vi x34] M33 (fun x53 M52 => i32 x53 ∧ mOk M52 ∧ (h_MM_readText_129 G d a0 l1 x53 M52 Q)))) ∧ (¬ (61 ≤ x29) → (mK M33 a0 = 14 ∧ Ci G y_MM_item d [vr a0, vi x29, vi x34] M33 (fun x57 M56 => i32 x57 ∧ mOk M56 ∧ (h_MM_readText_129 G d a0 l1 x57 M56 Q)))))) ∧ (¬ (50 ≤ x29) → (∀ v60 : Int, v60 = (if (x29 = x34) then (-1) else l1) → mK M33 a0 = 14 ∧ ∀ M65, M65 = mUI M33 a0 8 v60 → h_MM_readText_29 G d a0 (l1 + 1) M65 Q))))))))))) :
    h_MM_readText_29 G d a0 l1 M Q := by
  unfold h_MM_readText_29
  obtain ⟨h13, h⟩ := h
  refine wm_aload_n d_MM_readText_29 rfl rfl ?_
  refine gf_MM_229 rfl d_MM_readText_30 h13 ?_
  obtain ⟨s17, h⟩ := h
  have hE0 : ((0 ≤ mI M a0 8) ∨ (mI M (mR M a0 6) 1 ≤ 0)) → mWm G y_MM_readText (d + 1) 161 [vr a0, vi l1, vd, vd, vd] [] M (fun r9 M9 => ∃ x9, r9 = some (vi x9) ∧ Q x9 M9) := by
    intro q18
    have h := h.1 q18
    refine wm_aload_n d_MM_readText_161 rfl rfl ?_
    refine gf_MM_229 rfl d_MM_readText_162 h13 ?_
    have hJ : ∀ v20 : Int, v20 = (if (0 ≤ mI M a0 8) then 0 else 1) → mWm G y_MM_readText (d + 1) 173 [vd, vd, vd, vd, vd] [vi v20] M (fun r9 M9 => ∃ x9, r9 = some (vi x9) ∧ Q x9 M9) := by
      intro v20 e22
      have h := h v20 e22
      have h23 : i32 v20 := by rw [e22]; (repeat' split) <;> first | exact ⟨by decide, by decide⟩ | exact ⟨by decide, by decide⟩
      have h24 : (v20 = 0 ∨ v20 = 1) := by rw [e22]; (repeat' split) <;> decide
      refine wm_ireturn d_MM_readText_173 rfl (m_nb h24) ?_
      exact ⟨_, rfl, h⟩
    clear h
    refine wm_if_ge (tgt := 172) d_MM_readText_165 rfl (hO _ _).1 (fun c19 => ?_) (fun c19 => ?_)
    · refine wm_iconst d_MM_readText_172 ?_
      refine wm_less (L' := [vd, vd, vd, vd, vd]) ⟨Or.inl rfl, Or.inl rfl, Or.inl rfl, Or.inl rfl, Or.inl rfl, trivial⟩ ?_
      exact hJ 0 (if_pos c19).symm
    · refine wm_iconst d_MM_readText_168 ?_
      refine wm_goto (tgt := 173) d_MM_readText_169 rfl ?_
      refine wm_less (L' := [vd, vd, vd, vd, vd]) ⟨Or.inl rfl, Or.inl rfl, Or.inl rfl, Or.inl rfl, Or.inl rfl, trivial⟩ ?_
      exact hJ 1 (if_neg c19).symm
  have hE1 : ¬ ((0 ≤ mI M a0 8) ∨ (mI M (mR M a0 6) 1 ≤ 0)) → mWm G y_MM_readText (d + 1) 46 [vr a0, vi l1, vd, vd, vd] [] M (fun r9 M9 => ∃ x9, r9 = some (vi x9) ∧ Q x9 M9) := by
    intro q26
    have h := h.2 q26
    obtain ⟨h27, h⟩ := h
    refine wm_aload_n d_MM_readText_46 rfl rfl ?_
    refine gf_MM_28 rfl d_MM_readText_47 h13 ?_
    refine cf_MM_232 rfl d_MM_readText_50 h27 (Nat.le_of_ble_eq_true rfl) (Ci.mono h (fun x29 M28 h => ?_))
    obtain ⟨h30, hOM28, h⟩ := h
    obtain ⟨h31, h⟩ := h
    obtain ⟨h32, h⟩ := h
    refine wm_istore_n d_MM_readText_53 rfl (by decide) (L' := [vr a0, vi l1, vi x29, vd, vd]) rfl ?_
    refine wm_aload_n d_MM_readText_54 rfl rfl ?_
    refine gf_MM_19 rfl d_MM_readText_55 h31 ?_
    refine wm_iload_n d_MM_readText_58 rfl rfl ?_
    refine cf_MM_155 rfl d_MM_readText_59 h32 (Nat.le_of_ble_eq_true rfl) (Ci.mono h (fun x34 M33 h => ?_))
    obtain ⟨h35, hOM33, h⟩ := h
    refine wm_istore_n d_MM_readText_62 rfl (by decide) (L' := [vr a0, vi l1, vi x29, vi x34, vd]) rfl ?_
    refine wm_iload_n d_MM_readText_63 rfl rfl ?_
    refine wm_bipush d_MM_readText_64 (by decide) ?_
    refine wm_icmp_ne (tgt := 82) d_MM_readText_66 rfl h30 ⟨by decide, by decide⟩ (fun c41 => ?_) (fun c41 => ?_)
    · replace h := h.2 c41
      refine wm_iload_n d_MM_readText_82 rfl rfl ?_
      refine wm_bipush d_MM_readText_83 (by decide) ?_
      refine wm_icmp_ge (tgt := 108) d_MM_readText_85 rfl h30 ⟨by decide, by decide⟩ (fun c48 => ?_) (fun c48 => ?_)
      · replace h := h.1 c48
        refine wm_iload_n d_MM_readText_108 rfl rfl ?_
        refine wm_bipush d_MM_readText_109 (by decide) ?_
        refine wm_icmp_ge (tgt := 123) d_MM_readText_111 rfl h30 ⟨by decide, by decide⟩ (fun c50 => ?_) (fun c50 => ?_)
        · replace h := h.1 c50
          obtain ⟨h51, h⟩ := h
          refine wm_aload_n d_MM_readText_123 rfl rfl ?_
          refine wm_iload_n d_MM_readText_124 rfl rfl ?_
          refine wm_iload_n d_MM_readText_125 rfl rfl ?_
          refine cf_MM_238 rfl d_MM_readText_126 h51 (Nat.le_of_ble_eq_true rfl) (Ci.mono h (fun x53 M52 h => ?_))
          obtain ⟨h54, hOM52, h⟩ := h
          refine wm_less (L' := [vr a0, vi l1, vd, vd, vd]) ⟨Or.inr rfl, Or.inr rfl, Or.inl rfl, Or.inl rfl, Or.inl rfl, trivial⟩ ?_
          exact h
        · replace h := h.2 c50
          obtain ⟨h55, h⟩ := h
          refine wm_aload_n d_MM_readText_114 rfl rfl ?_
          refine wm_iload_n d_MM_readText_115 rfl rfl ?_
          refine wm_iload_n d_MM_readText_116 rfl rfl ?_
          refine cf_MM_235 rfl d_MM_readText_117 h55 (Nat.le_of_ble_eq_true rfl) (Ci.mono h (fun x57 M56 h => ?_))
          obtain ⟨h58, hOM56, h⟩ := h
          refine wm_goto (tgt := 129) d_MM_readText_120 rfl ?_
          refine wm_less (L' := [vr a0, vi l1, vd, vd, vd]) ⟨Or.inr rfl, Or.inr rfl, Or.inl rfl, Or.inl rfl, Or.inl rfl, trivial⟩ ?_
          exact h
      · replace h := h.2 c48
        refine wm_aload_n d_MM_readText_88 rfl rfl ?_
        refine wm_iload_n d_MM_readText_89 rfl rfl ?_
        refine wm_iload_n d_MM_readText_90 rfl rfl ?_
        have hJ : ∀ v60 : Int, v60 = (if (x29 = x34) then (-1) else l1) → mWm G y_MM_readText (d + 1) 99 [vr a0, vi l1, vd, vd, vd] [vi v60, vr a0] M33 (fun r9 M9 => ∃ x9, r9 = some (vi x9) ∧ Q x9 M9) := by
          intro v60 e62
          have h := h v60 e62
          have h63 : i32 v60 := by rw [e62]; (repeat' split) <;> first | exact ⟨by decide, by decide⟩ | exact hi_l1
          obtain ⟨h64, h⟩ := h
          obtain ⟨M65, e66⟩ : ∃ M65, M65 = mUI M33 a0 8 v60 := ⟨_, rfl⟩
          replace h := h M65 e66
          have hOM65 : mOk M65 := by rw [e66]; exact mOk_UI hOM33 h63
          refine pf_MM_229 rfl d_MM_readText_99 h64 h63 e66 ?_
          refine wm_iinc d_MM_readText_102 (by decide) rfl (L' := [vr a0, vi (l1 + 1), vd, vd, vd]) rfl ?_
          refine wm_goto (tgt := 158) d_MM_readText_105 rfl ?_
          refine wm_goto (tgt := 29) d_MM_readText_158 rfl ?_
          exact h
        clear h
        refine wm_icmp_ne (tgt := 98) d_MM_readText_91 rfl h30 h35 (fun c59 => ?_) (fun c59 => ?_)
        · refine wm_iload_n d_MM_readText_98 rfl rfl ?_
          refine wm_less (L' := [vr a0, vi l1, vd, vd, vd]) ⟨Or.inr rfl, Or.inr rfl, Or.inl rfl, Or.inl rfl, Or.inl rfl, trivial⟩ ?_
          exact hJ l1 (if_neg c59).symm
        · replace c59 := Classical.not_not.mp c59
          refine wm_iconst d_MM_readText_94 ?_
          refine wm_goto (tgt := 99) d_MM_readText_95 rfl ?_
          refine wm_less (L' := [vr a0, vi l1, vd, vd, vd]) ⟨Or.inr rfl, Or.inr rfl, Or.inl rfl, Or.inl rfl, Or.inl rfl, trivial⟩ ?_
          exact hJ (-1) (if_pos c59).symm
    · replace c41 := Classical.not_not.mp c41
      replace h := h.1 c41
      obtain ⟨h42, h⟩ := h
      obtain ⟨h43, h⟩ := h
      obtain ⟨M44, e45⟩ : ∃ M44, M44 = mUI M33 a0 7 ((mI M33 a0 7) - 1) := ⟨_, rfl⟩
      replace h := h M44 e45
      refine wm_aload_n d_MM_readText_69 rfl rfl ?_
      refine wm_aload_n d_MM_readText_70 rfl rfl ?_
      refine gf_MM_226 rfl d_MM_readText_71 h42 ?_
      refine wm_iconst d_MM_readText_74 ?_
      refine wm_isub d_MM_readText_75 ?_
      have hOM44 : mOk M44 := by rw [e45]; exact mOk_UI hOM33 h43
      refine pf_MM_226 rfl d_MM_readText_76 h42 h43 e45 ?_
      refine wm_goto (tgt := 158) d_MM_readText_79 rfl ?_
      refine wm_goto (tgt := 29) d_MM_readText_158 rfl ?_
      refine wm_less (L' := [vr a0, vi l1, vd, vd, vd]) ⟨Or.inr rfl, Or.inr rfl, Or.inl rfl, Or.inl rfl, Or.inl rfl, trivial⟩ ?_
      exact h
  clear h
  have s68 := s17
  refine wm_if_ge (tgt := 161) d_MM_readText_33 rfl (hO _ _).1 (fun c16 => ?_) (fun c16 => ?_)
  · exact hE0 (Or.inl c16)
  · have s68 := s68 c16
    have h14 := s68
    refine wm_aload_n d_MM_readText_36 rfl rfl ?_
    refine gf_MM_28 rfl d_MM_readText_37 h13 ?_
    refine gf_MM_145 rfl d_MM_readText_40 h14 ?_
    refine wm_if_le (tgt := 161) d_MM_readText_43 rfl (hO _ _).1 (fun c15 => ?_) (fun c15 => ?_)
    · exact hE0 (Or.inr c15)
    · exact hE1 (fun z69 => Or.elim z69 c16 c15)
theorem k_MM_readText_129 {G : mG} {d : Nat} {a0 : Nat} {l1 : Int} {k0 : Int} {M : mM} {Q : Int → mM → Prop} (hO : mOk M) (hi_l1 : i32 l1) (hi_k0 : i32 k0)
    (h : ∀ v72 : Int, v72 = (if (0 ≤ k0) then (-1) else l1) → mK M a0 = 14 ∧ ∀ M77, M77 = mUI M a0 8 v72 → ∀ v80 : Int, v80 = (if (k0 ≤ 0) then l1 else l1 + 1) → h_MM_readText_29 G d a0 v80 M77 Q) :
    h_MM_readText_129 G d a0 l1 k0 M Q := by
  unfold h_MM_readText_129
  refine wm_istore d_MM_readText_129 (by decide) (L' := [vr a0, vi l1, vd, vd, vi k0]) rfl ?_
  refine wm_aload_n d_MM_readText_131 rfl rfl ?_
  refine wm_iload d_MM_readText_132 rfl ?_
  have hJ : ∀ v72 : Int, v72 = (if (0 ≤ k0) then (-1) else l1) → mWm G y_MM_readText (d + 1) 142 [vr a0, vi l1, vd, vd, vi k0] [vi v72, vr a0] M (fun r9 M9 => ∃ x9, r9 = some (vi x9) ∧ Q x9 M9) := by
    intro v72 e74
    have h := h v72 e74
    have h75 : i32 v72 := by rw [e74]; (repeat' split) <;> first | exact ⟨by decide, by decide⟩ | exact hi_l1
    obtain ⟨h76, h⟩ := h
    obtain ⟨M77, e78⟩ : ∃ M77, M77 = mUI M a0 8 v72 := ⟨_, rfl⟩
    replace h := h M77 e78
    have hOM77 : mOk M77 := by rw [e78]; exact mOk_UI hO h75
    refine pf_MM_229 rfl d_MM_readText_142 h76 h75 e78 ?_
    refine wm_iload d_MM_readText_145 rfl ?_
    have hJ : ∀ v80 : Int, v80 = (if (k0 ≤ 0) then l1 else l1 + 1) → mWm G y_MM_readText (d + 1) 157 [vr a0, vd, vd, vd, vd] [vi v80] M77 (fun r9 M9 => ∃ x9, r9 = some (vi x9) ∧ Q x9 M9) := by
      intro v80 e82
      have h := h v80 e82
      refine wm_istore_n d_MM_readText_157 rfl (by decide) (L' := [vr a0, vi v80, vd, vd, vd]) rfl ?_
      refine wm_goto (tgt := 29) d_MM_readText_158 rfl ?_
      exact h
    clear h
    refine wm_if_le (tgt := 156) d_MM_readText_147 rfl hi_k0 (fun c79 => ?_) (fun c79 => ?_)
    · refine wm_iload_n d_MM_readText_156 rfl rfl ?_
      refine wm_less (L' := [vr a0, vd, vd, vd, vd]) ⟨Or.inr rfl, Or.inl rfl, Or.inl rfl, Or.inl rfl, Or.inl rfl, trivial⟩ ?_
      exact hJ l1 (if_pos c79).symm
    · refine wm_iload_n d_MM_readText_150 rfl rfl ?_
      refine wm_iconst d_MM_readText_151 ?_
      refine wm_iadd d_MM_readText_152 ?_
      refine wm_goto (tgt := 157) d_MM_readText_153 rfl ?_
      refine wm_less (L' := [vr a0, vd, vd, vd, vd]) ⟨Or.inr rfl, Or.inl rfl, Or.inl rfl, Or.inl rfl, Or.inl rfl, trivial⟩ ?_
      exact hJ (l1 + 1) (if_neg c79).symm
  clear h
  refine wm_if_ge (tgt := 141) d_MM_readText_134 rfl hi_k0 (fun c71 => ?_) (fun c71 => ?_)
  · refine wm_iconst d_MM_readText_141 ?_
    exact hJ (-1) (if_pos c71).symm
  · refine wm_iload_n d_MM_readText_137 rfl rfl ?_
    refine wm_goto (tgt := 142) d_MM_readText_138 rfl ?_
    exact hJ l1 (if_neg c71).symm
theorem d_MM_item_0 : decode y_MM_item.2.1 0 = .ok (.iload_n 1, 1) := by decide +kernel
theorem d_MM_item_1 : decode y_MM_item.2.1 1 = .ok (.tableswitch 194 50 60 #[59, 65, 194, 76, 95, 194, 114, 126, 146, 194, 174], 59) := by decide +kernel
theorem d_MM_item_60 : decode y_MM_item.2.1 60 = .ok (.aload_n 0, 1) := by decide +kernel
theorem d_MM_item_61 : decode y_MM_item.2.1 61 = .ok (.iload_n 2, 1) := by decide +kernel
theorem d_MM_item_62 : decode y_MM_item.2.1 62 = .ok (.invokevirtual 241, 3) := by decide +kernel
theorem d_MM_item_65 : decode y_MM_item.2.1 65 = .ok (.ireturn, 1) := by decide +kernel
theorem d_MM_item_66 : decode y_MM_item.2.1 66 = .ok (.aload_n 0, 1) := by decide +kernel
theorem d_MM_item_67 : decode y_MM_item.2.1 67 = .ok (.iconst 1, 1) := by decide +kernel
theorem d_MM_item_68 : decode y_MM_item.2.1 68 = .ok (.bipush 23, 2) := by decide +kernel
theorem d_MM_item_70 : decode y_MM_item.2.1 70 = .ok (.bipush 61, 2) := by decide +kernel
theorem d_MM_item_72 : decode y_MM_item.2.1 72 = .ok (.invokevirtual 244, 3) := by decide +kernel
theorem d_MM_item_75 : decode y_MM_item.2.1 75 = .ok (.iconst 0, 1) := by decide +kernel
theorem d_MM_item_76 : decode y_MM_item.2.1 76 = .ok (.ireturn, 1) := by decide +kernel
theorem d_MM_item_77 : decode y_MM_item.2.1 77 = .ok (.iload_n 2, 1) := by decide +kernel
theorem d_MM_item_78 : decode y_MM_item.2.1 78 = .ok (.iconst 5, 1) := by decide +kernel
theorem d_MM_item_79 : decode y_MM_item.2.1 79 = .ok (.if_icmp .ne 5, 3) := by decide +kernel
theorem d_MM_item_82 : decode y_MM_item.2.1 82 = .ok (.iconst 1, 1) := by decide +kernel
theorem d_MM_item_83 : decode y_MM_item.2.1 83 = .ok (.ireturn, 1) := by decide +kernel
theorem d_MM_item_84 : decode y_MM_item.2.1 84 = .ok (.aload_n 0, 1) := by decide +kernel
theorem d_MM_item_85 : decode y_MM_item.2.1 85 = .ok (.bipush 61, 2) := by decide +kernel
theorem d_MM_item_87 : decode y_MM_item.2.1 87 = .ok (.bipush 16, 2) := by decide +kernel
theorem d_MM_item_89 : decode y_MM_item.2.1 89 = .ok (.bipush 61, 2) := by decide +kernel
theorem d_MM_item_91 : decode y_MM_item.2.1 91 = .ok (.invokevirtual 244, 3) := by decide +kernel
theorem d_MM_item_94 : decode y_MM_item.2.1 94 = .ok (.iconst 0, 1) := by decide +kernel
theorem d_MM_item_95 : decode y_MM_item.2.1 95 = .ok (.ireturn, 1) := by decide +kernel
theorem d_MM_item_96 : decode y_MM_item.2.1 96 = .ok (.iload_n 2, 1) := by decide +kernel
theorem d_MM_item_97 : decode y_MM_item.2.1 97 = .ok (.bipush 9, 2) := by decide +kernel
theorem d_MM_item_99 : decode y_MM_item.2.1 99 = .ok (.if_icmp .ne 14, 3) := by decide +kernel
theorem d_MM_item_102 : decode y_MM_item.2.1 102 = .ok (.aload_n 0, 1) := by decide +kernel
theorem d_MM_item_103 : decode y_MM_item.2.1 103 = .ok (.getfield 28, 3) := by decide +kernel
theorem d_MM_item_106 : decode y_MM_item.2.1 106 = .ok (.bipush 61, 2) := by decide +kernel
theorem d_MM_item_113 : decode y_MM_item.2.1 113 = .ok (.iconst 0, 1) := by decide +kernel
theorem d_MM_item_114 : decode y_MM_item.2.1 114 = .ok (.ireturn, 1) := by decide +kernel
theorem d_MM_item_108 : decode y_MM_item.2.1 108 = .ok (.invokevirtual 152, 3) := by decide +kernel
theorem d_MM_item_111 : decode y_MM_item.2.1 111 = .ok (.iconst 1, 1) := by decide +kernel
theorem d_MM_item_112 : decode y_MM_item.2.1 112 = .ok (.ireturn, 1) := by decide +kernel
theorem d_MM_item_115 : decode y_MM_item.2.1 115 = .ok (.aload_n 0, 1) := by decide +kernel
theorem d_MM_item_116 : decode y_MM_item.2.1 116 = .ok (.bipush 63, 2) := by decide +kernel
theorem d_MM_item_118 : decode y_MM_item.2.1 118 = .ok (.bipush 33, 2) := by decide +kernel
theorem d_MM_item_120 : decode y_MM_item.2.1 120 = .ok (.bipush 58, 2) := by decide +kernel
theorem d_MM_item_122 : decode y_MM_item.2.1 122 = .ok (.invokevirtual 244, 3) := by decide +kernel
theorem d_MM_item_125 : decode y_MM_item.2.1 125 = .ok (.iconst 0, 1) := by decide +kernel
theorem d_MM_item_126 : decode y_MM_item.2.1 126 = .ok (.ireturn, 1) := by decide +kernel
theorem d_MM_item_127 : decode y_MM_item.2.1 127 = .ok (.aload_n 0, 1) := by decide +kernel
theorem d_MM_item_128 : decode y_MM_item.2.1 128 = .ok (.iload_n 2, 1) := by decide +kernel
theorem d_MM_item_129 : decode y_MM_item.2.1 129 = .ok (.bipush 24, 2) := by decide +kernel
theorem d_MM_item_131 : decode y_MM_item.2.1 131 = .ok (.if_icmp .ne 7, 3) := by decide +kernel
theorem d_MM_item_134 : decode y_MM_item.2.1 134 = .ok (.iconst 1, 1) := by decide +kernel
theorem d_MM_item_135 : decode y_MM_item.2.1 135 = .ok (.goto 4, 3) := by decide +kernel
theorem d_MM_item_138 : decode y_MM_item.2.1 138 = .ok (.iconst 0, 1) := by decide +kernel
theorem d_MM_item_139 : decode y_MM_item.2.1 139 = .ok (.bipush 57, 2) := by decide +kernel
theorem d_MM_item_141 : decode y_MM_item.2.1 141 = .ok (.bipush 56, 2) := by decide +kernel
theorem d_MM_item_143 : decode y_MM_item.2.1 143 = .ok (.invokevirtual 247, 3) := by decide +kernel
theorem d_MM_item_146 : decode y_MM_item.2.1 146 = .ok (.ireturn, 1) := by decide +kernel
theorem d_MM_item_147 : decode y_MM_item.2.1 147 = .ok (.iload_n 2, 1) := by decide +kernel
theorem d_MM_item_148 : decode y_MM_item.2.1 148 = .ok (.bipush 10, 2) := by decide +kernel
theorem d_MM_item_150 : decode y_MM_item.2.1 150 = .ok (.if_icmp .ne 5, 3) := by decide +kernel
theorem d_MM_item_153 : decode y_MM_item.2.1 153 = .ok (.iconst 1, 1) := by decide +kernel
theorem d_MM_item_154 : decode y_MM_item.2.1 154 = .ok (.ireturn, 1) := by decide +kernel
theorem d_MM_item_155 : decode y_MM_item.2.1 155 = .ok (.aload_n 0, 1) := by decide +kernel
theorem d_MM_item_156 : decode y_MM_item.2.1 156 = .ok (.getfield 28, 3) := by decide +kernel
theorem d_MM_item_159 : decode y_MM_item.2.1 159 = .ok (.bipush 60, 2) := by decide +kernel
theorem d_MM_item_161 : decode y_MM_item.2.1 161 = .ok (.invokevirtual 152, 3) := by decide +kernel
theorem d_MM_item_164 : decode y_MM_item.2.1 164 = .ok (.aload_n 0, 1) := by decide +kernel
theorem d_MM_item_165 : decode y_MM_item.2.1 165 = .ok (.getfield 28, 3) := by decide +kernel
theorem d_MM_item_168 : decode y_MM_item.2.1 168 = .ok (.bipush 59, 2) := by decide +kernel
theorem d_MM_item_170 : decode y_MM_item.2.1 170 = .ok (.invokevirtual 152, 3) := by decide +kernel
theorem d_MM_item_173 : decode y_MM_item.2.1 173 = .ok (.iconst 0, 1) := by decide +kernel
theorem d_MM_item_174 : decode y_MM_item.2.1 174 = .ok (.ireturn, 1) := by decide +kernel
theorem d_MM_item_175 : decode y_MM_item.2.1 175 = .ok (.aload_n 0, 1) := by decide +kernel
theorem d_MM_item_176 : decode y_MM_item.2.1 176 = .ok (.iload_n 2, 1) := by decide +kernel
theorem d_MM_item_177 : decode y_MM_item.2.1 177 = .ok (.bipush 29, 2) := by decide +kernel
theorem d_MM_item_179 : decode y_MM_item.2.1 179 = .ok (.if_icmp .ne 7, 3) := by decide +kernel
theorem d_MM_item_182 : decode y_MM_item.2.1 182 = .ok (.iconst 1, 1) := by decide +kernel
theorem d_MM_item_183 : decode y_MM_item.2.1 183 = .ok (.goto 4, 3) := by decide +kernel
theorem d_MM_item_186 : decode y_MM_item.2.1 186 = .ok (.iconst 0, 1) := by decide +kernel
theorem d_MM_item_187 : decode y_MM_item.2.1 187 = .ok (.bipush 60, 2) := by decide +kernel
theorem d_MM_item_189 : decode y_MM_item.2.1 189 = .ok (.bipush 59, 2) := by decide +kernel
theorem d_MM_item_191 : decode y_MM_item.2.1 191 = .ok (.invokevirtual 247, 3) := by decide +kernel
theorem d_MM_item_194 : decode y_MM_item.2.1 194 = .ok (.ireturn, 1) := by decide +kernel
theorem d_MM_item_195 : decode y_MM_item.2.1 195 = .ok (.aload_n 0, 1) := by decide +kernel
theorem d_MM_item_196 : decode y_MM_item.2.1 196 = .ok (.iload_n 2, 1) := by decide +kernel
theorem d_MM_item_197 : decode y_MM_item.2.1 197 = .ok (.invokevirtual 251, 3) := by decide +kernel
theorem d_MM_item_200 : decode y_MM_item.2.1 200 = .ok (.ireturn, 1) := by decide +kernel
theorem k_MM_item {G : mG} {d : Nat} {a0 : Nat} {l1 : Int} {l2 : Int} {M : mM} {Q : Int → mM → Prop} (hO : mOk M) (hi_l1 : i32 l1) (hi_l2 : i32 l2)
    (h : ((l1 = 50) → (mK M a0 = 14 ∧ Ci G y_MM_anItem d [vr a0, vi l2] M (fun x6 M5 => i32 x6 ∧ mOk M5 ∧ (Q x6 M5)))) ∧ (¬ (l1 = 50) → (((l1 = 51) → (mK M a0 = 14 ∧ Cv G y_MM_want d [vr a0, vi 1, vi 23, vi 61] M (fun M11 => mOk M11 ∧ (Q 0 M11)))) ∧ (¬ (l1 = 51) → (((l1 = 53) → (((l2 = 5) → (Q 1 M)) ∧ (¬ (l2 = 5) → (mK M a0 = 14 ∧ Cv G y_MM_want d [vr a0, vi 61, vi 16, vi 61] M (fun M19 => mOk M19 ∧ (Q 0 M19)))))) ∧ (¬ (l1 = 53) → (((l1 = 54) → (((l2 = 9) → (mK M a0 = 14 ∧ mK M (mR M a0 6) = 15 ∧ Cv G y_MN_add d [vr (mR M a0 6), vi 61] M (fun M28 => mOk M28 ∧ (Q 1 M28)))) ∧ (¬ (l2 = 9) → (Q 0 M)))) ∧ (¬ (l1 = 54) → (((l1 = 56) → (mK M a0 = 14 ∧ Cv G y_MM_want d [vr a0, vi 63, vi 33, vi 58] M (fun M34 => mOk M34 ∧ (Q 0 M34)))) ∧ (¬ (l1 = 56) → (((l1 = 57) → (∀ v40 : Int, v40 = (if (l2 = 24) then 1 else 0) → mK M a0 = 14 ∧ Ci G y_MM_again d [vr a0, vi v40, vi 57, vi 56] M (fun x47 M46 => i32 x47 ∧ mOk M46 ∧ (Q x47 M46)))) ∧ (¬ (l1 = 57) → (((l1 = 58) → (((l2 = 10) → (Q 1 M)) ∧ (¬ (l2 = 10) → (mK M a0 = 14 ∧ mK M (mR M a0 6) = 15 ∧ Cv G y_MN_add d [vr (mR M a0 6), vi 60] M (fun M56 => mOk M56 ∧ (mK M56 a0 = 14 ∧ mK M56 (mR M56 a0 6) = 15 ∧ Cv G y_MN_add d [vr (mR M56 a0 6), vi 59] M56 (fun M61 => mOk M61 ∧ (Q 0 M61)))))))) ∧ (¬ (l1 = 58) → (((l1 = 60) → (∀ v67 : Int, v67 = (if (l2 = 29) then 1 else 0) → mK M a0 = 14 ∧ Ci G y_MM_again d [vr a0, vi v67, vi 60, vi 59] M (fun x74 M73 => i32 x74 ∧ mOk M73 ∧ (Q x74 M73)))) ∧ (¬ (l1 = 60) → (mK M a0 = 14 ∧ Ci G y_MM_set0 d [vr a0, vi l2] M (fun x79 M78 => i32 x79 ∧ mOk M78 ∧ (Q x79 M78))))))))))))))))))) :
    Ci G y_MM_item (d + 1) [vr a0, vi l1, vi l2] M Q := by
  refine wm_open (y := y_MM_item) rfl (Nat.le_of_ble_eq_true rfl) (L := [vr a0, vi l1, vi l2]) rfl ?_
  refine wm_iload_n d_MM_item_0 rfl rfl ?_
  by_cases c3 : l1 = 50
  · replace h := h.1 c3
    refine wm_tableIn (tgt := 60) (off := 59) d_MM_item_1 hi_l1 (by omega) (by omega) (by rw [c3]; rfl) rfl ?_
    obtain ⟨h4, h⟩ := h
    refine wm_aload_n d_MM_item_60 rfl rfl ?_
    refine wm_iload_n d_MM_item_61 rfl rfl ?_
    refine cf_MM_241 rfl d_MM_item_62 h4 (Nat.le_of_ble_eq_true rfl) (Ci.mono h (fun x6 M5 h => ?_))
    obtain ⟨h7, hOM5, h⟩ := h
    refine wm_ireturn d_MM_item_65 rfl rfl ?_
    exact ⟨_, rfl, h⟩
  · replace h := h.2 c3
    by_cases c9 : l1 = 51
    · replace h := h.1 c9
      refine wm_tableIn (tgt := 66) (off := 65) d_MM_item_1 hi_l1 (by omega) (by omega) (by rw [c9]; rfl) rfl ?_
      obtain ⟨h10, h⟩ := h
      refine wm_aload_n d_MM_item_66 rfl rfl ?_
      refine wm_iconst d_MM_item_67 ?_
      refine wm_bipush d_MM_item_68 (by decide) ?_
      refine wm_bipush d_MM_item_70 (by decide) ?_
      refine cf_MM_244 rfl d_MM_item_72 h10 (Nat.le_of_ble_eq_true rfl) (Cv.mono h (fun M11 h => ?_))
      obtain ⟨hOM11, h⟩ := h
      refine wm_iconst d_MM_item_75 ?_
      refine wm_ireturn d_MM_item_76 rfl rfl ?_
      exact ⟨_, rfl, h⟩
    · replace h := h.2 c9
      by_cases c15 : l1 = 53
      · replace h := h.1 c15
        refine wm_tableIn (tgt := 77) (off := 76) d_MM_item_1 hi_l1 (by omega) (by omega) (by rw [c15]; rfl) rfl ?_
        refine wm_iload_n d_MM_item_77 rfl rfl ?_
        refine wm_iconst d_MM_item_78 ?_
        refine wm_icmp_ne (tgt := 84) d_MM_item_79 rfl hi_l2 ⟨by decide, by decide⟩ (fun c17 => ?_) (fun c17 => ?_)
        · replace h := h.2 c17
          obtain ⟨h18, h⟩ := h
          refine wm_aload_n d_MM_item_84 rfl rfl ?_
          refine wm_bipush d_MM_item_85 (by decide) ?_
          refine wm_bipush d_MM_item_87 (by decide) ?_
          refine wm_bipush d_MM_item_89 (by decide) ?_
          refine cf_MM_244 rfl d_MM_item_91 h18 (Nat.le_of_ble_eq_true rfl) (Cv.mono h (fun M19 h => ?_))
          obtain ⟨hOM19, h⟩ := h
          refine wm_iconst d_MM_item_94 ?_
          refine wm_ireturn d_MM_item_95 rfl rfl ?_
          exact ⟨_, rfl, h⟩
        · replace c17 := Classical.not_not.mp c17
          replace h := h.1 c17
          refine wm_iconst d_MM_item_82 ?_
          refine wm_ireturn d_MM_item_83 rfl rfl ?_
          exact ⟨_, rfl, h⟩
      · replace h := h.2 c15
        by_cases c23 : l1 = 54
        · replace h := h.1 c23
          refine wm_tableIn (tgt := 96) (off := 95) d_MM_item_1 hi_l1 (by omega) (by omega) (by rw [c23]; rfl) rfl ?_
          refine wm_iload_n d_MM_item_96 rfl rfl ?_
          refine wm_bipush d_MM_item_97 (by decide) ?_
          refine wm_icmp_ne (tgt := 113) d_MM_item_99 rfl hi_l2 ⟨by decide, by decide⟩ (fun c25 => ?_) (fun c25 => ?_)
          · replace h := h.2 c25
            refine wm_iconst d_MM_item_113 ?_
            refine wm_ireturn d_MM_item_114 rfl rfl ?_
            exact ⟨_, rfl, h⟩
          · replace c25 := Classical.not_not.mp c25
            replace h := h.1 c25
            obtain ⟨h26, h⟩ := h
            obtain ⟨h27, h⟩ := h
            refine wm_aload_n d_MM_item_102 rfl rfl ?_
            refine gf_MM_28 rfl d_MM_item_103 h26 ?_
            refine wm_bipush d_MM_item_106 (by decide) ?_
            refine cf_MM_152 rfl d_MM_item_108 h27 (Nat.le_of_ble_eq_true rfl) (Cv.mono h (fun M28 h => ?_))
            obtain ⟨hOM28, h⟩ := h
            refine wm_iconst d_MM_item_111 ?_
            refine wm_ireturn d_MM_item_112 rfl rfl ?_
            exact ⟨_, rfl, h⟩
        · replace h := h.2 c23
          by_cases c32 : l1 = 56
          · replace h := h.1 c32
            refine wm_tableIn (tgt := 115) (off := 114) d_MM_item_1 hi_l1 (by omega) (by omega) (by rw [c32]; rfl) rfl ?_
            obtain ⟨h33, h⟩ := h
            refine wm_aload_n d_MM_item_115 rfl rfl ?_
            refine wm_bipush d_MM_item_116 (by decide) ?_
            refine wm_bipush d_MM_item_118 (by decide) ?_
            refine wm_bipush d_MM_item_120 (by decide) ?_
            refine cf_MM_244 rfl d_MM_item_122 h33 (Nat.le_of_ble_eq_true rfl) (Cv.mono h (fun M34 h => ?_))
            obtain ⟨hOM34, h⟩ := h
            refine wm_iconst d_MM_item_125 ?_
            refine wm_ireturn d_MM_item_126 rfl rfl ?_
            exact ⟨_, rfl, h⟩
          · replace h := h.2 c32
            by_cases c38 : l1 = 57
            · replace h := h.1 c38
              refine wm_tableIn (tgt := 127) (off := 126) d_MM_item_1 hi_l1 (by omega) (by omega) (by rw [c38]; rfl) rfl ?_
              refine wm_aload_n d_MM_item_127 rfl rfl ?_
              refine wm_iload_n d_MM_item_128 rfl rfl ?_
              refine wm_bipush d_MM_item_129 (by decide) ?_
              have hJ : ∀ v40 : Int, v40 = (if (l2 = 24) then 1 else 0) → mWm G y_MM_item (d + 1) 139 [vd, vd, vd] [vi v40, vr a0] M (fun r9 M9 => ∃ x9, r9 = some (vi x9) ∧ Q x9 M9) := by
                intro v40 e42
                have h := h v40 e42
                have h43 : i32 v40 := by rw [e42]; (repeat' split) <;> first | exact ⟨by decide, by decide⟩ | exact ⟨by decide, by decide⟩
                have h44 : (v40 = 0 ∨ v40 = 1) := by rw [e42]; (repeat' split) <;> decide
                obtain ⟨h45, h⟩ := h
                refine wm_bipush d_MM_item_139 (by decide) ?_
                refine wm_bipush d_MM_item_141 (by decide) ?_
                refine cf_MM_247 rfl d_MM_item_143 h45 (Nat.le_of_ble_eq_true rfl) (Ci.mono h (fun x47 M46 h => ?_))
                obtain ⟨h48, hOM46, h⟩ := h
                refine wm_ireturn d_MM_item_146 rfl rfl ?_
                exact ⟨_, rfl, h⟩
              clear h
              refine wm_icmp_ne (tgt := 138) d_MM_item_131 rfl hi_l2 ⟨by decide, by decide⟩ (fun c39 => ?_) (fun c39 => ?_)
              · refine wm_iconst d_MM_item_138 ?_
                refine wm_less (L' := [vd, vd, vd]) ⟨Or.inl rfl, Or.inl rfl, Or.inl rfl, trivial⟩ ?_
                exact hJ 0 (if_neg c39).symm
              · replace c39 := Classical.not_not.mp c39
                refine wm_iconst d_MM_item_134 ?_
                refine wm_goto (tgt := 139) d_MM_item_135 rfl ?_
                refine wm_less (L' := [vd, vd, vd]) ⟨Or.inl rfl, Or.inl rfl, Or.inl rfl, trivial⟩ ?_
                exact hJ 1 (if_pos c39).symm
            · replace h := h.2 c38
              by_cases c51 : l1 = 58
              · replace h := h.1 c51
                refine wm_tableIn (tgt := 147) (off := 146) d_MM_item_1 hi_l1 (by omega) (by omega) (by rw [c51]; rfl) rfl ?_
                refine wm_iload_n d_MM_item_147 rfl rfl ?_
                refine wm_bipush d_MM_item_148 (by decide) ?_
                refine wm_icmp_ne (tgt := 155) d_MM_item_150 rfl hi_l2 ⟨by decide, by decide⟩ (fun c53 => ?_) (fun c53 => ?_)
                · replace h := h.2 c53
                  obtain ⟨h54, h⟩ := h
                  obtain ⟨h55, h⟩ := h
                  refine wm_aload_n d_MM_item_155 rfl rfl ?_
                  refine gf_MM_28 rfl d_MM_item_156 h54 ?_
                  refine wm_bipush d_MM_item_159 (by decide) ?_
                  refine cf_MM_152 rfl d_MM_item_161 h55 (Nat.le_of_ble_eq_true rfl) (Cv.mono h (fun M56 h => ?_))
                  obtain ⟨hOM56, h⟩ := h
                  obtain ⟨h59, h⟩ := h
                  obtain ⟨h60, h⟩ := h
                  refine wm_aload_n d_MM_item_164 rfl rfl ?_
                  refine gf_MM_28 rfl d_MM_item_165 h59 ?_
                  refine wm_bipush d_MM_item_168 (by decide) ?_
                  refine cf_MM_152 rfl d_MM_item_170 h60 (Nat.le_of_ble_eq_true rfl) (Cv.mono h (fun M61 h => ?_))
                  obtain ⟨hOM61, h⟩ := h
                  refine wm_iconst d_MM_item_173 ?_
                  refine wm_ireturn d_MM_item_174 rfl rfl ?_
                  exact ⟨_, rfl, h⟩
                · replace c53 := Classical.not_not.mp c53
                  replace h := h.1 c53
                  refine wm_iconst d_MM_item_153 ?_
                  refine wm_ireturn d_MM_item_154 rfl rfl ?_
                  exact ⟨_, rfl, h⟩
              · replace h := h.2 c51
                by_cases c65 : l1 = 60
                · replace h := h.1 c65
                  refine wm_tableIn (tgt := 175) (off := 174) d_MM_item_1 hi_l1 (by omega) (by omega) (by rw [c65]; rfl) rfl ?_
                  refine wm_aload_n d_MM_item_175 rfl rfl ?_
                  refine wm_iload_n d_MM_item_176 rfl rfl ?_
                  refine wm_bipush d_MM_item_177 (by decide) ?_
                  have hJ : ∀ v67 : Int, v67 = (if (l2 = 29) then 1 else 0) → mWm G y_MM_item (d + 1) 187 [vd, vd, vd] [vi v67, vr a0] M (fun r9 M9 => ∃ x9, r9 = some (vi x9) ∧ Q x9 M9) := by
                    intro v67 e69
                    have h := h v67 e69
                    have h70 : i32 v67 := by rw [e69]; (repeat' split) <;> first | exact ⟨by decide, by decide⟩ | exact ⟨by decide, by decide⟩
                    have h71 : (v67 = 0 ∨ v67 = 1) := by rw [e69]; (repeat' split) <;> decide
                    obtain ⟨h72, h⟩ := h
                    refine wm_bipush d_MM_item_187 (by decide) ?_
                    refine wm_bipush d_MM_item_189 (by decide) ?_
                    refine cf_MM_247 rfl d_MM_item_191 h72 (Nat.le_of_ble_eq_true rfl) (Ci.mono h (fun x74 M73 h => ?_))
                    obtain ⟨h75, hOM73, h⟩ := h
                    refine wm_ireturn d_MM_item_194 rfl rfl ?_
                    exact ⟨_, rfl, h⟩
                  clear h
                  refine wm_icmp_ne (tgt := 186) d_MM_item_179 rfl hi_l2 ⟨by decide, by decide⟩ (fun c66 => ?_) (fun c66 => ?_)
                  · refine wm_iconst d_MM_item_186 ?_
                    refine wm_less (L' := [vd, vd, vd]) ⟨Or.inl rfl, Or.inl rfl, Or.inl rfl, trivial⟩ ?_
                    exact hJ 0 (if_neg c66).symm
                  · replace c66 := Classical.not_not.mp c66
                    refine wm_iconst d_MM_item_182 ?_
                    refine wm_goto (tgt := 187) d_MM_item_183 rfl ?_
                    refine wm_less (L' := [vd, vd, vd]) ⟨Or.inl rfl, Or.inl rfl, Or.inl rfl, trivial⟩ ?_
                    exact hJ 1 (if_pos c66).symm
                · replace h := h.2 c65
                  refine wm_tableD (tgt := 195) (off := 194) d_MM_item_1 hi_l1 (if q8 : 50 ≤ l1 ∧ l1 ≤ 60 then Or.inr ⟨q8.1, q8.2, by
      have q9 : l1 = 52 ∨ l1 = 55 ∨ l1 = 59 := by omega
      rcases q9 with q9 | q9 | q9 <;> (rw [q9]; rfl)⟩ else Or.inl (by omega)) rfl ?_
                  obtain ⟨h77, h⟩ := h
                  refine wm_aload_n d_MM_item_195 rfl rfl ?_
                  refine wm_iload_n d_MM_item_196 rfl rfl ?_
                  refine cf_MM_251 rfl d_MM_item_197 h77 (Nat.le_of_ble_eq_true rfl) (Ci.mono h (fun x79 M78 h => ?_))
                  obtain ⟨h80, hOM78, h⟩ := h
                  refine wm_ireturn d_MM_item_200 rfl rfl ?_
                  exact ⟨_, rfl, h⟩
