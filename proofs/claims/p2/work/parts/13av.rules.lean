theorem d_So_wayFrom_0 : decode y_So_wayFrom.2.1 0 = .ok (.aload_n 0, 1) := by decide +kernel
theorem d_So_wayFrom_1 : decode y_So_wayFrom.2.1 1 = .ok (.getfield 61, 3) := by decide +kernel
theorem d_So_wayFrom_4 : decode y_So_wayFrom.2.1 4 = .ok (.getfield 102, 3) := by decide +kernel
theorem d_So_wayFrom_7 : decode y_So_wayFrom.2.1 7 = .ok (.iload_n 1, 1) := by decide +kernel
theorem d_So_wayFrom_8 : decode y_So_wayFrom.2.1 8 = .ok (.iaload, 1) := by decide +kernel
theorem d_So_wayFrom_9 : decode y_So_wayFrom.2.1 9 = .ok (.iconst 1, 1) := by decide +kernel
theorem d_So_wayFrom_10 : decode y_So_wayFrom.2.1 10 = .ok (.if_icmp .ne 7, 3) := by decide +kernel
theorem d_So_wayFrom_13 : decode y_So_wayFrom.2.1 13 = .ok (.iconst 1, 1) := by decide +kernel
theorem d_So_wayFrom_14 : decode y_So_wayFrom.2.1 14 = .ok (.goto 4, 3) := by decide +kernel
theorem d_So_wayFrom_17 : decode y_So_wayFrom.2.1 17 = .ok (.iconst 0, 1) := by decide +kernel
theorem d_So_wayFrom_18 : decode y_So_wayFrom.2.1 18 = .ok (.istore_n 2, 1) := by decide +kernel
theorem d_So_wayFrom_19 : decode y_So_wayFrom.2.1 19 = .ok (.aload_n 0, 1) := by decide +kernel
theorem d_So_wayFrom_20 : decode y_So_wayFrom.2.1 20 = .ok (.getfield 32, 3) := by decide +kernel
theorem d_So_wayFrom_23 : decode y_So_wayFrom.2.1 23 = .ok (.iload_n 1, 1) := by decide +kernel
theorem d_So_wayFrom_24 : decode y_So_wayFrom.2.1 24 = .ok (.iaload, 1) := by decide +kernel
theorem d_So_wayFrom_25 : decode y_So_wayFrom.2.1 25 = .ok (.istore_n 3, 1) := by decide +kernel
theorem d_So_wayFrom_26 : decode y_So_wayFrom.2.1 26 = .ok (.iload_n 3, 1) := by decide +kernel
theorem d_So_wayFrom_27 : decode y_So_wayFrom.2.1 27 = .ok (.aload_n 0, 1) := by decide +kernel
theorem d_So_wayFrom_28 : decode y_So_wayFrom.2.1 28 = .ok (.getfield 35, 3) := by decide +kernel
theorem d_So_wayFrom_31 : decode y_So_wayFrom.2.1 31 = .ok (.iload_n 1, 1) := by decide +kernel
theorem d_So_wayFrom_32 : decode y_So_wayFrom.2.1 32 = .ok (.iaload, 1) := by decide +kernel
theorem d_So_wayFrom_33 : decode y_So_wayFrom.2.1 33 = .ok (.if_icmp .ge 28, 3) := by decide +kernel
theorem d_So_wayFrom_61 : decode y_So_wayFrom.2.1 61 = .ok (.iload_n 2, 1) := by decide +kernel
theorem d_So_wayFrom_36 : decode y_So_wayFrom.2.1 36 = .ok (.aload_n 0, 1) := by decide +kernel
theorem d_So_wayFrom_37 : decode y_So_wayFrom.2.1 37 = .ok (.iload_n 3, 1) := by decide +kernel
theorem d_So_wayFrom_62 : decode y_So_wayFrom.2.1 62 = .ok (.ifCond .ne 18, 3) := by decide +kernel
theorem d_So_wayFrom_65 : decode y_So_wayFrom.2.1 65 = .ok (.aload_n 0, 1) := by decide +kernel
theorem d_So_wayFrom_66 : decode y_So_wayFrom.2.1 66 = .ok (.getfield 32, 3) := by decide +kernel
theorem d_So_wayFrom_69 : decode y_So_wayFrom.2.1 69 = .ok (.iload_n 1, 1) := by decide +kernel
theorem d_So_wayFrom_70 : decode y_So_wayFrom.2.1 70 = .ok (.iaload, 1) := by decide +kernel
theorem d_So_wayFrom_71 : decode y_So_wayFrom.2.1 71 = .ok (.aload_n 0, 1) := by decide +kernel
theorem d_So_wayFrom_72 : decode y_So_wayFrom.2.1 72 = .ok (.getfield 35, 3) := by decide +kernel
theorem d_So_wayFrom_75 : decode y_So_wayFrom.2.1 75 = .ok (.iload_n 1, 1) := by decide +kernel
theorem d_So_wayFrom_76 : decode y_So_wayFrom.2.1 76 = .ok (.iaload, 1) := by decide +kernel
theorem d_So_wayFrom_77 : decode y_So_wayFrom.2.1 77 = .ok (.if_icmp .ne 7, 3) := by decide +kernel
theorem d_So_wayFrom_84 : decode y_So_wayFrom.2.1 84 = .ok (.aload_n 0, 1) := by decide +kernel
theorem d_So_wayFrom_85 : decode y_So_wayFrom.2.1 85 = .ok (.getfield 32, 3) := by decide +kernel
theorem d_So_wayFrom_88 : decode y_So_wayFrom.2.1 88 = .ok (.iload_n 1, 1) := by decide +kernel
theorem d_So_wayFrom_89 : decode y_So_wayFrom.2.1 89 = .ok (.iaload, 1) := by decide +kernel
theorem d_So_wayFrom_90 : decode y_So_wayFrom.2.1 90 = .ok (.ireturn, 1) := by decide +kernel
theorem d_So_wayFrom_80 : decode y_So_wayFrom.2.1 80 = .ok (.iconst (-1), 1) := by decide +kernel
theorem d_So_wayFrom_81 : decode y_So_wayFrom.2.1 81 = .ok (.goto 9, 3) := by decide +kernel
theorem d_So_wayFrom_38 : decode y_So_wayFrom.2.1 38 = .ok (.invokevirtual 124, 3) := by decide +kernel
theorem d_So_wayFrom_41 : decode y_So_wayFrom.2.1 41 = .ok (.iload_n 2, 1) := by decide +kernel
theorem d_So_wayFrom_42 : decode y_So_wayFrom.2.1 42 = .ok (.if_icmp .ne 13, 3) := by decide +kernel
theorem d_So_wayFrom_45 : decode y_So_wayFrom.2.1 45 = .ok (.iload_n 2, 1) := by decide +kernel
theorem d_So_wayFrom_55 : decode y_So_wayFrom.2.1 55 = .ok (.iinc 3 1, 3) := by decide +kernel
theorem d_So_wayFrom_58 : decode y_So_wayFrom.2.1 58 = .ok (.goto (-32), 3) := by decide +kernel
theorem d_So_wayFrom_46 : decode y_So_wayFrom.2.1 46 = .ok (.ifCond .eq 7, 3) := by decide +kernel
theorem d_So_wayFrom_53 : decode y_So_wayFrom.2.1 53 = .ok (.iconst (-1), 1) := by decide +kernel
theorem d_So_wayFrom_54 : decode y_So_wayFrom.2.1 54 = .ok (.ireturn, 1) := by decide +kernel
theorem d_So_wayFrom_49 : decode y_So_wayFrom.2.1 49 = .ok (.iload_n 3, 1) := by decide +kernel
theorem d_So_wayFrom_50 : decode y_So_wayFrom.2.1 50 = .ok (.goto 4, 3) := by decide +kernel
def h_So_wayFrom_26 (G : mG) (d : Nat) (a0 : Nat) (l1 : Int) (l2 : Int) (l3 : Int) (M : mM) (Q : Int → mM → Prop) : Prop := mWm G y_So_wayFrom (d + 1) 26 [vr a0, vi l1, vi l2, vi l3] [] M (fun r9 M9 => ∃ x9, r9 = some (vi x9) ∧ Q x9 M9)
theorem k_So_wayFrom {G : mG} {d : Nat} {a0 : Nat} {l1 : Int} {M : mM} {Q : Int → mM → Prop} (hO : mOk M) (hi_l1 : i32 l1)
    (h : mK M a0 = 8 ∧ mK M (mR M a0 3) = 7 ∧ mK M (mR M (mR M a0 3) 2) = 30 ∧ ((0 : Int) ≤ l1 ∧ l1 < (mN M (mR M (mR M a0 3) 2) : Int)) ∧ ∀ v6 : Int, v6 = (if (mI M (mR M (mR M a0 3) 2) (Int.toNat l1) = 1) then 1 else 0) → mK M (mR M a0 5) = 30 ∧ ((0 : Int) ≤ l1 ∧ l1 < (mN M (mR M a0 5) : Int)) ∧ h_So_wayFrom_26 G d a0 l1 v6 (mI M (mR M a0 5) (Int.toNat l1)) M Q) :
    Ci G y_So_wayFrom (d + 1) [vr a0, vi l1] M Q := by
  refine wm_open (y := y_So_wayFrom) rfl (Nat.le_of_ble_eq_true rfl) (L := [vr a0, vi l1, vd, vd]) rfl ?_
  obtain ⟨h1, h⟩ := h
  obtain ⟨h2, h⟩ := h
  obtain ⟨h3, h⟩ := h
  obtain ⟨h4, h⟩ := h
  refine wm_aload_n d_So_wayFrom_0 rfl rfl ?_
  refine gf_So_61 rfl d_So_wayFrom_1 h1 ?_
  refine gf_So_102 rfl d_So_wayFrom_4 h2 ?_
  refine wm_iload_n d_So_wayFrom_7 rfl rfl ?_
  refine wm_iald d_So_wayFrom_8 h3 h4 ?_
  refine wm_iconst d_So_wayFrom_9 ?_
  have hJ : ∀ v6 : Int, v6 = (if (mI M (mR M (mR M a0 3) 2) (Int.toNat l1) = 1) then 1 else 0) → mWm G y_So_wayFrom (d + 1) 18 [vr a0, vi l1, vd, vd] [vi v6] M (fun r9 M9 => ∃ x9, r9 = some (vi x9) ∧ Q x9 M9) := by
    intro v6 e8
    have h := h v6 e8
    have h9 : i32 v6 := by rw [e8]; (repeat' split) <;> first | exact ⟨by decide, by decide⟩ | exact ⟨by decide, by decide⟩
    have h10 : (v6 = 0 ∨ v6 = 1) := by rw [e8]; (repeat' split) <;> decide
    obtain ⟨h11, h⟩ := h
    obtain ⟨h12, h⟩ := h
    refine wm_istore_n d_So_wayFrom_18 rfl (by decide) (L' := [vr a0, vi l1, vi v6, vd]) rfl ?_
    refine wm_aload_n d_So_wayFrom_19 rfl rfl ?_
    refine gf_So_32 rfl d_So_wayFrom_20 h1 ?_
    refine wm_iload_n d_So_wayFrom_23 rfl rfl ?_
    refine wm_iald d_So_wayFrom_24 h11 h12 ?_
    refine wm_istore_n d_So_wayFrom_25 rfl (by decide) (L' := [vr a0, vi l1, vi v6, vi (mI M (mR M a0 5) (Int.toNat l1))]) rfl ?_
    exact h
  clear h
  refine wm_icmp_ne (tgt := 17) d_So_wayFrom_10 rfl (hO _ _).1 ⟨by decide, by decide⟩ (fun c5 => ?_) (fun c5 => ?_)
  · refine wm_iconst d_So_wayFrom_17 ?_
    exact hJ 0 (if_neg c5).symm
  · replace c5 := Classical.not_not.mp c5
    refine wm_iconst d_So_wayFrom_13 ?_
    refine wm_goto (tgt := 18) d_So_wayFrom_14 rfl ?_
    exact hJ 1 (if_pos c5).symm
theorem k_So_wayFrom_26 {G : mG} {d : Nat} {a0 : Nat} {l1 : Int} {l2 : Int} {l3 : Int} {M : mM} {Q : Int → mM → Prop} (hO : mOk M) (hi_l1 : i32 l1) (hi_l2 : i32 l2) (hi_l3 : i32 l3)
    (h : mK M a0 = 8 ∧ mK M (mR M a0 6) = 30 ∧ ((0 : Int) ≤ l1 ∧ l1 < (mN M (mR M a0 6) : Int)) ∧ ((mI M (mR M a0 6) (Int.toNat l1) ≤ l3) → (((l2 = 0) → (mK M (mR M a0 5) = 30 ∧ ((0 : Int) ≤ l1 ∧ l1 < (mN M (mR M a0 5) : Int)) ∧ ((0 : Int) ≤ l1 ∧ l1 < (mN M (mR M a0 6) : Int)) ∧ (¬ (mI M (mR M a0 5) (Int.toNat l1) = mI M (mR M a0 6) (Int.toNat l1)) → ((0 : Int) ≤ l1 ∧ l1 < (mN M (mR M a0 5) : Int))))) ∧ ∀ v31 : Int, v31 = (if ((¬ (l2 = 0)) ∨ (mI M (mR M a0 5) (Int.toNat l1) = mI M (mR M a0 6) (Int.toNat l1))) then (-1) else mI M (mR M a0 5) (Int.toNat l1)) → Q v31 M)) ∧ (¬ (mI M (mR M a0 6) (Int.toNat l1) ≤ l3) → (Ci G y_So_comesOn d [vr a0, vi l3] M (fun x39 M38 => i32 x39 ∧ mOk M38 ∧ (((x39 = l2) → (∀ v45 : Int, v45 = (if (l2 = 0) then (-1) else l3) → Q v45 M38)) ∧ (¬ (x39 = l2) → (h_So_wayFrom_26 G d a0 l1 l2 (l3 + 1) M38 Q))))))) :
    h_So_wayFrom_26 G d a0 l1 l2 l3 M Q := by
  unfold h_So_wayFrom_26
  obtain ⟨h14, h⟩ := h
  obtain ⟨h15, h⟩ := h
  obtain ⟨h16, h⟩ := h
  refine wm_iload_n d_So_wayFrom_26 rfl rfl ?_
  refine wm_aload_n d_So_wayFrom_27 rfl rfl ?_
  refine gf_So_35 rfl d_So_wayFrom_28 h14 ?_
  refine wm_iload_n d_So_wayFrom_31 rfl rfl ?_
  refine wm_iald d_So_wayFrom_32 h15 h16 ?_
  refine wm_icmp_ge (tgt := 61) d_So_wayFrom_33 rfl hi_l3 (hO _ _).1 (fun c24 => ?_) (fun c24 => ?_)
  · replace h := h.1 c24
    refine wm_iload_n d_So_wayFrom_61 rfl rfl ?_
    obtain ⟨s32, h⟩ := h
    have hJ : ∀ v31 : Int, v31 = (if ((¬ (l2 = 0)) ∨ (mI M (mR M a0 5) (Int.toNat l1) = mI M (mR M a0 6) (Int.toNat l1))) then (-1) else mI M (mR M a0 5) (Int.toNat l1)) → mWm G y_So_wayFrom (d + 1) 90 [vd, vd, vd, vd] [vi v31] M (fun r9 M9 => ∃ x9, r9 = some (vi x9) ∧ Q x9 M9) := by
      intro v31 e33
      have h := h v31 e33
      refine wm_ireturn d_So_wayFrom_90 rfl rfl ?_
      exact ⟨_, rfl, h⟩
    clear h
    have s34 := s32
    refine wm_if_ne (tgt := 80) d_So_wayFrom_62 rfl hi_l2 (fun c25 => ?_) (fun c25 => ?_)
    · refine wm_iconst d_So_wayFrom_80 ?_
      refine wm_goto (tgt := 90) d_So_wayFrom_81 rfl ?_
      refine wm_less (L' := [vd, vd, vd, vd]) ⟨Or.inl rfl, Or.inl rfl, Or.inl rfl, Or.inl rfl, trivial⟩ ?_
      exact hJ (-1) (if_pos (Or.inl c25)).symm
    · replace c25 := Classical.not_not.mp c25
      have s34 := s34 c25
      obtain ⟨h26, h27, h28, s35⟩ := s34
      refine wm_aload_n d_So_wayFrom_65 rfl rfl ?_
      refine gf_So_32 rfl d_So_wayFrom_66 h14 ?_
      refine wm_iload_n d_So_wayFrom_69 rfl rfl ?_
      refine wm_iald d_So_wayFrom_70 h26 h27 ?_
      refine wm_aload_n d_So_wayFrom_71 rfl rfl ?_
      refine gf_So_35 rfl d_So_wayFrom_72 h14 ?_
      refine wm_iload_n d_So_wayFrom_75 rfl rfl ?_
      refine wm_iald d_So_wayFrom_76 h15 h28 ?_
      refine wm_icmp_ne (tgt := 84) d_So_wayFrom_77 rfl (hO _ _).1 (hO _ _).1 (fun c29 => ?_) (fun c29 => ?_)
      · have s35 := s35 c29
        have h30 := s35
        refine wm_aload_n d_So_wayFrom_84 rfl rfl ?_
        refine gf_So_32 rfl d_So_wayFrom_85 h14 ?_
        refine wm_iload_n d_So_wayFrom_88 rfl rfl ?_
        refine wm_iald d_So_wayFrom_89 h26 h30 ?_
        refine wm_less (L' := [vd, vd, vd, vd]) ⟨Or.inl rfl, Or.inl rfl, Or.inl rfl, Or.inl rfl, trivial⟩ ?_
        exact hJ (mI M (mR M a0 5) (Int.toNat l1)) (if_neg (fun z36 => Or.elim z36 (fun w => w c25) c29)).symm
      · replace c29 := Classical.not_not.mp c29
        refine wm_iconst d_So_wayFrom_80 ?_
        refine wm_goto (tgt := 90) d_So_wayFrom_81 rfl ?_
        refine wm_less (L' := [vd, vd, vd, vd]) ⟨Or.inl rfl, Or.inl rfl, Or.inl rfl, Or.inl rfl, trivial⟩ ?_
        exact hJ (-1) (if_pos (Or.inr c29)).symm
  · replace h := h.2 c24
    refine wm_aload_n d_So_wayFrom_36 rfl rfl ?_
    refine wm_iload_n d_So_wayFrom_37 rfl rfl ?_
    refine cf_So_124 rfl d_So_wayFrom_38 h14 (Nat.le_of_ble_eq_true rfl) (Ci.mono h (fun x39 M38 h => ?_))
    obtain ⟨h40, hOM38, h⟩ := h
    refine wm_iload_n d_So_wayFrom_41 rfl rfl ?_
    refine wm_icmp_ne (tgt := 55) d_So_wayFrom_42 rfl h40 hi_l2 (fun c43 => ?_) (fun c43 => ?_)
    · replace h := h.2 c43
      refine wm_iinc d_So_wayFrom_55 (by decide) rfl (L' := [vr a0, vi l1, vi l2, vi (l3 + 1)]) rfl ?_
      refine wm_goto (tgt := 26) d_So_wayFrom_58 rfl ?_
      exact h
    · replace c43 := Classical.not_not.mp c43
      replace h := h.1 c43
      refine wm_iload_n d_So_wayFrom_45 rfl rfl ?_
      have hJ : ∀ v45 : Int, v45 = (if (l2 = 0) then (-1) else l3) → mWm G y_So_wayFrom (d + 1) 54 [vd, vd, vd, vd] [vi v45] M38 (fun r9 M9 => ∃ x9, r9 = some (vi x9) ∧ Q x9 M9) := by
        intro v45 e47
        have h := h v45 e47
        have h48 : i32 v45 := by rw [e47]; (repeat' split) <;> first | exact ⟨by decide, by decide⟩ | exact hi_l3
        refine wm_ireturn d_So_wayFrom_54 rfl rfl ?_
        exact ⟨_, rfl, h⟩
      clear h
      refine wm_if_eq (tgt := 53) d_So_wayFrom_46 rfl hi_l2 (fun c44 => ?_) (fun c44 => ?_)
      · refine wm_iconst d_So_wayFrom_53 ?_
        refine wm_less (L' := [vd, vd, vd, vd]) ⟨Or.inl rfl, Or.inl rfl, Or.inl rfl, Or.inl rfl, trivial⟩ ?_
        exact hJ (-1) (if_pos c44).symm
      · refine wm_iload_n d_So_wayFrom_49 rfl rfl ?_
        refine wm_goto (tgt := 54) d_So_wayFrom_50 rfl ?_
        refine wm_less (L' := [vd, vd, vd, vd]) ⟨Or.inl rfl, Or.inl rfl, Or.inl rfl, Or.inl rfl, trivial⟩ ?_
        exact hJ l3 (if_neg c44).symm
theorem d_So_comesOn_0 : decode y_So_comesOn.2.1 0 = .ok (.aload_n 0, 1) := by decide +kernel
theorem d_So_comesOn_1 : decode y_So_comesOn.2.1 1 = .ok (.getfield 61, 3) := by decide +kernel
theorem d_So_comesOn_4 : decode y_So_comesOn.2.1 4 = .ok (.getfield 128, 3) := by decide +kernel
theorem d_So_comesOn_7 : decode y_So_comesOn.2.1 7 = .ok (.iload_n 1, 1) := by decide +kernel
theorem d_So_comesOn_8 : decode y_So_comesOn.2.1 8 = .ok (.iaload, 1) := by decide +kernel
theorem d_So_comesOn_9 : decode y_So_comesOn.2.1 9 = .ok (.istore_n 2, 1) := by decide +kernel
theorem d_So_comesOn_10 : decode y_So_comesOn.2.1 10 = .ok (.iload_n 2, 1) := by decide +kernel
theorem d_So_comesOn_11 : decode y_So_comesOn.2.1 11 = .ok (.aload_n 0, 1) := by decide +kernel
theorem d_So_comesOn_12 : decode y_So_comesOn.2.1 12 = .ok (.getfield 61, 3) := by decide +kernel
theorem d_So_comesOn_15 : decode y_So_comesOn.2.1 15 = .ok (.getfield 128, 3) := by decide +kernel
theorem d_So_comesOn_18 : decode y_So_comesOn.2.1 18 = .ok (.iload_n 1, 1) := by decide +kernel
theorem d_So_comesOn_19 : decode y_So_comesOn.2.1 19 = .ok (.iconst 1, 1) := by decide +kernel
theorem d_So_comesOn_20 : decode y_So_comesOn.2.1 20 = .ok (.iadd, 1) := by decide +kernel
theorem d_So_comesOn_21 : decode y_So_comesOn.2.1 21 = .ok (.iaload, 1) := by decide +kernel
theorem d_So_comesOn_22 : decode y_So_comesOn.2.1 22 = .ok (.if_icmp .ge 44, 3) := by decide +kernel
theorem d_So_comesOn_66 : decode y_So_comesOn.2.1 66 = .ok (.iconst 0, 1) := by decide +kernel
theorem d_So_comesOn_67 : decode y_So_comesOn.2.1 67 = .ok (.ireturn, 1) := by decide +kernel
theorem d_So_comesOn_25 : decode y_So_comesOn.2.1 25 = .ok (.aload_n 0, 1) := by decide +kernel
theorem d_So_comesOn_26 : decode y_So_comesOn.2.1 26 = .ok (.getfield 61, 3) := by decide +kernel
theorem d_So_comesOn_29 : decode y_So_comesOn.2.1 29 = .ok (.getfield 131, 3) := by decide +kernel
theorem d_So_comesOn_32 : decode y_So_comesOn.2.1 32 = .ok (.iload_n 2, 1) := by decide +kernel
theorem d_So_comesOn_33 : decode y_So_comesOn.2.1 33 = .ok (.iaload, 1) := by decide +kernel
theorem d_So_comesOn_34 : decode y_So_comesOn.2.1 34 = .ok (.istore_n 3, 1) := by decide +kernel
theorem d_So_comesOn_35 : decode y_So_comesOn.2.1 35 = .ok (.aload_n 0, 1) := by decide +kernel
theorem d_So_comesOn_36 : decode y_So_comesOn.2.1 36 = .ok (.getfield 38, 3) := by decide +kernel
theorem d_So_comesOn_39 : decode y_So_comesOn.2.1 39 = .ok (.iload_n 3, 1) := by decide +kernel
theorem d_So_comesOn_40 : decode y_So_comesOn.2.1 40 = .ok (.iaload, 1) := by decide +kernel
theorem d_So_comesOn_41 : decode y_So_comesOn.2.1 41 = .ok (.iconst (-1), 1) := by decide +kernel
theorem d_So_comesOn_42 : decode y_So_comesOn.2.1 42 = .ok (.if_icmp .ne 16, 3) := by decide +kernel
theorem d_So_comesOn_45 : decode y_So_comesOn.2.1 45 = .ok (.aload_n 0, 1) := by decide +kernel
theorem d_So_comesOn_46 : decode y_So_comesOn.2.1 46 = .ok (.getfield 61, 3) := by decide +kernel
theorem d_So_comesOn_49 : decode y_So_comesOn.2.1 49 = .ok (.getfield 102, 3) := by decide +kernel
theorem d_So_comesOn_52 : decode y_So_comesOn.2.1 52 = .ok (.iload_n 3, 1) := by decide +kernel
theorem d_So_comesOn_53 : decode y_So_comesOn.2.1 53 = .ok (.iaload, 1) := by decide +kernel
theorem d_So_comesOn_54 : decode y_So_comesOn.2.1 54 = .ok (.iconst 3, 1) := by decide +kernel
theorem d_So_comesOn_55 : decode y_So_comesOn.2.1 55 = .ok (.if_icmp .ne 5, 3) := by decide +kernel
theorem d_So_comesOn_60 : decode y_So_comesOn.2.1 60 = .ok (.iinc 2 1, 3) := by decide +kernel
theorem d_So_comesOn_63 : decode y_So_comesOn.2.1 63 = .ok (.goto (-53), 3) := by decide +kernel
theorem d_So_comesOn_58 : decode y_So_comesOn.2.1 58 = .ok (.iconst 1, 1) := by decide +kernel
theorem d_So_comesOn_59 : decode y_So_comesOn.2.1 59 = .ok (.ireturn, 1) := by decide +kernel
def h_So_comesOn_10 (G : mG) (d : Nat) (a0 : Nat) (l1 : Int) (l2 : Int) (M : mM) (Q : Int → mM → Prop) : Prop := mWm G y_So_comesOn d 10 [vr a0, vi l1, vi l2, vd] [] M (fun r9 M9 => ∃ x9, r9 = some (vi x9) ∧ Q x9 M9)
theorem k_So_comesOn {G : mG} {d : Nat} {a0 : Nat} {l1 : Int} {M : mM} {Q : Int → mM → Prop} (hO : mOk M) (hi_l1 : i32 l1)
    (h : mK M a0 = 8 ∧ mK M (mR M a0 3) = 7 ∧ mK M (mR M (mR M a0 3) 7) = 30 ∧ ((0 : Int) ≤ l1 ∧ l1 < (mN M (mR M (mR M a0 3) 7) : Int)) ∧ h_So_comesOn_10 G d a0 l1 (mI M (mR M (mR M a0 3) 7) (Int.toNat l1)) M Q) :
    Ci G y_So_comesOn d [vr a0, vi l1] M Q := by
  refine wm_open (y := y_So_comesOn) rfl (Nat.le_of_ble_eq_true rfl) (L := [vr a0, vi l1, vd, vd]) rfl ?_
  obtain ⟨h1, h⟩ := h
  obtain ⟨h2, h⟩ := h
  obtain ⟨h3, h⟩ := h
  obtain ⟨h4, h⟩ := h
  refine wm_aload_n d_So_comesOn_0 rfl rfl ?_
  refine gf_So_61 rfl d_So_comesOn_1 h1 ?_
  refine gf_So_128 rfl d_So_comesOn_4 h2 ?_
  refine wm_iload_n d_So_comesOn_7 rfl rfl ?_
  refine wm_iald d_So_comesOn_8 h3 h4 ?_
  refine wm_istore_n d_So_comesOn_9 rfl (by decide) (L' := [vr a0, vi l1, vi (mI M (mR M (mR M a0 3) 7) (Int.toNat l1)), vd]) rfl ?_
  exact h
theorem k_So_comesOn_10 {G : mG} {d : Nat} {a0 : Nat} {l1 : Int} {l2 : Int} {M : mM} {Q : Int → mM → Prop} (hO : mOk M) (hi_l1 : i32 l1) (hi_l2 : i32 l2)
    (h : mK M a0 = 8 ∧ mK M (mR M a0 3) = 7 ∧ mK M (mR M (mR M a0 3) 7) = 30 ∧ ((0 : Int) ≤ l1 + 1 ∧ l1 + 1 < (mN M (mR M (mR M a0 3) 7) : Int)) ∧ ((mI M (mR M (mR M a0 3) 7) (Int.toNat (l1 + 1)) ≤ l2) → (Q 0 M)) ∧ (¬ (mI M (mR M (mR M a0 3) 7) (Int.toNat (l1 + 1)) ≤ l2) → (mK M (mR M (mR M a0 3) 8) = 30 ∧ ((0 : Int) ≤ l2 ∧ l2 < (mN M (mR M (mR M a0 3) 8) : Int)) ∧ mK M (mR M a0 7) = 30 ∧ ((0 : Int) ≤ mI M (mR M (mR M a0 3) 8) (Int.toNat l2) ∧ mI M (mR M (mR M a0 3) 8) (Int.toNat l2) < (mN M (mR M a0 7) : Int)) ∧ ((mI M (mR M a0 7) (Int.toNat (mI M (mR M (mR M a0 3) 8) (Int.toNat l2))) = (-1)) → (mK M (mR M (mR M a0 3) 2) = 30 ∧ ((0 : Int) ≤ mI M (mR M (mR M a0 3) 8) (Int.toNat l2) ∧ mI M (mR M (mR M a0 3) 8) (Int.toNat l2) < (mN M (mR M (mR M a0 3) 2) : Int)))) ∧ (((¬ (mI M (mR M a0 7) (Int.toNat (mI M (mR M (mR M a0 3) 8) (Int.toNat l2))) = (-1))) ∨ (mI M (mR M (mR M a0 3) 2) (Int.toNat (mI M (mR M (mR M a0 3) 8) (Int.toNat l2))) = 3)) → (Q 1 M)) ∧ (¬ ((¬ (mI M (mR M a0 7) (Int.toNat (mI M (mR M (mR M a0 3) 8) (Int.toNat l2))) = (-1))) ∨ (mI M (mR M (mR M a0 3) 2) (Int.toNat (mI M (mR M (mR M a0 3) 8) (Int.toNat l2))) = 3)) → (h_So_comesOn_10 G d a0 l1 (l2 + 1) M Q))))) :
    h_So_comesOn_10 G d a0 l1 l2 M Q := by
  unfold h_So_comesOn_10
  obtain ⟨h5, h⟩ := h
  obtain ⟨h6, h⟩ := h
  obtain ⟨h7, h⟩ := h
  obtain ⟨h8, h⟩ := h
  refine wm_iload_n d_So_comesOn_10 rfl rfl ?_
  refine wm_aload_n d_So_comesOn_11 rfl rfl ?_
  refine gf_So_61 rfl d_So_comesOn_12 h5 ?_
  refine gf_So_128 rfl d_So_comesOn_15 h6 ?_
  refine wm_iload_n d_So_comesOn_18 rfl rfl ?_
  refine wm_iconst d_So_comesOn_19 ?_
  refine wm_iadd d_So_comesOn_20 ?_
  refine wm_iald d_So_comesOn_21 h7 h8 ?_
  refine wm_icmp_ge (tgt := 66) d_So_comesOn_22 rfl hi_l2 (hO _ _).1 (fun c14 => ?_) (fun c14 => ?_)
  · replace h := h.1 c14
    refine wm_iconst d_So_comesOn_66 ?_
    refine wm_ireturn d_So_comesOn_67 rfl (m_nb (by decide)) ?_
    exact ⟨_, rfl, h⟩
  · replace h := h.2 c14
    obtain ⟨h15, h⟩ := h
    obtain ⟨h16, h⟩ := h
    obtain ⟨h17, h⟩ := h
    obtain ⟨h18, h⟩ := h
    refine wm_aload_n d_So_comesOn_25 rfl rfl ?_
    refine gf_So_61 rfl d_So_comesOn_26 h5 ?_
    refine gf_So_131 rfl d_So_comesOn_29 h6 ?_
    refine wm_iload_n d_So_comesOn_32 rfl rfl ?_
    refine wm_iald d_So_comesOn_33 h15 h16 ?_
    refine wm_istore_n d_So_comesOn_34 rfl (by decide) (L' := [vr a0, vi l1, vi l2, vi (mI M (mR M (mR M a0 3) 8) (Int.toNat l2))]) rfl ?_
    refine wm_aload_n d_So_comesOn_35 rfl rfl ?_
    refine gf_So_38 rfl d_So_comesOn_36 h5 ?_
    refine wm_iload_n d_So_comesOn_39 rfl rfl ?_
    refine wm_iald d_So_comesOn_40 h17 h18 ?_
    refine wm_iconst d_So_comesOn_41 ?_
    obtain ⟨s23, h⟩ := h
    have hE0 : ((¬ (mI M (mR M a0 7) (Int.toNat (mI M (mR M (mR M a0 3) 8) (Int.toNat l2))) = (-1))) ∨ (mI M (mR M (mR M a0 3) 2) (Int.toNat (mI M (mR M (mR M a0 3) 8) (Int.toNat l2))) = 3)) → mWm G y_So_comesOn d 58 [vr a0, vi l1, vi l2, vi (mI M (mR M (mR M a0 3) 8) (Int.toNat l2))] [] M (fun r9 M9 => ∃ x9, r9 = some (vi x9) ∧ Q x9 M9) := by
      intro q24
      have h := h.1 q24
      refine wm_iconst d_So_comesOn_58 ?_
      refine wm_ireturn d_So_comesOn_59 rfl (m_nb (by decide)) ?_
      exact ⟨_, rfl, h⟩
    have hE1 : ¬ ((¬ (mI M (mR M a0 7) (Int.toNat (mI M (mR M (mR M a0 3) 8) (Int.toNat l2))) = (-1))) ∨ (mI M (mR M (mR M a0 3) 2) (Int.toNat (mI M (mR M (mR M a0 3) 8) (Int.toNat l2))) = 3)) → mWm G y_So_comesOn d 60 [vr a0, vi l1, vi l2, vi (mI M (mR M (mR M a0 3) 8) (Int.toNat l2))] [] M (fun r9 M9 => ∃ x9, r9 = some (vi x9) ∧ Q x9 M9) := by
      intro q25
      have h := h.2 q25
      refine wm_iinc d_So_comesOn_60 (by decide) rfl (L' := [vr a0, vi l1, vi (l2 + 1), vi (mI M (mR M (mR M a0 3) 8) (Int.toNat l2))]) rfl ?_
      refine wm_goto (tgt := 10) d_So_comesOn_63 rfl ?_
      refine wm_less (L' := [vr a0, vi l1, vi (l2 + 1), vd]) ⟨Or.inr rfl, Or.inr rfl, Or.inr rfl, Or.inl rfl, trivial⟩ ?_
      exact h
    clear h
    have s26 := s23
    refine wm_icmp_ne (tgt := 58) d_So_comesOn_42 rfl (hO _ _).1 ⟨by decide, by decide⟩ (fun c22 => ?_) (fun c22 => ?_)
    · exact hE0 (Or.inl c22)
    · replace c22 := Classical.not_not.mp c22
      have s26 := s26 c22
      obtain ⟨h19, h20⟩ := s26
      refine wm_aload_n d_So_comesOn_45 rfl rfl ?_
      refine gf_So_61 rfl d_So_comesOn_46 h5 ?_
      refine gf_So_102 rfl d_So_comesOn_49 h6 ?_
      refine wm_iload_n d_So_comesOn_52 rfl rfl ?_
      refine wm_iald d_So_comesOn_53 h19 h20 ?_
      refine wm_iconst d_So_comesOn_54 ?_
      refine wm_icmp_ne (tgt := 60) d_So_comesOn_55 rfl (hO _ _).1 ⟨by decide, by decide⟩ (fun c21 => ?_) (fun c21 => ?_)
      · exact hE1 (fun z27 => Or.elim z27 (fun w => w c22) c21)
      · replace c21 := Classical.not_not.mp c21
        exact hE0 (Or.inr c21)
theorem d_So_weights_0 : decode y_So_weights.2.1 0 = .ok (.iconst 0, 1) := by decide +kernel
theorem d_So_weights_1 : decode y_So_weights.2.1 1 = .ok (.istore_n 1, 1) := by decide +kernel
theorem d_So_weights_2 : decode y_So_weights.2.1 2 = .ok (.iconst 0, 1) := by decide +kernel
theorem d_So_weights_3 : decode y_So_weights.2.1 3 = .ok (.istore_n 2, 1) := by decide +kernel
theorem d_So_weights_4 : decode y_So_weights.2.1 4 = .ok (.iload_n 2, 1) := by decide +kernel
theorem d_So_weights_5 : decode y_So_weights.2.1 5 = .ok (.aload_n 0, 1) := by decide +kernel
theorem d_So_weights_6 : decode y_So_weights.2.1 6 = .ok (.getfield 111, 3) := by decide +kernel
theorem d_So_weights_9 : decode y_So_weights.2.1 9 = .ok (.if_icmp .ge 73, 3) := by decide +kernel
theorem d_So_weights_82 : decode y_So_weights.2.1 82 = .ok (.iload_n 1, 1) := by decide +kernel
theorem d_So_weights_83 : decode y_So_weights.2.1 83 = .ok (.ireturn, 1) := by decide +kernel
theorem d_So_weights_12 : decode y_So_weights.2.1 12 = .ok (.iconst 1, 1) := by decide +kernel
theorem d_So_weights_13 : decode y_So_weights.2.1 13 = .ok (.istore_n 3, 1) := by decide +kernel
theorem d_So_weights_14 : decode y_So_weights.2.1 14 = .ok (.aload_n 0, 1) := by decide +kernel
theorem d_So_weights_15 : decode y_So_weights.2.1 15 = .ok (.getfield 32, 3) := by decide +kernel
theorem d_So_weights_18 : decode y_So_weights.2.1 18 = .ok (.aload_n 0, 1) := by decide +kernel
theorem d_So_weights_19 : decode y_So_weights.2.1 19 = .ok (.getfield 41, 3) := by decide +kernel
theorem d_So_weights_22 : decode y_So_weights.2.1 22 = .ok (.iload_n 2, 1) := by decide +kernel
theorem d_So_weights_23 : decode y_So_weights.2.1 23 = .ok (.iaload, 1) := by decide +kernel
theorem d_So_weights_24 : decode y_So_weights.2.1 24 = .ok (.iaload, 1) := by decide +kernel
theorem d_So_weights_25 : decode y_So_weights.2.1 25 = .ok (.istore 4, 2) := by decide +kernel
theorem d_So_weights_27 : decode y_So_weights.2.1 27 = .ok (.iload 4, 2) := by decide +kernel
theorem d_So_weights_29 : decode y_So_weights.2.1 29 = .ok (.aload_n 0, 1) := by decide +kernel
theorem d_So_weights_30 : decode y_So_weights.2.1 30 = .ok (.getfield 35, 3) := by decide +kernel
theorem d_So_weights_33 : decode y_So_weights.2.1 33 = .ok (.aload_n 0, 1) := by decide +kernel
theorem d_So_weights_34 : decode y_So_weights.2.1 34 = .ok (.getfield 41, 3) := by decide +kernel
theorem d_So_weights_37 : decode y_So_weights.2.1 37 = .ok (.iload_n 2, 1) := by decide +kernel
theorem d_So_weights_38 : decode y_So_weights.2.1 38 = .ok (.iaload, 1) := by decide +kernel
theorem d_So_weights_39 : decode y_So_weights.2.1 39 = .ok (.iaload, 1) := by decide +kernel
theorem d_So_weights_40 : decode y_So_weights.2.1 40 = .ok (.if_icmp .ge 24, 3) := by decide +kernel
theorem d_So_weights_64 : decode y_So_weights.2.1 64 = .ok (.iload_n 1, 1) := by decide +kernel
theorem d_So_weights_65 : decode y_So_weights.2.1 65 = .ok (.bipush 33, 2) := by decide +kernel
theorem d_So_weights_67 : decode y_So_weights.2.1 67 = .ok (.iload_n 3, 1) := by decide +kernel
theorem d_So_weights_68 : decode y_So_weights.2.1 68 = .ok (.iconst 1, 1) := by decide +kernel
theorem d_So_weights_69 : decode y_So_weights.2.1 69 = .ok (.isub, 1) := by decide +kernel
theorem d_So_weights_43 : decode y_So_weights.2.1 43 = .ok (.iload_n 3, 1) := by decide +kernel
theorem d_So_weights_44 : decode y_So_weights.2.1 44 = .ok (.aload_n 0, 1) := by decide +kernel
theorem d_So_weights_45 : decode y_So_weights.2.1 45 = .ok (.getfield 61, 3) := by decide +kernel
theorem d_So_weights_48 : decode y_So_weights.2.1 48 = .ok (.getfield 134, 3) := by decide +kernel
theorem d_So_weights_51 : decode y_So_weights.2.1 51 = .ok (.iload 4, 2) := by decide +kernel
theorem d_So_weights_53 : decode y_So_weights.2.1 53 = .ok (.iaload, 1) := by decide +kernel
theorem d_So_weights_54 : decode y_So_weights.2.1 54 = .ok (.invokestatic 137, 3) := by decide +kernel
theorem d_So_weights_57 : decode y_So_weights.2.1 57 = .ok (.istore_n 3, 1) := by decide +kernel
theorem d_So_weights_58 : decode y_So_weights.2.1 58 = .ok (.iinc 4 1, 3) := by decide +kernel
theorem d_So_weights_61 : decode y_So_weights.2.1 61 = .ok (.goto (-34), 3) := by decide +kernel
theorem d_So_weights_70 : decode y_So_weights.2.1 70 = .ok (.invokestatic 143, 3) := by decide +kernel
theorem d_So_weights_73 : decode y_So_weights.2.1 73 = .ok (.isub, 1) := by decide +kernel
theorem d_So_weights_74 : decode y_So_weights.2.1 74 = .ok (.iadd, 1) := by decide +kernel
theorem d_So_weights_75 : decode y_So_weights.2.1 75 = .ok (.istore_n 1, 1) := by decide +kernel
theorem d_So_weights_76 : decode y_So_weights.2.1 76 = .ok (.iinc 2 1, 3) := by decide +kernel
theorem d_So_weights_79 : decode y_So_weights.2.1 79 = .ok (.goto (-75), 3) := by decide +kernel
def h_So_weights_4 (G : mG) (d : Nat) (a0 : Nat) (l1 : Int) (l2 : Int) (M : mM) (Q : Int → mM → Prop) : Prop := mWm G y_So_weights (d + 1) 4 [vr a0, vi l1, vi l2, vd, vd] [] M (fun r9 M9 => ∃ x9, r9 = some (vi x9) ∧ Q x9 M9)
def h_So_weights_27 (G : mG) (d : Nat) (a0 : Nat) (l1 : Int) (l2 : Int) (l3 : Int) (l4 : Int) (M : mM) (Q : Int → mM → Prop) : Prop := mWm G y_So_weights (d + 1) 27 [vr a0, vi l1, vi l2, vi l3, vi l4] [] M (fun r9 M9 => ∃ x9, r9 = some (vi x9) ∧ Q x9 M9)
theorem k_So_weights {G : mG} {d : Nat} {a0 : Nat} {M : mM} {Q : Int → mM → Prop} (hO : mOk M)
    (h : h_So_weights_4 G d a0 0 0 M Q) :
    Ci G y_So_weights (d + 1) [vr a0] M Q := by
  refine wm_open (y := y_So_weights) rfl (Nat.le_of_ble_eq_true rfl) (L := [vr a0, vd, vd, vd, vd]) rfl ?_
  refine wm_iconst d_So_weights_0 ?_
  refine wm_istore_n d_So_weights_1 rfl (by decide) (L' := [vr a0, vi 0, vd, vd, vd]) rfl ?_
  refine wm_iconst d_So_weights_2 ?_
  refine wm_istore_n d_So_weights_3 rfl (by decide) (L' := [vr a0, vi 0, vi 0, vd, vd]) rfl ?_
  exact h
theorem k_So_weights_4 {G : mG} {d : Nat} {a0 : Nat} {l1 : Int} {l2 : Int} {M : mM} {Q : Int → mM → Prop} (hO : mOk M) (hi_l1 : i32 l1) (hi_l2 : i32 l2)
    (h : mK M a0 = 8 ∧ ((mI M a0 10 ≤ l2) → (Q l1 M)) ∧ (¬ (mI M a0 10 ≤ l2) → (mK M (mR M a0 8) = 30 ∧ ((0 : Int) ≤ l2 ∧ l2 < (mN M (mR M a0 8) : Int)) ∧ mK M (mR M a0 5) = 30 ∧ ((0 : Int) ≤ mI M (mR M a0 8) (Int.toNat l2) ∧ mI M (mR M a0 8) (Int.toNat l2) < (mN M (mR M a0 5) : Int)) ∧ h_So_weights_27 G d a0 l1 l2 1 (mI M (mR M a0 5) (Int.toNat (mI M (mR M a0 8) (Int.toNat l2)))) M Q))) :
    h_So_weights_4 G d a0 l1 l2 M Q := by
  unfold h_So_weights_4
  obtain ⟨h1, h⟩ := h
  refine wm_iload_n d_So_weights_4 rfl rfl ?_
  refine wm_aload_n d_So_weights_5 rfl rfl ?_
  refine gf_So_111 rfl d_So_weights_6 h1 ?_
  refine wm_icmp_ge (tgt := 82) d_So_weights_9 rfl hi_l2 (hO _ _).1 (fun c7 => ?_) (fun c7 => ?_)
  · replace h := h.1 c7
    refine wm_iload_n d_So_weights_82 rfl rfl ?_
    refine wm_ireturn d_So_weights_83 rfl rfl ?_
    exact ⟨_, rfl, h⟩
  · replace h := h.2 c7
    obtain ⟨h8, h⟩ := h
    obtain ⟨h9, h⟩ := h
    obtain ⟨h10, h⟩ := h
    obtain ⟨h11, h⟩ := h
    refine wm_iconst d_So_weights_12 ?_
    refine wm_istore_n d_So_weights_13 rfl (by decide) (L' := [vr a0, vi l1, vi l2, vi 1, vd]) rfl ?_
    refine wm_aload_n d_So_weights_14 rfl rfl ?_
    refine gf_So_32 rfl d_So_weights_15 h1 ?_
    refine wm_aload_n d_So_weights_18 rfl rfl ?_
    refine gf_So_41 rfl d_So_weights_19 h1 ?_
    refine wm_iload_n d_So_weights_22 rfl rfl ?_
    refine wm_iald d_So_weights_23 h8 h9 ?_
    refine wm_iald d_So_weights_24 h10 h11 ?_
    refine wm_istore d_So_weights_25 (by decide) (L' := [vr a0, vi l1, vi l2, vi 1, vi (mI M (mR M a0 5) (Int.toNat (mI M (mR M a0 8) (Int.toNat l2))))]) rfl ?_
    exact h
theorem k_So_weights_27 {G : mG} {d : Nat} {a0 : Nat} {l1 : Int} {l2 : Int} {l3 : Int} {l4 : Int} {M : mM} {Q : Int → mM → Prop} (hO : mOk M) (hi_l1 : i32 l1) (hi_l2 : i32 l2) (hi_l3 : i32 l3) (hi_l4 : i32 l4)
    (h : mK M a0 = 8 ∧ mK M (mR M a0 8) = 30 ∧ ((0 : Int) ≤ l2 ∧ l2 < (mN M (mR M a0 8) : Int)) ∧ mK M (mR M a0 6) = 30 ∧ ((0 : Int) ≤ mI M (mR M a0 8) (Int.toNat l2) ∧ mI M (mR M a0 8) (Int.toNat l2) < (mN M (mR M a0 6) : Int)) ∧ ((mI M (mR M a0 6) (Int.toNat (mI M (mR M a0 8) (Int.toNat l2))) ≤ l4) → (Ci G y_JI_nlz d [vi (l3 - 1)] M (fun x23 M22 => i32 x23 ∧ mOk M22 ∧ (h_So_weights_4 G d a0 (l1 + (33 - x23)) (l2 + 1) M22 Q)))) ∧ (¬ (mI M (mR M a0 6) (Int.toNat (mI M (mR M a0 8) (Int.toNat l2))) ≤ l4) → (mK M (mR M a0 3) = 7 ∧ mK M (mR M (mR M a0 3) 6) = 30 ∧ ((0 : Int) ≤ l4 ∧ l4 < (mN M (mR M (mR M a0 3) 6) : Int)) ∧ h_So_weights_27 G d a0 l1 l2 (if l3 < mI M (mR M (mR M a0 3) 6) (Int.toNat l4) then mI M (mR M (mR M a0 3) 6) (Int.toNat l4) else l3) (l4 + 1) M Q))) :
    h_So_weights_27 G d a0 l1 l2 l3 l4 M Q := by
  unfold h_So_weights_27
  obtain ⟨h12, h⟩ := h
  obtain ⟨h13, h⟩ := h
  obtain ⟨h14, h⟩ := h
  obtain ⟨h15, h⟩ := h
  obtain ⟨h16, h⟩ := h
  refine wm_iload d_So_weights_27 rfl ?_
  refine wm_aload_n d_So_weights_29 rfl rfl ?_
  refine gf_So_35 rfl d_So_weights_30 h12 ?_
  refine wm_aload_n d_So_weights_33 rfl rfl ?_
  refine gf_So_41 rfl d_So_weights_34 h12 ?_
  refine wm_iload_n d_So_weights_37 rfl rfl ?_
  refine wm_iald d_So_weights_38 h13 h14 ?_
  refine wm_iald d_So_weights_39 h15 h16 ?_
  refine wm_icmp_ge (tgt := 64) d_So_weights_40 rfl hi_l4 (hO _ _).1 (fun c21 => ?_) (fun c21 => ?_)
  · replace h := h.1 c21
    refine wm_iload_n d_So_weights_64 rfl rfl ?_
    refine wm_bipush d_So_weights_65 (by decide) ?_
    refine wm_iload_n d_So_weights_67 rfl rfl ?_
    refine wm_iconst d_So_weights_68 ?_
    refine wm_isub d_So_weights_69 ?_
    refine cf_So_143 rfl d_So_weights_70 (Nat.le_of_ble_eq_true rfl) (Ci.mono h (fun x23 M22 h => ?_))
    obtain ⟨h24, hOM22, h⟩ := h
    refine wm_isub d_So_weights_73 ?_
    refine wm_iadd d_So_weights_74 ?_
    refine wm_istore_n d_So_weights_75 rfl (by decide) (L' := [vr a0, vi (l1 + (33 - x23)), vi l2, vi l3, vi l4]) rfl ?_
    refine wm_iinc d_So_weights_76 (by decide) rfl (L' := [vr a0, vi (l1 + (33 - x23)), vi (l2 + 1), vi l3, vi l4]) rfl ?_
    refine wm_goto (tgt := 4) d_So_weights_79 rfl ?_
    refine wm_less (L' := [vr a0, vi (l1 + (33 - x23)), vi (l2 + 1), vd, vd]) ⟨Or.inr rfl, Or.inr rfl, Or.inr rfl, Or.inl rfl, Or.inl rfl, trivial⟩ ?_
    exact h
  · replace h := h.2 c21
    obtain ⟨h25, h⟩ := h
    obtain ⟨h26, h⟩ := h
    obtain ⟨h27, h⟩ := h
    refine wm_iload_n d_So_weights_43 rfl rfl ?_
    refine wm_aload_n d_So_weights_44 rfl rfl ?_
    refine gf_So_61 rfl d_So_weights_45 h12 ?_
    refine gf_So_134 rfl d_So_weights_48 h25 ?_
    refine wm_iload d_So_weights_51 rfl ?_
    refine wm_iald d_So_weights_53 h26 h27 ?_
    refine wm_mmax k8_82 (Nat.le_of_ble_eq_true rfl) hi_l3 (hO _ _).1 d_So_weights_54 ?_
    refine wm_istore_n d_So_weights_57 rfl (by decide) (L' := [vr a0, vi l1, vi l2, vi (if l3 < mI M (mR M (mR M a0 3) 6) (Int.toNat l4) then mI M (mR M (mR M a0 3) 6) (Int.toNat l4) else l3), vi l4]) rfl ?_
    refine wm_iinc d_So_weights_58 (by decide) rfl (L' := [vr a0, vi l1, vi l2, vi (if l3 < mI M (mR M (mR M a0 3) 6) (Int.toNat l4) then mI M (mR M (mR M a0 3) 6) (Int.toNat l4) else l3), vi (l4 + 1)]) rfl ?_
    refine wm_goto (tgt := 27) d_So_weights_61 rfl ?_
    exact h
theorem d_So_evaluate_0 : decode y_So_evaluate.2.1 0 = .ok (.aload_n 0, 1) := by decide +kernel
theorem d_So_evaluate_1 : decode y_So_evaluate.2.1 1 = .ok (.getfield 28, 3) := by decide +kernel
theorem d_So_evaluate_4 : decode y_So_evaluate.2.1 4 = .ok (.getfield 148, 3) := by decide +kernel
theorem d_So_evaluate_7 : decode y_So_evaluate.2.1 7 = .ok (.iconst 0, 1) := by decide +kernel
theorem d_So_evaluate_8 : decode y_So_evaluate.2.1 8 = .ok (.invokestatic 114, 3) := by decide +kernel
theorem d_So_evaluate_11 : decode y_So_evaluate.2.1 11 = .ok (.iconst 0, 1) := by decide +kernel
theorem d_So_evaluate_12 : decode y_So_evaluate.2.1 12 = .ok (.istore_n 2, 1) := by decide +kernel
theorem d_So_evaluate_13 : decode y_So_evaluate.2.1 13 = .ok (.iconst 0, 1) := by decide +kernel
theorem d_So_evaluate_14 : decode y_So_evaluate.2.1 14 = .ok (.istore_n 3, 1) := by decide +kernel
theorem d_So_evaluate_15 : decode y_So_evaluate.2.1 15 = .ok (.iload_n 3, 1) := by decide +kernel
theorem d_So_evaluate_16 : decode y_So_evaluate.2.1 16 = .ok (.aload_n 0, 1) := by decide +kernel
theorem d_So_evaluate_17 : decode y_So_evaluate.2.1 17 = .ok (.getfield 111, 3) := by decide +kernel
theorem d_So_evaluate_20 : decode y_So_evaluate.2.1 20 = .ok (.if_icmp .ge 192, 3) := by decide +kernel
theorem d_So_evaluate_212 : decode y_So_evaluate.2.1 212 = .ok (.aload_n 0, 1) := by decide +kernel
theorem d_So_evaluate_213 : decode y_So_evaluate.2.1 213 = .ok (.getfield 28, 3) := by decide +kernel
theorem d_So_evaluate_216 : decode y_So_evaluate.2.1 216 = .ok (.aload_n 0, 1) := by decide +kernel
theorem d_So_evaluate_217 : decode y_So_evaluate.2.1 217 = .ok (.getfield 111, 3) := by decide +kernel
theorem d_So_evaluate_220 : decode y_So_evaluate.2.1 220 = .ok (.iload_n 2, 1) := by decide +kernel
theorem d_So_evaluate_23 : decode y_So_evaluate.2.1 23 = .ok (.iload_n 3, 1) := by decide +kernel
theorem d_So_evaluate_24 : decode y_So_evaluate.2.1 24 = .ok (.bipush 41, 2) := by decide +kernel
theorem d_So_evaluate_26 : decode y_So_evaluate.2.1 26 = .ok (.imul, 1) := by decide +kernel
theorem d_So_evaluate_27 : decode y_So_evaluate.2.1 27 = .ok (.istore 4, 2) := by decide +kernel
theorem d_So_evaluate_29 : decode y_So_evaluate.2.1 29 = .ok (.aload_n 0, 1) := by decide +kernel
theorem d_So_evaluate_30 : decode y_So_evaluate.2.1 30 = .ok (.getfield 44, 3) := by decide +kernel
theorem d_So_evaluate_33 : decode y_So_evaluate.2.1 33 = .ok (.iload_n 3, 1) := by decide +kernel
theorem d_So_evaluate_34 : decode y_So_evaluate.2.1 34 = .ok (.iaload, 1) := by decide +kernel
theorem d_So_evaluate_35 : decode y_So_evaluate.2.1 35 = .ok (.istore 5, 2) := by decide +kernel
theorem d_So_evaluate_37 : decode y_So_evaluate.2.1 37 = .ok (.aload_n 0, 1) := by decide +kernel
theorem d_So_evaluate_38 : decode y_So_evaluate.2.1 38 = .ok (.getfield 61, 3) := by decide +kernel
theorem d_So_evaluate_41 : decode y_So_evaluate.2.1 41 = .ok (.getfield 134, 3) := by decide +kernel
theorem d_So_evaluate_44 : decode y_So_evaluate.2.1 44 = .ok (.iload 5, 2) := by decide +kernel
theorem d_So_evaluate_46 : decode y_So_evaluate.2.1 46 = .ok (.iaload, 1) := by decide +kernel
theorem d_So_evaluate_47 : decode y_So_evaluate.2.1 47 = .ok (.istore 6, 2) := by decide +kernel
theorem d_So_evaluate_49 : decode y_So_evaluate.2.1 49 = .ok (.aload_n 0, 1) := by decide +kernel
theorem d_So_evaluate_50 : decode y_So_evaluate.2.1 50 = .ok (.getfield 28, 3) := by decide +kernel
theorem d_So_evaluate_53 : decode y_So_evaluate.2.1 53 = .ok (.getfield 148, 3) := by decide +kernel
theorem d_So_evaluate_56 : decode y_So_evaluate.2.1 56 = .ok (.iload 4, 2) := by decide +kernel
theorem d_So_evaluate_58 : decode y_So_evaluate.2.1 58 = .ok (.iload_n 3, 1) := by decide +kernel
theorem d_So_evaluate_59 : decode y_So_evaluate.2.1 59 = .ok (.iadd, 1) := by decide +kernel
theorem d_So_evaluate_60 : decode y_So_evaluate.2.1 60 = .ok (.iload 6, 2) := by decide +kernel
theorem d_So_evaluate_62 : decode y_So_evaluate.2.1 62 = .ok (.iastore, 1) := by decide +kernel
theorem d_So_evaluate_63 : decode y_So_evaluate.2.1 63 = .ok (.iload_n 2, 1) := by decide +kernel
theorem d_So_evaluate_64 : decode y_So_evaluate.2.1 64 = .ok (.bipush 32, 2) := by decide +kernel
theorem d_So_evaluate_66 : decode y_So_evaluate.2.1 66 = .ok (.iload 6, 2) := by decide +kernel
theorem d_So_evaluate_221 : decode y_So_evaluate.2.1 221 = .ok (.invokevirtual 154, 3) := by decide +kernel
theorem d_So_evaluate_224 : decode y_So_evaluate.2.1 224 = .ok (.iconst 0, 1) := by decide +kernel
theorem d_So_evaluate_225 : decode y_So_evaluate.2.1 225 = .ok (.istore_n 3, 1) := by decide +kernel
theorem d_So_evaluate_68 : decode y_So_evaluate.2.1 68 = .ok (.invokestatic 143, 3) := by decide +kernel
theorem d_So_evaluate_71 : decode y_So_evaluate.2.1 71 = .ok (.isub, 1) := by decide +kernel
theorem d_So_evaluate_72 : decode y_So_evaluate.2.1 72 = .ok (.iadd, 1) := by decide +kernel
theorem d_So_evaluate_73 : decode y_So_evaluate.2.1 73 = .ok (.istore_n 2, 1) := by decide +kernel
theorem d_So_evaluate_74 : decode y_So_evaluate.2.1 74 = .ok (.aload_n 0, 1) := by decide +kernel
theorem d_So_evaluate_75 : decode y_So_evaluate.2.1 75 = .ok (.getfield 61, 3) := by decide +kernel
theorem d_So_evaluate_78 : decode y_So_evaluate.2.1 78 = .ok (.getfield 128, 3) := by decide +kernel
theorem d_So_evaluate_81 : decode y_So_evaluate.2.1 81 = .ok (.iload 5, 2) := by decide +kernel
theorem d_So_evaluate_83 : decode y_So_evaluate.2.1 83 = .ok (.iaload, 1) := by decide +kernel
theorem d_So_evaluate_84 : decode y_So_evaluate.2.1 84 = .ok (.istore 7, 2) := by decide +kernel
theorem d_So_evaluate_86 : decode y_So_evaluate.2.1 86 = .ok (.iload 7, 2) := by decide +kernel
theorem d_So_evaluate_88 : decode y_So_evaluate.2.1 88 = .ok (.aload_n 0, 1) := by decide +kernel
theorem d_So_evaluate_89 : decode y_So_evaluate.2.1 89 = .ok (.getfield 61, 3) := by decide +kernel
theorem d_So_evaluate_92 : decode y_So_evaluate.2.1 92 = .ok (.getfield 128, 3) := by decide +kernel
theorem d_So_evaluate_95 : decode y_So_evaluate.2.1 95 = .ok (.iload 5, 2) := by decide +kernel
theorem d_So_evaluate_97 : decode y_So_evaluate.2.1 97 = .ok (.iconst 1, 1) := by decide +kernel
theorem d_So_evaluate_98 : decode y_So_evaluate.2.1 98 = .ok (.iadd, 1) := by decide +kernel
theorem d_So_evaluate_99 : decode y_So_evaluate.2.1 99 = .ok (.iaload, 1) := by decide +kernel
theorem d_So_evaluate_100 : decode y_So_evaluate.2.1 100 = .ok (.if_icmp .ge 106, 3) := by decide +kernel
theorem d_So_evaluate_206 : decode y_So_evaluate.2.1 206 = .ok (.iinc 3 1, 3) := by decide +kernel
theorem d_So_evaluate_209 : decode y_So_evaluate.2.1 209 = .ok (.goto (-194), 3) := by decide +kernel
theorem d_So_evaluate_103 : decode y_So_evaluate.2.1 103 = .ok (.aload_n 0, 1) := by decide +kernel
theorem d_So_evaluate_104 : decode y_So_evaluate.2.1 104 = .ok (.getfield 61, 3) := by decide +kernel
theorem d_So_evaluate_107 : decode y_So_evaluate.2.1 107 = .ok (.getfield 131, 3) := by decide +kernel
theorem d_So_evaluate_110 : decode y_So_evaluate.2.1 110 = .ok (.iload 7, 2) := by decide +kernel
theorem d_So_evaluate_112 : decode y_So_evaluate.2.1 112 = .ok (.iaload, 1) := by decide +kernel
theorem d_So_evaluate_113 : decode y_So_evaluate.2.1 113 = .ok (.istore 8, 2) := by decide +kernel
theorem d_So_evaluate_115 : decode y_So_evaluate.2.1 115 = .ok (.aload_n 0, 1) := by decide +kernel
theorem d_So_evaluate_116 : decode y_So_evaluate.2.1 116 = .ok (.getfield 38, 3) := by decide +kernel
theorem d_So_evaluate_119 : decode y_So_evaluate.2.1 119 = .ok (.iload 8, 2) := by decide +kernel
theorem d_So_evaluate_121 : decode y_So_evaluate.2.1 121 = .ok (.iaload, 1) := by decide +kernel
theorem d_So_evaluate_122 : decode y_So_evaluate.2.1 122 = .ok (.iconst (-1), 1) := by decide +kernel
theorem d_So_evaluate_123 : decode y_So_evaluate.2.1 123 = .ok (.if_icmp .eq 37, 3) := by decide +kernel
theorem d_So_evaluate_160 : decode y_So_evaluate.2.1 160 = .ok (.aload_n 0, 1) := by decide +kernel
theorem d_So_evaluate_161 : decode y_So_evaluate.2.1 161 = .ok (.getfield 61, 3) := by decide +kernel
theorem d_So_evaluate_164 : decode y_So_evaluate.2.1 164 = .ok (.getfield 102, 3) := by decide +kernel
theorem d_So_evaluate_167 : decode y_So_evaluate.2.1 167 = .ok (.iload 8, 2) := by decide +kernel
theorem d_So_evaluate_169 : decode y_So_evaluate.2.1 169 = .ok (.iaload, 1) := by decide +kernel
theorem d_So_evaluate_170 : decode y_So_evaluate.2.1 170 = .ok (.iconst 3, 1) := by decide +kernel
theorem d_So_evaluate_171 : decode y_So_evaluate.2.1 171 = .ok (.if_icmp .ne 29, 3) := by decide +kernel
theorem d_So_evaluate_174 : decode y_So_evaluate.2.1 174 = .ok (.aload_n 0, 1) := by decide +kernel
theorem d_So_evaluate_175 : decode y_So_evaluate.2.1 175 = .ok (.getfield 28, 3) := by decide +kernel
theorem d_So_evaluate_178 : decode y_So_evaluate.2.1 178 = .ok (.getfield 148, 3) := by decide +kernel
theorem d_So_evaluate_181 : decode y_So_evaluate.2.1 181 = .ok (.iload 4, 2) := by decide +kernel
theorem d_So_evaluate_183 : decode y_So_evaluate.2.1 183 = .ok (.bipush 40, 2) := by decide +kernel
theorem d_So_evaluate_185 : decode y_So_evaluate.2.1 185 = .ok (.iadd, 1) := by decide +kernel
theorem d_So_evaluate_186 : decode y_So_evaluate.2.1 186 = .ok (.dup2, 1) := by decide +kernel
theorem d_So_evaluate_187 : decode y_So_evaluate.2.1 187 = .ok (.iaload, 1) := by decide +kernel
theorem d_So_evaluate_188 : decode y_So_evaluate.2.1 188 = .ok (.aload_n 0, 1) := by decide +kernel
theorem d_So_evaluate_189 : decode y_So_evaluate.2.1 189 = .ok (.getfield 61, 3) := by decide +kernel
theorem d_So_evaluate_192 : decode y_So_evaluate.2.1 192 = .ok (.getfield 151, 3) := by decide +kernel
theorem d_So_evaluate_195 : decode y_So_evaluate.2.1 195 = .ok (.iload 7, 2) := by decide +kernel
theorem d_So_evaluate_197 : decode y_So_evaluate.2.1 197 = .ok (.iaload, 1) := by decide +kernel
theorem d_So_evaluate_198 : decode y_So_evaluate.2.1 198 = .ok (.iadd, 1) := by decide +kernel
theorem d_So_evaluate_199 : decode y_So_evaluate.2.1 199 = .ok (.iastore, 1) := by decide +kernel
theorem d_So_evaluate_126 : decode y_So_evaluate.2.1 126 = .ok (.aload_n 0, 1) := by decide +kernel
theorem d_So_evaluate_127 : decode y_So_evaluate.2.1 127 = .ok (.getfield 28, 3) := by decide +kernel
theorem d_So_evaluate_130 : decode y_So_evaluate.2.1 130 = .ok (.getfield 148, 3) := by decide +kernel
theorem d_So_evaluate_133 : decode y_So_evaluate.2.1 133 = .ok (.iload 4, 2) := by decide +kernel
theorem d_So_evaluate_135 : decode y_So_evaluate.2.1 135 = .ok (.aload_n 0, 1) := by decide +kernel
theorem d_So_evaluate_136 : decode y_So_evaluate.2.1 136 = .ok (.getfield 38, 3) := by decide +kernel
theorem d_So_evaluate_139 : decode y_So_evaluate.2.1 139 = .ok (.iload 8, 2) := by decide +kernel
theorem d_So_evaluate_141 : decode y_So_evaluate.2.1 141 = .ok (.iaload, 1) := by decide +kernel
theorem d_So_evaluate_142 : decode y_So_evaluate.2.1 142 = .ok (.iadd, 1) := by decide +kernel
theorem d_So_evaluate_143 : decode y_So_evaluate.2.1 143 = .ok (.dup2, 1) := by decide +kernel
theorem d_So_evaluate_144 : decode y_So_evaluate.2.1 144 = .ok (.iaload, 1) := by decide +kernel
theorem d_So_evaluate_145 : decode y_So_evaluate.2.1 145 = .ok (.aload_n 0, 1) := by decide +kernel
theorem d_So_evaluate_146 : decode y_So_evaluate.2.1 146 = .ok (.getfield 61, 3) := by decide +kernel
theorem d_So_evaluate_149 : decode y_So_evaluate.2.1 149 = .ok (.getfield 151, 3) := by decide +kernel
theorem d_So_evaluate_152 : decode y_So_evaluate.2.1 152 = .ok (.iload 7, 2) := by decide +kernel
theorem d_So_evaluate_154 : decode y_So_evaluate.2.1 154 = .ok (.iaload, 1) := by decide +kernel
theorem d_So_evaluate_155 : decode y_So_evaluate.2.1 155 = .ok (.isub, 1) := by decide +kernel
theorem d_So_evaluate_156 : decode y_So_evaluate.2.1 156 = .ok (.iastore, 1) := by decide +kernel
theorem d_So_evaluate_157 : decode y_So_evaluate.2.1 157 = .ok (.goto 43, 3) := by decide +kernel
theorem d_So_evaluate_200 : decode y_So_evaluate.2.1 200 = .ok (.iinc 7 1, 3) := by decide +kernel
theorem d_So_evaluate_203 : decode y_So_evaluate.2.1 203 = .ok (.goto (-117), 3) := by decide +kernel
theorem d_So_evaluate_226 : decode y_So_evaluate.2.1 226 = .ok (.iload_n 3, 1) := by decide +kernel
theorem d_So_evaluate_227 : decode y_So_evaluate.2.1 227 = .ok (.aload_n 0, 1) := by decide +kernel
theorem d_So_evaluate_228 : decode y_So_evaluate.2.1 228 = .ok (.getfield 111, 3) := by decide +kernel
theorem d_So_evaluate_231 : decode y_So_evaluate.2.1 231 = .ok (.if_icmp .ge 59, 3) := by decide +kernel
theorem d_So_evaluate_290 : decode y_So_evaluate.2.1 290 = .ok (.return_, 1) := by decide +kernel
theorem d_So_evaluate_234 : decode y_So_evaluate.2.1 234 = .ok (.aload_n 1, 1) := by decide +kernel
theorem d_So_evaluate_235 : decode y_So_evaluate.2.1 235 = .ok (.getfield 158, 3) := by decide +kernel
theorem d_So_evaluate_238 : decode y_So_evaluate.2.1 238 = .ok (.aload_n 0, 1) := by decide +kernel
theorem d_So_evaluate_239 : decode y_So_evaluate.2.1 239 = .ok (.getfield 41, 3) := by decide +kernel
theorem d_So_evaluate_242 : decode y_So_evaluate.2.1 242 = .ok (.iload_n 3, 1) := by decide +kernel
theorem d_So_evaluate_243 : decode y_So_evaluate.2.1 243 = .ok (.iaload, 1) := by decide +kernel
theorem d_So_evaluate_244 : decode y_So_evaluate.2.1 244 = .ok (.aaload, 1) := by decide +kernel
theorem d_So_evaluate_245 : decode y_So_evaluate.2.1 245 = .ok (.astore 4, 2) := by decide +kernel
theorem d_So_evaluate_247 : decode y_So_evaluate.2.1 247 = .ok (.aload 4, 2) := by decide +kernel
theorem d_So_evaluate_249 : decode y_So_evaluate.2.1 249 = .ok (.getfield 162, 3) := by decide +kernel
theorem d_So_evaluate_252 : decode y_So_evaluate.2.1 252 = .ok (.aload_n 0, 1) := by decide +kernel
theorem d_So_evaluate_253 : decode y_So_evaluate.2.1 253 = .ok (.getfield 28, 3) := by decide +kernel
theorem d_So_evaluate_256 : decode y_So_evaluate.2.1 256 = .ok (.getfield 166, 3) := by decide +kernel
theorem d_So_evaluate_259 : decode y_So_evaluate.2.1 259 = .ok (.iload_n 3, 1) := by decide +kernel
theorem d_So_evaluate_260 : decode y_So_evaluate.2.1 260 = .ok (.aaload, 1) := by decide +kernel
theorem d_So_evaluate_261 : decode y_So_evaluate.2.1 261 = .ok (.invokevirtual 170, 3) := by decide +kernel
theorem d_So_evaluate_264 : decode y_So_evaluate.2.1 264 = .ok (.aload 4, 2) := by decide +kernel
theorem d_So_evaluate_266 : decode y_So_evaluate.2.1 266 = .ok (.getfield 176, 3) := by decide +kernel
theorem d_So_evaluate_269 : decode y_So_evaluate.2.1 269 = .ok (.aload_n 0, 1) := by decide +kernel
theorem d_So_evaluate_270 : decode y_So_evaluate.2.1 270 = .ok (.getfield 28, 3) := by decide +kernel
theorem d_So_evaluate_273 : decode y_So_evaluate.2.1 273 = .ok (.getfield 166, 3) := by decide +kernel
theorem d_So_evaluate_276 : decode y_So_evaluate.2.1 276 = .ok (.aload_n 0, 1) := by decide +kernel
theorem d_So_evaluate_277 : decode y_So_evaluate.2.1 277 = .ok (.getfield 111, 3) := by decide +kernel
theorem d_So_evaluate_280 : decode y_So_evaluate.2.1 280 = .ok (.aaload, 1) := by decide +kernel
theorem d_So_evaluate_281 : decode y_So_evaluate.2.1 281 = .ok (.invokevirtual 170, 3) := by decide +kernel
theorem d_So_evaluate_284 : decode y_So_evaluate.2.1 284 = .ok (.iinc 3 1, 3) := by decide +kernel
theorem d_So_evaluate_287 : decode y_So_evaluate.2.1 287 = .ok (.goto (-61), 3) := by decide +kernel
def h_So_evaluate_15 (G : mG) (d : Nat) (a0 : Nat) (a1 : Nat) (l2 : Int) (l3 : Int) (M : mM) (Q : mM → Prop) : Prop := mWm G y_So_evaluate (d + 1) 15 [vr a0, vr a1, vi l2, vi l3, vd, vd, vd, vd, vd] [] M (fun r9 M9 => r9 = none ∧ Q M9)
def h_So_evaluate_86 (G : mG) (d : Nat) (a0 : Nat) (a1 : Nat) (l2 : Int) (l3 : Int) (l4 : Int) (l5 : Int) (l7 : Int) (M : mM) (Q : mM → Prop) : Prop := mWm G y_So_evaluate (d + 1) 86 [vr a0, vr a1, vi l2, vi l3, vi l4, vi l5, vd, vi l7, vd] [] M (fun r9 M9 => r9 = none ∧ Q M9)
def h_So_evaluate_226 (G : mG) (d : Nat) (a0 : Nat) (a1 : Nat) (l3 : Int) (M : mM) (Q : mM → Prop) : Prop := mWm G y_So_evaluate (d + 1) 226 [vr a0, vr a1, vd, vi l3, vd, vd, vd, vd, vd] [] M (fun r9 M9 => r9 = none ∧ Q M9)
theorem k_So_evaluate {G : mG} {d : Nat} {a0 : Nat} {a1 : Nat} {M : mM} {Q : mM → Prop} (hO : mOk M)
    (h : mK M a0 = 8 ∧ mK M (mR M a0 4) = 12 ∧ Cv G y_JA_fill d [vr (mR M (mR M a0 4) 0), vi 0] M (fun M3 => mOk M3 ∧ (h_So_evaluate_15 G d a0 a1 0 0 M3 Q))) :
    Cv G y_So_evaluate (d + 1) [vr a0, vr a1] M Q := by
  refine wm_open (y := y_So_evaluate) rfl (Nat.le_of_ble_eq_true rfl) (L := [vr a0, vr a1, vd, vd, vd, vd, vd, vd, vd]) rfl ?_
  obtain ⟨h1, h⟩ := h
  obtain ⟨h2, h⟩ := h
  refine wm_aload_n d_So_evaluate_0 rfl rfl ?_
  refine gf_So_28 rfl d_So_evaluate_1 h1 ?_
  refine gf_So_148 rfl d_So_evaluate_4 h2 ?_
  refine wm_iconst d_So_evaluate_7 ?_
  refine cf_So_114 rfl d_So_evaluate_8 (Nat.le_of_ble_eq_true rfl) (Cv.mono h (fun M3 h => ?_))
  obtain ⟨hOM3, h⟩ := h
  refine wm_iconst d_So_evaluate_11 ?_
  refine wm_istore_n d_So_evaluate_12 rfl (by decide) (L' := [vr a0, vr a1, vi 0, vd, vd, vd, vd, vd, vd]) rfl ?_
  refine wm_iconst d_So_evaluate_13 ?_
  refine wm_istore_n d_So_evaluate_14 rfl (by decide) (L' := [vr a0, vr a1, vi 0, vi 0, vd, vd, vd, vd, vd]) rfl ?_
  exact h
theorem k_So_evaluate_15 {G : mG} {d : Nat} {a0 : Nat} {a1 : Nat} {l2 : Int} {l3 : Int} {M : mM} {Q : mM → Prop} (hO : mOk M) (hi_l2 : i32 l2) (hi_l3 : i32 l3)
    (h : mK M a0 = 8 ∧ ((mI M a0 10 ≤ l3) → (mK M (mR M a0 4) = 12 ∧ Cv G y_Re_settle d [vr (mR M a0 4), vi (mI M a0 10), vi l2] M (fun M10 => mOk M10 ∧ (h_So_evaluate_226 G d a0 a1 0 M10 Q)))) ∧ (¬ (mI M a0 10 ≤ l3) → (mK M (mR M a0 9) = 30 ∧ ((0 : Int) ≤ l3 ∧ l3 < (mN M (mR M a0 9) : Int)) ∧ mK M (mR M a0 3) = 7 ∧ mK M (mR M (mR M a0 3) 6) = 30 ∧ ((0 : Int) ≤ mI M (mR M a0 9) (Int.toNat l3) ∧ mI M (mR M a0 9) (Int.toNat l3) < (mN M (mR M (mR M a0 3) 6) : Int)) ∧ mK M (mR M a0 4) = 12 ∧ mK M (mR M (mR M a0 4) 0) = 30 ∧ ((0 : Int) ≤ (l3 * 41) + l3 ∧ (l3 * 41) + l3 < (mN M (mR M (mR M a0 4) 0) : Int)) ∧ ∀ M21, M21 = mUI M (mR M (mR M a0 4) 0) (Int.toNat ((l3 * 41) + l3)) (mI M (mR M (mR M a0 3) 6) (Int.toNat (mI M (mR M a0 9) (Int.toNat l3)))) → Ci G y_JI_nlz d [vi (mI M (mR M (mR M a0 3) 6) (Int.toNat (mI M (mR M a0 9) (Int.toNat l3))))] M21 (fun x24 M23 => i32 x24 ∧ mOk M23 ∧ (mK M23 a0 = 8 ∧ mK M23 (mR M23 a0 3) = 7 ∧ mK M23 (mR M23 (mR M23 a0 3) 7) = 30 ∧ ((0 : Int) ≤ mI M (mR M a0 9) (Int.toNat l3) ∧ mI M (mR M a0 9) (Int.toNat l3) < (mN M23 (mR M23 (mR M23 a0 3) 7) : Int)) ∧ h_So_evaluate_86 G d a0 a1 (l2 + (32 - x24)) l3 (l3 * 41) (mI M (mR M a0 9) (Int.toNat l3)) (mI M23 (mR M23 (mR M23 a0 3) 7) (Int.toNat (mI M (mR M a0 9) (Int.toNat l3)))) M23 Q))))) :
    h_So_evaluate_15 G d a0 a1 l2 l3 M Q := by
  unfold h_So_evaluate_15
  obtain ⟨h6, h⟩ := h
  refine wm_iload_n d_So_evaluate_15 rfl rfl ?_
  refine wm_aload_n d_So_evaluate_16 rfl rfl ?_
  refine gf_So_111 rfl d_So_evaluate_17 h6 ?_
  refine wm_icmp_ge (tgt := 212) d_So_evaluate_20 rfl hi_l3 (hO _ _).1 (fun c8 => ?_) (fun c8 => ?_)
  · replace h := h.1 c8
    obtain ⟨h9, h⟩ := h
    refine wm_aload_n d_So_evaluate_212 rfl rfl ?_
    refine gf_So_28 rfl d_So_evaluate_213 h6 ?_
    refine wm_aload_n d_So_evaluate_216 rfl rfl ?_
    refine gf_So_111 rfl d_So_evaluate_217 h6 ?_
    refine wm_iload_n d_So_evaluate_220 rfl rfl ?_
    refine cf_So_154 rfl d_So_evaluate_221 h9 (Nat.le_of_ble_eq_true rfl) (Cv.mono h (fun M10 h => ?_))
    obtain ⟨hOM10, h⟩ := h
    refine wm_iconst d_So_evaluate_224 ?_
    refine wm_istore_n d_So_evaluate_225 rfl (by decide) (L' := [vr a0, vr a1, vi l2, vi 0, vd, vd, vd, vd, vd]) rfl ?_
    refine wm_less (L' := [vr a0, vr a1, vd, vi 0, vd, vd, vd, vd, vd]) ⟨Or.inr rfl, Or.inr rfl, Or.inl rfl, Or.inr rfl, Or.inl rfl, Or.inl rfl, Or.inl rfl, Or.inl rfl, Or.inl rfl, trivial⟩ ?_
    exact h
  · replace h := h.2 c8
    obtain ⟨h13, h⟩ := h
    obtain ⟨h14, h⟩ := h
    obtain ⟨h15, h⟩ := h
    obtain ⟨h16, h⟩ := h
    obtain ⟨h17, h⟩ := h
    obtain ⟨h18, h⟩ := h
    obtain ⟨h19, h⟩ := h
    obtain ⟨h20, h⟩ := h
    obtain ⟨M21, e22⟩ : ∃ M21, M21 = mUI M (mR M (mR M a0 4) 0) (Int.toNat ((l3 * 41) + l3)) (mI M (mR M (mR M a0 3) 6) (Int.toNat (mI M (mR M a0 9) (Int.toNat l3)))) := ⟨_, rfl⟩
    replace h := h M21 e22
    refine wm_iload_n d_So_evaluate_23 rfl rfl ?_
    refine wm_bipush d_So_evaluate_24 (by decide) ?_
    refine wm_imul d_So_evaluate_26 ?_
    refine wm_istore d_So_evaluate_27 (by decide) (L' := [vr a0, vr a1, vi l2, vi l3, vi (l3 * 41), vd, vd, vd, vd]) rfl ?_
    refine wm_aload_n d_So_evaluate_29 rfl rfl ?_
    refine gf_So_44 rfl d_So_evaluate_30 h6 ?_
    refine wm_iload_n d_So_evaluate_33 rfl rfl ?_
    refine wm_iald d_So_evaluate_34 h13 h14 ?_
    refine wm_istore d_So_evaluate_35 (by decide) (L' := [vr a0, vr a1, vi l2, vi l3, vi (l3 * 41), vi (mI M (mR M a0 9) (Int.toNat l3)), vd, vd, vd]) rfl ?_
    refine wm_aload_n d_So_evaluate_37 rfl rfl ?_
    refine gf_So_61 rfl d_So_evaluate_38 h6 ?_
    refine gf_So_134 rfl d_So_evaluate_41 h15 ?_
    refine wm_iload d_So_evaluate_44 rfl ?_
    refine wm_iald d_So_evaluate_46 h16 h17 ?_
    refine wm_istore d_So_evaluate_47 (by decide) (L' := [vr a0, vr a1, vi l2, vi l3, vi (l3 * 41), vi (mI M (mR M a0 9) (Int.toNat l3)), vi (mI M (mR M (mR M a0 3) 6) (Int.toNat (mI M (mR M a0 9) (Int.toNat l3)))), vd, vd]) rfl ?_
    refine wm_aload_n d_So_evaluate_49 rfl rfl ?_
    refine gf_So_28 rfl d_So_evaluate_50 h6 ?_
    refine gf_So_148 rfl d_So_evaluate_53 h18 ?_
    refine wm_iload d_So_evaluate_56 rfl ?_
    refine wm_iload_n d_So_evaluate_58 rfl rfl ?_
    refine wm_iadd d_So_evaluate_59 ?_
    refine wm_iload d_So_evaluate_60 rfl ?_
    have hOM21 : mOk M21 := by rw [e22]; exact mOk_UI hO (hO _ _).1
    refine wm_iastE d_So_evaluate_62 h19 h20 (hO _ _).1 e22 ?_
    refine wm_iload_n d_So_evaluate_63 rfl rfl ?_
    refine wm_bipush d_So_evaluate_64 (by decide) ?_
    refine wm_iload d_So_evaluate_66 rfl ?_
    refine cf_So_143 rfl d_So_evaluate_68 (Nat.le_of_ble_eq_true rfl) (Ci.mono h (fun x24 M23 h => ?_))
    obtain ⟨h25, hOM23, h⟩ := h
    obtain ⟨h26, h⟩ := h
    obtain ⟨h27, h⟩ := h
    obtain ⟨h28, h⟩ := h
    obtain ⟨h29, h⟩ := h
    refine wm_isub d_So_evaluate_71 ?_
    refine wm_iadd d_So_evaluate_72 ?_
    refine wm_istore_n d_So_evaluate_73 rfl (by decide) (L' := [vr a0, vr a1, vi (l2 + (32 - x24)), vi l3, vi (l3 * 41), vi (mI M (mR M a0 9) (Int.toNat l3)), vi (mI M (mR M (mR M a0 3) 6) (Int.toNat (mI M (mR M a0 9) (Int.toNat l3)))), vd, vd]) rfl ?_
    refine wm_aload_n d_So_evaluate_74 rfl rfl ?_
    refine gf_So_61 rfl d_So_evaluate_75 h26 ?_
    refine gf_So_128 rfl d_So_evaluate_78 h27 ?_
    refine wm_iload d_So_evaluate_81 rfl ?_
    refine wm_iald d_So_evaluate_83 h28 h29 ?_
    refine wm_istore d_So_evaluate_84 (by decide) (L' := [vr a0, vr a1, vi (l2 + (32 - x24)), vi l3, vi (l3 * 41), vi (mI M (mR M a0 9) (Int.toNat l3)), vi (mI M (mR M (mR M a0 3) 6) (Int.toNat (mI M (mR M a0 9) (Int.toNat l3)))), vi (mI M23 (mR M23 (mR M23 a0 3) 7) (Int.toNat (mI M (mR M a0 9) (Int.toNat l3)))), vd]) rfl ?_
    refine wm_less (L' := [vr a0, vr a1, vi (l2 + (32 - x24)), vi l3, vi (l3 * 41), vi (mI M (mR M a0 9) (Int.toNat l3)), vd, vi (mI M23 (mR M23 (mR M23 a0 3) 7) (Int.toNat (mI M (mR M a0 9) (Int.toNat l3)))), vd]) ⟨Or.inr rfl, Or.inr rfl, Or.inr rfl, Or.inr rfl, Or.inr rfl, Or.inr rfl, Or.inl rfl, Or.inr rfl, Or.inl rfl, trivial⟩ ?_
    exact h
theorem k_So_evaluate_86 {G : mG} {d : Nat} {a0 : Nat} {a1 : Nat} {l2 : Int} {l3 : Int} {l4 : Int} {l5 : Int} {l7 : Int} {M : mM} {Q : mM → Prop} (hO : mOk M) (hi_l2 : i32 l2) (hi_l3 : i32 l3) (hi_l4 : i32 l4) (hi_l5 : i32 l5) (hi_l7 : i32 l7)
    (h : mK M a0 = 8 ∧ mK M (mR M a0 3) = 7 ∧ mK M (mR M (mR M a0 3) 7) = 30 ∧ ((0 : Int) ≤ l5 + 1 ∧ l5 + 1 < (mN M (mR M (mR M a0 3) 7) : Int)) ∧ ((mI M (mR M (mR M a0 3) 7) (Int.toNat (l5 + 1)) ≤ l7) → (h_So_evaluate_15 G d a0 a1 l2 (l3 + 1) M Q)) ∧ (¬ (mI M (mR M (mR M a0 3) 7) (Int.toNat (l5 + 1)) ≤ l7) → (mK M (mR M (mR M a0 3) 8) = 30 ∧ ((0 : Int) ≤ l7 ∧ l7 < (mN M (mR M (mR M a0 3) 8) : Int)) ∧ mK M (mR M a0 7) = 30 ∧ ((0 : Int) ≤ mI M (mR M (mR M a0 3) 8) (Int.toNat l7) ∧ mI M (mR M (mR M a0 3) 8) (Int.toNat l7) < (mN M (mR M a0 7) : Int)) ∧ (((mI M (mR M a0 7) (Int.toNat (mI M (mR M (mR M a0 3) 8) (Int.toNat l7))) = (-1)) → (mK M (mR M (mR M a0 3) 2) = 30 ∧ ((0 : Int) ≤ mI M (mR M (mR M a0 3) 8) (Int.toNat l7) ∧ mI M (mR M (mR M a0 3) 8) (Int.toNat l7) < (mN M (mR M (mR M a0 3) 2) : Int)) ∧ ((mI M (mR M (mR M a0 3) 2) (Int.toNat (mI M (mR M (mR M a0 3) 8) (Int.toNat l7))) = 3) → (mK M (mR M a0 4) = 12 ∧ mK M (mR M (mR M a0 4) 0) = 30 ∧ ((0 : Int) ≤ l4 + 40 ∧ l4 + 40 < (mN M (mR M (mR M a0 4) 0) : Int)) ∧ mK M (mR M (mR M a0 3) 9) = 30 ∧ ((0 : Int) ≤ l7 ∧ l7 < (mN M (mR M (mR M a0 3) 9) : Int)) ∧ ((0 : Int) ≤ l4 + 40 ∧ l4 + 40 < (mN M (mR M (mR M a0 4) 0) : Int)) ∧ i32 ((mI M (mR M (mR M a0 4) 0) (Int.toNat (l4 + 40))) + (mI M (mR M (mR M a0 3) 9) (Int.toNat l7))))))) ∧ (¬ (mI M (mR M a0 7) (Int.toNat (mI M (mR M (mR M a0 3) 8) (Int.toNat l7))) = (-1)) → (mK M (mR M a0 4) = 12 ∧ ((0 : Int) ≤ mI M (mR M (mR M a0 3) 8) (Int.toNat l7) ∧ mI M (mR M (mR M a0 3) 8) (Int.toNat l7) < (mN M (mR M a0 7) : Int)) ∧ mK M (mR M (mR M a0 4) 0) = 30 ∧ ((0 : Int) ≤ l4 + (mI M (mR M a0 7) (Int.toNat (mI M (mR M (mR M a0 3) 8) (Int.toNat l7)))) ∧ l4 + (mI M (mR M a0 7) (Int.toNat (mI M (mR M (mR M a0 3) 8) (Int.toNat l7)))) < (mN M (mR M (mR M a0 4) 0) : Int)) ∧ mK M (mR M (mR M a0 3) 9) = 30 ∧ ((0 : Int) ≤ l7 ∧ l7 < (mN M (mR M (mR M a0 3) 9) : Int)) ∧ ((0 : Int) ≤ l4 + (mI M (mR M a0 7) (Int.toNat (mI M (mR M (mR M a0 3) 8) (Int.toNat l7)))) ∧ l4 + (mI M (mR M a0 7) (Int.toNat (mI M (mR M (mR M a0 3) 8) (Int.toNat l7)))) < (mN M (mR M (mR M a0 4) 0) : Int)) ∧ i32 ((mI M (mR M (mR M a0 4) 0) (Int.toNat (l4 + (mI M (mR M a0 7) (Int.toNat (mI M (mR M (mR M a0 3) 8) (Int.toNat l7))))))) - (mI M (mR M (mR M a0 3) 9) (Int.toNat l7)))))) ∧ ∀ M63 : mM, M63 = (if mI M (mR M a0 7) (Int.toNat (mI M (mR M (mR M a0 3) 8) (Int.toNat l7))) = (-1) then (if mI M (mR M (mR M a0 3) 2) (Int.toNat (mI M (mR M (mR M a0 3) 8) (Int.toNat l7))) = 3 then (mUI M (mR M (mR M a0 4) 0) (Int.toNat (l4 + 40)) ((mI M (mR M (mR M a0 4) 0) (Int.toNat (l4 + 40))) + (mI M (mR M (mR M a0 3) 9) (Int.toNat l7)))) else M) else (mUI M (mR M (mR M a0 4) 0) (Int.toNat (l4 + (mI M (mR M a0 7) (Int.toNat (mI M (mR M (mR M a0 3) 8) (Int.toNat l7)))))) ((mI M (mR M (mR M a0 4) 0) (Int.toNat (l4 + (mI M (mR M a0 7) (Int.toNat (mI M (mR M (mR M a0 3) 8) (Int.toNat l7))))))) - (mI M (mR M (mR M a0 3) 9) (Int.toNat l7))))) → mOk M63 ∧ h_So_evaluate_86 G d a0 a1 l2 l3 l4 l5 (l7 + 1) M63 Q))) :
    h_So_evaluate_86 G d a0 a1 l2 l3 l4 l5 l7 M Q := by
  unfold h_So_evaluate_86
  obtain ⟨h30, h⟩ := h
  obtain ⟨h31, h⟩ := h
  obtain ⟨h32, h⟩ := h
  obtain ⟨h33, h⟩ := h
  refine wm_iload d_So_evaluate_86 rfl ?_
  refine wm_aload_n d_So_evaluate_88 rfl rfl ?_
  refine gf_So_61 rfl d_So_evaluate_89 h30 ?_
  refine gf_So_128 rfl d_So_evaluate_92 h31 ?_
  refine wm_iload d_So_evaluate_95 rfl ?_
  refine wm_iconst d_So_evaluate_97 ?_
  refine wm_iadd d_So_evaluate_98 ?_
  refine wm_iald d_So_evaluate_99 h32 h33 ?_
  refine wm_icmp_ge (tgt := 206) d_So_evaluate_100 rfl hi_l7 (hO _ _).1 (fun c39 => ?_) (fun c39 => ?_)
  · replace h := h.1 c39
    refine wm_iinc d_So_evaluate_206 (by decide) rfl (L' := [vr a0, vr a1, vi l2, vi (l3 + 1), vi l4, vi l5, vd, vi l7, vd]) rfl ?_
    refine wm_goto (tgt := 15) d_So_evaluate_209 rfl ?_
    refine wm_less (L' := [vr a0, vr a1, vi l2, vi (l3 + 1), vd, vd, vd, vd, vd]) ⟨Or.inr rfl, Or.inr rfl, Or.inr rfl, Or.inr rfl, Or.inl rfl, Or.inl rfl, Or.inl rfl, Or.inl rfl, Or.inl rfl, trivial⟩ ?_
    exact h
  · replace h := h.2 c39
    obtain ⟨h40, h⟩ := h
    obtain ⟨h41, h⟩ := h
    obtain ⟨h42, h⟩ := h
    obtain ⟨h43, h⟩ := h
    refine wm_aload_n d_So_evaluate_103 rfl rfl ?_
    refine gf_So_61 rfl d_So_evaluate_104 h30 ?_
    refine gf_So_131 rfl d_So_evaluate_107 h31 ?_
    refine wm_iload d_So_evaluate_110 rfl ?_
    refine wm_iald d_So_evaluate_112 h40 h41 ?_
    refine wm_istore d_So_evaluate_113 (by decide) (L' := [vr a0, vr a1, vi l2, vi l3, vi l4, vi l5, vd, vi l7, vi (mI M (mR M (mR M a0 3) 8) (Int.toNat l7))]) rfl ?_
    refine wm_aload_n d_So_evaluate_115 rfl rfl ?_
    refine gf_So_38 rfl d_So_evaluate_116 h30 ?_
    refine wm_iload d_So_evaluate_119 rfl ?_
    refine wm_iald d_So_evaluate_121 h42 h43 ?_
    refine wm_iconst d_So_evaluate_122 ?_
    obtain ⟨s64, h⟩ := h
    have hJ : ∀ M63 : mM, M63 = (if mI M (mR M a0 7) (Int.toNat (mI M (mR M (mR M a0 3) 8) (Int.toNat l7))) = (-1) then (if mI M (mR M (mR M a0 3) 2) (Int.toNat (mI M (mR M (mR M a0 3) 8) (Int.toNat l7))) = 3 then (mUI M (mR M (mR M a0 4) 0) (Int.toNat (l4 + 40)) ((mI M (mR M (mR M a0 4) 0) (Int.toNat (l4 + 40))) + (mI M (mR M (mR M a0 3) 9) (Int.toNat l7)))) else M) else (mUI M (mR M (mR M a0 4) 0) (Int.toNat (l4 + (mI M (mR M a0 7) (Int.toNat (mI M (mR M (mR M a0 3) 8) (Int.toNat l7)))))) ((mI M (mR M (mR M a0 4) 0) (Int.toNat (l4 + (mI M (mR M a0 7) (Int.toNat (mI M (mR M (mR M a0 3) 8) (Int.toNat l7))))))) - (mI M (mR M (mR M a0 3) 9) (Int.toNat l7))))) → mWm G y_So_evaluate (d + 1) 200 [vr a0, vr a1, vi l2, vi l3, vi l4, vi l5, vd, vi l7, vd] [] M63 (fun r9 M9 => r9 = none ∧ Q M9) := by
      intro M63 e65
      have h := h M63 e65
      have h66 : mK M63 = mK M := by rw [e65]; (repeat' split) <;> rfl
      obtain ⟨hOM63, h⟩ := h
      refine wm_iinc d_So_evaluate_200 (by decide) rfl (L' := [vr a0, vr a1, vi l2, vi l3, vi l4, vi l5, vd, vi (l7 + 1), vd]) rfl ?_
      refine wm_goto (tgt := 86) d_So_evaluate_203 rfl ?_
      exact h
    clear h
    obtain ⟨s67, s68⟩ := s64
    refine wm_icmp_eq (tgt := 160) d_So_evaluate_123 rfl (hO _ _).1 ⟨by decide, by decide⟩ (fun c44 => ?_) (fun c44 => ?_)
    · have s67 := s67 c44
      obtain ⟨h45, h46, s69⟩ := s67
      refine wm_aload_n d_So_evaluate_160 rfl rfl ?_
      refine gf_So_61 rfl d_So_evaluate_161 h30 ?_
      refine gf_So_102 rfl d_So_evaluate_164 h31 ?_
      refine wm_iload d_So_evaluate_167 rfl ?_
      refine wm_iald d_So_evaluate_169 h45 h46 ?_
      refine wm_iconst d_So_evaluate_170 ?_
      refine wm_icmp_ne (tgt := 200) d_So_evaluate_171 rfl (hO _ _).1 ⟨by decide, by decide⟩ (fun c47 => ?_) (fun c47 => ?_)
      · refine wm_less (L' := [vr a0, vr a1, vi l2, vi l3, vi l4, vi l5, vd, vi l7, vd]) ⟨Or.inr rfl, Or.inr rfl, Or.inr rfl, Or.inr rfl, Or.inr rfl, Or.inr rfl, Or.inl rfl, Or.inr rfl, Or.inl rfl, trivial⟩ ?_
        exact hJ M (by rw [if_pos c44, if_neg c47])
      · replace c47 := Classical.not_not.mp c47
        have s69 := s69 c47
        obtain ⟨h48, h49, h50, h51, h52, h53, h54⟩ := s69
        refine wm_aload_n d_So_evaluate_174 rfl rfl ?_
        refine gf_So_28 rfl d_So_evaluate_175 h30 ?_
        refine gf_So_148 rfl d_So_evaluate_178 h48 ?_
        refine wm_iload d_So_evaluate_181 rfl ?_
        refine wm_bipush d_So_evaluate_183 (by decide) ?_
        refine wm_iadd d_So_evaluate_185 ?_
        refine wm_dup2 d_So_evaluate_186 rfl rfl ?_
        refine wm_iald d_So_evaluate_187 h49 h50 ?_
        refine wm_aload_n d_So_evaluate_188 rfl rfl ?_
        refine gf_So_61 rfl d_So_evaluate_189 h30 ?_
        refine gf_So_151 rfl d_So_evaluate_192 h31 ?_
        refine wm_iload d_So_evaluate_195 rfl ?_
        refine wm_iald d_So_evaluate_197 h51 h52 ?_
        refine wm_iadd d_So_evaluate_198 ?_
        refine wm_iastE d_So_evaluate_199 h49 h53 h54 rfl ?_
        refine wm_less (L' := [vr a0, vr a1, vi l2, vi l3, vi l4, vi l5, vd, vi l7, vd]) ⟨Or.inr rfl, Or.inr rfl, Or.inr rfl, Or.inr rfl, Or.inr rfl, Or.inr rfl, Or.inl rfl, Or.inr rfl, Or.inl rfl, trivial⟩ ?_
        exact hJ (mUI M (mR M (mR M a0 4) 0) (Int.toNat (l4 + 40)) ((mI M (mR M (mR M a0 4) 0) (Int.toNat (l4 + 40))) + (mI M (mR M (mR M a0 3) 9) (Int.toNat l7)))) (by rw [if_pos c44, if_pos c47])
    · have s68 := s68 c44
      obtain ⟨h55, h56, h57, h58, h59, h60, h61, h62⟩ := s68
      refine wm_aload_n d_So_evaluate_126 rfl rfl ?_
      refine gf_So_28 rfl d_So_evaluate_127 h30 ?_
      refine gf_So_148 rfl d_So_evaluate_130 h55 ?_
      refine wm_iload d_So_evaluate_133 rfl ?_
      refine wm_aload_n d_So_evaluate_135 rfl rfl ?_
      refine gf_So_38 rfl d_So_evaluate_136 h30 ?_
      refine wm_iload d_So_evaluate_139 rfl ?_
      refine wm_iald d_So_evaluate_141 h42 h56 ?_
      refine wm_iadd d_So_evaluate_142 ?_
      refine wm_dup2 d_So_evaluate_143 rfl rfl ?_
      refine wm_iald d_So_evaluate_144 h57 h58 ?_
      refine wm_aload_n d_So_evaluate_145 rfl rfl ?_
      refine gf_So_61 rfl d_So_evaluate_146 h30 ?_
      refine gf_So_151 rfl d_So_evaluate_149 h31 ?_
      refine wm_iload d_So_evaluate_152 rfl ?_
      refine wm_iald d_So_evaluate_154 h59 h60 ?_
      refine wm_isub d_So_evaluate_155 ?_
      refine wm_iastE d_So_evaluate_156 h57 h61 h62 rfl ?_
      refine wm_goto (tgt := 200) d_So_evaluate_157 rfl ?_
      refine wm_less (L' := [vr a0, vr a1, vi l2, vi l3, vi l4, vi l5, vd, vi l7, vd]) ⟨Or.inr rfl, Or.inr rfl, Or.inr rfl, Or.inr rfl, Or.inr rfl, Or.inr rfl, Or.inl rfl, Or.inr rfl, Or.inl rfl, trivial⟩ ?_
      exact hJ (mUI M (mR M (mR M a0 4) 0) (Int.toNat (l4 + (mI M (mR M a0 7) (Int.toNat (mI M (mR M (mR M a0 3) 8) (Int.toNat l7)))))) ((mI M (mR M (mR M a0 4) 0) (Int.toNat (l4 + (mI M (mR M a0 7) (Int.toNat (mI M (mR M (mR M a0 3) 8) (Int.toNat l7))))))) - (mI M (mR M (mR M a0 3) 9) (Int.toNat l7)))) (by rw [if_neg c44])
theorem k_So_evaluate_226 {G : mG} {d : Nat} {a0 : Nat} {a1 : Nat} {l3 : Int} {M : mM} {Q : mM → Prop} (hO : mOk M) (hi_l3 : i32 l3)
    (h : mK M a0 = 8 ∧ ((mI M a0 10 ≤ l3) → (Q M)) ∧ (¬ (mI M a0 10 ≤ l3) → (mK M a1 = 13 ∧ mK M (mR M a0 8) = 30 ∧ ((0 : Int) ≤ l3 ∧ l3 < (mN M (mR M a0 8) : Int)) ∧ mK M (mR M a1 0) = 35 ∧ ((0 : Int) ≤ mI M (mR M a0 8) (Int.toNat l3) ∧ mI M (mR M a0 8) (Int.toNat l3) < (mN M (mR M a1 0) : Int)) ∧ mK M (mR M (mR M a1 0) (Int.toNat (mI M (mR M a0 8) (Int.toNat l3)))) = 11 ∧ mK M (mR M a0 4) = 12 ∧ mK M (mR M (mR M a0 4) 1) = 34 ∧ ((0 : Int) ≤ l3 ∧ l3 < (mN M (mR M (mR M a0 4) 1) : Int)) ∧ mK M (mR M (mR M (mR M a1 0) (Int.toNat (mI M (mR M a0 8) (Int.toNat l3)))) 0) = 10 ∧ Cv G y_Na_put1 d [vr (mR M (mR M (mR M a1 0) (Int.toNat (mI M (mR M a0 8) (Int.toNat l3)))) 0), vr (mR M (mR M (mR M a0 4) 1) (Int.toNat l3))] M (fun M83 => mOk M83 ∧ (mK M83 (mR M (mR M a1 0) (Int.toNat (mI M (mR M a0 8) (Int.toNat l3)))) = 11 ∧ mK M83 a0 = 8 ∧ mK M83 (mR M83 a0 4) = 12 ∧ mK M83 (mR M83 (mR M83 a0 4) 1) = 34 ∧ ((0 : Int) ≤ mI M83 a0 10 ∧ mI M83 a0 10 < (mN M83 (mR M83 (mR M83 a0 4) 1) : Int)) ∧ mK M83 (mR M83 (mR M (mR M a1 0) (Int.toNat (mI M (mR M a0 8) (Int.toNat l3)))) 1) = 10 ∧ Cv G y_Na_put1 d [vr (mR M83 (mR M (mR M a1 0) (Int.toNat (mI M (mR M a0 8) (Int.toNat l3)))) 1), vr (mR M83 (mR M83 (mR M83 a0 4) 1) (Int.toNat (mI M83 a0 10)))] M83 (fun M92 => mOk M92 ∧ (h_So_evaluate_226 G d a0 a1 (l3 + 1) M92 Q))))))) :
    h_So_evaluate_226 G d a0 a1 l3 M Q := by
  unfold h_So_evaluate_226
  obtain ⟨h70, h⟩ := h
  refine wm_iload_n d_So_evaluate_226 rfl rfl ?_
  refine wm_aload_n d_So_evaluate_227 rfl rfl ?_
  refine gf_So_111 rfl d_So_evaluate_228 h70 ?_
  refine wm_icmp_ge (tgt := 290) d_So_evaluate_231 rfl hi_l3 (hO _ _).1 (fun c72 => ?_) (fun c72 => ?_)
  · replace h := h.1 c72
    refine wm_return d_So_evaluate_290 rfl ?_
    exact ⟨rfl, h⟩
  · replace h := h.2 c72
    obtain ⟨h73, h⟩ := h
    obtain ⟨h74, h⟩ := h
    obtain ⟨h75, h⟩ := h
    obtain ⟨h76, h⟩ := h
    obtain ⟨h77, h⟩ := h
    obtain ⟨h78, h⟩ := h
    obtain ⟨h79, h⟩ := h
    obtain ⟨h80, h⟩ := h
    obtain ⟨h81, h⟩ := h
    obtain ⟨h82, h⟩ := h
    refine wm_aload_n d_So_evaluate_234 rfl rfl ?_
    refine gf_So_158 rfl d_So_evaluate_235 h73 ?_
    refine wm_aload_n d_So_evaluate_238 rfl rfl ?_
    refine gf_So_41 rfl d_So_evaluate_239 h70 ?_
    refine wm_iload_n d_So_evaluate_242 rfl rfl ?_
    refine wm_iald d_So_evaluate_243 h74 h75 ?_
    refine wm_aald5 d_So_evaluate_244 h76 h77 ?_
    refine wm_astore d_So_evaluate_245 (by decide) (L' := [vr a0, vr a1, vd, vi l3, vr (mR M (mR M a1 0) (Int.toNat (mI M (mR M a0 8) (Int.toNat l3)))), vd, vd, vd, vd]) rfl ?_
    refine wm_aload d_So_evaluate_247 rfl ?_
    refine gf_So_162 rfl d_So_evaluate_249 h78 ?_
    refine wm_aload_n d_So_evaluate_252 rfl rfl ?_
    refine gf_So_28 rfl d_So_evaluate_253 h70 ?_
    refine gf_So_166 rfl d_So_evaluate_256 h79 ?_
    refine wm_iload_n d_So_evaluate_259 rfl rfl ?_
    refine wm_aald4 d_So_evaluate_260 h80 h81 ?_
    refine cf_So_170 rfl d_So_evaluate_261 h82 (Nat.le_of_ble_eq_true rfl) (Cv.mono h (fun M83 h => ?_))
    obtain ⟨hOM83, h⟩ := h
    obtain ⟨h86, h⟩ := h
    obtain ⟨h87, h⟩ := h
    obtain ⟨h88, h⟩ := h
    obtain ⟨h89, h⟩ := h
    obtain ⟨h90, h⟩ := h
    obtain ⟨h91, h⟩ := h
    refine wm_aload d_So_evaluate_264 rfl ?_
    refine gf_So_176 rfl d_So_evaluate_266 h86 ?_
    refine wm_aload_n d_So_evaluate_269 rfl rfl ?_
    refine gf_So_28 rfl d_So_evaluate_270 h87 ?_
    refine gf_So_166 rfl d_So_evaluate_273 h88 ?_
    refine wm_aload_n d_So_evaluate_276 rfl rfl ?_
    refine gf_So_111 rfl d_So_evaluate_277 h87 ?_
    refine wm_aald4 d_So_evaluate_280 h89 h90 ?_
    refine cf_So_170 rfl d_So_evaluate_281 h91 (Nat.le_of_ble_eq_true rfl) (Cv.mono h (fun M92 h => ?_))
    obtain ⟨hOM92, h⟩ := h
    refine wm_iinc d_So_evaluate_284 (by decide) rfl (L' := [vr a0, vr a1, vd, vi (l3 + 1), vr (mR M (mR M a1 0) (Int.toNat (mI M (mR M a0 8) (Int.toNat l3)))), vd, vd, vd, vd]) rfl ?_
    refine wm_goto (tgt := 226) d_So_evaluate_287 rfl ?_
    refine wm_less (L' := [vr a0, vr a1, vd, vi (l3 + 1), vd, vd, vd, vd, vd]) ⟨Or.inr rfl, Or.inr rfl, Or.inl rfl, Or.inr rfl, Or.inl rfl, Or.inl rfl, Or.inl rfl, Or.inl rfl, Or.inl rfl, trivial⟩ ?_
    exact h
theorem d_So_improve_0 : decode y_So_improve.2.1 0 = .ok (.iconst 0, 1) := by decide +kernel
theorem d_So_improve_1 : decode y_So_improve.2.1 1 = .ok (.istore_n 3, 1) := by decide +kernel
theorem d_So_improve_2 : decode y_So_improve.2.1 2 = .ok (.iconst 0, 1) := by decide +kernel
theorem d_So_improve_3 : decode y_So_improve.2.1 3 = .ok (.istore 4, 2) := by decide +kernel
theorem d_So_improve_5 : decode y_So_improve.2.1 5 = .ok (.iload 4, 2) := by decide +kernel
theorem d_So_improve_7 : decode y_So_improve.2.1 7 = .ok (.aload_n 0, 1) := by decide +kernel
theorem d_So_improve_8 : decode y_So_improve.2.1 8 = .ok (.getfield 111, 3) := by decide +kernel
theorem d_So_improve_11 : decode y_So_improve.2.1 11 = .ok (.if_icmp .ge 117, 3) := by decide +kernel
theorem d_So_improve_128 : decode y_So_improve.2.1 128 = .ok (.iload_n 3, 1) := by decide +kernel
theorem d_So_improve_129 : decode y_So_improve.2.1 129 = .ok (.ireturn, 1) := by decide +kernel
theorem d_So_improve_14 : decode y_So_improve.2.1 14 = .ok (.aload_n 0, 1) := by decide +kernel
theorem d_So_improve_15 : decode y_So_improve.2.1 15 = .ok (.getfield 41, 3) := by decide +kernel
theorem d_So_improve_18 : decode y_So_improve.2.1 18 = .ok (.iload 4, 2) := by decide +kernel
theorem d_So_improve_20 : decode y_So_improve.2.1 20 = .ok (.iaload, 1) := by decide +kernel
theorem d_So_improve_21 : decode y_So_improve.2.1 21 = .ok (.istore 5, 2) := by decide +kernel
theorem d_So_improve_23 : decode y_So_improve.2.1 23 = .ok (.aload_n 0, 1) := by decide +kernel
theorem d_So_improve_24 : decode y_So_improve.2.1 24 = .ok (.getfield 61, 3) := by decide +kernel
theorem d_So_improve_27 : decode y_So_improve.2.1 27 = .ok (.getfield 102, 3) := by decide +kernel
theorem d_So_improve_30 : decode y_So_improve.2.1 30 = .ok (.iload 5, 2) := by decide +kernel
theorem d_So_improve_32 : decode y_So_improve.2.1 32 = .ok (.iaload, 1) := by decide +kernel
theorem d_So_improve_33 : decode y_So_improve.2.1 33 = .ok (.iload_n 1, 1) := by decide +kernel
theorem d_So_improve_34 : decode y_So_improve.2.1 34 = .ok (.if_icmp .ne 88, 3) := by decide +kernel
theorem d_So_improve_37 : decode y_So_improve.2.1 37 = .ok (.aload_n 0, 1) := by decide +kernel
theorem d_So_improve_38 : decode y_So_improve.2.1 38 = .ok (.getfield 35, 3) := by decide +kernel
theorem d_So_improve_41 : decode y_So_improve.2.1 41 = .ok (.iload 5, 2) := by decide +kernel
theorem d_So_improve_43 : decode y_So_improve.2.1 43 = .ok (.iaload, 1) := by decide +kernel
theorem d_So_improve_44 : decode y_So_improve.2.1 44 = .ok (.aload_n 0, 1) := by decide +kernel
theorem d_So_improve_45 : decode y_So_improve.2.1 45 = .ok (.getfield 32, 3) := by decide +kernel
theorem d_So_improve_48 : decode y_So_improve.2.1 48 = .ok (.iload 5, 2) := by decide +kernel
theorem d_So_improve_50 : decode y_So_improve.2.1 50 = .ok (.iaload, 1) := by decide +kernel
theorem d_So_improve_51 : decode y_So_improve.2.1 51 = .ok (.isub, 1) := by decide +kernel
theorem d_So_improve_52 : decode y_So_improve.2.1 52 = .ok (.iconst 1, 1) := by decide +kernel
theorem d_So_improve_53 : decode y_So_improve.2.1 53 = .ok (.if_icmp .le 69, 3) := by decide +kernel
theorem d_So_improve_56 : decode y_So_improve.2.1 56 = .ok (.aload_n 0, 1) := by decide +kernel
theorem d_So_improve_57 : decode y_So_improve.2.1 57 = .ok (.getfield 12, 3) := by decide +kernel
theorem d_So_improve_60 : decode y_So_improve.2.1 60 = .ok (.aload_n 0, 1) := by decide +kernel
theorem d_So_improve_61 : decode y_So_improve.2.1 61 = .ok (.getfield 61, 3) := by decide +kernel
theorem d_So_improve_64 : decode y_So_improve.2.1 64 = .ok (.aload_n 0, 1) := by decide +kernel
theorem d_So_improve_65 : decode y_So_improve.2.1 65 = .ok (.getfield 32, 3) := by decide +kernel
theorem d_So_improve_68 : decode y_So_improve.2.1 68 = .ok (.iload 5, 2) := by decide +kernel
theorem d_So_improve_70 : decode y_So_improve.2.1 70 = .ok (.iaload, 1) := by decide +kernel
theorem d_So_improve_71 : decode y_So_improve.2.1 71 = .ok (.aload_n 0, 1) := by decide +kernel
theorem d_So_improve_72 : decode y_So_improve.2.1 72 = .ok (.getfield 35, 3) := by decide +kernel
theorem d_So_improve_75 : decode y_So_improve.2.1 75 = .ok (.iload 5, 2) := by decide +kernel
theorem d_So_improve_77 : decode y_So_improve.2.1 77 = .ok (.iaload, 1) := by decide +kernel
theorem d_So_improve_78 : decode y_So_improve.2.1 78 = .ok (.iload_n 1, 1) := by decide +kernel
theorem d_So_improve_79 : decode y_So_improve.2.1 79 = .ok (.iconst 1, 1) := by decide +kernel
theorem d_So_improve_80 : decode y_So_improve.2.1 80 = .ok (.if_icmp .ne 7, 3) := by decide +kernel
theorem d_So_improve_83 : decode y_So_improve.2.1 83 = .ok (.iconst 1, 1) := by decide +kernel
theorem d_So_improve_84 : decode y_So_improve.2.1 84 = .ok (.goto 4, 3) := by decide +kernel
theorem d_So_improve_87 : decode y_So_improve.2.1 87 = .ok (.iconst 0, 1) := by decide +kernel
theorem d_So_improve_88 : decode y_So_improve.2.1 88 = .ok (.aload_n 2, 1) := by decide +kernel
theorem d_So_improve_89 : decode y_So_improve.2.1 89 = .ok (.invokevirtual 179, 3) := by decide +kernel
theorem d_So_improve_92 : decode y_So_improve.2.1 92 = .ok (.istore 6, 2) := by decide +kernel
theorem d_So_improve_94 : decode y_So_improve.2.1 94 = .ok (.aload_n 0, 1) := by decide +kernel
theorem d_So_improve_95 : decode y_So_improve.2.1 95 = .ok (.getfield 12, 3) := by decide +kernel
theorem d_So_improve_98 : decode y_So_improve.2.1 98 = .ok (.aload_n 2, 1) := by decide +kernel
theorem d_So_improve_99 : decode y_So_improve.2.1 99 = .ok (.getfield 158, 3) := by decide +kernel
theorem d_So_improve_102 : decode y_So_improve.2.1 102 = .ok (.iload 5, 2) := by decide +kernel
theorem d_So_improve_104 : decode y_So_improve.2.1 104 = .ok (.aaload, 1) := by decide +kernel
theorem d_So_improve_105 : decode y_So_improve.2.1 105 = .ok (.invokevirtual 183, 3) := by decide +kernel
theorem d_So_improve_108 : decode y_So_improve.2.1 108 = .ok (.ifCond .eq 14, 3) := by decide +kernel
theorem d_So_improve_111 : decode y_So_improve.2.1 111 = .ok (.aload_n 0, 1) := by decide +kernel
theorem d_So_improve_112 : decode y_So_improve.2.1 112 = .ok (.getfield 44, 3) := by decide +kernel
theorem d_So_improve_115 : decode y_So_improve.2.1 115 = .ok (.iload 4, 2) := by decide +kernel
theorem d_So_improve_117 : decode y_So_improve.2.1 117 = .ok (.iload 6, 2) := by decide +kernel
theorem d_So_improve_119 : decode y_So_improve.2.1 119 = .ok (.iastore, 1) := by decide +kernel
theorem d_So_improve_120 : decode y_So_improve.2.1 120 = .ok (.iconst 1, 1) := by decide +kernel
theorem d_So_improve_121 : decode y_So_improve.2.1 121 = .ok (.istore_n 3, 1) := by decide +kernel
theorem d_So_improve_122 : decode y_So_improve.2.1 122 = .ok (.iinc 4 1, 3) := by decide +kernel
theorem d_So_improve_125 : decode y_So_improve.2.1 125 = .ok (.goto (-120), 3) := by decide +kernel
def h_So_improve_5 (G : mG) (d : Nat) (a0 : Nat) (l1 : Int) (a2 : Nat) (l3 : Int) (l4 : Int) (M : mM) (Q : Int → mM → Prop) : Prop := mWm G y_So_improve (d + 1) 5 [vr a0, vi l1, vr a2, vi l3, vi l4, vd, vd] [] M (fun r9 M9 => ∃ x9, r9 = some (vi x9) ∧ Q x9 M9)
def h_So_improve_122 (G : mG) (d : Nat) (a0 : Nat) (l1 : Int) (a2 : Nat) (l3 : Int) (l4 : Int) (M : mM) (Q : Int → mM → Prop) : Prop := mWm G y_So_improve (d + 1) 122 [vr a0, vi l1, vr a2, vi l3, vi l4, vd, vd] [] M (fun r9 M9 => ∃ x9, r9 = some (vi x9) ∧ Q x9 M9)
theorem k_So_improve {G : mG} {d : Nat} {a0 : Nat} {l1 : Int} {a2 : Nat} {M : mM} {Q : Int → mM → Prop} (hO : mOk M) (hi_l1 : i32 l1)
    (h : h_So_improve_5 G d a0 l1 a2 0 0 M Q) :
    Ci G y_So_improve (d + 1) [vr a0, vi l1, vr a2] M Q := by
  refine wm_open (y := y_So_improve) rfl (Nat.le_of_ble_eq_true rfl) (L := [vr a0, vi l1, vr a2, vd, vd, vd, vd]) rfl ?_
  refine wm_iconst d_So_improve_0 ?_
  refine wm_istore_n d_So_improve_1 rfl (by decide) (L' := [vr a0, vi l1, vr a2, vi 0, vd, vd, vd]) rfl ?_
  refine wm_iconst d_So_improve_2 ?_
  refine wm_istore d_So_improve_3 (by decide) (L' := [vr a0, vi l1, vr a2, vi 0, vi 0, vd, vd]) rfl ?_
  exact h
theorem k_So_improve_5 {G : mG} {d : Nat} {a0 : Nat} {l1 : Int} {a2 : Nat} {l3 : Int} {l4 : Int} {M : mM} {Q : Int → mM → Prop} (hO : mOk M) (hi_l1 : i32 l1) (hi_l3 : i32 l3) (hi_l4 : i32 l4)
    (h : mK M a0 = 8 ∧ ((mI M a0 10 ≤ l4) → ((l3 = 0 ∨ l3 = 1) ∧ Q l3 M)) ∧ (¬ (mI M a0 10 ≤ l4) → (mK M (mR M a0 8) = 30 ∧ ((0 : Int) ≤ l4 ∧ l4 < (mN M (mR M a0 8) : Int)) ∧ mK M (mR M a0 3) = 7 ∧ mK M (mR M (mR M a0 3) 2) = 30 ∧ ((0 : Int) ≤ mI M (mR M a0 8) (Int.toNat l4) ∧ mI M (mR M a0 8) (Int.toNat l4) < (mN M (mR M (mR M a0 3) 2) : Int)) ∧ ((mI M (mR M (mR M a0 3) 2) (Int.toNat (mI M (mR M a0 8) (Int.toNat l4))) = l1) → (mK M (mR M a0 6) = 30 ∧ ((0 : Int) ≤ mI M (mR M a0 8) (Int.toNat l4) ∧ mI M (mR M a0 8) (Int.toNat l4) < (mN M (mR M a0 6) : Int)) ∧ mK M (mR M a0 5) = 30 ∧ ((0 : Int) ≤ mI M (mR M a0 8) (Int.toNat l4) ∧ mI M (mR M a0 8) (Int.toNat l4) < (mN M (mR M a0 5) : Int)) ∧ i32 ((mI M (mR M a0 6) (Int.toNat (mI M (mR M a0 8) (Int.toNat l4)))) - (mI M (mR M a0 5) (Int.toNat (mI M (mR M a0 8) (Int.toNat l4))))))) ∧ (((¬ (mI M (mR M (mR M a0 3) 2) (Int.toNat (mI M (mR M a0 8) (Int.toNat l4))) = l1)) ∨ ((mI M (mR M a0 6) (Int.toNat (mI M (mR M a0 8) (Int.toNat l4)))) - (mI M (mR M a0 5) (Int.toNat (mI M (mR M a0 8) (Int.toNat l4)))) ≤ 1)) → (h_So_improve_122 G d a0 l1 a2 l3 l4 M Q)) ∧ (¬ ((¬ (mI M (mR M (mR M a0 3) 2) (Int.toNat (mI M (mR M a0 8) (Int.toNat l4))) = l1)) ∨ ((mI M (mR M a0 6) (Int.toNat (mI M (mR M a0 8) (Int.toNat l4)))) - (mI M (mR M a0 5) (Int.toNat (mI M (mR M a0 8) (Int.toNat l4)))) ≤ 1)) → (mK M (mR M a0 5) = 30 ∧ ((0 : Int) ≤ mI M (mR M a0 8) (Int.toNat l4) ∧ mI M (mR M a0 8) (Int.toNat l4) < (mN M (mR M a0 5) : Int)) ∧ mK M (mR M a0 6) = 30 ∧ ((0 : Int) ≤ mI M (mR M a0 8) (Int.toNat l4) ∧ mI M (mR M a0 8) (Int.toNat l4) < (mN M (mR M a0 6) : Int)) ∧ ∀ v33 : Int, v33 = (if (l1 = 1) then 1 else 0) → mK M (mR M a0 0) = 9 ∧ Ci G y_Sc_pick d [vr (mR M a0 0), vr (mR M a0 3), vi (mI M (mR M a0 5) (Int.toNat (mI M (mR M a0 8) (Int.toNat l4)))), vi (mI M (mR M a0 6) (Int.toNat (mI M (mR M a0 8) (Int.toNat l4)))), vi v33, vr a2] M (fun x40 M39 => i32 x40 ∧ mOk M39 ∧ (mK M39 a0 = 8 ∧ mK M39 a2 = 13 ∧ mK M39 (mR M39 a2 0) = 35 ∧ ((0 : Int) ≤ mI M (mR M a0 8) (Int.toNat l4) ∧ mI M (mR M a0 8) (Int.toNat l4) < (mN M39 (mR M39 a2 0) : Int)) ∧ mK M39 (mR M39 a0 0) = 9 ∧ Ci G y_Sc_orderOfPicked d [vr (mR M39 a0 0), vr (mR M39 (mR M39 a2 0) (Int.toNat (mI M (mR M a0 8) (Int.toNat l4))))] M39 (fun x48 M47 => i32 x48 ∧ mOk M47 ∧ (((x48 = 0) → (h_So_improve_122 G d a0 l1 a2 l3 l4 M47 Q)) ∧ (¬ (x48 = 0) → (mK M47 a0 = 8 ∧ mK M47 (mR M47 a0 9) = 30 ∧ ((0 : Int) ≤ l4 ∧ l4 < (mN M47 (mR M47 a0 9) : Int)) ∧ ∀ M58, M58 = mUI M47 (mR M47 a0 9) (Int.toNat l4) x40 → h_So_improve_122 G d a0 l1 a2 1 l4 M58 Q))))))))))) :
    h_So_improve_5 G d a0 l1 a2 l3 l4 M Q := by
  unfold h_So_improve_5
  obtain ⟨h1, h⟩ := h
  refine wm_iload d_So_improve_5 rfl ?_
  refine wm_aload_n d_So_improve_7 rfl rfl ?_
  refine gf_So_111 rfl d_So_improve_8 h1 ?_
  refine wm_icmp_ge (tgt := 128) d_So_improve_11 rfl hi_l4 (hO _ _).1 (fun c9 => ?_) (fun c9 => ?_)
  · replace h := h.1 c9
    obtain ⟨h10, h⟩ := h
    refine wm_iload_n d_So_improve_128 rfl rfl ?_
    refine wm_ireturn d_So_improve_129 rfl (m_nb h10) ?_
    exact ⟨_, rfl, h⟩
  · replace h := h.2 c9
    obtain ⟨h11, h⟩ := h
    obtain ⟨h12, h⟩ := h
    obtain ⟨h13, h⟩ := h
    obtain ⟨h14, h⟩ := h
    obtain ⟨h15, h⟩ := h
    refine wm_aload_n d_So_improve_14 rfl rfl ?_
    refine gf_So_41 rfl d_So_improve_15 h1 ?_
    refine wm_iload d_So_improve_18 rfl ?_
    refine wm_iald d_So_improve_20 h11 h12 ?_
    refine wm_istore d_So_improve_21 (by decide) (L' := [vr a0, vi l1, vr a2, vi l3, vi l4, vi (mI M (mR M a0 8) (Int.toNat l4)), vd]) rfl ?_
    refine wm_aload_n d_So_improve_23 rfl rfl ?_
    refine gf_So_61 rfl d_So_improve_24 h1 ?_
    refine gf_So_102 rfl d_So_improve_27 h13 ?_
    refine wm_iload d_So_improve_30 rfl ?_
    refine wm_iald d_So_improve_32 h14 h15 ?_
    refine wm_iload_n d_So_improve_33 rfl rfl ?_
    obtain ⟨s25, h⟩ := h
    have hE0 : ((¬ (mI M (mR M (mR M a0 3) 2) (Int.toNat (mI M (mR M a0 8) (Int.toNat l4))) = l1)) ∨ ((mI M (mR M a0 6) (Int.toNat (mI M (mR M a0 8) (Int.toNat l4)))) - (mI M (mR M a0 5) (Int.toNat (mI M (mR M a0 8) (Int.toNat l4)))) ≤ 1)) → mWm G y_So_improve (d + 1) 122 [vr a0, vi l1, vr a2, vi l3, vi l4, vi (mI M (mR M a0 8) (Int.toNat l4)), vd] [] M (fun r9 M9 => ∃ x9, r9 = some (vi x9) ∧ Q x9 M9) := by
      intro q26
      have h := h.1 q26
      refine wm_less (L' := [vr a0, vi l1, vr a2, vi l3, vi l4, vd, vd]) ⟨Or.inr rfl, Or.inr rfl, Or.inr rfl, Or.inr rfl, Or.inr rfl, Or.inl rfl, Or.inl rfl, trivial⟩ ?_
      exact h
    have hE1 : ¬ ((¬ (mI M (mR M (mR M a0 3) 2) (Int.toNat (mI M (mR M a0 8) (Int.toNat l4))) = l1)) ∨ ((mI M (mR M a0 6) (Int.toNat (mI M (mR M a0 8) (Int.toNat l4)))) - (mI M (mR M a0 5) (Int.toNat (mI M (mR M a0 8) (Int.toNat l4)))) ≤ 1)) → mWm G y_So_improve (d + 1) 56 [vr a0, vi l1, vr a2, vi l3, vi l4, vi (mI M (mR M a0 8) (Int.toNat l4)), vd] [] M (fun r9 M9 => ∃ x9, r9 = some (vi x9) ∧ Q x9 M9) := by
      intro q27
      have h := h.2 q27
      obtain ⟨h28, h⟩ := h
      obtain ⟨h29, h⟩ := h
      obtain ⟨h30, h⟩ := h
      obtain ⟨h31, h⟩ := h
      refine wm_aload_n d_So_improve_56 rfl rfl ?_
      refine gf_So_12 rfl d_So_improve_57 h1 ?_
      refine wm_aload_n d_So_improve_60 rfl rfl ?_
      refine gf_So_61 rfl d_So_improve_61 h1 ?_
      refine wm_aload_n d_So_improve_64 rfl rfl ?_
      refine gf_So_32 rfl d_So_improve_65 h1 ?_
      refine wm_iload d_So_improve_68 rfl ?_
      refine wm_iald d_So_improve_70 h28 h29 ?_
      refine wm_aload_n d_So_improve_71 rfl rfl ?_
      refine gf_So_35 rfl d_So_improve_72 h1 ?_
      refine wm_iload d_So_improve_75 rfl ?_
      refine wm_iald d_So_improve_77 h30 h31 ?_
      refine wm_iload_n d_So_improve_78 rfl rfl ?_
      refine wm_iconst d_So_improve_79 ?_
      have hJ : ∀ v33 : Int, v33 = (if (l1 = 1) then 1 else 0) → mWm G y_So_improve (d + 1) 88 [vr a0, vi l1, vr a2, vi l3, vi l4, vi (mI M (mR M a0 8) (Int.toNat l4)), vd] [vi v33, vi (mI M (mR M a0 6) (Int.toNat (mI M (mR M a0 8) (Int.toNat l4)))), vi (mI M (mR M a0 5) (Int.toNat (mI M (mR M a0 8) (Int.toNat l4)))), vr (mR M a0 3), vr (mR M a0 0)] M (fun r9 M9 => ∃ x9, r9 = some (vi x9) ∧ Q x9 M9) := by
        intro v33 e35
        have h := h v33 e35
        have h36 : i32 v33 := by rw [e35]; (repeat' split) <;> first | exact ⟨by decide, by decide⟩ | exact ⟨by decide, by decide⟩
        have h37 : (v33 = 0 ∨ v33 = 1) := by rw [e35]; (repeat' split) <;> decide
        obtain ⟨h38, h⟩ := h
        refine wm_aload_n d_So_improve_88 rfl rfl ?_
        refine cf_So_179 rfl d_So_improve_89 h38 (Nat.le_of_ble_eq_true rfl) (Ci.mono h (fun x40 M39 h => ?_))
        obtain ⟨h41, hOM39, h⟩ := h
        obtain ⟨h42, h⟩ := h
        obtain ⟨h43, h⟩ := h
        obtain ⟨h44, h⟩ := h
        obtain ⟨h45, h⟩ := h
        obtain ⟨h46, h⟩ := h
        refine wm_istore d_So_improve_92 (by decide) (L' := [vr a0, vi l1, vr a2, vi l3, vi l4, vi (mI M (mR M a0 8) (Int.toNat l4)), vi x40]) rfl ?_
        refine wm_aload_n d_So_improve_94 rfl rfl ?_
        refine gf_So_12 rfl d_So_improve_95 h42 ?_
        refine wm_aload_n d_So_improve_98 rfl rfl ?_
        refine gf_So_158 rfl d_So_improve_99 h43 ?_
        refine wm_iload d_So_improve_102 rfl ?_
        refine wm_aald5 d_So_improve_104 h44 h45 ?_
        refine cf_So_183 rfl d_So_improve_105 h46 (Nat.le_of_ble_eq_true rfl) (Ci.mono h (fun x48 M47 h => ?_))
        obtain ⟨h49, hOM47, h⟩ := h
        refine wm_if_eq (tgt := 122) d_So_improve_108 rfl h49 (fun c54 => ?_) (fun c54 => ?_)
        · replace h := h.1 c54
          refine wm_less (L' := [vr a0, vi l1, vr a2, vi l3, vi l4, vd, vd]) ⟨Or.inr rfl, Or.inr rfl, Or.inr rfl, Or.inr rfl, Or.inr rfl, Or.inl rfl, Or.inl rfl, trivial⟩ ?_
          exact h
        · replace h := h.2 c54
          obtain ⟨h55, h⟩ := h
          obtain ⟨h56, h⟩ := h
          obtain ⟨h57, h⟩ := h
          obtain ⟨M58, e59⟩ : ∃ M58, M58 = mUI M47 (mR M47 a0 9) (Int.toNat l4) x40 := ⟨_, rfl⟩
          replace h := h M58 e59
          refine wm_aload_n d_So_improve_111 rfl rfl ?_
          refine gf_So_44 rfl d_So_improve_112 h55 ?_
          refine wm_iload d_So_improve_115 rfl ?_
          refine wm_iload d_So_improve_117 rfl ?_
          have hOM58 : mOk M58 := by rw [e59]; exact mOk_UI hOM47 h41
          refine wm_iastE d_So_improve_119 h56 h57 h41 e59 ?_
          refine wm_iconst d_So_improve_120 ?_
          refine wm_istore_n d_So_improve_121 rfl (by decide) (L' := [vr a0, vi l1, vr a2, vi 1, vi l4, vi (mI M (mR M a0 8) (Int.toNat l4)), vi x40]) rfl ?_
          refine wm_less (L' := [vr a0, vi l1, vr a2, vi 1, vi l4, vd, vd]) ⟨Or.inr rfl, Or.inr rfl, Or.inr rfl, Or.inr rfl, Or.inr rfl, Or.inl rfl, Or.inl rfl, trivial⟩ ?_
          exact h
      clear h
      refine wm_icmp_ne (tgt := 87) d_So_improve_80 rfl hi_l1 ⟨by decide, by decide⟩ (fun c32 => ?_) (fun c32 => ?_)
      · refine wm_iconst d_So_improve_87 ?_
        exact hJ 0 (if_neg c32).symm
      · replace c32 := Classical.not_not.mp c32
        refine wm_iconst d_So_improve_83 ?_
        refine wm_goto (tgt := 88) d_So_improve_84 rfl ?_
        exact hJ 1 (if_pos c32).symm
    clear h
    have s61 := s25
    refine wm_icmp_ne (tgt := 122) d_So_improve_34 rfl (hO _ _).1 hi_l1 (fun c24 => ?_) (fun c24 => ?_)
    · exact hE0 (Or.inl c24)
    · replace c24 := Classical.not_not.mp c24
      have s61 := s61 c24
      obtain ⟨h16, h17, h18, h19, h20⟩ := s61
      refine wm_aload_n d_So_improve_37 rfl rfl ?_
      refine gf_So_35 rfl d_So_improve_38 h1 ?_
      refine wm_iload d_So_improve_41 rfl ?_
      refine wm_iald d_So_improve_43 h16 h17 ?_
      refine wm_aload_n d_So_improve_44 rfl rfl ?_
      refine gf_So_32 rfl d_So_improve_45 h1 ?_
      refine wm_iload d_So_improve_48 rfl ?_
      refine wm_iald d_So_improve_50 h18 h19 ?_
      refine wm_isub d_So_improve_51 ?_
      refine wm_iconst d_So_improve_52 ?_
      refine wm_icmp_le (tgt := 122) d_So_improve_53 rfl h20 ⟨by decide, by decide⟩ (fun c23 => ?_) (fun c23 => ?_)
      · exact hE0 (Or.inr c23)
      · exact hE1 (fun z62 => Or.elim z62 (fun w => w c24) c23)
theorem k_So_improve_122 {G : mG} {d : Nat} {a0 : Nat} {l1 : Int} {a2 : Nat} {l3 : Int} {l4 : Int} {M : mM} {Q : Int → mM → Prop} (hO : mOk M) (hi_l1 : i32 l1) (hi_l3 : i32 l3) (hi_l4 : i32 l4)
    (h : h_So_improve_5 G d a0 l1 a2 l3 (l4 + 1) M Q) :
    h_So_improve_122 G d a0 l1 a2 l3 l4 M Q := by
  unfold h_So_improve_122
  refine wm_iinc d_So_improve_122 (by decide) rfl (L' := [vr a0, vi l1, vr a2, vi l3, vi (l4 + 1), vd, vd]) rfl ?_
  refine wm_goto (tgt := 5) d_So_improve_125 rfl ?_
  exact h
theorem d_So_rankAndChoose_0 : decode y_So_rankAndChoose.2.1 0 = .ok (.aload_n 0, 1) := by decide +kernel
theorem d_So_rankAndChoose_1 : decode y_So_rankAndChoose.2.1 1 = .ok (.aload_n 1, 1) := by decide +kernel
theorem d_So_rankAndChoose_2 : decode y_So_rankAndChoose.2.1 2 = .ok (.invokevirtual 187, 3) := by decide +kernel
theorem d_So_rankAndChoose_5 : decode y_So_rankAndChoose.2.1 5 = .ok (.pop, 1) := by decide +kernel
theorem d_So_rankAndChoose_6 : decode y_So_rankAndChoose.2.1 6 = .ok (.aload_n 0, 1) := by decide +kernel
theorem d_So_rankAndChoose_7 : decode y_So_rankAndChoose.2.1 7 = .ok (.aload_n 1, 1) := by decide +kernel
theorem d_So_rankAndChoose_8 : decode y_So_rankAndChoose.2.1 8 = .ok (.aload_n 0, 1) := by decide +kernel
theorem d_So_rankAndChoose_9 : decode y_So_rankAndChoose.2.1 9 = .ok (.getfield 18, 3) := by decide +kernel
theorem d_So_rankAndChoose_12 : decode y_So_rankAndChoose.2.1 12 = .ok (.invokevirtual 191, 3) := by decide +kernel
theorem d_So_rankAndChoose_15 : decode y_So_rankAndChoose.2.1 15 = .ok (.iconst 0, 1) := by decide +kernel
theorem d_So_rankAndChoose_16 : decode y_So_rankAndChoose.2.1 16 = .ok (.istore_n 2, 1) := by decide +kernel
theorem d_So_rankAndChoose_17 : decode y_So_rankAndChoose.2.1 17 = .ok (.iload_n 2, 1) := by decide +kernel
theorem d_So_rankAndChoose_18 : decode y_So_rankAndChoose.2.1 18 = .ok (.aload_n 0, 1) := by decide +kernel
theorem d_So_rankAndChoose_19 : decode y_So_rankAndChoose.2.1 19 = .ok (.getfield 61, 3) := by decide +kernel
theorem d_So_rankAndChoose_22 : decode y_So_rankAndChoose.2.1 22 = .ok (.getfield 96, 3) := by decide +kernel
theorem d_So_rankAndChoose_25 : decode y_So_rankAndChoose.2.1 25 = .ok (.if_icmp .ge 178, 3) := by decide +kernel
theorem d_So_rankAndChoose_203 : decode y_So_rankAndChoose.2.1 203 = .ok (.return_, 1) := by decide +kernel
theorem d_So_rankAndChoose_28 : decode y_So_rankAndChoose.2.1 28 = .ok (.aload_n 0, 1) := by decide +kernel
theorem d_So_rankAndChoose_29 : decode y_So_rankAndChoose.2.1 29 = .ok (.getfield 61, 3) := by decide +kernel
theorem d_So_rankAndChoose_32 : decode y_So_rankAndChoose.2.1 32 = .ok (.getfield 105, 3) := by decide +kernel
theorem d_So_rankAndChoose_35 : decode y_So_rankAndChoose.2.1 35 = .ok (.iload_n 2, 1) := by decide +kernel
theorem d_So_rankAndChoose_36 : decode y_So_rankAndChoose.2.1 36 = .ok (.iaload, 1) := by decide +kernel
theorem d_So_rankAndChoose_37 : decode y_So_rankAndChoose.2.1 37 = .ok (.istore_n 3, 1) := by decide +kernel
theorem d_So_rankAndChoose_38 : decode y_So_rankAndChoose.2.1 38 = .ok (.aload_n 0, 1) := by decide +kernel
theorem d_So_rankAndChoose_39 : decode y_So_rankAndChoose.2.1 39 = .ok (.getfield 22, 3) := by decide +kernel
theorem d_So_rankAndChoose_42 : decode y_So_rankAndChoose.2.1 42 = .ok (.iload_n 2, 1) := by decide +kernel
theorem d_So_rankAndChoose_43 : decode y_So_rankAndChoose.2.1 43 = .ok (.iload_n 3, 1) := by decide +kernel
theorem d_So_rankAndChoose_44 : decode y_So_rankAndChoose.2.1 44 = .ok (.aload_n 0, 1) := by decide +kernel
theorem d_So_rankAndChoose_45 : decode y_So_rankAndChoose.2.1 45 = .ok (.getfield 61, 3) := by decide +kernel
theorem d_So_rankAndChoose_48 : decode y_So_rankAndChoose.2.1 48 = .ok (.getfield 105, 3) := by decide +kernel
theorem d_So_rankAndChoose_51 : decode y_So_rankAndChoose.2.1 51 = .ok (.iload_n 2, 1) := by decide +kernel
theorem d_So_rankAndChoose_52 : decode y_So_rankAndChoose.2.1 52 = .ok (.iconst 1, 1) := by decide +kernel
theorem d_So_rankAndChoose_53 : decode y_So_rankAndChoose.2.1 53 = .ok (.iadd, 1) := by decide +kernel
theorem d_So_rankAndChoose_54 : decode y_So_rankAndChoose.2.1 54 = .ok (.iaload, 1) := by decide +kernel
theorem d_So_rankAndChoose_55 : decode y_So_rankAndChoose.2.1 55 = .ok (.if_icmp .ne 7, 3) := by decide +kernel
theorem d_So_rankAndChoose_58 : decode y_So_rankAndChoose.2.1 58 = .ok (.iconst (-1), 1) := by decide +kernel
theorem d_So_rankAndChoose_59 : decode y_So_rankAndChoose.2.1 59 = .ok (.goto 4, 3) := by decide +kernel
theorem d_So_rankAndChoose_62 : decode y_So_rankAndChoose.2.1 62 = .ok (.iconst 0, 1) := by decide +kernel
theorem d_So_rankAndChoose_63 : decode y_So_rankAndChoose.2.1 63 = .ok (.iastore, 1) := by decide +kernel
theorem d_So_rankAndChoose_64 : decode y_So_rankAndChoose.2.1 64 = .ok (.aload_n 0, 1) := by decide +kernel
theorem d_So_rankAndChoose_65 : decode y_So_rankAndChoose.2.1 65 = .ok (.getfield 61, 3) := by decide +kernel
theorem d_So_rankAndChoose_68 : decode y_So_rankAndChoose.2.1 68 = .ok (.getfield 102, 3) := by decide +kernel
theorem d_So_rankAndChoose_71 : decode y_So_rankAndChoose.2.1 71 = .ok (.iload_n 2, 1) := by decide +kernel
theorem d_So_rankAndChoose_72 : decode y_So_rankAndChoose.2.1 72 = .ok (.iaload, 1) := by decide +kernel
theorem d_So_rankAndChoose_73 : decode y_So_rankAndChoose.2.1 73 = .ok (.iconst 1, 1) := by decide +kernel
theorem d_So_rankAndChoose_74 : decode y_So_rankAndChoose.2.1 74 = .ok (.if_icmp .ne 7, 3) := by decide +kernel
theorem d_So_rankAndChoose_77 : decode y_So_rankAndChoose.2.1 77 = .ok (.iconst 1, 1) := by decide +kernel
theorem d_So_rankAndChoose_78 : decode y_So_rankAndChoose.2.1 78 = .ok (.goto 4, 3) := by decide +kernel
theorem d_So_rankAndChoose_81 : decode y_So_rankAndChoose.2.1 81 = .ok (.iconst 0, 1) := by decide +kernel
theorem d_So_rankAndChoose_82 : decode y_So_rankAndChoose.2.1 82 = .ok (.istore 4, 2) := by decide +kernel
theorem d_So_rankAndChoose_84 : decode y_So_rankAndChoose.2.1 84 = .ok (.aload_n 0, 1) := by decide +kernel
theorem d_So_rankAndChoose_85 : decode y_So_rankAndChoose.2.1 85 = .ok (.getfield 22, 3) := by decide +kernel
theorem d_So_rankAndChoose_88 : decode y_So_rankAndChoose.2.1 88 = .ok (.iload_n 2, 1) := by decide +kernel
theorem d_So_rankAndChoose_89 : decode y_So_rankAndChoose.2.1 89 = .ok (.iaload, 1) := by decide +kernel
theorem d_So_rankAndChoose_90 : decode y_So_rankAndChoose.2.1 90 = .ok (.iconst (-1), 1) := by decide +kernel
theorem d_So_rankAndChoose_91 : decode y_So_rankAndChoose.2.1 91 = .ok (.if_icmp .eq 18, 3) := by decide +kernel
theorem d_So_rankAndChoose_109 : decode y_So_rankAndChoose.2.1 109 = .ok (.iconst 1, 1) := by decide +kernel
theorem d_So_rankAndChoose_110 : decode y_So_rankAndChoose.2.1 110 = .ok (.goto 4, 3) := by decide +kernel
theorem d_So_rankAndChoose_94 : decode y_So_rankAndChoose.2.1 94 = .ok (.iload 4, 2) := by decide +kernel
theorem d_So_rankAndChoose_96 : decode y_So_rankAndChoose.2.1 96 = .ok (.ifCond .eq 17, 3) := by decide +kernel
theorem d_So_rankAndChoose_113 : decode y_So_rankAndChoose.2.1 113 = .ok (.iconst 0, 1) := by decide +kernel
theorem d_So_rankAndChoose_99 : decode y_So_rankAndChoose.2.1 99 = .ok (.aload_n 0, 1) := by decide +kernel
theorem d_So_rankAndChoose_100 : decode y_So_rankAndChoose.2.1 100 = .ok (.getfield 18, 3) := by decide +kernel
theorem d_So_rankAndChoose_103 : decode y_So_rankAndChoose.2.1 103 = .ok (.iload_n 2, 1) := by decide +kernel
theorem d_So_rankAndChoose_104 : decode y_So_rankAndChoose.2.1 104 = .ok (.iaload, 1) := by decide +kernel
theorem d_So_rankAndChoose_105 : decode y_So_rankAndChoose.2.1 105 = .ok (.iconst (-1), 1) := by decide +kernel
theorem d_So_rankAndChoose_106 : decode y_So_rankAndChoose.2.1 106 = .ok (.if_icmp .ne 7, 3) := by decide +kernel
theorem d_So_rankAndChoose_114 : decode y_So_rankAndChoose.2.1 114 = .ok (.istore 5, 2) := by decide +kernel
theorem d_So_rankAndChoose_116 : decode y_So_rankAndChoose.2.1 116 = .ok (.iload_n 3, 1) := by decide +kernel
theorem d_So_rankAndChoose_117 : decode y_So_rankAndChoose.2.1 117 = .ok (.istore 6, 2) := by decide +kernel
theorem d_So_rankAndChoose_119 : decode y_So_rankAndChoose.2.1 119 = .ok (.iload 6, 2) := by decide +kernel
theorem d_So_rankAndChoose_121 : decode y_So_rankAndChoose.2.1 121 = .ok (.aload_n 0, 1) := by decide +kernel
theorem d_So_rankAndChoose_122 : decode y_So_rankAndChoose.2.1 122 = .ok (.getfield 61, 3) := by decide +kernel
theorem d_So_rankAndChoose_125 : decode y_So_rankAndChoose.2.1 125 = .ok (.getfield 105, 3) := by decide +kernel
theorem d_So_rankAndChoose_128 : decode y_So_rankAndChoose.2.1 128 = .ok (.iload_n 2, 1) := by decide +kernel
theorem d_So_rankAndChoose_129 : decode y_So_rankAndChoose.2.1 129 = .ok (.iconst 1, 1) := by decide +kernel
theorem d_So_rankAndChoose_130 : decode y_So_rankAndChoose.2.1 130 = .ok (.iadd, 1) := by decide +kernel
theorem d_So_rankAndChoose_131 : decode y_So_rankAndChoose.2.1 131 = .ok (.iaload, 1) := by decide +kernel
theorem d_So_rankAndChoose_132 : decode y_So_rankAndChoose.2.1 132 = .ok (.if_icmp .ge 65, 3) := by decide +kernel
theorem d_So_rankAndChoose_135 : decode y_So_rankAndChoose.2.1 135 = .ok (.iload 5, 2) := by decide +kernel
theorem d_So_rankAndChoose_137 : decode y_So_rankAndChoose.2.1 137 = .ok (.ifCond .ne 60, 3) := by decide +kernel
theorem d_So_rankAndChoose_140 : decode y_So_rankAndChoose.2.1 140 = .ok (.aload_n 0, 1) := by decide +kernel
theorem d_So_rankAndChoose_141 : decode y_So_rankAndChoose.2.1 141 = .ok (.getfield 47, 3) := by decide +kernel
theorem d_So_rankAndChoose_144 : decode y_So_rankAndChoose.2.1 144 = .ok (.iload 6, 2) := by decide +kernel
theorem d_So_rankAndChoose_146 : decode y_So_rankAndChoose.2.1 146 = .ok (.baload, 1) := by decide +kernel
theorem d_So_rankAndChoose_147 : decode y_So_rankAndChoose.2.1 147 = .ok (.ifCond .eq 31, 3) := by decide +kernel
theorem d_So_rankAndChoose_150 : decode y_So_rankAndChoose.2.1 150 = .ok (.iload 4, 2) := by decide +kernel
theorem d_So_rankAndChoose_152 : decode y_So_rankAndChoose.2.1 152 = .ok (.ifCond .eq 22, 3) := by decide +kernel
theorem d_So_rankAndChoose_155 : decode y_So_rankAndChoose.2.1 155 = .ok (.aload_n 0, 1) := by decide +kernel
theorem d_So_rankAndChoose_156 : decode y_So_rankAndChoose.2.1 156 = .ok (.iload 6, 2) := by decide +kernel
theorem d_So_rankAndChoose_158 : decode y_So_rankAndChoose.2.1 158 = .ok (.aload_n 0, 1) := by decide +kernel
theorem d_So_rankAndChoose_159 : decode y_So_rankAndChoose.2.1 159 = .ok (.getfield 18, 3) := by decide +kernel
theorem d_So_rankAndChoose_162 : decode y_So_rankAndChoose.2.1 162 = .ok (.iload_n 2, 1) := by decide +kernel
theorem d_So_rankAndChoose_163 : decode y_So_rankAndChoose.2.1 163 = .ok (.iaload, 1) := by decide +kernel
theorem d_So_rankAndChoose_164 : decode y_So_rankAndChoose.2.1 164 = .ok (.aload_n 0, 1) := by decide +kernel
theorem d_So_rankAndChoose_165 : decode y_So_rankAndChoose.2.1 165 = .ok (.getfield 18, 3) := by decide +kernel
theorem d_So_rankAndChoose_197 : decode y_So_rankAndChoose.2.1 197 = .ok (.iinc 2 1, 3) := by decide +kernel
theorem d_So_rankAndChoose_200 : decode y_So_rankAndChoose.2.1 200 = .ok (.goto (-183), 3) := by decide +kernel
theorem d_So_rankAndChoose_178 : decode y_So_rankAndChoose.2.1 178 = .ok (.iconst 0, 1) := by decide +kernel
theorem d_So_rankAndChoose_174 : decode y_So_rankAndChoose.2.1 174 = .ok (.iconst 1, 1) := by decide +kernel
theorem d_So_rankAndChoose_175 : decode y_So_rankAndChoose.2.1 175 = .ok (.goto 4, 3) := by decide +kernel
theorem d_So_rankAndChoose_168 : decode y_So_rankAndChoose.2.1 168 = .ok (.invokevirtual 195, 3) := by decide +kernel
theorem d_So_rankAndChoose_171 : decode y_So_rankAndChoose.2.1 171 = .ok (.ifCond .eq 7, 3) := by decide +kernel
theorem d_So_rankAndChoose_179 : decode y_So_rankAndChoose.2.1 179 = .ok (.istore 5, 2) := by decide +kernel
theorem d_So_rankAndChoose_181 : decode y_So_rankAndChoose.2.1 181 = .ok (.aload_n 0, 1) := by decide +kernel
theorem d_So_rankAndChoose_182 : decode y_So_rankAndChoose.2.1 182 = .ok (.getfield 22, 3) := by decide +kernel
theorem d_So_rankAndChoose_185 : decode y_So_rankAndChoose.2.1 185 = .ok (.iload_n 2, 1) := by decide +kernel
theorem d_So_rankAndChoose_186 : decode y_So_rankAndChoose.2.1 186 = .ok (.iload 6, 2) := by decide +kernel
theorem d_So_rankAndChoose_188 : decode y_So_rankAndChoose.2.1 188 = .ok (.iload_n 3, 1) := by decide +kernel
theorem d_So_rankAndChoose_189 : decode y_So_rankAndChoose.2.1 189 = .ok (.isub, 1) := by decide +kernel
theorem d_So_rankAndChoose_190 : decode y_So_rankAndChoose.2.1 190 = .ok (.iastore, 1) := by decide +kernel
theorem d_So_rankAndChoose_191 : decode y_So_rankAndChoose.2.1 191 = .ok (.iinc 6 1, 3) := by decide +kernel
theorem d_So_rankAndChoose_194 : decode y_So_rankAndChoose.2.1 194 = .ok (.goto (-75), 3) := by decide +kernel
def h_So_rankAndChoose_17 (G : mG) (d : Nat) (a0 : Nat) (l2 : Int) (M : mM) (Q : mM → Prop) : Prop := mWm G y_So_rankAndChoose (d + 1) 17 [vr a0, vd, vi l2, vd, vd, vd, vd] [] M (fun r9 M9 => r9 = none ∧ Q M9)
def h_So_rankAndChoose_119 (G : mG) (d : Nat) (a0 : Nat) (l2 : Int) (l3 : Int) (l4 : Int) (l5 : Int) (l6 : Int) (M : mM) (Q : mM → Prop) : Prop := mWm G y_So_rankAndChoose (d + 1) 119 [vr a0, vd, vi l2, vi l3, vi l4, vi l5, vi l6] [] M (fun r9 M9 => r9 = none ∧ Q M9)
def h_So_rankAndChoose_179 (G : mG) (d : Nat) (a0 : Nat) (l2 : Int) (l3 : Int) (l4 : Int) (l6 : Int) (k0 : Int) (M : mM) (Q : mM → Prop) : Prop := mWm G y_So_rankAndChoose (d + 1) 179 [vr a0, vd, vi l2, vi l3, vi l4, vd, vi l6] [vi k0] M (fun r9 M9 => r9 = none ∧ Q M9)
theorem k_So_rankAndChoose {G : mG} {d : Nat} {a0 : Nat} {a1 : Nat} {M : mM} {Q : mM → Prop} (hO : mOk M)
    (h : mK M a0 = 8 ∧ Ci G y_So_attain d [vr a0, vr a1] M (fun x3 M2 => i32 x3 ∧ mOk M2 ∧ (mK M2 a0 = 8 ∧ Cv G y_So_fillRanks d [vr a0, vr a1, vr (mR M2 a0 1)] M2 (fun M6 => mOk M6 ∧ (h_So_rankAndChoose_17 G d a0 0 M6 Q))))) :
    Cv G y_So_rankAndChoose (d + 1) [vr a0, vr a1] M Q := by
  refine wm_open (y := y_So_rankAndChoose) rfl (Nat.le_of_ble_eq_true rfl) (L := [vr a0, vr a1, vd, vd, vd, vd, vd]) rfl ?_
  obtain ⟨h1, h⟩ := h
  refine wm_aload_n d_So_rankAndChoose_0 rfl rfl ?_
  refine wm_aload_n d_So_rankAndChoose_1 rfl rfl ?_
  refine cf_So_187 rfl d_So_rankAndChoose_2 h1 (Nat.le_of_ble_eq_true rfl) (Ci.mono h (fun x3 M2 h => ?_))
  obtain ⟨h4, hOM2, h⟩ := h
  obtain ⟨h5, h⟩ := h
  refine wm_pop d_So_rankAndChoose_5 rfl ?_
  refine wm_aload_n d_So_rankAndChoose_6 rfl rfl ?_
  refine wm_aload_n d_So_rankAndChoose_7 rfl rfl ?_
  refine wm_aload_n d_So_rankAndChoose_8 rfl rfl ?_
  refine gf_So_18 rfl d_So_rankAndChoose_9 h5 ?_
  refine cf_So_191 rfl d_So_rankAndChoose_12 h5 (Nat.le_of_ble_eq_true rfl) (Cv.mono h (fun M6 h => ?_))
  obtain ⟨hOM6, h⟩ := h
  refine wm_iconst d_So_rankAndChoose_15 ?_
  refine wm_istore_n d_So_rankAndChoose_16 rfl (by decide) (L' := [vr a0, vr a1, vi 0, vd, vd, vd, vd]) rfl ?_
  refine wm_less (L' := [vr a0, vd, vi 0, vd, vd, vd, vd]) ⟨Or.inr rfl, Or.inl rfl, Or.inr rfl, Or.inl rfl, Or.inl rfl, Or.inl rfl, Or.inl rfl, trivial⟩ ?_
  exact h
theorem k_So_rankAndChoose_17 {G : mG} {d : Nat} {a0 : Nat} {l2 : Int} {M : mM} {Q : mM → Prop} (hO : mOk M) (hi_l2 : i32 l2)
    (h : mK M a0 = 8 ∧ mK M (mR M a0 3) = 7 ∧ ((mI M (mR M a0 3) 0 ≤ l2) → (Q M)) ∧ (¬ (mI M (mR M a0 3) 0 ≤ l2) → (mK M (mR M (mR M a0 3) 4) = 30 ∧ ((0 : Int) ≤ l2 ∧ l2 < (mN M (mR M (mR M a0 3) 4) : Int)) ∧ ((0 : Int) ≤ l2 + 1 ∧ l2 + 1 < (mN M (mR M (mR M a0 3) 4) : Int)) ∧ ∀ v20 : Int, v20 = (if (mI M (mR M (mR M a0 3) 4) (Int.toNat l2) = mI M (mR M (mR M a0 3) 4) (Int.toNat (l2 + 1))) then (-1) else 0) → mK M (mR M a0 2) = 30 ∧ ((0 : Int) ≤ l2 ∧ l2 < (mN M (mR M a0 2) : Int)) ∧ ∀ M26, M26 = mUI M (mR M a0 2) (Int.toNat l2) v20 → mK M26 (mR M26 a0 3) = 7 ∧ mK M26 (mR M26 (mR M26 a0 3) 2) = 30 ∧ ((0 : Int) ≤ l2 ∧ l2 < (mN M26 (mR M26 (mR M26 a0 3) 2) : Int)) ∧ ∀ v32 : Int, v32 = (if (mI M26 (mR M26 (mR M26 a0 3) 2) (Int.toNat l2) = 1) then 1 else 0) → mK M26 (mR M26 a0 2) = 30 ∧ ((0 : Int) ≤ l2 ∧ l2 < (mN M26 (mR M26 a0 2) : Int)) ∧ (¬ (mI M26 (mR M26 a0 2) (Int.toNat l2) = (-1)) → (¬ (v32 = 0) → (mK M26 (mR M26 a0 1) = 30 ∧ ((0 : Int) ≤ l2 ∧ l2 < (mN M26 (mR M26 a0 1) : Int))))) ∧ ∀ v44 : Int, v44 = (if ((mI M26 (mR M26 a0 2) (Int.toNat l2) = (-1)) ∨ ((¬ (v32 = 0)) ∧ (mI M26 (mR M26 a0 1) (Int.toNat l2) = (-1)))) then 1 else 0) → h_So_rankAndChoose_119 G d a0 l2 (mI M (mR M (mR M a0 3) 4) (Int.toNat l2)) v32 v44 (mI M (mR M (mR M a0 3) 4) (Int.toNat l2)) M26 Q))) :
    h_So_rankAndChoose_17 G d a0 l2 M Q := by
  unfold h_So_rankAndChoose_17
  obtain ⟨h9, h⟩ := h
  obtain ⟨h10, h⟩ := h
  refine wm_iload_n d_So_rankAndChoose_17 rfl rfl ?_
  refine wm_aload_n d_So_rankAndChoose_18 rfl rfl ?_
  refine gf_So_61 rfl d_So_rankAndChoose_19 h9 ?_
  refine gf_So_96 rfl d_So_rankAndChoose_22 h10 ?_
  refine wm_icmp_ge (tgt := 203) d_So_rankAndChoose_25 rfl hi_l2 (hO _ _).1 (fun c15 => ?_) (fun c15 => ?_)
  · replace h := h.1 c15
    refine wm_return d_So_rankAndChoose_203 rfl ?_
    exact ⟨rfl, h⟩
  · replace h := h.2 c15
    obtain ⟨h16, h⟩ := h
    obtain ⟨h17, h⟩ := h
    obtain ⟨h18, h⟩ := h
    refine wm_aload_n d_So_rankAndChoose_28 rfl rfl ?_
    refine gf_So_61 rfl d_So_rankAndChoose_29 h9 ?_
    refine gf_So_105 rfl d_So_rankAndChoose_32 h10 ?_
    refine wm_iload_n d_So_rankAndChoose_35 rfl rfl ?_
    refine wm_iald d_So_rankAndChoose_36 h16 h17 ?_
    refine wm_istore_n d_So_rankAndChoose_37 rfl (by decide) (L' := [vr a0, vd, vi l2, vi (mI M (mR M (mR M a0 3) 4) (Int.toNat l2)), vd, vd, vd]) rfl ?_
    refine wm_aload_n d_So_rankAndChoose_38 rfl rfl ?_
    refine gf_So_22 rfl d_So_rankAndChoose_39 h9 ?_
    refine wm_iload_n d_So_rankAndChoose_42 rfl rfl ?_
    refine wm_iload_n d_So_rankAndChoose_43 rfl rfl ?_
    refine wm_aload_n d_So_rankAndChoose_44 rfl rfl ?_
    refine gf_So_61 rfl d_So_rankAndChoose_45 h9 ?_
    refine gf_So_105 rfl d_So_rankAndChoose_48 h10 ?_
    refine wm_iload_n d_So_rankAndChoose_51 rfl rfl ?_
    refine wm_iconst d_So_rankAndChoose_52 ?_
    refine wm_iadd d_So_rankAndChoose_53 ?_
    refine wm_iald d_So_rankAndChoose_54 h16 h18 ?_
    have hJ : ∀ v20 : Int, v20 = (if (mI M (mR M (mR M a0 3) 4) (Int.toNat l2) = mI M (mR M (mR M a0 3) 4) (Int.toNat (l2 + 1))) then (-1) else 0) → mWm G y_So_rankAndChoose (d + 1) 63 [vr a0, vd, vi l2, vi (mI M (mR M (mR M a0 3) 4) (Int.toNat l2)), vd, vd, vd] [vi v20, vi l2, vr (mR M a0 2)] M (fun r9 M9 => r9 = none ∧ Q M9) := by
      intro v20 e22
      have h := h v20 e22
      have h23 : i32 v20 := by rw [e22]; (repeat' split) <;> first | exact ⟨by decide, by decide⟩ | exact ⟨by decide, by decide⟩
      obtain ⟨h24, h⟩ := h
      obtain ⟨h25, h⟩ := h
      obtain ⟨M26, e27⟩ : ∃ M26, M26 = mUI M (mR M a0 2) (Int.toNat l2) v20 := ⟨_, rfl⟩
      replace h := h M26 e27
      obtain ⟨h28, h⟩ := h
      obtain ⟨h29, h⟩ := h
      obtain ⟨h30, h⟩ := h
      have hOM26 : mOk M26 := by rw [e27]; exact mOk_UI hO h23
      refine wm_iastE d_So_rankAndChoose_63 h24 h25 h23 e27 ?_
      refine wm_aload_n d_So_rankAndChoose_64 rfl rfl ?_
      refine gf_So_61 rfl d_So_rankAndChoose_65 (by rw [e27]; exact h9) ?_
      refine gf_So_102 rfl d_So_rankAndChoose_68 h28 ?_
      refine wm_iload_n d_So_rankAndChoose_71 rfl rfl ?_
      refine wm_iald d_So_rankAndChoose_72 h29 h30 ?_
      refine wm_iconst d_So_rankAndChoose_73 ?_
      have hJ : ∀ v32 : Int, v32 = (if (mI M26 (mR M26 (mR M26 a0 3) 2) (Int.toNat l2) = 1) then 1 else 0) → mWm G y_So_rankAndChoose (d + 1) 82 [vr a0, vd, vi l2, vi (mI M (mR M (mR M a0 3) 4) (Int.toNat l2)), vd, vd, vd] [vi v32] M26 (fun r9 M9 => r9 = none ∧ Q M9) := by
        intro v32 e34
        have h := h v32 e34
        have h35 : i32 v32 := by rw [e34]; (repeat' split) <;> first | exact ⟨by decide, by decide⟩ | exact ⟨by decide, by decide⟩
        have h36 : (v32 = 0 ∨ v32 = 1) := by rw [e34]; (repeat' split) <;> decide
        obtain ⟨h37, h⟩ := h
        obtain ⟨h38, h⟩ := h
        refine wm_istore d_So_rankAndChoose_82 (by decide) (L' := [vr a0, vd, vi l2, vi (mI M (mR M (mR M a0 3) 4) (Int.toNat l2)), vi v32, vd, vd]) rfl ?_
        refine wm_aload_n d_So_rankAndChoose_84 rfl rfl ?_
        refine gf_So_22 rfl d_So_rankAndChoose_85 (by rw [e27]; exact h9) ?_
        refine wm_iload_n d_So_rankAndChoose_88 rfl rfl ?_
        refine wm_iald d_So_rankAndChoose_89 h37 h38 ?_
        refine wm_iconst d_So_rankAndChoose_90 ?_
        obtain ⟨s45, h⟩ := h
        have hJ : ∀ v44 : Int, v44 = (if ((mI M26 (mR M26 a0 2) (Int.toNat l2) = (-1)) ∨ ((¬ (v32 = 0)) ∧ (mI M26 (mR M26 a0 1) (Int.toNat l2) = (-1)))) then 1 else 0) → mWm G y_So_rankAndChoose (d + 1) 114 [vr a0, vd, vi l2, vi (mI M (mR M (mR M a0 3) 4) (Int.toNat l2)), vi v32, vd, vd] [vi v44] M26 (fun r9 M9 => r9 = none ∧ Q M9) := by
          intro v44 e46
          have h := h v44 e46
          have h47 : i32 v44 := by rw [e46]; (repeat' split) <;> first | exact ⟨by decide, by decide⟩ | exact ⟨by decide, by decide⟩
          have h48 : (v44 = 0 ∨ v44 = 1) := by rw [e46]; (repeat' split) <;> decide
          refine wm_istore d_So_rankAndChoose_114 (by decide) (L' := [vr a0, vd, vi l2, vi (mI M (mR M (mR M a0 3) 4) (Int.toNat l2)), vi v32, vi v44, vd]) rfl ?_
          refine wm_iload_n d_So_rankAndChoose_116 rfl rfl ?_
          refine wm_istore d_So_rankAndChoose_117 (by decide) (L' := [vr a0, vd, vi l2, vi (mI M (mR M (mR M a0 3) 4) (Int.toNat l2)), vi v32, vi v44, vi (mI M (mR M (mR M a0 3) 4) (Int.toNat l2))]) rfl ?_
          exact h
        clear h
        have s49 := s45
        refine wm_icmp_eq (tgt := 109) d_So_rankAndChoose_91 rfl (hOM26 _ _).1 ⟨by decide, by decide⟩ (fun c39 => ?_) (fun c39 => ?_)
        · refine wm_iconst d_So_rankAndChoose_109 ?_
          refine wm_goto (tgt := 114) d_So_rankAndChoose_110 rfl ?_
          exact hJ 1 (if_pos (Or.inl c39)).symm
        · have s49 := s49 c39
          have s50 := s49
          refine wm_iload d_So_rankAndChoose_94 rfl ?_
          refine wm_if_eq (tgt := 113) d_So_rankAndChoose_96 rfl h35 (fun c40 => ?_) (fun c40 => ?_)
          · refine wm_iconst d_So_rankAndChoose_113 ?_
            exact hJ 0 (if_neg (fun z51 => Or.elim z51 c39 (fun z52 => z52.1 c40))).symm
          · have s50 := s50 c40
            obtain ⟨h41, h42⟩ := s50
            refine wm_aload_n d_So_rankAndChoose_99 rfl rfl ?_
            refine gf_So_18 rfl d_So_rankAndChoose_100 (by rw [e27]; exact h9) ?_
            refine wm_iload_n d_So_rankAndChoose_103 rfl rfl ?_
            refine wm_iald d_So_rankAndChoose_104 h41 h42 ?_
            refine wm_iconst d_So_rankAndChoose_105 ?_
            refine wm_icmp_ne (tgt := 113) d_So_rankAndChoose_106 rfl (hOM26 _ _).1 ⟨by decide, by decide⟩ (fun c43 => ?_) (fun c43 => ?_)
            · refine wm_iconst d_So_rankAndChoose_113 ?_
              exact hJ 0 (if_neg (fun z53 => Or.elim z53 c39 (fun z54 => c43 z54.2))).symm
            · replace c43 := Classical.not_not.mp c43
              refine wm_iconst d_So_rankAndChoose_109 ?_
              refine wm_goto (tgt := 114) d_So_rankAndChoose_110 rfl ?_
              exact hJ 1 (if_pos (Or.inr ⟨c40, c43⟩)).symm
      clear h
      refine wm_icmp_ne (tgt := 81) d_So_rankAndChoose_74 rfl (hOM26 _ _).1 ⟨by decide, by decide⟩ (fun c31 => ?_) (fun c31 => ?_)
      · refine wm_iconst d_So_rankAndChoose_81 ?_
        exact hJ 0 (if_neg c31).symm
      · replace c31 := Classical.not_not.mp c31
        refine wm_iconst d_So_rankAndChoose_77 ?_
        refine wm_goto (tgt := 82) d_So_rankAndChoose_78 rfl ?_
        exact hJ 1 (if_pos c31).symm
    clear h
    refine wm_icmp_ne (tgt := 62) d_So_rankAndChoose_55 rfl (hO _ _).1 (hO _ _).1 (fun c19 => ?_) (fun c19 => ?_)
    · refine wm_iconst d_So_rankAndChoose_62 ?_
      exact hJ 0 (if_neg c19).symm
    · replace c19 := Classical.not_not.mp c19
      refine wm_iconst d_So_rankAndChoose_58 ?_
      refine wm_goto (tgt := 63) d_So_rankAndChoose_59 rfl ?_
      exact hJ (-1) (if_pos c19).symm
theorem k_So_rankAndChoose_119 {G : mG} {d : Nat} {a0 : Nat} {l2 : Int} {l3 : Int} {l4 : Int} {l5 : Int} {l6 : Int} {M : mM} {Q : mM → Prop} (hO : mOk M) (hi_l2 : i32 l2) (hi_l3 : i32 l3) (hi_l4 : i32 l4) (hi_l5 : i32 l5) (hi_l6 : i32 l6)
    (h : mK M a0 = 8 ∧ mK M (mR M a0 3) = 7 ∧ mK M (mR M (mR M a0 3) 4) = 30 ∧ ((0 : Int) ≤ l2 + 1 ∧ l2 + 1 < (mN M (mR M (mR M a0 3) 4) : Int)) ∧ (((mI M (mR M (mR M a0 3) 4) (Int.toNat (l2 + 1)) ≤ l6) ∨ (¬ (l5 = 0))) → (h_So_rankAndChoose_17 G d a0 (l2 + 1) M Q)) ∧ (¬ ((mI M (mR M (mR M a0 3) 4) (Int.toNat (l2 + 1)) ≤ l6) ∨ (¬ (l5 = 0))) → (mK M (mR M a0 11) = 31 ∧ ((0 : Int) ≤ l6 ∧ l6 < (mN M (mR M a0 11) : Int)) ∧ ((mI M (mR M a0 11) (Int.toNat l6) = 0) → (h_So_rankAndChoose_179 G d a0 l2 l3 l4 l6 0 M Q)) ∧ (¬ (mI M (mR M a0 11) (Int.toNat l6) = 0) → (((l4 = 0) → (h_So_rankAndChoose_179 G d a0 l2 l3 l4 l6 1 M Q)) ∧ (¬ (l4 = 0) → (mK M (mR M a0 1) = 30 ∧ ((0 : Int) ≤ l2 ∧ l2 < (mN M (mR M a0 1) : Int)) ∧ Ci G y_So_leadsBelow d [vr a0, vi l6, vi (mI M (mR M a0 1) (Int.toNat l2)), vr (mR M a0 1)] M (fun x81 M80 => i32 x81 ∧ mOk M80 ∧ (((x81 = 0) → (h_So_rankAndChoose_179 G d a0 l2 l3 l4 l6 0 M80 Q)) ∧ (¬ (x81 = 0) → (h_So_rankAndChoose_179 G d a0 l2 l3 l4 l6 1 M80 Q))))))))))) :
    h_So_rankAndChoose_119 G d a0 l2 l3 l4 l5 l6 M Q := by
  unfold h_So_rankAndChoose_119
  obtain ⟨h58, h⟩ := h
  obtain ⟨h59, h⟩ := h
  obtain ⟨h60, h⟩ := h
  obtain ⟨h61, h⟩ := h
  refine wm_iload d_So_rankAndChoose_119 rfl ?_
  refine wm_aload_n d_So_rankAndChoose_121 rfl rfl ?_
  refine gf_So_61 rfl d_So_rankAndChoose_122 h58 ?_
  refine gf_So_105 rfl d_So_rankAndChoose_125 h59 ?_
  refine wm_iload_n d_So_rankAndChoose_128 rfl rfl ?_
  refine wm_iconst d_So_rankAndChoose_129 ?_
  refine wm_iadd d_So_rankAndChoose_130 ?_
  refine wm_iald d_So_rankAndChoose_131 h60 h61 ?_
  have hE0 : ((mI M (mR M (mR M a0 3) 4) (Int.toNat (l2 + 1)) ≤ l6) ∨ (¬ (l5 = 0))) → mWm G y_So_rankAndChoose (d + 1) 197 [vr a0, vd, vi l2, vi l3, vi l4, vi l5, vi l6] [] M (fun r9 M9 => r9 = none ∧ Q M9) := by
    intro q69
    have h := h.1 q69
    refine wm_iinc d_So_rankAndChoose_197 (by decide) rfl (L' := [vr a0, vd, vi (l2 + 1), vi l3, vi l4, vi l5, vi l6]) rfl ?_
    refine wm_goto (tgt := 17) d_So_rankAndChoose_200 rfl ?_
    refine wm_less (L' := [vr a0, vd, vi (l2 + 1), vd, vd, vd, vd]) ⟨Or.inr rfl, Or.inl rfl, Or.inr rfl, Or.inl rfl, Or.inl rfl, Or.inl rfl, Or.inl rfl, trivial⟩ ?_
    exact h
  have hE1 : ¬ ((mI M (mR M (mR M a0 3) 4) (Int.toNat (l2 + 1)) ≤ l6) ∨ (¬ (l5 = 0))) → mWm G y_So_rankAndChoose (d + 1) 140 [vr a0, vd, vi l2, vi l3, vi l4, vi l5, vi l6] [] M (fun r9 M9 => r9 = none ∧ Q M9) := by
    intro q70
    have h := h.2 q70
    obtain ⟨h71, h⟩ := h
    obtain ⟨h72, h⟩ := h
    refine wm_aload_n d_So_rankAndChoose_140 rfl rfl ?_
    refine gf_So_47 rfl d_So_rankAndChoose_141 h58 ?_
    refine wm_iload d_So_rankAndChoose_144 rfl ?_
    refine wm_zald d_So_rankAndChoose_146 h71 h72 ?_
    refine wm_if_eq (tgt := 178) d_So_rankAndChoose_147 rfl (hO _ _).1 (fun c75 => ?_) (fun c75 => ?_)
    · replace h := h.1 c75
      refine wm_iconst d_So_rankAndChoose_178 ?_
      refine wm_less (L' := [vr a0, vd, vi l2, vi l3, vi l4, vd, vi l6]) ⟨Or.inr rfl, Or.inl rfl, Or.inr rfl, Or.inr rfl, Or.inr rfl, Or.inl rfl, Or.inr rfl, trivial⟩ ?_
      exact h
    · replace h := h.2 c75
      refine wm_iload d_So_rankAndChoose_150 rfl ?_
      refine wm_if_eq (tgt := 174) d_So_rankAndChoose_152 rfl hi_l4 (fun c77 => ?_) (fun c77 => ?_)
      · replace h := h.1 c77
        refine wm_iconst d_So_rankAndChoose_174 ?_
        refine wm_goto (tgt := 179) d_So_rankAndChoose_175 rfl ?_
        refine wm_less (L' := [vr a0, vd, vi l2, vi l3, vi l4, vd, vi l6]) ⟨Or.inr rfl, Or.inl rfl, Or.inr rfl, Or.inr rfl, Or.inr rfl, Or.inl rfl, Or.inr rfl, trivial⟩ ?_
        exact h
      · replace h := h.2 c77
        obtain ⟨h78, h⟩ := h
        obtain ⟨h79, h⟩ := h
        refine wm_aload_n d_So_rankAndChoose_155 rfl rfl ?_
        refine wm_iload d_So_rankAndChoose_156 rfl ?_
        refine wm_aload_n d_So_rankAndChoose_158 rfl rfl ?_
        refine gf_So_18 rfl d_So_rankAndChoose_159 h58 ?_
        refine wm_iload_n d_So_rankAndChoose_162 rfl rfl ?_
        refine wm_iald d_So_rankAndChoose_163 h78 h79 ?_
        refine wm_aload_n d_So_rankAndChoose_164 rfl rfl ?_
        refine gf_So_18 rfl d_So_rankAndChoose_165 h58 ?_
        refine cf_So_195 rfl d_So_rankAndChoose_168 h58 (Nat.le_of_ble_eq_true rfl) (Ci.mono h (fun x81 M80 h => ?_))
        obtain ⟨h82, hOM80, h⟩ := h
        refine wm_if_eq (tgt := 178) d_So_rankAndChoose_171 rfl h82 (fun c84 => ?_) (fun c84 => ?_)
        · replace h := h.1 c84
          refine wm_iconst d_So_rankAndChoose_178 ?_
          refine wm_less (L' := [vr a0, vd, vi l2, vi l3, vi l4, vd, vi l6]) ⟨Or.inr rfl, Or.inl rfl, Or.inr rfl, Or.inr rfl, Or.inr rfl, Or.inl rfl, Or.inr rfl, trivial⟩ ?_
          exact h
        · replace h := h.2 c84
          refine wm_iconst d_So_rankAndChoose_174 ?_
          refine wm_goto (tgt := 179) d_So_rankAndChoose_175 rfl ?_
          refine wm_less (L' := [vr a0, vd, vi l2, vi l3, vi l4, vd, vi l6]) ⟨Or.inr rfl, Or.inl rfl, Or.inr rfl, Or.inr rfl, Or.inr rfl, Or.inl rfl, Or.inr rfl, trivial⟩ ?_
          exact h
  clear h
  refine wm_icmp_ge (tgt := 197) d_So_rankAndChoose_132 rfl hi_l6 (hO _ _).1 (fun c67 => ?_) (fun c67 => ?_)
  · exact hE0 (Or.inl c67)
  · refine wm_iload d_So_rankAndChoose_135 rfl ?_
    refine wm_if_ne (tgt := 197) d_So_rankAndChoose_137 rfl hi_l5 (fun c66 => ?_) (fun c66 => ?_)
    · exact hE0 (Or.inr c66)
    · replace c66 := Classical.not_not.mp c66
      exact hE1 (fun z85 => Or.elim z85 c67 (fun z86 => z86 c66))
theorem k_So_rankAndChoose_179 {G : mG} {d : Nat} {a0 : Nat} {l2 : Int} {l3 : Int} {l4 : Int} {l6 : Int} {k0 : Int} {M : mM} {Q : mM → Prop} (hO : mOk M) (hi_l2 : i32 l2) (hi_l3 : i32 l3) (hi_l4 : i32 l4) (hi_l6 : i32 l6) (hi_k0 : i32 k0)
    (h : mK M a0 = 8 ∧ mK M (mR M a0 2) = 30 ∧ ((0 : Int) ≤ l2 ∧ l2 < (mN M (mR M a0 2) : Int)) ∧ i32 (l6 - l3) ∧ ∀ M91, M91 = mUI M (mR M a0 2) (Int.toNat l2) (l6 - l3) → h_So_rankAndChoose_119 G d a0 l2 l3 l4 k0 (l6 + 1) M91 Q) :
    h_So_rankAndChoose_179 G d a0 l2 l3 l4 l6 k0 M Q := by
  unfold h_So_rankAndChoose_179
  obtain ⟨h87, h⟩ := h
  obtain ⟨h88, h⟩ := h
  obtain ⟨h89, h⟩ := h
  obtain ⟨h90, h⟩ := h
  obtain ⟨M91, e92⟩ : ∃ M91, M91 = mUI M (mR M a0 2) (Int.toNat l2) (l6 - l3) := ⟨_, rfl⟩
  replace h := h M91 e92
  refine wm_istore d_So_rankAndChoose_179 (by decide) (L' := [vr a0, vd, vi l2, vi l3, vi l4, vi k0, vi l6]) rfl ?_
  refine wm_aload_n d_So_rankAndChoose_181 rfl rfl ?_
  refine gf_So_22 rfl d_So_rankAndChoose_182 h87 ?_
  refine wm_iload_n d_So_rankAndChoose_185 rfl rfl ?_
  refine wm_iload d_So_rankAndChoose_186 rfl ?_
  refine wm_iload_n d_So_rankAndChoose_188 rfl rfl ?_
  refine wm_isub d_So_rankAndChoose_189 ?_
  have hOM91 : mOk M91 := by rw [e92]; exact mOk_UI hO h90
  refine wm_iastE d_So_rankAndChoose_190 h88 h89 h90 e92 ?_
  refine wm_iinc d_So_rankAndChoose_191 (by decide) rfl (L' := [vr a0, vd, vi l2, vi l3, vi l4, vi k0, vi (l6 + 1)]) rfl ?_
  refine wm_goto (tgt := 119) d_So_rankAndChoose_194 rfl ?_
  exact h
