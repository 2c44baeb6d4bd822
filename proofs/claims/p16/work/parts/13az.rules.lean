theorem d_Wo_split_0 : decode y_Wo_split.2.1 0 = .ok (.aload_n 0, 1) := dc9_42 (by decide +kernel)
theorem d_Wo_split_1 : decode y_Wo_split.2.1 1 = .ok (.aload_n 1, 1) := dc9_43 (by decide +kernel)
theorem d_Wo_split_2 : decode y_Wo_split.2.1 2 = .ok (.putfield 9, 3) := dc9_181 (by decide +kernel)
theorem d_Wo_split_5 : decode y_Wo_split.2.1 5 = .ok (.aload_n 0, 1) := dc9_42 (by decide +kernel)
theorem d_Wo_split_6 : decode y_Wo_split.2.1 6 = .ok (.iload_n 2, 1) := dc9_28 (by decide +kernel)
theorem d_Wo_split_7 : decode y_Wo_split.2.1 7 = .ok (.putfield 25, 3) := dc9_181 (by decide +kernel)
theorem d_Wo_split_10 : decode y_Wo_split.2.1 10 = .ok (.aload_n 0, 1) := dc9_42 (by decide +kernel)
theorem d_Wo_split_11 : decode y_Wo_split.2.1 11 = .ok (.iconst 0, 1) := dc9_3 (by decide +kernel)
theorem d_Wo_split_12 : decode y_Wo_split.2.1 12 = .ok (.putfield 29, 3) := dc9_181 (by decide +kernel)
theorem d_Wo_split_15 : decode y_Wo_split.2.1 15 = .ok (.aload_n 0, 1) := dc9_42 (by decide +kernel)
theorem d_Wo_split_16 : decode y_Wo_split.2.1 16 = .ok (.aload_n 0, 1) := dc9_42 (by decide +kernel)
theorem d_Wo_split_17 : decode y_Wo_split.2.1 17 = .ok (.getfield 25, 3) := dc9_180 (by decide +kernel)
theorem d_Wo_split_20 : decode y_Wo_split.2.1 20 = .ok (.iconst 2, 1) := dc9_5 (by decide +kernel)
theorem d_Wo_split_21 : decode y_Wo_split.2.1 21 = .ok (.iadd, 1) := dc9_96 (by decide +kernel)
theorem d_Wo_split_22 : decode y_Wo_split.2.1 22 = .ok (.invokevirtual 32, 3) := dc9_182 (by decide +kernel)
theorem d_Wo_split_25 : decode y_Wo_split.2.1 25 = .ok (.aload_n 0, 1) := dc9_42 (by decide +kernel)
theorem d_Wo_split_26 : decode y_Wo_split.2.1 26 = .ok (.iconst 0, 1) := dc9_3 (by decide +kernel)
theorem d_Wo_split_27 : decode y_Wo_split.2.1 27 = .ok (.invokevirtual 36, 3) := dc9_182 (by decide +kernel)
theorem d_Wo_split_30 : decode y_Wo_split.2.1 30 = .ok (.istore_n 3, 1) := dc9_62 (by decide +kernel)
theorem d_Wo_split_31 : decode y_Wo_split.2.1 31 = .ok (.iconst 0, 1) := dc9_3 (by decide +kernel)
theorem d_Wo_split_32 : decode y_Wo_split.2.1 32 = .ok (.istore 4, 2) := dc9_54 (by decide +kernel)
theorem d_Wo_split_34 : decode y_Wo_split.2.1 34 = .ok (.iload 4, 2) := dc9_21 (by decide +kernel)
theorem d_Wo_split_36 : decode y_Wo_split.2.1 36 = .ok (.aload_n 0, 1) := dc9_42 (by decide +kernel)
theorem d_Wo_split_37 : decode y_Wo_split.2.1 37 = .ok (.getfield 25, 3) := dc9_180 (by decide +kernel)
theorem d_Wo_split_40 : decode y_Wo_split.2.1 40 = .ok (.if_icmp .ge 27, 3) := dc9_162 (by decide +kernel)
theorem d_Wo_split_43 : decode y_Wo_split.2.1 43 = .ok (.iload_n 3, 1) := dc9_29 (by decide +kernel)
theorem d_Wo_split_44 : decode y_Wo_split.2.1 44 = .ok (.aload_n 0, 1) := dc9_42 (by decide +kernel)
theorem d_Wo_split_45 : decode y_Wo_split.2.1 45 = .ok (.getfield 25, 3) := dc9_180 (by decide +kernel)
theorem d_Wo_split_48 : decode y_Wo_split.2.1 48 = .ok (.if_icmp .ge 19, 3) := dc9_162 (by decide +kernel)
theorem d_Wo_split_51 : decode y_Wo_split.2.1 51 = .ok (.aload_n 0, 1) := dc9_42 (by decide +kernel)
theorem d_Wo_split_52 : decode y_Wo_split.2.1 52 = .ok (.aload_n 0, 1) := dc9_42 (by decide +kernel)
theorem d_Wo_split_53 : decode y_Wo_split.2.1 53 = .ok (.iload_n 3, 1) := dc9_29 (by decide +kernel)
theorem d_Wo_split_67 : decode y_Wo_split.2.1 67 = .ok (.aload_n 0, 1) := dc9_42 (by decide +kernel)
theorem d_Wo_split_68 : decode y_Wo_split.2.1 68 = .ok (.iconst 0, 1) := dc9_3 (by decide +kernel)
theorem d_Wo_split_69 : decode y_Wo_split.2.1 69 = .ok (.aload_n 0, 1) := dc9_42 (by decide +kernel)
theorem d_Wo_split_70 : decode y_Wo_split.2.1 70 = .ok (.getfield 25, 3) := dc9_180 (by decide +kernel)
theorem d_Wo_split_73 : decode y_Wo_split.2.1 73 = .ok (.iconst 0, 1) := dc9_3 (by decide +kernel)
theorem d_Wo_split_74 : decode y_Wo_split.2.1 74 = .ok (.invokevirtual 43, 3) := dc9_182 (by decide +kernel)
theorem d_Wo_split_77 : decode y_Wo_split.2.1 77 = .ok (.return_, 1) := dc9_177 (by decide +kernel)
theorem d_Wo_split_54 : decode y_Wo_split.2.1 54 = .ok (.invokevirtual 40, 3) := dc9_182 (by decide +kernel)
theorem d_Wo_split_57 : decode y_Wo_split.2.1 57 = .ok (.invokevirtual 36, 3) := dc9_182 (by decide +kernel)
theorem d_Wo_split_60 : decode y_Wo_split.2.1 60 = .ok (.istore_n 3, 1) := dc9_62 (by decide +kernel)
theorem d_Wo_split_61 : decode y_Wo_split.2.1 61 = .ok (.iinc 4 1, 3) := by decide +kernel
theorem d_Wo_split_64 : decode y_Wo_split.2.1 64 = .ok (.goto (-30), 3) := dc9_167 (by decide +kernel)
def h_Wo_split_34 (G : mG) (d : Nat) (a0 : Nat) (l3 : Int) (l4 : Int) (M : mM) (Q : mM → Prop) : Prop := mWm G y_Wo_split (d + 1) 34 [vr a0, vd, vd, vi l3, vi l4] [] M (fun r9 M9 => r9 = none ∧ Q M9)
theorem k_Wo_split {G : mG} {d : Nat} {a0 : Nat} {a1 : Nat} {l2 : Int} {M : mM} {Q : mM → Prop} (hO : mOk M) (hi_l2 : i32 l2)
    (h : mK M a0 = 2 ∧ ∀ M2, M2 = mUR M a0 0 a1 → ∀ M4, M4 = mUI M2 a0 1 l2 → ∀ M6, M6 = mUI M4 a0 2 0 → Cv G y_Wo_reserve d [vr a0, vi ((mI M6 a0 1) + 2)] M6 (fun M8 => mOk M8 ∧ (mK M8 a0 = 2 ∧ Ci G y_Wo_afterBlanks d [vr a0, vi 0] M8 (fun x13 M12 => i32 x13 ∧ mOk M12 ∧ (h_Wo_split_34 G d a0 x13 0 M12 Q))))) :
    Cv G y_Wo_split (d + 1) [vr a0, vr a1, vi l2] M Q := by
  refine wm_open (y := y_Wo_split) rfl (Nat.le_of_ble_eq_true rfl) (L := [vr a0, vr a1, vi l2, vd, vd]) rfl ?_
  obtain ⟨h1, h⟩ := h
  obtain ⟨M2, e3⟩ : ∃ M2, M2 = mUR M a0 0 a1 := ⟨_, rfl⟩
  replace h := h M2 e3
  obtain ⟨M4, e5⟩ : ∃ M4, M4 = mUI M2 a0 1 l2 := ⟨_, rfl⟩
  replace h := h M4 e5
  obtain ⟨M6, e7⟩ : ∃ M6, M6 = mUI M4 a0 2 0 := ⟨_, rfl⟩
  replace h := h M6 e7
  refine wm_aload_n d_Wo_split_0 rfl rfl ?_
  refine wm_aload_n d_Wo_split_1 rfl rfl ?_
  have hOM2 : mOk M2 := by rw [e3]; exact mOk_UR hO
  refine pf_Wo_9 rfl d_Wo_split_2 h1 e3 ?_
  refine wm_aload_n d_Wo_split_5 rfl rfl ?_
  refine wm_iload_n d_Wo_split_6 rfl rfl ?_
  have hOM4 : mOk M4 := by rw [e5]; exact mOk_UI hOM2 hi_l2
  refine pf_Wo_25 rfl d_Wo_split_7 (by rw [e3]; exact h1) hi_l2 e5 ?_
  refine wm_aload_n d_Wo_split_10 rfl rfl ?_
  refine wm_iconst d_Wo_split_11 ?_
  have hOM6 : mOk M6 := by rw [e7]; exact mOk_UI hOM4 ⟨by decide, by decide⟩
  refine pf_Wo_29 rfl d_Wo_split_12 (by rw [e5, e3]; exact h1) ⟨by decide, by decide⟩ e7 ?_
  refine wm_aload_n d_Wo_split_15 rfl rfl ?_
  refine wm_aload_n d_Wo_split_16 rfl rfl ?_
  refine gf_Wo_25 rfl d_Wo_split_17 (by rw [e7, e5, e3]; exact h1) ?_
  refine wm_iconst d_Wo_split_20 ?_
  refine wm_iadd d_Wo_split_21 ?_
  refine cf_Wo_32 rfl d_Wo_split_22 (by rw [e7, e5, e3]; exact h1) (Nat.le_of_ble_eq_true rfl) (Cv.mono h (fun M8 h => ?_))
  obtain ⟨hOM8, h⟩ := h
  obtain ⟨h11, h⟩ := h
  refine wm_aload_n d_Wo_split_25 rfl rfl ?_
  refine wm_iconst d_Wo_split_26 ?_
  refine cf_Wo_36 rfl d_Wo_split_27 h11 (Nat.le_of_ble_eq_true rfl) (Ci.mono h (fun x13 M12 h => ?_))
  obtain ⟨h14, hOM12, h⟩ := h
  refine wm_istore_n d_Wo_split_30 rfl (by decide) (L' := [vr a0, vr a1, vi l2, vi x13, vd]) rfl ?_
  refine wm_iconst d_Wo_split_31 ?_
  refine wm_istore d_Wo_split_32 (by decide) (L' := [vr a0, vr a1, vi l2, vi x13, vi 0]) rfl ?_
  refine wm_less (L' := [vr a0, vd, vd, vi x13, vi 0]) ⟨Or.inr rfl, Or.inl rfl, Or.inl rfl, Or.inr rfl, Or.inr rfl, trivial⟩ ?_
  exact h
theorem k_Wo_split_34 {G : mG} {d : Nat} {a0 : Nat} {l3 : Int} {l4 : Int} {M : mM} {Q : mM → Prop} (hO : mOk M) (hi_l3 : i32 l3) (hi_l4 : i32 l4)
    (h : mK M a0 = 2 ∧ (((mI M a0 1 ≤ l4) ∨ (mI M a0 1 ≤ l3)) → (Cv G y_Wo_add d [vr a0, vi 0, vi (mI M a0 1), vi 0] M (fun M20 => mOk M20 ∧ (Q M20)))) ∧ (¬ ((mI M a0 1 ≤ l4) ∨ (mI M a0 1 ≤ l3)) → (Ci G y_Wo_takeWord d [vr a0, vi l3] M (fun x25 M24 => i32 x25 ∧ mOk M24 ∧ (mK M24 a0 = 2 ∧ Ci G y_Wo_afterBlanks d [vr a0, vi x25] M24 (fun x29 M28 => i32 x29 ∧ mOk M28 ∧ (h_Wo_split_34 G d a0 x29 (l4 + 1) M28 Q))))))) :
    h_Wo_split_34 G d a0 l3 l4 M Q := by
  unfold h_Wo_split_34
  obtain ⟨h15, h⟩ := h
  refine wm_iload d_Wo_split_34 rfl ?_
  refine wm_aload_n d_Wo_split_36 rfl rfl ?_
  refine gf_Wo_25 rfl d_Wo_split_37 h15 ?_
  have hE0 : ((mI M a0 1 ≤ l4) ∨ (mI M a0 1 ≤ l3)) → mWm G y_Wo_split (d + 1) 67 [vr a0, vd, vd, vi l3, vi l4] [] M (fun r9 M9 => r9 = none ∧ Q M9) := by
    intro q19
    have h := h.1 q19
    refine wm_aload_n d_Wo_split_67 rfl rfl ?_
    refine wm_iconst d_Wo_split_68 ?_
    refine wm_aload_n d_Wo_split_69 rfl rfl ?_
    refine gf_Wo_25 rfl d_Wo_split_70 h15 ?_
    refine wm_iconst d_Wo_split_73 ?_
    refine cf_Wo_43 rfl d_Wo_split_74 h15 (Nat.le_of_ble_eq_true rfl) (Cv.mono h (fun M20 h => ?_))
    obtain ⟨hOM20, h⟩ := h
    refine wm_return d_Wo_split_77 rfl ?_
    exact ⟨rfl, h⟩
  have hE1 : ¬ ((mI M a0 1 ≤ l4) ∨ (mI M a0 1 ≤ l3)) → mWm G y_Wo_split (d + 1) 51 [vr a0, vd, vd, vi l3, vi l4] [] M (fun r9 M9 => r9 = none ∧ Q M9) := by
    intro q23
    have h := h.2 q23
    refine wm_aload_n d_Wo_split_51 rfl rfl ?_
    refine wm_aload_n d_Wo_split_52 rfl rfl ?_
    refine wm_iload_n d_Wo_split_53 rfl rfl ?_
    refine cf_Wo_40 rfl d_Wo_split_54 h15 (Nat.le_of_ble_eq_true rfl) (Ci.mono h (fun x25 M24 h => ?_))
    obtain ⟨h26, hOM24, h⟩ := h
    obtain ⟨h27, h⟩ := h
    refine cf_Wo_36 rfl d_Wo_split_57 h27 (Nat.le_of_ble_eq_true rfl) (Ci.mono h (fun x29 M28 h => ?_))
    obtain ⟨h30, hOM28, h⟩ := h
    refine wm_istore_n d_Wo_split_60 rfl (by decide) (L' := [vr a0, vd, vd, vi x29, vi l4]) rfl ?_
    refine wm_iinc d_Wo_split_61 (by decide) rfl (L' := [vr a0, vd, vd, vi x29, vi (l4 + 1)]) rfl ?_
    refine wm_goto (tgt := 34) d_Wo_split_64 rfl ?_
    exact h
  clear h
  refine wm_icmp_ge (tgt := 67) d_Wo_split_40 rfl hi_l4 (hO _ _).1 (fun c17 => ?_) (fun c17 => ?_)
  · exact hE0 (Or.inl c17)
  · refine wm_iload_n d_Wo_split_43 rfl rfl ?_
    refine wm_aload_n d_Wo_split_44 rfl rfl ?_
    refine gf_Wo_25 rfl d_Wo_split_45 h15 ?_
    refine wm_icmp_ge (tgt := 67) d_Wo_split_48 rfl hi_l3 (hO _ _).1 (fun c16 => ?_) (fun c16 => ?_)
    · exact hE0 (Or.inr c16)
    · exact hE1 (fun z31 => Or.elim z31 c17 c16)
theorem d_Wo_reserve_0 : decode y_Wo_reserve.2.1 0 = .ok (.aload_n 0, 1) := dc9_42 (by decide +kernel)
theorem d_Wo_reserve_1 : decode y_Wo_reserve.2.1 1 = .ok (.getfield 15, 3) := dc9_180 (by decide +kernel)
theorem d_Wo_reserve_4 : decode y_Wo_reserve.2.1 4 = .ok (.arraylength, 1) := dc9_190 (by decide +kernel)
theorem d_Wo_reserve_5 : decode y_Wo_reserve.2.1 5 = .ok (.istore_n 2, 1) := dc9_61 (by decide +kernel)
theorem d_Wo_reserve_6 : decode y_Wo_reserve.2.1 6 = .ok (.iconst 0, 1) := dc9_3 (by decide +kernel)
theorem d_Wo_reserve_7 : decode y_Wo_reserve.2.1 7 = .ok (.istore_n 3, 1) := dc9_62 (by decide +kernel)
theorem d_Wo_reserve_8 : decode y_Wo_reserve.2.1 8 = .ok (.iload_n 3, 1) := dc9_29 (by decide +kernel)
theorem d_Wo_reserve_9 : decode y_Wo_reserve.2.1 9 = .ok (.bipush 31, 2) := dc9_16 (by decide +kernel)
theorem d_Wo_reserve_11 : decode y_Wo_reserve.2.1 11 = .ok (.if_icmp .ge 18, 3) := dc9_162 (by decide +kernel)
theorem d_Wo_reserve_14 : decode y_Wo_reserve.2.1 14 = .ok (.iload_n 2, 1) := dc9_28 (by decide +kernel)
theorem d_Wo_reserve_15 : decode y_Wo_reserve.2.1 15 = .ok (.iload_n 1, 1) := dc9_27 (by decide +kernel)
theorem d_Wo_reserve_16 : decode y_Wo_reserve.2.1 16 = .ok (.if_icmp .ge 13, 3) := dc9_162 (by decide +kernel)
theorem d_Wo_reserve_19 : decode y_Wo_reserve.2.1 19 = .ok (.iload_n 2, 1) := dc9_28 (by decide +kernel)
theorem d_Wo_reserve_20 : decode y_Wo_reserve.2.1 20 = .ok (.iconst 2, 1) := dc9_5 (by decide +kernel)
theorem d_Wo_reserve_21 : decode y_Wo_reserve.2.1 21 = .ok (.imul, 1) := dc9_104 (by decide +kernel)
theorem d_Wo_reserve_22 : decode y_Wo_reserve.2.1 22 = .ok (.istore_n 2, 1) := dc9_61 (by decide +kernel)
theorem d_Wo_reserve_23 : decode y_Wo_reserve.2.1 23 = .ok (.iinc 3 1, 3) := by decide +kernel
theorem d_Wo_reserve_26 : decode y_Wo_reserve.2.1 26 = .ok (.goto (-18), 3) := dc9_167 (by decide +kernel)
theorem d_Wo_reserve_29 : decode y_Wo_reserve.2.1 29 = .ok (.iload_n 2, 1) := dc9_28 (by decide +kernel)
theorem d_Wo_reserve_30 : decode y_Wo_reserve.2.1 30 = .ok (.aload_n 0, 1) := dc9_42 (by decide +kernel)
theorem d_Wo_reserve_31 : decode y_Wo_reserve.2.1 31 = .ok (.getfield 15, 3) := dc9_180 (by decide +kernel)
theorem d_Wo_reserve_34 : decode y_Wo_reserve.2.1 34 = .ok (.arraylength, 1) := dc9_190 (by decide +kernel)
theorem d_Wo_reserve_35 : decode y_Wo_reserve.2.1 35 = .ok (.if_icmp .le 24, 3) := dc9_164 (by decide +kernel)
theorem d_Wo_reserve_38 : decode y_Wo_reserve.2.1 38 = .ok (.aload_n 0, 1) := dc9_42 (by decide +kernel)
theorem d_Wo_reserve_39 : decode y_Wo_reserve.2.1 39 = .ok (.iload_n 2, 1) := dc9_28 (by decide +kernel)
theorem d_Wo_reserve_59 : decode y_Wo_reserve.2.1 59 = .ok (.return_, 1) := dc9_177 (by decide +kernel)
theorem d_Wo_reserve_40 : decode y_Wo_reserve.2.1 40 = .ok (.newarray .int, 2) := by decide +kernel
theorem d_Wo_reserve_42 : decode y_Wo_reserve.2.1 42 = .ok (.putfield 15, 3) := dc9_181 (by decide +kernel)
theorem d_Wo_reserve_45 : decode y_Wo_reserve.2.1 45 = .ok (.aload_n 0, 1) := dc9_42 (by decide +kernel)
theorem d_Wo_reserve_46 : decode y_Wo_reserve.2.1 46 = .ok (.iload_n 2, 1) := dc9_28 (by decide +kernel)
theorem d_Wo_reserve_47 : decode y_Wo_reserve.2.1 47 = .ok (.newarray .int, 2) := by decide +kernel
theorem d_Wo_reserve_49 : decode y_Wo_reserve.2.1 49 = .ok (.putfield 19, 3) := dc9_181 (by decide +kernel)
theorem d_Wo_reserve_52 : decode y_Wo_reserve.2.1 52 = .ok (.aload_n 0, 1) := dc9_42 (by decide +kernel)
theorem d_Wo_reserve_53 : decode y_Wo_reserve.2.1 53 = .ok (.iload_n 2, 1) := dc9_28 (by decide +kernel)
theorem d_Wo_reserve_54 : decode y_Wo_reserve.2.1 54 = .ok (.newarray .int, 2) := by decide +kernel
theorem d_Wo_reserve_56 : decode y_Wo_reserve.2.1 56 = .ok (.putfield 22, 3) := dc9_181 (by decide +kernel)
def h_Wo_reserve_8 (G : mG) (d : Nat) (a0 : Nat) (l1 : Int) (l2 : Int) (l3 : Int) (M : mM) (Q : mM → Prop) : Prop := mWm G y_Wo_reserve d 8 [vr a0, vi l1, vi l2, vi l3] [] M (fun r9 M9 => r9 = none ∧ Q M9)
theorem k_Wo_reserve {G : mG} {d : Nat} {a0 : Nat} {l1 : Int} {M : mM} {Q : mM → Prop} (hO : mOk M) (hi_l1 : i32 l1)
    (h : mK M a0 = 2 ∧ mK M (mR M a0 3) = 30 ∧ h_Wo_reserve_8 G d a0 l1 (mN M (mR M a0 3) : Int) 0 M Q) :
    Cv G y_Wo_reserve d [vr a0, vi l1] M Q := by
  refine wm_open (y := y_Wo_reserve) rfl (Nat.le_of_ble_eq_true rfl) (L := [vr a0, vi l1, vd, vd]) rfl ?_
  obtain ⟨h1, h⟩ := h
  obtain ⟨h2, h⟩ := h
  refine wm_aload_n d_Wo_reserve_0 rfl rfl ?_
  refine gf_Wo_15 rfl d_Wo_reserve_1 h1 ?_
  refine wm_alen 0 rfl (fun _ => rfl) d_Wo_reserve_4 h2 ?_
  refine wm_istore_n d_Wo_reserve_5 rfl (by decide) (L' := [vr a0, vi l1, vi (mN M (mR M a0 3) : Int), vd]) rfl ?_
  refine wm_iconst d_Wo_reserve_6 ?_
  refine wm_istore_n d_Wo_reserve_7 rfl (by decide) (L' := [vr a0, vi l1, vi (mN M (mR M a0 3) : Int), vi 0]) rfl ?_
  exact h
theorem k_Wo_reserve_8 {G : mG} {d : Nat} {a0 : Nat} {l1 : Int} {l2 : Int} {l3 : Int} {M : mM} {Q : mM → Prop} (hO : mOk M) (hi_l1 : i32 l1) (hi_l2 : i32 l2) (hi_l3 : i32 l3)
    (h : (((31 ≤ l3) ∨ (l1 ≤ l2)) → (mK M a0 = 2 ∧ mK M (mR M a0 3) = 30 ∧ i32 (mN M (mR M a0 3) : Int) ∧ ((l2 ≤ (mN M (mR M a0 3) : Int)) → (Q M)) ∧ (¬ (l2 ≤ (mN M (mR M a0 3) : Int)) → (((0 : Int) ≤ l2 ∧ l2 ≤ 16777216) ∧ ∀ M16, M16 = mNew M 30 (Int.toNat l2) (Int.toNat l2) → mK M16 a0 = 2 ∧ ∀ M19, M19 = mUR M16 a0 3 (mZ M) → ((0 : Int) ≤ l2 ∧ l2 ≤ 16777216) ∧ ∀ M22, M22 = mNew M19 30 (Int.toNat l2) (Int.toNat l2) → mK M22 a0 = 2 ∧ ∀ M25, M25 = mUR M22 a0 4 (mZ M19) → ((0 : Int) ≤ l2 ∧ l2 ≤ 16777216) ∧ ∀ M28, M28 = mNew M25 30 (Int.toNat l2) (Int.toNat l2) → mK M28 a0 = 2 ∧ ∀ M31, M31 = mUR M28 a0 5 (mZ M25) → Q M31)))) ∧ (¬ ((31 ≤ l3) ∨ (l1 ≤ l2)) → (h_Wo_reserve_8 G d a0 l1 (l2 * 2) (l3 + 1) M Q))) :
    h_Wo_reserve_8 G d a0 l1 l2 l3 M Q := by
  unfold h_Wo_reserve_8
  refine wm_iload_n d_Wo_reserve_8 rfl rfl ?_
  refine wm_bipush d_Wo_reserve_9 (by decide) ?_
  have hE0 : ((31 ≤ l3) ∨ (l1 ≤ l2)) → mWm G y_Wo_reserve d 29 [vr a0, vi l1, vi l2, vi l3] [] M (fun r9 M9 => r9 = none ∧ Q M9) := by
    intro q6
    have h := h.1 q6
    obtain ⟨h7, h⟩ := h
    obtain ⟨h8, h⟩ := h
    obtain ⟨h13, h⟩ := h
    refine wm_iload_n d_Wo_reserve_29 rfl rfl ?_
    refine wm_aload_n d_Wo_reserve_30 rfl rfl ?_
    refine gf_Wo_15 rfl d_Wo_reserve_31 h7 ?_
    refine wm_alen 0 rfl (fun _ => rfl) d_Wo_reserve_34 h8 ?_
    refine wm_icmp_le (tgt := 59) d_Wo_reserve_35 rfl hi_l2 h13 (fun c14 => ?_) (fun c14 => ?_)
    · replace h := h.1 c14
      refine wm_return d_Wo_reserve_59 rfl ?_
      exact ⟨rfl, h⟩
    · replace h := h.2 c14
      obtain ⟨h15, h⟩ := h
      obtain ⟨M16, e17⟩ : ∃ M16, M16 = mNew M 30 (Int.toNat l2) (Int.toNat l2) := ⟨_, rfl⟩
      replace h := h M16 e17
      obtain ⟨h18, h⟩ := h
      obtain ⟨M19, e20⟩ : ∃ M19, M19 = mUR M16 a0 3 (mZ M) := ⟨_, rfl⟩
      replace h := h M19 e20
      obtain ⟨h21, h⟩ := h
      obtain ⟨M22, e23⟩ : ∃ M22, M22 = mNew M19 30 (Int.toNat l2) (Int.toNat l2) := ⟨_, rfl⟩
      replace h := h M22 e23
      obtain ⟨h24, h⟩ := h
      obtain ⟨M25, e26⟩ : ∃ M25, M25 = mUR M22 a0 4 (mZ M19) := ⟨_, rfl⟩
      replace h := h M25 e26
      obtain ⟨h27, h⟩ := h
      obtain ⟨M28, e29⟩ : ∃ M28, M28 = mNew M25 30 (Int.toNat l2) (Int.toNat l2) := ⟨_, rfl⟩
      replace h := h M28 e29
      obtain ⟨h30, h⟩ := h
      obtain ⟨M31, e32⟩ : ∃ M31, M31 = mUR M28 a0 5 (mZ M25) := ⟨_, rfl⟩
      replace h := h M31 e32
      refine wm_aload_n d_Wo_reserve_38 rfl rfl ?_
      refine wm_iload_n d_Wo_reserve_39 rfl rfl ?_
      have hOM16 : mOk M16 := by rw [e17]; exact mOk_New hO
      refine wm_newarrE 0 (atype := .int) (ty := .int) rfl rfl (fun _ => rfl) rfl rfl (by decide) k1_82 h15 d_Wo_reserve_40 e17 ?_
      have hOM19 : mOk M19 := by rw [e20]; exact mOk_UR hOM16
      refine pf_Wo_15 rfl d_Wo_reserve_42 h18 e20 ?_
      refine wm_aload_n d_Wo_reserve_45 rfl rfl ?_
      refine wm_iload_n d_Wo_reserve_46 rfl rfl ?_
      have hOM22 : mOk M22 := by rw [e23]; exact mOk_New hOM19
      refine wm_newarrE 0 (atype := .int) (ty := .int) rfl rfl (fun _ => rfl) rfl rfl (by decide) k1_82 h21 d_Wo_reserve_47 e23 ?_
      have hOM25 : mOk M25 := by rw [e26]; exact mOk_UR hOM22
      refine pf_Wo_19 rfl d_Wo_reserve_49 h24 e26 ?_
      refine wm_aload_n d_Wo_reserve_52 rfl rfl ?_
      refine wm_iload_n d_Wo_reserve_53 rfl rfl ?_
      have hOM28 : mOk M28 := by rw [e29]; exact mOk_New hOM25
      refine wm_newarrE 0 (atype := .int) (ty := .int) rfl rfl (fun _ => rfl) rfl rfl (by decide) k1_82 h27 d_Wo_reserve_54 e29 ?_
      have hOM31 : mOk M31 := by rw [e32]; exact mOk_UR hOM28
      refine pf_Wo_22 rfl d_Wo_reserve_56 h30 e32 ?_
      refine wm_return d_Wo_reserve_59 rfl ?_
      exact ⟨rfl, h⟩
  have hE1 : ¬ ((31 ≤ l3) ∨ (l1 ≤ l2)) → mWm G y_Wo_reserve d 19 [vr a0, vi l1, vi l2, vi l3] [] M (fun r9 M9 => r9 = none ∧ Q M9) := by
    intro q33
    have h := h.2 q33
    refine wm_iload_n d_Wo_reserve_19 rfl rfl ?_
    refine wm_iconst d_Wo_reserve_20 ?_
    refine wm_imul d_Wo_reserve_21 ?_
    refine wm_istore_n d_Wo_reserve_22 rfl (by decide) (L' := [vr a0, vi l1, vi (l2 * 2), vi l3]) rfl ?_
    refine wm_iinc d_Wo_reserve_23 (by decide) rfl (L' := [vr a0, vi l1, vi (l2 * 2), vi (l3 + 1)]) rfl ?_
    refine wm_goto (tgt := 8) d_Wo_reserve_26 rfl ?_
    exact h
  clear h
  refine wm_icmp_ge (tgt := 29) d_Wo_reserve_11 rfl hi_l3 ⟨by decide, by decide⟩ (fun c4 => ?_) (fun c4 => ?_)
  · exact hE0 (Or.inl c4)
  · refine wm_iload_n d_Wo_reserve_14 rfl rfl ?_
    refine wm_iload_n d_Wo_reserve_15 rfl rfl ?_
    refine wm_icmp_ge (tgt := 29) d_Wo_reserve_16 rfl hi_l2 hi_l1 (fun c3 => ?_) (fun c3 => ?_)
    · exact hE0 (Or.inr c3)
    · exact hE1 (fun z34 => Or.elim z34 c4 c3)
theorem d_Wo_add_0 : decode y_Wo_add.2.1 0 = .ok (.aload_n 0, 1) := dc9_42 (by decide +kernel)
theorem d_Wo_add_1 : decode y_Wo_add.2.1 1 = .ok (.getfield 15, 3) := dc9_180 (by decide +kernel)
theorem d_Wo_add_4 : decode y_Wo_add.2.1 4 = .ok (.aload_n 0, 1) := dc9_42 (by decide +kernel)
theorem d_Wo_add_5 : decode y_Wo_add.2.1 5 = .ok (.getfield 29, 3) := dc9_180 (by decide +kernel)
theorem d_Wo_add_8 : decode y_Wo_add.2.1 8 = .ok (.iload_n 1, 1) := dc9_27 (by decide +kernel)
theorem d_Wo_add_9 : decode y_Wo_add.2.1 9 = .ok (.iastore, 1) := dc9_79 (by decide +kernel)
theorem d_Wo_add_10 : decode y_Wo_add.2.1 10 = .ok (.aload_n 0, 1) := dc9_42 (by decide +kernel)
theorem d_Wo_add_11 : decode y_Wo_add.2.1 11 = .ok (.getfield 19, 3) := dc9_180 (by decide +kernel)
theorem d_Wo_add_14 : decode y_Wo_add.2.1 14 = .ok (.aload_n 0, 1) := dc9_42 (by decide +kernel)
theorem d_Wo_add_15 : decode y_Wo_add.2.1 15 = .ok (.getfield 29, 3) := dc9_180 (by decide +kernel)
theorem d_Wo_add_18 : decode y_Wo_add.2.1 18 = .ok (.iload_n 2, 1) := dc9_28 (by decide +kernel)
theorem d_Wo_add_19 : decode y_Wo_add.2.1 19 = .ok (.iastore, 1) := dc9_79 (by decide +kernel)
theorem d_Wo_add_20 : decode y_Wo_add.2.1 20 = .ok (.aload_n 0, 1) := dc9_42 (by decide +kernel)
theorem d_Wo_add_21 : decode y_Wo_add.2.1 21 = .ok (.getfield 22, 3) := dc9_180 (by decide +kernel)
theorem d_Wo_add_24 : decode y_Wo_add.2.1 24 = .ok (.aload_n 0, 1) := dc9_42 (by decide +kernel)
theorem d_Wo_add_25 : decode y_Wo_add.2.1 25 = .ok (.getfield 29, 3) := dc9_180 (by decide +kernel)
theorem d_Wo_add_28 : decode y_Wo_add.2.1 28 = .ok (.iload_n 3, 1) := dc9_29 (by decide +kernel)
theorem d_Wo_add_29 : decode y_Wo_add.2.1 29 = .ok (.iastore, 1) := dc9_79 (by decide +kernel)
theorem d_Wo_add_30 : decode y_Wo_add.2.1 30 = .ok (.aload_n 0, 1) := dc9_42 (by decide +kernel)
theorem d_Wo_add_31 : decode y_Wo_add.2.1 31 = .ok (.dup, 1) := dc9_89 (by decide +kernel)
theorem d_Wo_add_32 : decode y_Wo_add.2.1 32 = .ok (.getfield 29, 3) := dc9_180 (by decide +kernel)
theorem d_Wo_add_35 : decode y_Wo_add.2.1 35 = .ok (.iconst 1, 1) := dc9_4 (by decide +kernel)
theorem d_Wo_add_36 : decode y_Wo_add.2.1 36 = .ok (.iadd, 1) := dc9_96 (by decide +kernel)
theorem d_Wo_add_37 : decode y_Wo_add.2.1 37 = .ok (.putfield 29, 3) := dc9_181 (by decide +kernel)
theorem d_Wo_add_40 : decode y_Wo_add.2.1 40 = .ok (.return_, 1) := dc9_177 (by decide +kernel)
theorem k_Wo_add {G : mG} {d : Nat} {a0 : Nat} {l1 : Int} {l2 : Int} {l3 : Int} {M : mM} {Q : mM → Prop} (hO : mOk M) (hi_l1 : i32 l1) (hi_l2 : i32 l2) (hi_l3 : i32 l3)
    (h : mK M a0 = 2 ∧ mK M (mR M a0 3) = 30 ∧ ((0 : Int) ≤ mI M a0 2 ∧ mI M a0 2 < (mN M (mR M a0 3) : Int)) ∧ ∀ M4, M4 = mUI M (mR M a0 3) (Int.toNat (mI M a0 2)) l1 → mK M4 (mR M4 a0 4) = 30 ∧ ((0 : Int) ≤ mI M4 a0 2 ∧ mI M4 a0 2 < (mN M4 (mR M4 a0 4) : Int)) ∧ ∀ M8, M8 = mUI M4 (mR M4 a0 4) (Int.toNat (mI M4 a0 2)) l2 → mK M8 (mR M8 a0 5) = 30 ∧ ((0 : Int) ≤ mI M8 a0 2 ∧ mI M8 a0 2 < (mN M8 (mR M8 a0 5) : Int)) ∧ ∀ M12, M12 = mUI M8 (mR M8 a0 5) (Int.toNat (mI M8 a0 2)) l3 → i32 ((mI M12 a0 2) + 1) ∧ ∀ M15, M15 = mUI M12 a0 2 ((mI M12 a0 2) + 1) → Q M15) :
    Cv G y_Wo_add d [vr a0, vi l1, vi l2, vi l3] M Q := by
  refine wm_open (y := y_Wo_add) rfl (Nat.le_of_ble_eq_true rfl) (L := [vr a0, vi l1, vi l2, vi l3]) rfl ?_
  obtain ⟨h1, h⟩ := h
  obtain ⟨h2, h⟩ := h
  obtain ⟨h3, h⟩ := h
  obtain ⟨M4, e5⟩ : ∃ M4, M4 = mUI M (mR M a0 3) (Int.toNat (mI M a0 2)) l1 := ⟨_, rfl⟩
  replace h := h M4 e5
  obtain ⟨h6, h⟩ := h
  obtain ⟨h7, h⟩ := h
  obtain ⟨M8, e9⟩ : ∃ M8, M8 = mUI M4 (mR M4 a0 4) (Int.toNat (mI M4 a0 2)) l2 := ⟨_, rfl⟩
  replace h := h M8 e9
  obtain ⟨h10, h⟩ := h
  obtain ⟨h11, h⟩ := h
  obtain ⟨M12, e13⟩ : ∃ M12, M12 = mUI M8 (mR M8 a0 5) (Int.toNat (mI M8 a0 2)) l3 := ⟨_, rfl⟩
  replace h := h M12 e13
  obtain ⟨h14, h⟩ := h
  obtain ⟨M15, e16⟩ : ∃ M15, M15 = mUI M12 a0 2 ((mI M12 a0 2) + 1) := ⟨_, rfl⟩
  replace h := h M15 e16
  refine wm_aload_n d_Wo_add_0 rfl rfl ?_
  refine gf_Wo_15 rfl d_Wo_add_1 h1 ?_
  refine wm_aload_n d_Wo_add_4 rfl rfl ?_
  refine gf_Wo_29 rfl d_Wo_add_5 h1 ?_
  refine wm_iload_n d_Wo_add_8 rfl rfl ?_
  have hOM4 : mOk M4 := by rw [e5]; exact mOk_UI hO hi_l1
  refine wm_iastE d_Wo_add_9 h2 h3 hi_l1 e5 ?_
  refine wm_aload_n d_Wo_add_10 rfl rfl ?_
  refine gf_Wo_19 rfl d_Wo_add_11 (by rw [e5]; exact h1) ?_
  refine wm_aload_n d_Wo_add_14 rfl rfl ?_
  refine gf_Wo_29 rfl d_Wo_add_15 (by rw [e5]; exact h1) ?_
  refine wm_iload_n d_Wo_add_18 rfl rfl ?_
  have hOM8 : mOk M8 := by rw [e9]; exact mOk_UI hOM4 hi_l2
  refine wm_iastE d_Wo_add_19 h6 h7 hi_l2 e9 ?_
  refine wm_aload_n d_Wo_add_20 rfl rfl ?_
  refine gf_Wo_22 rfl d_Wo_add_21 (by rw [e9, e5]; exact h1) ?_
  refine wm_aload_n d_Wo_add_24 rfl rfl ?_
  refine gf_Wo_29 rfl d_Wo_add_25 (by rw [e9, e5]; exact h1) ?_
  refine wm_iload_n d_Wo_add_28 rfl rfl ?_
  have hOM12 : mOk M12 := by rw [e13]; exact mOk_UI hOM8 hi_l3
  refine wm_iastE d_Wo_add_29 h10 h11 hi_l3 e13 ?_
  refine wm_aload_n d_Wo_add_30 rfl rfl ?_
  refine wm_dup d_Wo_add_31 rfl ?_
  refine gf_Wo_29 rfl d_Wo_add_32 (by rw [e13, e9, e5]; exact h1) ?_
  refine wm_iconst d_Wo_add_35 ?_
  refine wm_iadd d_Wo_add_36 ?_
  have hOM15 : mOk M15 := by rw [e16]; exact mOk_UI hOM12 h14
  refine pf_Wo_29 rfl d_Wo_add_37 (by rw [e13, e9, e5]; exact h1) h14 e16 ?_
  refine wm_return d_Wo_add_40 rfl ?_
  exact ⟨rfl, h⟩
theorem d_Wo_afterBlanks_0 : decode y_Wo_afterBlanks.2.1 0 = .ok (.iconst 0, 1) := dc9_3 (by decide +kernel)
theorem d_Wo_afterBlanks_1 : decode y_Wo_afterBlanks.2.1 1 = .ok (.istore_n 2, 1) := dc9_61 (by decide +kernel)
theorem d_Wo_afterBlanks_2 : decode y_Wo_afterBlanks.2.1 2 = .ok (.iload_n 1, 1) := dc9_27 (by decide +kernel)
theorem d_Wo_afterBlanks_3 : decode y_Wo_afterBlanks.2.1 3 = .ok (.istore_n 3, 1) := dc9_62 (by decide +kernel)
theorem d_Wo_afterBlanks_4 : decode y_Wo_afterBlanks.2.1 4 = .ok (.iload_n 3, 1) := dc9_29 (by decide +kernel)
theorem d_Wo_afterBlanks_5 : decode y_Wo_afterBlanks.2.1 5 = .ok (.aload_n 0, 1) := dc9_42 (by decide +kernel)
theorem d_Wo_afterBlanks_6 : decode y_Wo_afterBlanks.2.1 6 = .ok (.getfield 25, 3) := dc9_180 (by decide +kernel)
theorem d_Wo_afterBlanks_9 : decode y_Wo_afterBlanks.2.1 9 = .ok (.if_icmp .ge 75, 3) := dc9_162 (by decide +kernel)
theorem d_Wo_afterBlanks_84 : decode y_Wo_afterBlanks.2.1 84 = .ok (.aload_n 0, 1) := dc9_42 (by decide +kernel)
theorem d_Wo_afterBlanks_85 : decode y_Wo_afterBlanks.2.1 85 = .ok (.getfield 25, 3) := dc9_180 (by decide +kernel)
theorem d_Wo_afterBlanks_88 : decode y_Wo_afterBlanks.2.1 88 = .ok (.ireturn, 1) := dc9_172 (by decide +kernel)
theorem d_Wo_afterBlanks_12 : decode y_Wo_afterBlanks.2.1 12 = .ok (.aload_n 0, 1) := dc9_42 (by decide +kernel)
theorem d_Wo_afterBlanks_13 : decode y_Wo_afterBlanks.2.1 13 = .ok (.getfield 9, 3) := dc9_180 (by decide +kernel)
theorem d_Wo_afterBlanks_16 : decode y_Wo_afterBlanks.2.1 16 = .ok (.iload_n 3, 1) := dc9_29 (by decide +kernel)
theorem d_Wo_afterBlanks_17 : decode y_Wo_afterBlanks.2.1 17 = .ok (.caload, 1) := dc9_52 (by decide +kernel)
theorem d_Wo_afterBlanks_18 : decode y_Wo_afterBlanks.2.1 18 = .ok (.istore 4, 2) := dc9_54 (by decide +kernel)
theorem d_Wo_afterBlanks_20 : decode y_Wo_afterBlanks.2.1 20 = .ok (.iload 4, 2) := dc9_21 (by decide +kernel)
theorem d_Wo_afterBlanks_22 : decode y_Wo_afterBlanks.2.1 22 = .ok (.bipush 35, 2) := dc9_16 (by decide +kernel)
theorem d_Wo_afterBlanks_24 : decode y_Wo_afterBlanks.2.1 24 = .ok (.if_icmp .eq 14, 3) := dc9_159 (by decide +kernel)
theorem d_Wo_afterBlanks_38 : decode y_Wo_afterBlanks.2.1 38 = .ok (.iconst 1, 1) := dc9_4 (by decide +kernel)
theorem d_Wo_afterBlanks_39 : decode y_Wo_afterBlanks.2.1 39 = .ok (.goto 4, 3) := dc9_167 (by decide +kernel)
theorem d_Wo_afterBlanks_27 : decode y_Wo_afterBlanks.2.1 27 = .ok (.iload_n 2, 1) := dc9_28 (by decide +kernel)
theorem d_Wo_afterBlanks_28 : decode y_Wo_afterBlanks.2.1 28 = .ok (.ifCond .eq 14, 3) := dc9_153 (by decide +kernel)
theorem d_Wo_afterBlanks_42 : decode y_Wo_afterBlanks.2.1 42 = .ok (.iconst 0, 1) := dc9_3 (by decide +kernel)
theorem d_Wo_afterBlanks_31 : decode y_Wo_afterBlanks.2.1 31 = .ok (.iload 4, 2) := dc9_21 (by decide +kernel)
theorem d_Wo_afterBlanks_33 : decode y_Wo_afterBlanks.2.1 33 = .ok (.bipush 10, 2) := dc9_16 (by decide +kernel)
theorem d_Wo_afterBlanks_35 : decode y_Wo_afterBlanks.2.1 35 = .ok (.if_icmp .eq 7, 3) := dc9_159 (by decide +kernel)
theorem d_Wo_afterBlanks_43 : decode y_Wo_afterBlanks.2.1 43 = .ok (.istore_n 2, 1) := dc9_61 (by decide +kernel)
theorem d_Wo_afterBlanks_44 : decode y_Wo_afterBlanks.2.1 44 = .ok (.iload_n 2, 1) := dc9_28 (by decide +kernel)
theorem d_Wo_afterBlanks_45 : decode y_Wo_afterBlanks.2.1 45 = .ok (.ifCond .ne 33, 3) := dc9_154 (by decide +kernel)
theorem d_Wo_afterBlanks_48 : decode y_Wo_afterBlanks.2.1 48 = .ok (.iload 4, 2) := dc9_21 (by decide +kernel)
theorem d_Wo_afterBlanks_50 : decode y_Wo_afterBlanks.2.1 50 = .ok (.bipush 9, 2) := dc9_16 (by decide +kernel)
theorem d_Wo_afterBlanks_52 : decode y_Wo_afterBlanks.2.1 52 = .ok (.if_icmp .eq 26, 3) := dc9_159 (by decide +kernel)
theorem d_Wo_afterBlanks_55 : decode y_Wo_afterBlanks.2.1 55 = .ok (.iload 4, 2) := dc9_21 (by decide +kernel)
theorem d_Wo_afterBlanks_57 : decode y_Wo_afterBlanks.2.1 57 = .ok (.bipush 10, 2) := dc9_16 (by decide +kernel)
theorem d_Wo_afterBlanks_59 : decode y_Wo_afterBlanks.2.1 59 = .ok (.if_icmp .eq 19, 3) := dc9_159 (by decide +kernel)
theorem d_Wo_afterBlanks_62 : decode y_Wo_afterBlanks.2.1 62 = .ok (.iload 4, 2) := dc9_21 (by decide +kernel)
theorem d_Wo_afterBlanks_64 : decode y_Wo_afterBlanks.2.1 64 = .ok (.bipush 13, 2) := dc9_16 (by decide +kernel)
theorem d_Wo_afterBlanks_66 : decode y_Wo_afterBlanks.2.1 66 = .ok (.if_icmp .eq 12, 3) := dc9_159 (by decide +kernel)
theorem d_Wo_afterBlanks_69 : decode y_Wo_afterBlanks.2.1 69 = .ok (.iload 4, 2) := dc9_21 (by decide +kernel)
theorem d_Wo_afterBlanks_71 : decode y_Wo_afterBlanks.2.1 71 = .ok (.bipush 32, 2) := dc9_16 (by decide +kernel)
theorem d_Wo_afterBlanks_73 : decode y_Wo_afterBlanks.2.1 73 = .ok (.if_icmp .eq 5, 3) := dc9_159 (by decide +kernel)
theorem d_Wo_afterBlanks_76 : decode y_Wo_afterBlanks.2.1 76 = .ok (.iload_n 3, 1) := dc9_29 (by decide +kernel)
theorem d_Wo_afterBlanks_77 : decode y_Wo_afterBlanks.2.1 77 = .ok (.ireturn, 1) := dc9_172 (by decide +kernel)
theorem d_Wo_afterBlanks_78 : decode y_Wo_afterBlanks.2.1 78 = .ok (.iinc 3 1, 3) := by decide +kernel
theorem d_Wo_afterBlanks_81 : decode y_Wo_afterBlanks.2.1 81 = .ok (.goto (-77), 3) := dc9_167 (by decide +kernel)
def h_Wo_afterBlanks_4 (G : mG) (d : Nat) (a0 : Nat) (l2 : Int) (l3 : Int) (M : mM) (Q : Int → mM → Prop) : Prop := mWm G y_Wo_afterBlanks d 4 [vr a0, vd, vi l2, vi l3, vd] [] M (fun r9 M9 => ∃ x9, r9 = some (vi x9) ∧ Q x9 M9)
theorem k_Wo_afterBlanks {G : mG} {d : Nat} {a0 : Nat} {l1 : Int} {M : mM} {Q : Int → mM → Prop} (hO : mOk M) (hi_l1 : i32 l1)
    (h : h_Wo_afterBlanks_4 G d a0 0 l1 M Q) :
    Ci G y_Wo_afterBlanks d [vr a0, vi l1] M Q := by
  refine wm_open (y := y_Wo_afterBlanks) rfl (Nat.le_of_ble_eq_true rfl) (L := [vr a0, vi l1, vd, vd, vd]) rfl ?_
  refine wm_iconst d_Wo_afterBlanks_0 ?_
  refine wm_istore_n d_Wo_afterBlanks_1 rfl (by decide) (L' := [vr a0, vi l1, vi 0, vd, vd]) rfl ?_
  refine wm_iload_n d_Wo_afterBlanks_2 rfl rfl ?_
  refine wm_istore_n d_Wo_afterBlanks_3 rfl (by decide) (L' := [vr a0, vi l1, vi 0, vi l1, vd]) rfl ?_
  refine wm_less (L' := [vr a0, vd, vi 0, vi l1, vd]) ⟨Or.inr rfl, Or.inl rfl, Or.inr rfl, Or.inr rfl, Or.inl rfl, trivial⟩ ?_
  exact h
theorem k_Wo_afterBlanks_4 {G : mG} {d : Nat} {a0 : Nat} {l2 : Int} {l3 : Int} {M : mM} {Q : Int → mM → Prop} (hO : mOk M) (hi_l2 : i32 l2) (hi_l3 : i32 l3)
    (h : mK M a0 = 2 ∧ ((mI M a0 1 ≤ l3) → (Q (mI M a0 1) M)) ∧ (¬ (mI M a0 1 ≤ l3) → (mK M (mR M a0 0) = 32 ∧ ((0 : Int) ≤ l3 ∧ l3 < (mN M (mR M a0 0) : Int)) ∧ ∀ v11 : Int, v11 = (if ((mI M (mR M a0 0) (Int.toNat l3) = 35) ∨ ((¬ (l2 = 0)) ∧ (¬ (mI M (mR M a0 0) (Int.toNat l3) = 10)))) then 1 else 0) → (((¬ (v11 = 0)) ∨ ((mI M (mR M a0 0) (Int.toNat l3) = 9) ∨ ((mI M (mR M a0 0) (Int.toNat l3) = 10) ∨ ((mI M (mR M a0 0) (Int.toNat l3) = 13) ∨ (mI M (mR M a0 0) (Int.toNat l3) = 32))))) → (h_Wo_afterBlanks_4 G d a0 v11 (l3 + 1) M Q)) ∧ (¬ ((¬ (v11 = 0)) ∨ ((mI M (mR M a0 0) (Int.toNat l3) = 9) ∨ ((mI M (mR M a0 0) (Int.toNat l3) = 10) ∨ ((mI M (mR M a0 0) (Int.toNat l3) = 13) ∨ (mI M (mR M a0 0) (Int.toNat l3) = 32))))) → (Q l3 M))))) :
    h_Wo_afterBlanks_4 G d a0 l2 l3 M Q := by
  unfold h_Wo_afterBlanks_4
  obtain ⟨h1, h⟩ := h
  refine wm_iload_n d_Wo_afterBlanks_4 rfl rfl ?_
  refine wm_aload_n d_Wo_afterBlanks_5 rfl rfl ?_
  refine gf_Wo_25 rfl d_Wo_afterBlanks_6 h1 ?_
  refine wm_icmp_ge (tgt := 84) d_Wo_afterBlanks_9 rfl hi_l3 (hO _ _).1 (fun c5 => ?_) (fun c5 => ?_)
  · replace h := h.1 c5
    refine wm_aload_n d_Wo_afterBlanks_84 rfl rfl ?_
    refine gf_Wo_25 rfl d_Wo_afterBlanks_85 h1 ?_
    refine wm_ireturn d_Wo_afterBlanks_88 rfl rfl ?_
    exact ⟨_, rfl, h⟩
  · replace h := h.2 c5
    obtain ⟨h6, h⟩ := h
    obtain ⟨h7, h⟩ := h
    refine wm_aload_n d_Wo_afterBlanks_12 rfl rfl ?_
    refine gf_Wo_9 rfl d_Wo_afterBlanks_13 h1 ?_
    refine wm_iload_n d_Wo_afterBlanks_16 rfl rfl ?_
    refine wm_cald d_Wo_afterBlanks_17 h6 h7 ?_
    refine wm_istore d_Wo_afterBlanks_18 (by decide) (L' := [vr a0, vd, vi l2, vi l3, vi (mI M (mR M a0 0) (Int.toNat l3))]) rfl ?_
    refine wm_iload d_Wo_afterBlanks_20 rfl ?_
    refine wm_bipush d_Wo_afterBlanks_22 (by decide) ?_
    have hJ : ∀ v11 : Int, v11 = (if ((mI M (mR M a0 0) (Int.toNat l3) = 35) ∨ ((¬ (l2 = 0)) ∧ (¬ (mI M (mR M a0 0) (Int.toNat l3) = 10)))) then 1 else 0) → mWm G y_Wo_afterBlanks d 43 [vr a0, vd, vd, vi l3, vi (mI M (mR M a0 0) (Int.toNat l3))] [vi v11] M (fun r9 M9 => ∃ x9, r9 = some (vi x9) ∧ Q x9 M9) := by
      intro v11 e13
      have h := h v11 e13
      have h14 : i32 v11 := by rw [e13]; (repeat' split) <;> first | exact ⟨by decide, by decide⟩ | exact ⟨by decide, by decide⟩
      have h15 : (v11 = 0 ∨ v11 = 1) := by rw [e13]; (repeat' split) <;> decide
      refine wm_istore_n d_Wo_afterBlanks_43 rfl (by decide) (L' := [vr a0, vd, vi v11, vi l3, vi (mI M (mR M a0 0) (Int.toNat l3))]) rfl ?_
      refine wm_iload_n d_Wo_afterBlanks_44 rfl rfl ?_
      have hE0 : ((¬ (v11 = 0)) ∨ ((mI M (mR M a0 0) (Int.toNat l3) = 9) ∨ ((mI M (mR M a0 0) (Int.toNat l3) = 10) ∨ ((mI M (mR M a0 0) (Int.toNat l3) = 13) ∨ (mI M (mR M a0 0) (Int.toNat l3) = 32))))) → mWm G y_Wo_afterBlanks d 78 [vr a0, vd, vi v11, vi l3, vi (mI M (mR M a0 0) (Int.toNat l3))] [] M (fun r9 M9 => ∃ x9, r9 = some (vi x9) ∧ Q x9 M9) := by
        intro q22
        have h := h.1 q22
        refine wm_iinc d_Wo_afterBlanks_78 (by decide) rfl (L' := [vr a0, vd, vi v11, vi (l3 + 1), vi (mI M (mR M a0 0) (Int.toNat l3))]) rfl ?_
        refine wm_goto (tgt := 4) d_Wo_afterBlanks_81 rfl ?_
        refine wm_less (L' := [vr a0, vd, vi v11, vi (l3 + 1), vd]) ⟨Or.inr rfl, Or.inl rfl, Or.inr rfl, Or.inr rfl, Or.inl rfl, trivial⟩ ?_
        exact h
      have hE1 : ¬ ((¬ (v11 = 0)) ∨ ((mI M (mR M a0 0) (Int.toNat l3) = 9) ∨ ((mI M (mR M a0 0) (Int.toNat l3) = 10) ∨ ((mI M (mR M a0 0) (Int.toNat l3) = 13) ∨ (mI M (mR M a0 0) (Int.toNat l3) = 32))))) → mWm G y_Wo_afterBlanks d 76 [vr a0, vd, vi v11, vi l3, vi (mI M (mR M a0 0) (Int.toNat l3))] [] M (fun r9 M9 => ∃ x9, r9 = some (vi x9) ∧ Q x9 M9) := by
        intro q23
        have h := h.2 q23
        refine wm_iload_n d_Wo_afterBlanks_76 rfl rfl ?_
        refine wm_ireturn d_Wo_afterBlanks_77 rfl rfl ?_
        exact ⟨_, rfl, h⟩
      clear h
      refine wm_if_ne (tgt := 78) d_Wo_afterBlanks_45 rfl h14 (fun c20 => ?_) (fun c20 => ?_)
      · exact hE0 (Or.inl c20)
      · replace c20 := Classical.not_not.mp c20
        refine wm_iload d_Wo_afterBlanks_48 rfl ?_
        refine wm_bipush d_Wo_afterBlanks_50 (by decide) ?_
        refine wm_icmp_eq (tgt := 78) d_Wo_afterBlanks_52 rfl (hO _ _).1 ⟨by decide, by decide⟩ (fun c19 => ?_) (fun c19 => ?_)
        · exact hE0 (Or.inr (Or.inl c19))
        · refine wm_iload d_Wo_afterBlanks_55 rfl ?_
          refine wm_bipush d_Wo_afterBlanks_57 (by decide) ?_
          refine wm_icmp_eq (tgt := 78) d_Wo_afterBlanks_59 rfl (hO _ _).1 ⟨by decide, by decide⟩ (fun c18 => ?_) (fun c18 => ?_)
          · exact hE0 (Or.inr (Or.inr (Or.inl c18)))
          · refine wm_iload d_Wo_afterBlanks_62 rfl ?_
            refine wm_bipush d_Wo_afterBlanks_64 (by decide) ?_
            refine wm_icmp_eq (tgt := 78) d_Wo_afterBlanks_66 rfl (hO _ _).1 ⟨by decide, by decide⟩ (fun c17 => ?_) (fun c17 => ?_)
            · exact hE0 (Or.inr (Or.inr (Or.inr (Or.inl c17))))
            · refine wm_iload d_Wo_afterBlanks_69 rfl ?_
              refine wm_bipush d_Wo_afterBlanks_71 (by decide) ?_
              refine wm_icmp_eq (tgt := 78) d_Wo_afterBlanks_73 rfl (hO _ _).1 ⟨by decide, by decide⟩ (fun c16 => ?_) (fun c16 => ?_)
              · exact hE0 (Or.inr (Or.inr (Or.inr (Or.inr c16))))
              · exact hE1 (fun z24 => Or.elim z24 (fun w => w c20) (fun z25 => Or.elim z25 c19 (fun z26 => Or.elim z26 c18 (fun z27 => Or.elim z27 c17 c16))))
    clear h
    refine wm_icmp_eq (tgt := 38) d_Wo_afterBlanks_24 rfl (hO _ _).1 ⟨by decide, by decide⟩ (fun c8 => ?_) (fun c8 => ?_)
    · refine wm_iconst d_Wo_afterBlanks_38 ?_
      refine wm_goto (tgt := 43) d_Wo_afterBlanks_39 rfl ?_
      refine wm_less (L' := [vr a0, vd, vd, vi l3, vi (mI M (mR M a0 0) (Int.toNat l3))]) ⟨Or.inr rfl, Or.inl rfl, Or.inl rfl, Or.inr rfl, Or.inr rfl, trivial⟩ ?_
      exact hJ 1 (if_pos (Or.inl c8)).symm
    · refine wm_iload_n d_Wo_afterBlanks_27 rfl rfl ?_
      refine wm_if_eq (tgt := 42) d_Wo_afterBlanks_28 rfl hi_l2 (fun c9 => ?_) (fun c9 => ?_)
      · refine wm_iconst d_Wo_afterBlanks_42 ?_
        refine wm_less (L' := [vr a0, vd, vd, vi l3, vi (mI M (mR M a0 0) (Int.toNat l3))]) ⟨Or.inr rfl, Or.inl rfl, Or.inl rfl, Or.inr rfl, Or.inr rfl, trivial⟩ ?_
        exact hJ 0 (if_neg (fun z29 => Or.elim z29 c8 (fun z30 => z30.1 c9))).symm
      · refine wm_iload d_Wo_afterBlanks_31 rfl ?_
        refine wm_bipush d_Wo_afterBlanks_33 (by decide) ?_
        refine wm_icmp_eq (tgt := 42) d_Wo_afterBlanks_35 rfl (hO _ _).1 ⟨by decide, by decide⟩ (fun c10 => ?_) (fun c10 => ?_)
        · refine wm_iconst d_Wo_afterBlanks_42 ?_
          refine wm_less (L' := [vr a0, vd, vd, vi l3, vi (mI M (mR M a0 0) (Int.toNat l3))]) ⟨Or.inr rfl, Or.inl rfl, Or.inl rfl, Or.inr rfl, Or.inr rfl, trivial⟩ ?_
          exact hJ 0 (if_neg (fun z31 => Or.elim z31 c8 (fun z32 => (fun z33 => z33 c10) z32.2))).symm
        · refine wm_iconst d_Wo_afterBlanks_38 ?_
          refine wm_goto (tgt := 43) d_Wo_afterBlanks_39 rfl ?_
          refine wm_less (L' := [vr a0, vd, vd, vi l3, vi (mI M (mR M a0 0) (Int.toNat l3))]) ⟨Or.inr rfl, Or.inl rfl, Or.inl rfl, Or.inr rfl, Or.inr rfl, trivial⟩ ?_
          exact hJ 1 (if_pos (Or.inr ⟨c9, c10⟩)).symm
theorem d_Wo_takeWord_0 : decode y_Wo_takeWord.2.1 0 = .ok (.aload_n 0, 1) := dc9_42 (by decide +kernel)
theorem d_Wo_takeWord_1 : decode y_Wo_takeWord.2.1 1 = .ok (.getfield 9, 3) := dc9_180 (by decide +kernel)
theorem d_Wo_takeWord_4 : decode y_Wo_takeWord.2.1 4 = .ok (.iload_n 1, 1) := dc9_27 (by decide +kernel)
theorem d_Wo_takeWord_5 : decode y_Wo_takeWord.2.1 5 = .ok (.caload, 1) := dc9_52 (by decide +kernel)
theorem d_Wo_takeWord_6 : decode y_Wo_takeWord.2.1 6 = .ok (.istore_n 2, 1) := dc9_61 (by decide +kernel)
theorem d_Wo_takeWord_7 : decode y_Wo_takeWord.2.1 7 = .ok (.iload_n 2, 1) := dc9_28 (by decide +kernel)
theorem d_Wo_takeWord_8 : decode y_Wo_takeWord.2.1 8 = .ok (.invokestatic 47, 3) := dc9_184 (by decide +kernel)
theorem d_Wo_takeWord_11 : decode y_Wo_takeWord.2.1 11 = .ok (.ifCond .eq 9, 3) := dc9_153 (by decide +kernel)
theorem d_Wo_takeWord_20 : decode y_Wo_takeWord.2.1 20 = .ok (.iload_n 2, 1) := dc9_28 (by decide +kernel)
theorem d_Wo_takeWord_14 : decode y_Wo_takeWord.2.1 14 = .ok (.aload_n 0, 1) := dc9_42 (by decide +kernel)
theorem d_Wo_takeWord_15 : decode y_Wo_takeWord.2.1 15 = .ok (.iload_n 1, 1) := dc9_27 (by decide +kernel)
theorem d_Wo_takeWord_21 : decode y_Wo_takeWord.2.1 21 = .ok (.invokestatic 54, 3) := dc9_184 (by decide +kernel)
theorem d_Wo_takeWord_24 : decode y_Wo_takeWord.2.1 24 = .ok (.ifCond .eq 9, 3) := dc9_153 (by decide +kernel)
theorem d_Wo_takeWord_33 : decode y_Wo_takeWord.2.1 33 = .ok (.iload_n 1, 1) := dc9_27 (by decide +kernel)
theorem d_Wo_takeWord_34 : decode y_Wo_takeWord.2.1 34 = .ok (.iconst 1, 1) := dc9_4 (by decide +kernel)
theorem d_Wo_takeWord_35 : decode y_Wo_takeWord.2.1 35 = .ok (.iadd, 1) := dc9_96 (by decide +kernel)
theorem d_Wo_takeWord_36 : decode y_Wo_takeWord.2.1 36 = .ok (.aload_n 0, 1) := dc9_42 (by decide +kernel)
theorem d_Wo_takeWord_37 : decode y_Wo_takeWord.2.1 37 = .ok (.getfield 25, 3) := dc9_180 (by decide +kernel)
theorem d_Wo_takeWord_27 : decode y_Wo_takeWord.2.1 27 = .ok (.aload_n 0, 1) := dc9_42 (by decide +kernel)
theorem d_Wo_takeWord_28 : decode y_Wo_takeWord.2.1 28 = .ok (.iload_n 1, 1) := dc9_27 (by decide +kernel)
theorem d_Wo_takeWord_40 : decode y_Wo_takeWord.2.1 40 = .ok (.if_icmp .ge 14, 3) := dc9_162 (by decide +kernel)
theorem d_Wo_takeWord_54 : decode y_Wo_takeWord.2.1 54 = .ok (.bipush 32, 2) := dc9_16 (by decide +kernel)
theorem d_Wo_takeWord_56 : decode y_Wo_takeWord.2.1 56 = .ok (.istore_n 3, 1) := dc9_62 (by decide +kernel)
theorem d_Wo_takeWord_57 : decode y_Wo_takeWord.2.1 57 = .ok (.iload_n 2, 1) := dc9_28 (by decide +kernel)
theorem d_Wo_takeWord_58 : decode y_Wo_takeWord.2.1 58 = .ok (.iload_n 3, 1) := dc9_29 (by decide +kernel)
theorem d_Wo_takeWord_43 : decode y_Wo_takeWord.2.1 43 = .ok (.aload_n 0, 1) := dc9_42 (by decide +kernel)
theorem d_Wo_takeWord_44 : decode y_Wo_takeWord.2.1 44 = .ok (.getfield 9, 3) := dc9_180 (by decide +kernel)
theorem d_Wo_takeWord_47 : decode y_Wo_takeWord.2.1 47 = .ok (.iload_n 1, 1) := dc9_27 (by decide +kernel)
theorem d_Wo_takeWord_48 : decode y_Wo_takeWord.2.1 48 = .ok (.iconst 1, 1) := dc9_4 (by decide +kernel)
theorem d_Wo_takeWord_49 : decode y_Wo_takeWord.2.1 49 = .ok (.iadd, 1) := dc9_96 (by decide +kernel)
theorem d_Wo_takeWord_50 : decode y_Wo_takeWord.2.1 50 = .ok (.caload, 1) := dc9_52 (by decide +kernel)
theorem d_Wo_takeWord_51 : decode y_Wo_takeWord.2.1 51 = .ok (.goto 5, 3) := dc9_167 (by decide +kernel)
theorem d_Wo_takeWord_59 : decode y_Wo_takeWord.2.1 59 = .ok (.invokestatic 60, 3) := dc9_184 (by decide +kernel)
theorem d_Wo_takeWord_62 : decode y_Wo_takeWord.2.1 62 = .ok (.istore 4, 2) := dc9_54 (by decide +kernel)
theorem d_Wo_takeWord_64 : decode y_Wo_takeWord.2.1 64 = .ok (.iload_n 1, 1) := dc9_27 (by decide +kernel)
theorem d_Wo_takeWord_65 : decode y_Wo_takeWord.2.1 65 = .ok (.iconst 2, 1) := dc9_5 (by decide +kernel)
theorem d_Wo_takeWord_66 : decode y_Wo_takeWord.2.1 66 = .ok (.iadd, 1) := dc9_96 (by decide +kernel)
theorem d_Wo_takeWord_67 : decode y_Wo_takeWord.2.1 67 = .ok (.istore 5, 2) := dc9_54 (by decide +kernel)
theorem d_Wo_takeWord_69 : decode y_Wo_takeWord.2.1 69 = .ok (.iload 4, 2) := dc9_21 (by decide +kernel)
theorem d_Wo_takeWord_71 : decode y_Wo_takeWord.2.1 71 = .ok (.iconst 1, 1) := dc9_4 (by decide +kernel)
theorem d_Wo_takeWord_72 : decode y_Wo_takeWord.2.1 72 = .ok (.if_icmp .ne 14, 3) := dc9_160 (by decide +kernel)
theorem d_Wo_takeWord_75 : decode y_Wo_takeWord.2.1 75 = .ok (.iload_n 2, 1) := dc9_28 (by decide +kernel)
theorem d_Wo_takeWord_76 : decode y_Wo_takeWord.2.1 76 = .ok (.invokestatic 64, 3) := dc9_184 (by decide +kernel)
theorem d_Wo_takeWord_79 : decode y_Wo_takeWord.2.1 79 = .ok (.istore 4, 2) := dc9_54 (by decide +kernel)
theorem d_Wo_takeWord_81 : decode y_Wo_takeWord.2.1 81 = .ok (.iload_n 1, 1) := dc9_27 (by decide +kernel)
theorem d_Wo_takeWord_82 : decode y_Wo_takeWord.2.1 82 = .ok (.iconst 1, 1) := dc9_4 (by decide +kernel)
theorem d_Wo_takeWord_83 : decode y_Wo_takeWord.2.1 83 = .ok (.iadd, 1) := dc9_96 (by decide +kernel)
theorem d_Wo_takeWord_84 : decode y_Wo_takeWord.2.1 84 = .ok (.istore 5, 2) := dc9_54 (by decide +kernel)
theorem d_Wo_takeWord_29 : decode y_Wo_takeWord.2.1 29 = .ok (.invokevirtual 57, 3) := dc9_182 (by decide +kernel)
theorem d_Wo_takeWord_32 : decode y_Wo_takeWord.2.1 32 = .ok (.ireturn, 1) := dc9_172 (by decide +kernel)
theorem d_Wo_takeWord_16 : decode y_Wo_takeWord.2.1 16 = .ok (.invokevirtual 51, 3) := dc9_182 (by decide +kernel)
theorem d_Wo_takeWord_19 : decode y_Wo_takeWord.2.1 19 = .ok (.ireturn, 1) := dc9_172 (by decide +kernel)
theorem d_Wo_takeWord_86 : decode y_Wo_takeWord.2.1 86 = .ok (.aload_n 0, 1) := dc9_42 (by decide +kernel)
theorem d_Wo_takeWord_87 : decode y_Wo_takeWord.2.1 87 = .ok (.iload 4, 2) := dc9_21 (by decide +kernel)
theorem d_Wo_takeWord_89 : decode y_Wo_takeWord.2.1 89 = .ok (.iload_n 1, 1) := dc9_27 (by decide +kernel)
theorem d_Wo_takeWord_90 : decode y_Wo_takeWord.2.1 90 = .ok (.iconst 0, 1) := dc9_3 (by decide +kernel)
theorem d_Wo_takeWord_91 : decode y_Wo_takeWord.2.1 91 = .ok (.invokevirtual 43, 3) := dc9_182 (by decide +kernel)
theorem d_Wo_takeWord_94 : decode y_Wo_takeWord.2.1 94 = .ok (.iload 4, 2) := dc9_21 (by decide +kernel)
theorem d_Wo_takeWord_96 : decode y_Wo_takeWord.2.1 96 = .ok (.iconst 1, 1) := dc9_4 (by decide +kernel)
theorem d_Wo_takeWord_97 : decode y_Wo_takeWord.2.1 97 = .ok (.if_icmp .ne 10, 3) := dc9_160 (by decide +kernel)
theorem d_Wo_takeWord_100 : decode y_Wo_takeWord.2.1 100 = .ok (.aload_n 0, 1) := dc9_42 (by decide +kernel)
theorem d_Wo_takeWord_101 : decode y_Wo_takeWord.2.1 101 = .ok (.getfield 25, 3) := dc9_180 (by decide +kernel)
theorem d_Wo_takeWord_104 : decode y_Wo_takeWord.2.1 104 = .ok (.goto 5, 3) := dc9_167 (by decide +kernel)
theorem d_Wo_takeWord_107 : decode y_Wo_takeWord.2.1 107 = .ok (.iload 5, 2) := dc9_21 (by decide +kernel)
theorem d_Wo_takeWord_109 : decode y_Wo_takeWord.2.1 109 = .ok (.ireturn, 1) := dc9_172 (by decide +kernel)
def h_Wo_takeWord_86 (G : mG) (d : Nat) (a0 : Nat) (l1 : Int) (l4 : Int) (l5 : Int) (M : mM) (Q : Int → mM → Prop) : Prop := mWm G y_Wo_takeWord (d + 1) 86 [vr a0, vi l1, vd, vd, vi l4, vi l5] [] M (fun r9 M9 => ∃ x9, r9 = some (vi x9) ∧ Q x9 M9)
theorem k_Wo_takeWord {G : mG} {d : Nat} {a0 : Nat} {l1 : Int} {M : mM} {Q : Int → mM → Prop} (hO : mOk M) (hi_l1 : i32 l1)
    (h : mK M a0 = 2 ∧ mK M (mR M a0 0) = 32 ∧ ((0 : Int) ≤ l1 ∧ l1 < (mN M (mR M a0 0) : Int)) ∧ Ci G y_Wo_isLetter d [vi (mI M (mR M a0 0) (Int.toNat l1))] M (fun x5 M4 => i32 x5 ∧ mOk M4 ∧ (((x5 = 0) → (Ci G y_Wo_isDigit d [vi (mI M (mR M a0 0) (Int.toNat l1))] M4 (fun x10 M9 => i32 x10 ∧ mOk M9 ∧ (((x10 = 0) → (mK M9 a0 = 2 ∧ i32 (l1 + 1) ∧ (¬ (mI M9 a0 1 ≤ l1 + 1) → (mK M9 (mR M9 a0 0) = 32 ∧ ((0 : Int) ≤ l1 + 1 ∧ l1 + 1 < (mN M9 (mR M9 a0 0) : Int)))) ∧ ∀ v22 : Int, v22 = (if (mI M9 a0 1 ≤ l1 + 1) then 32 else mI M9 (mR M9 a0 0) (Int.toNat (l1 + 1))) → Ci G y_Wo_longSign d [vi (mI M (mR M a0 0) (Int.toNat l1)), vi v22] M9 (fun x26 M25 => i32 x26 ∧ mOk M25 ∧ (((x26 = 1) → (Ci G y_Wo_shortSign d [vi (mI M (mR M a0 0) (Int.toNat l1))] M25 (fun x31 M30 => i32 x31 ∧ mOk M30 ∧ (h_Wo_takeWord_86 G d a0 l1 x31 (l1 + 1) M30 Q)))) ∧ (¬ (x26 = 1) → (h_Wo_takeWord_86 G d a0 l1 x26 (l1 + 2) M25 Q)))))) ∧ (¬ (x10 = 0) → (mK M9 a0 = 2 ∧ Ci G y_Wo_takeNumber d [vr a0, vi l1] M9 (fun x37 M36 => i32 x37 ∧ mOk M36 ∧ (Q x37 M36)))))))) ∧ (¬ (x5 = 0) → (mK M4 a0 = 2 ∧ Ci G y_Wo_takeName d [vr a0, vi l1] M4 (fun x41 M40 => i32 x41 ∧ mOk M40 ∧ (Q x41 M40))))))) :
    Ci G y_Wo_takeWord (d + 1) [vr a0, vi l1] M Q := by
  refine wm_open (y := y_Wo_takeWord) rfl (Nat.le_of_ble_eq_true rfl) (L := [vr a0, vi l1, vd, vd, vd, vd]) rfl ?_
  obtain ⟨h1, h⟩ := h
  obtain ⟨h2, h⟩ := h
  obtain ⟨h3, h⟩ := h
  refine wm_aload_n d_Wo_takeWord_0 rfl rfl ?_
  refine gf_Wo_9 rfl d_Wo_takeWord_1 h1 ?_
  refine wm_iload_n d_Wo_takeWord_4 rfl rfl ?_
  refine wm_cald d_Wo_takeWord_5 h2 h3 ?_
  refine wm_istore_n d_Wo_takeWord_6 rfl (by decide) (L' := [vr a0, vi l1, vi (mI M (mR M a0 0) (Int.toNat l1)), vd, vd, vd]) rfl ?_
  refine wm_iload_n d_Wo_takeWord_7 rfl rfl ?_
  refine cf_Wo_47 rfl d_Wo_takeWord_8 (Nat.le_of_ble_eq_true rfl) (Ci.mono h (fun x5 M4 h => ?_))
  obtain ⟨h6, hOM4, h⟩ := h
  refine wm_if_eq (tgt := 20) d_Wo_takeWord_11 rfl h6 (fun c8 => ?_) (fun c8 => ?_)
  · replace h := h.1 c8
    refine wm_iload_n d_Wo_takeWord_20 rfl rfl ?_
    refine cf_Wo_54 rfl d_Wo_takeWord_21 (Nat.le_of_ble_eq_true rfl) (Ci.mono h (fun x10 M9 h => ?_))
    obtain ⟨h11, hOM9, h⟩ := h
    refine wm_if_eq (tgt := 33) d_Wo_takeWord_24 rfl h11 (fun c16 => ?_) (fun c16 => ?_)
    · replace h := h.1 c16
      obtain ⟨h17, h⟩ := h
      obtain ⟨h18, h⟩ := h
      refine wm_iload_n d_Wo_takeWord_33 rfl rfl ?_
      refine wm_iconst d_Wo_takeWord_34 ?_
      refine wm_iadd d_Wo_takeWord_35 ?_
      refine wm_aload_n d_Wo_takeWord_36 rfl rfl ?_
      refine gf_Wo_25 rfl d_Wo_takeWord_37 h17 ?_
      obtain ⟨s23, h⟩ := h
      have hJ : ∀ v22 : Int, v22 = (if (mI M9 a0 1 ≤ l1 + 1) then 32 else mI M9 (mR M9 a0 0) (Int.toNat (l1 + 1))) → mWm G y_Wo_takeWord (d + 1) 56 [vr a0, vi l1, vi (mI M (mR M a0 0) (Int.toNat l1)), vd, vd, vd] [vi v22] M9 (fun r9 M9 => ∃ x9, r9 = some (vi x9) ∧ Q x9 M9) := by
        intro v22 e24
        have h := h v22 e24
        refine wm_istore_n d_Wo_takeWord_56 rfl (by decide) (L' := [vr a0, vi l1, vi (mI M (mR M a0 0) (Int.toNat l1)), vi v22, vd, vd]) rfl ?_
        refine wm_iload_n d_Wo_takeWord_57 rfl rfl ?_
        refine wm_iload_n d_Wo_takeWord_58 rfl rfl ?_
        refine cf_Wo_60 rfl d_Wo_takeWord_59 (Nat.le_of_ble_eq_true rfl) (Ci.mono h (fun x26 M25 h => ?_))
        obtain ⟨h27, hOM25, h⟩ := h
        refine wm_istore d_Wo_takeWord_62 (by decide) (L' := [vr a0, vi l1, vi (mI M (mR M a0 0) (Int.toNat l1)), vi v22, vi x26, vd]) rfl ?_
        refine wm_iload_n d_Wo_takeWord_64 rfl rfl ?_
        refine wm_iconst d_Wo_takeWord_65 ?_
        refine wm_iadd d_Wo_takeWord_66 ?_
        refine wm_istore d_Wo_takeWord_67 (by decide) (L' := [vr a0, vi l1, vi (mI M (mR M a0 0) (Int.toNat l1)), vi v22, vi x26, vi (l1 + 2)]) rfl ?_
        refine wm_iload d_Wo_takeWord_69 rfl ?_
        refine wm_iconst d_Wo_takeWord_71 ?_
        refine wm_icmp_ne (tgt := 86) d_Wo_takeWord_72 rfl h27 ⟨by decide, by decide⟩ (fun c29 => ?_) (fun c29 => ?_)
        · replace h := h.2 c29
          refine wm_less (L' := [vr a0, vi l1, vd, vd, vi x26, vi (l1 + 2)]) ⟨Or.inr rfl, Or.inr rfl, Or.inl rfl, Or.inl rfl, Or.inr rfl, Or.inr rfl, trivial⟩ ?_
          exact h
        · replace c29 := Classical.not_not.mp c29
          replace h := h.1 c29
          refine wm_iload_n d_Wo_takeWord_75 rfl rfl ?_
          refine cf_Wo_64 rfl d_Wo_takeWord_76 (Nat.le_of_ble_eq_true rfl) (Ci.mono h (fun x31 M30 h => ?_))
          obtain ⟨h32, hOM30, h⟩ := h
          refine wm_istore d_Wo_takeWord_79 (by decide) (L' := [vr a0, vi l1, vi (mI M (mR M a0 0) (Int.toNat l1)), vi v22, vi x31, vi (l1 + 2)]) rfl ?_
          refine wm_iload_n d_Wo_takeWord_81 rfl rfl ?_
          refine wm_iconst d_Wo_takeWord_82 ?_
          refine wm_iadd d_Wo_takeWord_83 ?_
          refine wm_istore d_Wo_takeWord_84 (by decide) (L' := [vr a0, vi l1, vi (mI M (mR M a0 0) (Int.toNat l1)), vi v22, vi x31, vi (l1 + 1)]) rfl ?_
          refine wm_less (L' := [vr a0, vi l1, vd, vd, vi x31, vi (l1 + 1)]) ⟨Or.inr rfl, Or.inr rfl, Or.inl rfl, Or.inl rfl, Or.inr rfl, Or.inr rfl, trivial⟩ ?_
          exact h
      clear h
      have s33 := s23
      refine wm_icmp_ge (tgt := 54) d_Wo_takeWord_40 rfl h18 (hOM9 _ _).1 (fun c19 => ?_) (fun c19 => ?_)
      · refine wm_bipush d_Wo_takeWord_54 (by decide) ?_
        exact hJ 32 (if_pos c19).symm
      · have s33 := s33 c19
        obtain ⟨h20, h21⟩ := s33
        refine wm_aload_n d_Wo_takeWord_43 rfl rfl ?_
        refine gf_Wo_9 rfl d_Wo_takeWord_44 h17 ?_
        refine wm_iload_n d_Wo_takeWord_47 rfl rfl ?_
        refine wm_iconst d_Wo_takeWord_48 ?_
        refine wm_iadd d_Wo_takeWord_49 ?_
        refine wm_cald d_Wo_takeWord_50 h20 h21 ?_
        refine wm_goto (tgt := 56) d_Wo_takeWord_51 rfl ?_
        exact hJ (mI M9 (mR M9 a0 0) (Int.toNat (l1 + 1))) (if_neg c19).symm
    · replace h := h.2 c16
      obtain ⟨h35, h⟩ := h
      refine wm_aload_n d_Wo_takeWord_27 rfl rfl ?_
      refine wm_iload_n d_Wo_takeWord_28 rfl rfl ?_
      refine cf_Wo_57 rfl d_Wo_takeWord_29 h35 (Nat.le_of_ble_eq_true rfl) (Ci.mono h (fun x37 M36 h => ?_))
      obtain ⟨h38, hOM36, h⟩ := h
      refine wm_ireturn d_Wo_takeWord_32 rfl rfl ?_
      exact ⟨_, rfl, h⟩
  · replace h := h.2 c8
    obtain ⟨h39, h⟩ := h
    refine wm_aload_n d_Wo_takeWord_14 rfl rfl ?_
    refine wm_iload_n d_Wo_takeWord_15 rfl rfl ?_
    refine cf_Wo_51 rfl d_Wo_takeWord_16 h39 (Nat.le_of_ble_eq_true rfl) (Ci.mono h (fun x41 M40 h => ?_))
    obtain ⟨h42, hOM40, h⟩ := h
    refine wm_ireturn d_Wo_takeWord_19 rfl rfl ?_
    exact ⟨_, rfl, h⟩
theorem k_Wo_takeWord_86 {G : mG} {d : Nat} {a0 : Nat} {l1 : Int} {l4 : Int} {l5 : Int} {M : mM} {Q : Int → mM → Prop} (hO : mOk M) (hi_l1 : i32 l1) (hi_l4 : i32 l4) (hi_l5 : i32 l5)
    (h : mK M a0 = 2 ∧ Cv G y_Wo_add d [vr a0, vi l4, vi l1, vi 0] M (fun M44 => mOk M44 ∧ (((l4 = 1) → mK M44 a0 = 2) ∧ ∀ v49 : Int, v49 = (if (l4 = 1) then mI M44 a0 1 else l5) → Q v49 M44))) :
    h_Wo_takeWord_86 G d a0 l1 l4 l5 M Q := by
  unfold h_Wo_takeWord_86
  obtain ⟨h43, h⟩ := h
  refine wm_aload_n d_Wo_takeWord_86 rfl rfl ?_
  refine wm_iload d_Wo_takeWord_87 rfl ?_
  refine wm_iload_n d_Wo_takeWord_89 rfl rfl ?_
  refine wm_iconst d_Wo_takeWord_90 ?_
  refine cf_Wo_43 rfl d_Wo_takeWord_91 h43 (Nat.le_of_ble_eq_true rfl) (Cv.mono h (fun M44 h => ?_))
  obtain ⟨hOM44, h⟩ := h
  refine wm_iload d_Wo_takeWord_94 rfl ?_
  refine wm_iconst d_Wo_takeWord_96 ?_
  obtain ⟨s50, h⟩ := h
  have hJ : ∀ v49 : Int, v49 = (if (l4 = 1) then mI M44 a0 1 else l5) → mWm G y_Wo_takeWord (d + 1) 109 [vd, vd, vd, vd, vd, vd] [vi v49] M44 (fun r9 M9 => ∃ x9, r9 = some (vi x9) ∧ Q x9 M9) := by
    intro v49 e51
    have h := h v49 e51
    refine wm_ireturn d_Wo_takeWord_109 rfl rfl ?_
    exact ⟨_, rfl, h⟩
  clear h
  have s52 := s50
  refine wm_icmp_ne (tgt := 107) d_Wo_takeWord_97 rfl hi_l4 ⟨by decide, by decide⟩ (fun c47 => ?_) (fun c47 => ?_)
  · refine wm_iload d_Wo_takeWord_107 rfl ?_
    refine wm_less (L' := [vd, vd, vd, vd, vd, vd]) ⟨Or.inl rfl, Or.inl rfl, Or.inl rfl, Or.inl rfl, Or.inl rfl, Or.inl rfl, trivial⟩ ?_
    exact hJ l5 (if_neg c47).symm
  · replace c47 := Classical.not_not.mp c47
    have s52 := s52 c47
    have h48 := s52
    refine wm_aload_n d_Wo_takeWord_100 rfl rfl ?_
    refine gf_Wo_25 rfl d_Wo_takeWord_101 h48 ?_
    refine wm_goto (tgt := 109) d_Wo_takeWord_104 rfl ?_
    refine wm_less (L' := [vd, vd, vd, vd, vd, vd]) ⟨Or.inl rfl, Or.inl rfl, Or.inl rfl, Or.inl rfl, Or.inl rfl, Or.inl rfl, trivial⟩ ?_
    exact hJ (mI M44 a0 1) (if_pos c47).symm
theorem d_Wo_takeName_0 : decode y_Wo_takeName.2.1 0 = .ok (.iload_n 1, 1) := dc9_27 (by decide +kernel)
theorem d_Wo_takeName_1 : decode y_Wo_takeName.2.1 1 = .ok (.iconst 1, 1) := dc9_4 (by decide +kernel)
theorem d_Wo_takeName_2 : decode y_Wo_takeName.2.1 2 = .ok (.iadd, 1) := dc9_96 (by decide +kernel)
theorem d_Wo_takeName_3 : decode y_Wo_takeName.2.1 3 = .ok (.istore_n 2, 1) := dc9_61 (by decide +kernel)
theorem d_Wo_takeName_4 : decode y_Wo_takeName.2.1 4 = .ok (.iload_n 2, 1) := dc9_28 (by decide +kernel)
theorem d_Wo_takeName_5 : decode y_Wo_takeName.2.1 5 = .ok (.aload_n 0, 1) := dc9_42 (by decide +kernel)
theorem d_Wo_takeName_6 : decode y_Wo_takeName.2.1 6 = .ok (.getfield 25, 3) := dc9_180 (by decide +kernel)
theorem d_Wo_takeName_9 : decode y_Wo_takeName.2.1 9 = .ok (.if_icmp .ge 44, 3) := dc9_162 (by decide +kernel)
theorem d_Wo_takeName_12 : decode y_Wo_takeName.2.1 12 = .ok (.aload_n 0, 1) := dc9_42 (by decide +kernel)
theorem d_Wo_takeName_13 : decode y_Wo_takeName.2.1 13 = .ok (.getfield 9, 3) := dc9_180 (by decide +kernel)
theorem d_Wo_takeName_16 : decode y_Wo_takeName.2.1 16 = .ok (.iload_n 2, 1) := dc9_28 (by decide +kernel)
theorem d_Wo_takeName_17 : decode y_Wo_takeName.2.1 17 = .ok (.caload, 1) := dc9_52 (by decide +kernel)
theorem d_Wo_takeName_53 : decode y_Wo_takeName.2.1 53 = .ok (.iload_n 2, 1) := dc9_28 (by decide +kernel)
theorem d_Wo_takeName_54 : decode y_Wo_takeName.2.1 54 = .ok (.iload_n 1, 1) := dc9_27 (by decide +kernel)
theorem d_Wo_takeName_55 : decode y_Wo_takeName.2.1 55 = .ok (.isub, 1) := dc9_100 (by decide +kernel)
theorem d_Wo_takeName_56 : decode y_Wo_takeName.2.1 56 = .ok (.bipush 40, 2) := dc9_16 (by decide +kernel)
theorem d_Wo_takeName_58 : decode y_Wo_takeName.2.1 58 = .ok (.if_icmp .gt 7, 3) := dc9_163 (by decide +kernel)
theorem d_Wo_takeName_65 : decode y_Wo_takeName.2.1 65 = .ok (.iconst 0, 1) := dc9_3 (by decide +kernel)
theorem d_Wo_takeName_61 : decode y_Wo_takeName.2.1 61 = .ok (.iconst 1, 1) := dc9_4 (by decide +kernel)
theorem d_Wo_takeName_62 : decode y_Wo_takeName.2.1 62 = .ok (.goto 4, 3) := dc9_167 (by decide +kernel)
theorem d_Wo_takeName_66 : decode y_Wo_takeName.2.1 66 = .ok (.istore_n 3, 1) := dc9_62 (by decide +kernel)
theorem d_Wo_takeName_67 : decode y_Wo_takeName.2.1 67 = .ok (.aload_n 0, 1) := dc9_42 (by decide +kernel)
theorem d_Wo_takeName_68 : decode y_Wo_takeName.2.1 68 = .ok (.iload_n 3, 1) := dc9_29 (by decide +kernel)
theorem d_Wo_takeName_69 : decode y_Wo_takeName.2.1 69 = .ok (.ifCond .eq 14, 3) := dc9_153 (by decide +kernel)
theorem d_Wo_takeName_83 : decode y_Wo_takeName.2.1 83 = .ok (.iconst 1, 1) := dc9_4 (by decide +kernel)
theorem d_Wo_takeName_72 : decode y_Wo_takeName.2.1 72 = .ok (.aload_n 0, 1) := dc9_42 (by decide +kernel)
theorem d_Wo_takeName_73 : decode y_Wo_takeName.2.1 73 = .ok (.iload_n 1, 1) := dc9_27 (by decide +kernel)
theorem d_Wo_takeName_74 : decode y_Wo_takeName.2.1 74 = .ok (.iload_n 2, 1) := dc9_28 (by decide +kernel)
theorem d_Wo_takeName_75 : decode y_Wo_takeName.2.1 75 = .ok (.iload_n 1, 1) := dc9_27 (by decide +kernel)
theorem d_Wo_takeName_76 : decode y_Wo_takeName.2.1 76 = .ok (.isub, 1) := dc9_100 (by decide +kernel)
theorem d_Wo_takeName_77 : decode y_Wo_takeName.2.1 77 = .ok (.invokevirtual 68, 3) := dc9_182 (by decide +kernel)
theorem d_Wo_takeName_80 : decode y_Wo_takeName.2.1 80 = .ok (.goto 4, 3) := dc9_167 (by decide +kernel)
theorem d_Wo_takeName_18 : decode y_Wo_takeName.2.1 18 = .ok (.invokestatic 47, 3) := dc9_184 (by decide +kernel)
theorem d_Wo_takeName_21 : decode y_Wo_takeName.2.1 21 = .ok (.ifCond .ne 26, 3) := dc9_154 (by decide +kernel)
theorem d_Wo_takeName_24 : decode y_Wo_takeName.2.1 24 = .ok (.aload_n 0, 1) := dc9_42 (by decide +kernel)
theorem d_Wo_takeName_25 : decode y_Wo_takeName.2.1 25 = .ok (.getfield 9, 3) := dc9_180 (by decide +kernel)
theorem d_Wo_takeName_28 : decode y_Wo_takeName.2.1 28 = .ok (.iload_n 2, 1) := dc9_28 (by decide +kernel)
theorem d_Wo_takeName_29 : decode y_Wo_takeName.2.1 29 = .ok (.caload, 1) := dc9_52 (by decide +kernel)
theorem d_Wo_takeName_30 : decode y_Wo_takeName.2.1 30 = .ok (.invokestatic 54, 3) := dc9_184 (by decide +kernel)
theorem d_Wo_takeName_33 : decode y_Wo_takeName.2.1 33 = .ok (.ifCond .ne 14, 3) := dc9_154 (by decide +kernel)
theorem d_Wo_takeName_36 : decode y_Wo_takeName.2.1 36 = .ok (.aload_n 0, 1) := dc9_42 (by decide +kernel)
theorem d_Wo_takeName_37 : decode y_Wo_takeName.2.1 37 = .ok (.getfield 9, 3) := dc9_180 (by decide +kernel)
theorem d_Wo_takeName_40 : decode y_Wo_takeName.2.1 40 = .ok (.iload_n 2, 1) := dc9_28 (by decide +kernel)
theorem d_Wo_takeName_41 : decode y_Wo_takeName.2.1 41 = .ok (.caload, 1) := dc9_52 (by decide +kernel)
theorem d_Wo_takeName_42 : decode y_Wo_takeName.2.1 42 = .ok (.bipush 95, 2) := dc9_16 (by decide +kernel)
theorem d_Wo_takeName_44 : decode y_Wo_takeName.2.1 44 = .ok (.if_icmp .ne 9, 3) := dc9_160 (by decide +kernel)
theorem d_Wo_takeName_47 : decode y_Wo_takeName.2.1 47 = .ok (.iinc 2 1, 3) := by decide +kernel
theorem d_Wo_takeName_50 : decode y_Wo_takeName.2.1 50 = .ok (.goto (-46), 3) := dc9_167 (by decide +kernel)
theorem d_Wo_takeName_84 : decode y_Wo_takeName.2.1 84 = .ok (.iload_n 1, 1) := dc9_27 (by decide +kernel)
theorem d_Wo_takeName_85 : decode y_Wo_takeName.2.1 85 = .ok (.iload_n 2, 1) := dc9_28 (by decide +kernel)
theorem d_Wo_takeName_86 : decode y_Wo_takeName.2.1 86 = .ok (.iload_n 1, 1) := dc9_27 (by decide +kernel)
theorem d_Wo_takeName_87 : decode y_Wo_takeName.2.1 87 = .ok (.isub, 1) := dc9_100 (by decide +kernel)
theorem d_Wo_takeName_88 : decode y_Wo_takeName.2.1 88 = .ok (.invokevirtual 43, 3) := dc9_182 (by decide +kernel)
theorem d_Wo_takeName_91 : decode y_Wo_takeName.2.1 91 = .ok (.iload_n 3, 1) := dc9_29 (by decide +kernel)
theorem d_Wo_takeName_92 : decode y_Wo_takeName.2.1 92 = .ok (.ifCond .eq 7, 3) := dc9_153 (by decide +kernel)
theorem d_Wo_takeName_99 : decode y_Wo_takeName.2.1 99 = .ok (.aload_n 0, 1) := dc9_42 (by decide +kernel)
theorem d_Wo_takeName_100 : decode y_Wo_takeName.2.1 100 = .ok (.getfield 25, 3) := dc9_180 (by decide +kernel)
theorem d_Wo_takeName_95 : decode y_Wo_takeName.2.1 95 = .ok (.iload_n 2, 1) := dc9_28 (by decide +kernel)
theorem d_Wo_takeName_96 : decode y_Wo_takeName.2.1 96 = .ok (.goto 7, 3) := dc9_167 (by decide +kernel)
theorem d_Wo_takeName_103 : decode y_Wo_takeName.2.1 103 = .ok (.ireturn, 1) := dc9_172 (by decide +kernel)
def h_Wo_takeName_4 (G : mG) (d : Nat) (a0 : Nat) (l1 : Int) (l2 : Int) (M : mM) (Q : Int → mM → Prop) : Prop := mWm G y_Wo_takeName (d + 1) 4 [vr a0, vi l1, vi l2, vd] [] M (fun r9 M9 => ∃ x9, r9 = some (vi x9) ∧ Q x9 M9)
def h_Wo_takeName_84 (G : mG) (d : Nat) (a0 : Nat) (l1 : Int) (l2 : Int) (l3 : Int) (k0 : Nat) (k1 : Int) (M : mM) (Q : Int → mM → Prop) : Prop := mWm G y_Wo_takeName (d + 1) 84 [vr a0, vi l1, vi l2, vi l3] [vi k1, vr k0] M (fun r9 M9 => ∃ x9, r9 = some (vi x9) ∧ Q x9 M9)
theorem k_Wo_takeName {G : mG} {d : Nat} {a0 : Nat} {l1 : Int} {M : mM} {Q : Int → mM → Prop} (hO : mOk M) (hi_l1 : i32 l1)
    (h : h_Wo_takeName_4 G d a0 l1 (l1 + 1) M Q) :
    Ci G y_Wo_takeName (d + 1) [vr a0, vi l1] M Q := by
  refine wm_open (y := y_Wo_takeName) rfl (Nat.le_of_ble_eq_true rfl) (L := [vr a0, vi l1, vd, vd]) rfl ?_
  refine wm_iload_n d_Wo_takeName_0 rfl rfl ?_
  refine wm_iconst d_Wo_takeName_1 ?_
  refine wm_iadd d_Wo_takeName_2 ?_
  refine wm_istore_n d_Wo_takeName_3 rfl (by decide) (L' := [vr a0, vi l1, vi (l1 + 1), vd]) rfl ?_
  exact h
theorem k_Wo_takeName_4 {G : mG} {d : Nat} {a0 : Nat} {l1 : Int} {l2 : Int} {M : mM} {Q : Int → mM → Prop} (hO : mOk M) (hi_l1 : i32 l1) (hi_l2 : i32 l2)
    (h : mK M a0 = 2 ∧ ((mI M a0 1 ≤ l2) → (i32 (l2 - l1) ∧ ∀ v6 : Int, v6 = (if (40 < l2 - l1) then 0 else 1) → ((v6 = 0) → (h_Wo_takeName_84 G d a0 l1 l2 v6 a0 1 M Q)) ∧ (¬ (v6 = 0) → (Ci G y_Wo_nameSort d [vr a0, vi l1, vi (l2 - l1)] M (fun x14 M13 => i32 x14 ∧ mOk M13 ∧ (h_Wo_takeName_84 G d a0 l1 l2 v6 a0 x14 M13 Q)))))) ∧ (¬ (mI M a0 1 ≤ l2) → (mK M (mR M a0 0) = 32 ∧ ((0 : Int) ≤ l2 ∧ l2 < (mN M (mR M a0 0) : Int)) ∧ Ci G y_Wo_isLetter d [vi (mI M (mR M a0 0) (Int.toNat l2))] M (fun x20 M19 => i32 x20 ∧ mOk M19 ∧ (((x20 = 0) → (mK M19 a0 = 2 ∧ mK M19 (mR M19 a0 0) = 32 ∧ ((0 : Int) ≤ l2 ∧ l2 < (mN M19 (mR M19 a0 0) : Int)) ∧ Ci G y_Wo_isDigit d [vi (mI M19 (mR M19 a0 0) (Int.toNat l2))] M19 (fun x28 M27 => i32 x28 ∧ mOk M27 ∧ (((x28 = 0) → (mK M27 a0 = 2 ∧ mK M27 (mR M27 a0 0) = 32 ∧ ((0 : Int) ≤ l2 ∧ l2 < (mN M27 (mR M27 a0 0) : Int)))) ∧ (((¬ (x28 = 0)) ∨ (mI M27 (mR M27 a0 0) (Int.toNat l2) = 95)) → (h_Wo_takeName_4 G d a0 l1 (l2 + 1) M27 Q)) ∧ (¬ ((¬ (x28 = 0)) ∨ (mI M27 (mR M27 a0 0) (Int.toNat l2) = 95)) → (i32 (l2 - l1) ∧ ∀ v40 : Int, v40 = (if (40 < l2 - l1) then 0 else 1) → ((v40 = 0) → (h_Wo_takeName_84 G d a0 l1 l2 v40 a0 1 M27 Q)) ∧ (¬ (v40 = 0) → (mK M27 a0 = 2 ∧ Ci G y_Wo_nameSort d [vr a0, vi l1, vi (l2 - l1)] M27 (fun x49 M48 => i32 x49 ∧ mOk M48 ∧ (h_Wo_takeName_84 G d a0 l1 l2 v40 a0 x49 M48 Q)))))))))) ∧ (¬ (x20 = 0) → (h_Wo_takeName_4 G d a0 l1 (l2 + 1) M19 Q))))))) :
    h_Wo_takeName_4 G d a0 l1 l2 M Q := by
  unfold h_Wo_takeName_4
  obtain ⟨h1, h⟩ := h
  refine wm_iload_n d_Wo_takeName_4 rfl rfl ?_
  refine wm_aload_n d_Wo_takeName_5 rfl rfl ?_
  refine gf_Wo_25 rfl d_Wo_takeName_6 h1 ?_
  refine wm_icmp_ge (tgt := 53) d_Wo_takeName_9 rfl hi_l2 (hO _ _).1 (fun c3 => ?_) (fun c3 => ?_)
  · replace h := h.1 c3
    obtain ⟨h4, h⟩ := h
    refine wm_iload_n d_Wo_takeName_53 rfl rfl ?_
    refine wm_iload_n d_Wo_takeName_54 rfl rfl ?_
    refine wm_isub d_Wo_takeName_55 ?_
    refine wm_bipush d_Wo_takeName_56 (by decide) ?_
    have hJ : ∀ v6 : Int, v6 = (if (40 < l2 - l1) then 0 else 1) → mWm G y_Wo_takeName (d + 1) 66 [vr a0, vi l1, vi l2, vd] [vi v6] M (fun r9 M9 => ∃ x9, r9 = some (vi x9) ∧ Q x9 M9) := by
      intro v6 e8
      have h := h v6 e8
      have h9 : i32 v6 := by rw [e8]; (repeat' split) <;> first | exact ⟨by decide, by decide⟩ | exact ⟨by decide, by decide⟩
      have h10 : (v6 = 0 ∨ v6 = 1) := by rw [e8]; (repeat' split) <;> decide
      refine wm_istore_n d_Wo_takeName_66 rfl (by decide) (L' := [vr a0, vi l1, vi l2, vi v6]) rfl ?_
      refine wm_aload_n d_Wo_takeName_67 rfl rfl ?_
      refine wm_iload_n d_Wo_takeName_68 rfl rfl ?_
      refine wm_if_eq (tgt := 83) d_Wo_takeName_69 rfl h9 (fun c12 => ?_) (fun c12 => ?_)
      · replace h := h.1 c12
        refine wm_iconst d_Wo_takeName_83 ?_
        exact h
      · replace h := h.2 c12
        refine wm_aload_n d_Wo_takeName_72 rfl rfl ?_
        refine wm_iload_n d_Wo_takeName_73 rfl rfl ?_
        refine wm_iload_n d_Wo_takeName_74 rfl rfl ?_
        refine wm_iload_n d_Wo_takeName_75 rfl rfl ?_
        refine wm_isub d_Wo_takeName_76 ?_
        refine cf_Wo_68 rfl d_Wo_takeName_77 h1 (Nat.le_of_ble_eq_true rfl) (Ci.mono h (fun x14 M13 h => ?_))
        obtain ⟨h15, hOM13, h⟩ := h
        refine wm_goto (tgt := 84) d_Wo_takeName_80 rfl ?_
        exact h
    clear h
    refine wm_icmp_gt (tgt := 65) d_Wo_takeName_58 rfl h4 ⟨by decide, by decide⟩ (fun c5 => ?_) (fun c5 => ?_)
    · refine wm_iconst d_Wo_takeName_65 ?_
      exact hJ 0 (if_pos c5).symm
    · refine wm_iconst d_Wo_takeName_61 ?_
      refine wm_goto (tgt := 66) d_Wo_takeName_62 rfl ?_
      exact hJ 1 (if_neg c5).symm
  · replace h := h.2 c3
    obtain ⟨h17, h⟩ := h
    obtain ⟨h18, h⟩ := h
    refine wm_aload_n d_Wo_takeName_12 rfl rfl ?_
    refine gf_Wo_9 rfl d_Wo_takeName_13 h1 ?_
    refine wm_iload_n d_Wo_takeName_16 rfl rfl ?_
    refine wm_cald d_Wo_takeName_17 h17 h18 ?_
    refine cf_Wo_47 rfl d_Wo_takeName_18 (Nat.le_of_ble_eq_true rfl) (Ci.mono h (fun x20 M19 h => ?_))
    obtain ⟨h21, hOM19, h⟩ := h
    refine wm_if_ne (tgt := 47) d_Wo_takeName_21 rfl h21 (fun c23 => ?_) (fun c23 => ?_)
    · replace h := h.2 c23
      refine wm_iinc d_Wo_takeName_47 (by decide) rfl (L' := [vr a0, vi l1, vi (l2 + 1), vd]) rfl ?_
      refine wm_goto (tgt := 4) d_Wo_takeName_50 rfl ?_
      exact h
    · replace c23 := Classical.not_not.mp c23
      replace h := h.1 c23
      obtain ⟨h24, h⟩ := h
      obtain ⟨h25, h⟩ := h
      obtain ⟨h26, h⟩ := h
      refine wm_aload_n d_Wo_takeName_24 rfl rfl ?_
      refine gf_Wo_9 rfl d_Wo_takeName_25 h24 ?_
      refine wm_iload_n d_Wo_takeName_28 rfl rfl ?_
      refine wm_cald d_Wo_takeName_29 h25 h26 ?_
      refine cf_Wo_54 rfl d_Wo_takeName_30 (Nat.le_of_ble_eq_true rfl) (Ci.mono h (fun x28 M27 h => ?_))
      obtain ⟨h29, hOM27, h⟩ := h
      obtain ⟨s35, h⟩ := h
      have hE0 : ((¬ (x28 = 0)) ∨ (mI M27 (mR M27 a0 0) (Int.toNat l2) = 95)) → mWm G y_Wo_takeName (d + 1) 47 [vr a0, vi l1, vi l2, vd] [] M27 (fun r9 M9 => ∃ x9, r9 = some (vi x9) ∧ Q x9 M9) := by
        intro q36
        have h := h.1 q36
        refine wm_iinc d_Wo_takeName_47 (by decide) rfl (L' := [vr a0, vi l1, vi (l2 + 1), vd]) rfl ?_
        refine wm_goto (tgt := 4) d_Wo_takeName_50 rfl ?_
        exact h
      have hE1 : ¬ ((¬ (x28 = 0)) ∨ (mI M27 (mR M27 a0 0) (Int.toNat l2) = 95)) → mWm G y_Wo_takeName (d + 1) 53 [vr a0, vi l1, vi l2, vd] [] M27 (fun r9 M9 => ∃ x9, r9 = some (vi x9) ∧ Q x9 M9) := by
        intro q37
        have h := h.2 q37
        obtain ⟨h38, h⟩ := h
        refine wm_iload_n d_Wo_takeName_53 rfl rfl ?_
        refine wm_iload_n d_Wo_takeName_54 rfl rfl ?_
        refine wm_isub d_Wo_takeName_55 ?_
        refine wm_bipush d_Wo_takeName_56 (by decide) ?_
        have hJ : ∀ v40 : Int, v40 = (if (40 < l2 - l1) then 0 else 1) → mWm G y_Wo_takeName (d + 1) 66 [vr a0, vi l1, vi l2, vd] [vi v40] M27 (fun r9 M9 => ∃ x9, r9 = some (vi x9) ∧ Q x9 M9) := by
          intro v40 e42
          have h := h v40 e42
          have h43 : i32 v40 := by rw [e42]; (repeat' split) <;> first | exact ⟨by decide, by decide⟩ | exact ⟨by decide, by decide⟩
          have h44 : (v40 = 0 ∨ v40 = 1) := by rw [e42]; (repeat' split) <;> decide
          refine wm_istore_n d_Wo_takeName_66 rfl (by decide) (L' := [vr a0, vi l1, vi l2, vi v40]) rfl ?_
          refine wm_aload_n d_Wo_takeName_67 rfl rfl ?_
          refine wm_iload_n d_Wo_takeName_68 rfl rfl ?_
          refine wm_if_eq (tgt := 83) d_Wo_takeName_69 rfl h43 (fun c46 => ?_) (fun c46 => ?_)
          · replace h := h.1 c46
            refine wm_iconst d_Wo_takeName_83 ?_
            exact h
          · replace h := h.2 c46
            obtain ⟨h47, h⟩ := h
            refine wm_aload_n d_Wo_takeName_72 rfl rfl ?_
            refine wm_iload_n d_Wo_takeName_73 rfl rfl ?_
            refine wm_iload_n d_Wo_takeName_74 rfl rfl ?_
            refine wm_iload_n d_Wo_takeName_75 rfl rfl ?_
            refine wm_isub d_Wo_takeName_76 ?_
            refine cf_Wo_68 rfl d_Wo_takeName_77 h47 (Nat.le_of_ble_eq_true rfl) (Ci.mono h (fun x49 M48 h => ?_))
            obtain ⟨h50, hOM48, h⟩ := h
            refine wm_goto (tgt := 84) d_Wo_takeName_80 rfl ?_
            exact h
        clear h
        refine wm_icmp_gt (tgt := 65) d_Wo_takeName_58 rfl h38 ⟨by decide, by decide⟩ (fun c39 => ?_) (fun c39 => ?_)
        · refine wm_iconst d_Wo_takeName_65 ?_
          exact hJ 0 (if_pos c39).symm
        · refine wm_iconst d_Wo_takeName_61 ?_
          refine wm_goto (tgt := 66) d_Wo_takeName_62 rfl ?_
          exact hJ 1 (if_neg c39).symm
      clear h
      have s52 := s35
      refine wm_if_ne (tgt := 47) d_Wo_takeName_33 rfl h29 (fun c34 => ?_) (fun c34 => ?_)
      · exact hE0 (Or.inl c34)
      · replace c34 := Classical.not_not.mp c34
        have s52 := s52 c34
        obtain ⟨h30, h31, h32⟩ := s52
        refine wm_aload_n d_Wo_takeName_36 rfl rfl ?_
        refine gf_Wo_9 rfl d_Wo_takeName_37 h30 ?_
        refine wm_iload_n d_Wo_takeName_40 rfl rfl ?_
        refine wm_cald d_Wo_takeName_41 h31 h32 ?_
        refine wm_bipush d_Wo_takeName_42 (by decide) ?_
        refine wm_icmp_ne (tgt := 53) d_Wo_takeName_44 rfl (hOM27 _ _).1 ⟨by decide, by decide⟩ (fun c33 => ?_) (fun c33 => ?_)
        · exact hE1 (fun z53 => Or.elim z53 (fun w => w c34) c33)
        · replace c33 := Classical.not_not.mp c33
          exact hE0 (Or.inr c33)
theorem k_Wo_takeName_84 {G : mG} {d : Nat} {a0 : Nat} {l1 : Int} {l2 : Int} {l3 : Int} {k0 : Nat} {k1 : Int} {M : mM} {Q : Int → mM → Prop} (hO : mOk M) (hi_l1 : i32 l1) (hi_l2 : i32 l2) (hi_l3 : i32 l3) (hi_k1 : i32 k1)
    (h : mK M k0 = 2 ∧ Cv G y_Wo_add d [vr k0, vi k1, vi l1, vi (l2 - l1)] M (fun M56 => mOk M56 ∧ (((l3 = 0) → mK M56 a0 = 2) ∧ ∀ v61 : Int, v61 = (if (l3 = 0) then mI M56 a0 1 else l2) → Q v61 M56))) :
    h_Wo_takeName_84 G d a0 l1 l2 l3 k0 k1 M Q := by
  unfold h_Wo_takeName_84
  obtain ⟨h55, h⟩ := h
  refine wm_iload_n d_Wo_takeName_84 rfl rfl ?_
  refine wm_iload_n d_Wo_takeName_85 rfl rfl ?_
  refine wm_iload_n d_Wo_takeName_86 rfl rfl ?_
  refine wm_isub d_Wo_takeName_87 ?_
  refine cf_Wo_43 rfl d_Wo_takeName_88 h55 (Nat.le_of_ble_eq_true rfl) (Cv.mono h (fun M56 h => ?_))
  obtain ⟨hOM56, h⟩ := h
  refine wm_iload_n d_Wo_takeName_91 rfl rfl ?_
  obtain ⟨s62, h⟩ := h
  have hJ : ∀ v61 : Int, v61 = (if (l3 = 0) then mI M56 a0 1 else l2) → mWm G y_Wo_takeName (d + 1) 103 [vd, vd, vd, vd] [vi v61] M56 (fun r9 M9 => ∃ x9, r9 = some (vi x9) ∧ Q x9 M9) := by
    intro v61 e63
    have h := h v61 e63
    refine wm_ireturn d_Wo_takeName_103 rfl rfl ?_
    exact ⟨_, rfl, h⟩
  clear h
  have s64 := s62
  refine wm_if_eq (tgt := 99) d_Wo_takeName_92 rfl hi_l3 (fun c59 => ?_) (fun c59 => ?_)
  · have s64 := s64 c59
    have h60 := s64
    refine wm_aload_n d_Wo_takeName_99 rfl rfl ?_
    refine gf_Wo_25 rfl d_Wo_takeName_100 h60 ?_
    refine wm_less (L' := [vd, vd, vd, vd]) ⟨Or.inl rfl, Or.inl rfl, Or.inl rfl, Or.inl rfl, trivial⟩ ?_
    exact hJ (mI M56 a0 1) (if_pos c59).symm
  · refine wm_iload_n d_Wo_takeName_95 rfl rfl ?_
    refine wm_goto (tgt := 103) d_Wo_takeName_96 rfl ?_
    refine wm_less (L' := [vd, vd, vd, vd]) ⟨Or.inl rfl, Or.inl rfl, Or.inl rfl, Or.inl rfl, trivial⟩ ?_
    exact hJ l2 (if_neg c59).symm
theorem d_Wo_takeNumber_0 : decode y_Wo_takeNumber.2.1 0 = .ok (.iconst 0, 1) := dc9_3 (by decide +kernel)
theorem d_Wo_takeNumber_1 : decode y_Wo_takeNumber.2.1 1 = .ok (.istore_n 2, 1) := dc9_61 (by decide +kernel)
theorem d_Wo_takeNumber_2 : decode y_Wo_takeNumber.2.1 2 = .ok (.iload_n 1, 1) := dc9_27 (by decide +kernel)
theorem d_Wo_takeNumber_3 : decode y_Wo_takeNumber.2.1 3 = .ok (.istore_n 3, 1) := dc9_62 (by decide +kernel)
theorem d_Wo_takeNumber_4 : decode y_Wo_takeNumber.2.1 4 = .ok (.iload_n 3, 1) := dc9_29 (by decide +kernel)
theorem d_Wo_takeNumber_5 : decode y_Wo_takeNumber.2.1 5 = .ok (.aload_n 0, 1) := dc9_42 (by decide +kernel)
theorem d_Wo_takeNumber_6 : decode y_Wo_takeNumber.2.1 6 = .ok (.getfield 25, 3) := dc9_180 (by decide +kernel)
theorem d_Wo_takeNumber_9 : decode y_Wo_takeNumber.2.1 9 = .ok (.if_icmp .ge 48, 3) := dc9_162 (by decide +kernel)
theorem d_Wo_takeNumber_12 : decode y_Wo_takeNumber.2.1 12 = .ok (.aload_n 0, 1) := dc9_42 (by decide +kernel)
theorem d_Wo_takeNumber_13 : decode y_Wo_takeNumber.2.1 13 = .ok (.getfield 9, 3) := dc9_180 (by decide +kernel)
theorem d_Wo_takeNumber_16 : decode y_Wo_takeNumber.2.1 16 = .ok (.iload_n 3, 1) := dc9_29 (by decide +kernel)
theorem d_Wo_takeNumber_17 : decode y_Wo_takeNumber.2.1 17 = .ok (.caload, 1) := dc9_52 (by decide +kernel)
theorem d_Wo_takeNumber_57 : decode y_Wo_takeNumber.2.1 57 = .ok (.iload_n 3, 1) := dc9_29 (by decide +kernel)
theorem d_Wo_takeNumber_58 : decode y_Wo_takeNumber.2.1 58 = .ok (.iload_n 1, 1) := dc9_27 (by decide +kernel)
theorem d_Wo_takeNumber_59 : decode y_Wo_takeNumber.2.1 59 = .ok (.isub, 1) := dc9_100 (by decide +kernel)
theorem d_Wo_takeNumber_60 : decode y_Wo_takeNumber.2.1 60 = .ok (.bipush 9, 2) := dc9_16 (by decide +kernel)
theorem d_Wo_takeNumber_62 : decode y_Wo_takeNumber.2.1 62 = .ok (.if_icmp .gt 7, 3) := dc9_163 (by decide +kernel)
theorem d_Wo_takeNumber_69 : decode y_Wo_takeNumber.2.1 69 = .ok (.iconst 0, 1) := dc9_3 (by decide +kernel)
theorem d_Wo_takeNumber_65 : decode y_Wo_takeNumber.2.1 65 = .ok (.iconst 1, 1) := dc9_4 (by decide +kernel)
theorem d_Wo_takeNumber_66 : decode y_Wo_takeNumber.2.1 66 = .ok (.goto 4, 3) := dc9_167 (by decide +kernel)
theorem d_Wo_takeNumber_70 : decode y_Wo_takeNumber.2.1 70 = .ok (.istore 4, 2) := dc9_54 (by decide +kernel)
theorem d_Wo_takeNumber_72 : decode y_Wo_takeNumber.2.1 72 = .ok (.aload_n 0, 1) := dc9_42 (by decide +kernel)
theorem d_Wo_takeNumber_73 : decode y_Wo_takeNumber.2.1 73 = .ok (.iload 4, 2) := dc9_21 (by decide +kernel)
theorem d_Wo_takeNumber_75 : decode y_Wo_takeNumber.2.1 75 = .ok (.ifCond .eq 7, 3) := dc9_153 (by decide +kernel)
theorem d_Wo_takeNumber_82 : decode y_Wo_takeNumber.2.1 82 = .ok (.iconst 1, 1) := dc9_4 (by decide +kernel)
theorem d_Wo_takeNumber_78 : decode y_Wo_takeNumber.2.1 78 = .ok (.iconst 3, 1) := dc9_6 (by decide +kernel)
theorem d_Wo_takeNumber_79 : decode y_Wo_takeNumber.2.1 79 = .ok (.goto 4, 3) := dc9_167 (by decide +kernel)
theorem d_Wo_takeNumber_83 : decode y_Wo_takeNumber.2.1 83 = .ok (.iload_n 1, 1) := dc9_27 (by decide +kernel)
theorem d_Wo_takeNumber_84 : decode y_Wo_takeNumber.2.1 84 = .ok (.iload_n 2, 1) := dc9_28 (by decide +kernel)
theorem d_Wo_takeNumber_85 : decode y_Wo_takeNumber.2.1 85 = .ok (.invokevirtual 43, 3) := dc9_182 (by decide +kernel)
theorem d_Wo_takeNumber_88 : decode y_Wo_takeNumber.2.1 88 = .ok (.iload 4, 2) := dc9_21 (by decide +kernel)
theorem d_Wo_takeNumber_90 : decode y_Wo_takeNumber.2.1 90 = .ok (.ifCond .eq 7, 3) := dc9_153 (by decide +kernel)
theorem d_Wo_takeNumber_97 : decode y_Wo_takeNumber.2.1 97 = .ok (.aload_n 0, 1) := dc9_42 (by decide +kernel)
theorem d_Wo_takeNumber_98 : decode y_Wo_takeNumber.2.1 98 = .ok (.getfield 25, 3) := dc9_180 (by decide +kernel)
theorem d_Wo_takeNumber_93 : decode y_Wo_takeNumber.2.1 93 = .ok (.iload_n 3, 1) := dc9_29 (by decide +kernel)
theorem d_Wo_takeNumber_94 : decode y_Wo_takeNumber.2.1 94 = .ok (.goto 7, 3) := dc9_167 (by decide +kernel)
theorem d_Wo_takeNumber_101 : decode y_Wo_takeNumber.2.1 101 = .ok (.ireturn, 1) := dc9_172 (by decide +kernel)
theorem d_Wo_takeNumber_18 : decode y_Wo_takeNumber.2.1 18 = .ok (.invokestatic 54, 3) := dc9_184 (by decide +kernel)
theorem d_Wo_takeNumber_21 : decode y_Wo_takeNumber.2.1 21 = .ok (.ifCond .eq 36, 3) := dc9_153 (by decide +kernel)
theorem d_Wo_takeNumber_24 : decode y_Wo_takeNumber.2.1 24 = .ok (.iload_n 3, 1) := dc9_29 (by decide +kernel)
theorem d_Wo_takeNumber_25 : decode y_Wo_takeNumber.2.1 25 = .ok (.iload_n 1, 1) := dc9_27 (by decide +kernel)
theorem d_Wo_takeNumber_26 : decode y_Wo_takeNumber.2.1 26 = .ok (.isub, 1) := dc9_100 (by decide +kernel)
theorem d_Wo_takeNumber_27 : decode y_Wo_takeNumber.2.1 27 = .ok (.bipush 9, 2) := dc9_16 (by decide +kernel)
theorem d_Wo_takeNumber_29 : decode y_Wo_takeNumber.2.1 29 = .ok (.if_icmp .ge 20, 3) := dc9_162 (by decide +kernel)
theorem d_Wo_takeNumber_49 : decode y_Wo_takeNumber.2.1 49 = .ok (.iconst 0, 1) := dc9_3 (by decide +kernel)
theorem d_Wo_takeNumber_50 : decode y_Wo_takeNumber.2.1 50 = .ok (.istore_n 2, 1) := dc9_61 (by decide +kernel)
theorem d_Wo_takeNumber_51 : decode y_Wo_takeNumber.2.1 51 = .ok (.iinc 3 1, 3) := by decide +kernel
theorem d_Wo_takeNumber_54 : decode y_Wo_takeNumber.2.1 54 = .ok (.goto (-50), 3) := dc9_167 (by decide +kernel)
theorem d_Wo_takeNumber_32 : decode y_Wo_takeNumber.2.1 32 = .ok (.bipush 10, 2) := dc9_16 (by decide +kernel)
theorem d_Wo_takeNumber_34 : decode y_Wo_takeNumber.2.1 34 = .ok (.iload_n 2, 1) := dc9_28 (by decide +kernel)
theorem d_Wo_takeNumber_35 : decode y_Wo_takeNumber.2.1 35 = .ok (.imul, 1) := dc9_104 (by decide +kernel)
theorem d_Wo_takeNumber_36 : decode y_Wo_takeNumber.2.1 36 = .ok (.aload_n 0, 1) := dc9_42 (by decide +kernel)
theorem d_Wo_takeNumber_37 : decode y_Wo_takeNumber.2.1 37 = .ok (.getfield 9, 3) := dc9_180 (by decide +kernel)
theorem d_Wo_takeNumber_40 : decode y_Wo_takeNumber.2.1 40 = .ok (.iload_n 3, 1) := dc9_29 (by decide +kernel)
theorem d_Wo_takeNumber_41 : decode y_Wo_takeNumber.2.1 41 = .ok (.caload, 1) := dc9_52 (by decide +kernel)
theorem d_Wo_takeNumber_42 : decode y_Wo_takeNumber.2.1 42 = .ok (.bipush 48, 2) := dc9_16 (by decide +kernel)
theorem d_Wo_takeNumber_44 : decode y_Wo_takeNumber.2.1 44 = .ok (.isub, 1) := dc9_100 (by decide +kernel)
theorem d_Wo_takeNumber_45 : decode y_Wo_takeNumber.2.1 45 = .ok (.iadd, 1) := dc9_96 (by decide +kernel)
theorem d_Wo_takeNumber_46 : decode y_Wo_takeNumber.2.1 46 = .ok (.goto 4, 3) := dc9_167 (by decide +kernel)
def h_Wo_takeNumber_4 (G : mG) (d : Nat) (a0 : Nat) (l1 : Int) (l2 : Int) (l3 : Int) (M : mM) (Q : Int → mM → Prop) : Prop := mWm G y_Wo_takeNumber (d + 1) 4 [vr a0, vi l1, vi l2, vi l3, vd] [] M (fun r9 M9 => ∃ x9, r9 = some (vi x9) ∧ Q x9 M9)
theorem k_Wo_takeNumber {G : mG} {d : Nat} {a0 : Nat} {l1 : Int} {M : mM} {Q : Int → mM → Prop} (hO : mOk M) (hi_l1 : i32 l1)
    (h : h_Wo_takeNumber_4 G d a0 l1 0 l1 M Q) :
    Ci G y_Wo_takeNumber (d + 1) [vr a0, vi l1] M Q := by
  refine wm_open (y := y_Wo_takeNumber) rfl (Nat.le_of_ble_eq_true rfl) (L := [vr a0, vi l1, vd, vd, vd]) rfl ?_
  refine wm_iconst d_Wo_takeNumber_0 ?_
  refine wm_istore_n d_Wo_takeNumber_1 rfl (by decide) (L' := [vr a0, vi l1, vi 0, vd, vd]) rfl ?_
  refine wm_iload_n d_Wo_takeNumber_2 rfl rfl ?_
  refine wm_istore_n d_Wo_takeNumber_3 rfl (by decide) (L' := [vr a0, vi l1, vi 0, vi l1, vd]) rfl ?_
  exact h
theorem k_Wo_takeNumber_4 {G : mG} {d : Nat} {a0 : Nat} {l1 : Int} {l2 : Int} {l3 : Int} {M : mM} {Q : Int → mM → Prop} (hO : mOk M) (hi_l1 : i32 l1) (hi_l2 : i32 l2) (hi_l3 : i32 l3)
    (h : mK M a0 = 2 ∧ ((mI M a0 1 ≤ l3) → (i32 (l3 - l1) ∧ ∀ v6 : Int, v6 = (if (9 < l3 - l1) then 0 else 1) → ∀ v12 : Int, v12 = (if (v6 = 0) then 1 else 3) → Cv G y_Wo_add d [vr a0, vi v12, vi l1, vi l2] M (fun M16 => mOk M16 ∧ (((v6 = 0) → mK M16 a0 = 2) ∧ ∀ v21 : Int, v21 = (if (v6 = 0) then mI M16 a0 1 else l3) → Q v21 M16)))) ∧ (¬ (mI M a0 1 ≤ l3) → (mK M (mR M a0 0) = 32 ∧ ((0 : Int) ≤ l3 ∧ l3 < (mN M (mR M a0 0) : Int)) ∧ Ci G y_Wo_isDigit d [vi (mI M (mR M a0 0) (Int.toNat l3))] M (fun x31 M30 => i32 x31 ∧ mOk M30 ∧ (((x31 = 0) → (i32 (l3 - l1) ∧ ∀ v42 : Int, v42 = (if (9 < l3 - l1) then 0 else 1) → ∀ v48 : Int, v48 = (if (v42 = 0) then 1 else 3) → mK M30 a0 = 2 ∧ Cv G y_Wo_add d [vr a0, vi v48, vi l1, vi l2] M30 (fun M53 => mOk M53 ∧ (((v42 = 0) → mK M53 a0 = 2) ∧ ∀ v58 : Int, v58 = (if (v42 = 0) then mI M53 a0 1 else l3) → Q v58 M53)))) ∧ (¬ (x31 = 0) → (i32 (l3 - l1) ∧ (¬ (9 ≤ l3 - l1) → (mK M30 a0 = 2 ∧ mK M30 (mR M30 a0 0) = 32 ∧ ((0 : Int) ≤ l3 ∧ l3 < (mN M30 (mR M30 a0 0) : Int)))) ∧ ∀ v70 : Int, v70 = (if (9 ≤ l3 - l1) then 0 else (10 * l2) + ((mI M30 (mR M30 a0 0) (Int.toNat l3)) - 48)) → h_Wo_takeNumber_4 G d a0 l1 v70 (l3 + 1) M30 Q))))))) :
    h_Wo_takeNumber_4 G d a0 l1 l2 l3 M Q := by
  unfold h_Wo_takeNumber_4
  obtain ⟨h1, h⟩ := h
  refine wm_iload_n d_Wo_takeNumber_4 rfl rfl ?_
  refine wm_aload_n d_Wo_takeNumber_5 rfl rfl ?_
  refine gf_Wo_25 rfl d_Wo_takeNumber_6 h1 ?_
  refine wm_icmp_ge (tgt := 57) d_Wo_takeNumber_9 rfl hi_l3 (hO _ _).1 (fun c3 => ?_) (fun c3 => ?_)
  · replace h := h.1 c3
    obtain ⟨h4, h⟩ := h
    refine wm_iload_n d_Wo_takeNumber_57 rfl rfl ?_
    refine wm_iload_n d_Wo_takeNumber_58 rfl rfl ?_
    refine wm_isub d_Wo_takeNumber_59 ?_
    refine wm_bipush d_Wo_takeNumber_60 (by decide) ?_
    have hJ : ∀ v6 : Int, v6 = (if (9 < l3 - l1) then 0 else 1) → mWm G y_Wo_takeNumber (d + 1) 70 [vr a0, vi l1, vi l2, vi l3, vd] [vi v6] M (fun r9 M9 => ∃ x9, r9 = some (vi x9) ∧ Q x9 M9) := by
      intro v6 e8
      have h := h v6 e8
      have h9 : i32 v6 := by rw [e8]; (repeat' split) <;> first | exact ⟨by decide, by decide⟩ | exact ⟨by decide, by decide⟩
      have h10 : (v6 = 0 ∨ v6 = 1) := by rw [e8]; (repeat' split) <;> decide
      refine wm_istore d_Wo_takeNumber_70 (by decide) (L' := [vr a0, vi l1, vi l2, vi l3, vi v6]) rfl ?_
      refine wm_aload_n d_Wo_takeNumber_72 rfl rfl ?_
      refine wm_iload d_Wo_takeNumber_73 rfl ?_
      have hJ : ∀ v12 : Int, v12 = (if (v6 = 0) then 1 else 3) → mWm G y_Wo_takeNumber (d + 1) 83 [vr a0, vi l1, vi l2, vi l3, vi v6] [vi v12, vr a0] M (fun r9 M9 => ∃ x9, r9 = some (vi x9) ∧ Q x9 M9) := by
        intro v12 e14
        have h := h v12 e14
        have h15 : i32 v12 := by rw [e14]; (repeat' split) <;> first | exact ⟨by decide, by decide⟩ | exact ⟨by decide, by decide⟩
        refine wm_iload_n d_Wo_takeNumber_83 rfl rfl ?_
        refine wm_iload_n d_Wo_takeNumber_84 rfl rfl ?_
        refine cf_Wo_43 rfl d_Wo_takeNumber_85 h1 (Nat.le_of_ble_eq_true rfl) (Cv.mono h (fun M16 h => ?_))
        obtain ⟨hOM16, h⟩ := h
        refine wm_iload d_Wo_takeNumber_88 rfl ?_
        obtain ⟨s22, h⟩ := h
        have hJ : ∀ v21 : Int, v21 = (if (v6 = 0) then mI M16 a0 1 else l3) → mWm G y_Wo_takeNumber (d + 1) 101 [vd, vd, vd, vd, vd] [vi v21] M16 (fun r9 M9 => ∃ x9, r9 = some (vi x9) ∧ Q x9 M9) := by
          intro v21 e23
          have h := h v21 e23
          refine wm_ireturn d_Wo_takeNumber_101 rfl rfl ?_
          exact ⟨_, rfl, h⟩
        clear h
        have s24 := s22
        refine wm_if_eq (tgt := 97) d_Wo_takeNumber_90 rfl h9 (fun c19 => ?_) (fun c19 => ?_)
        · have s24 := s24 c19
          have h20 := s24
          refine wm_aload_n d_Wo_takeNumber_97 rfl rfl ?_
          refine gf_Wo_25 rfl d_Wo_takeNumber_98 h20 ?_
          refine wm_less (L' := [vd, vd, vd, vd, vd]) ⟨Or.inl rfl, Or.inl rfl, Or.inl rfl, Or.inl rfl, Or.inl rfl, trivial⟩ ?_
          exact hJ (mI M16 a0 1) (if_pos c19).symm
        · refine wm_iload_n d_Wo_takeNumber_93 rfl rfl ?_
          refine wm_goto (tgt := 101) d_Wo_takeNumber_94 rfl ?_
          refine wm_less (L' := [vd, vd, vd, vd, vd]) ⟨Or.inl rfl, Or.inl rfl, Or.inl rfl, Or.inl rfl, Or.inl rfl, trivial⟩ ?_
          exact hJ l3 (if_neg c19).symm
      clear h
      refine wm_if_eq (tgt := 82) d_Wo_takeNumber_75 rfl h9 (fun c11 => ?_) (fun c11 => ?_)
      · refine wm_iconst d_Wo_takeNumber_82 ?_
        exact hJ 1 (if_pos c11).symm
      · refine wm_iconst d_Wo_takeNumber_78 ?_
        refine wm_goto (tgt := 83) d_Wo_takeNumber_79 rfl ?_
        exact hJ 3 (if_neg c11).symm
    clear h
    refine wm_icmp_gt (tgt := 69) d_Wo_takeNumber_62 rfl h4 ⟨by decide, by decide⟩ (fun c5 => ?_) (fun c5 => ?_)
    · refine wm_iconst d_Wo_takeNumber_69 ?_
      exact hJ 0 (if_pos c5).symm
    · refine wm_iconst d_Wo_takeNumber_65 ?_
      refine wm_goto (tgt := 70) d_Wo_takeNumber_66 rfl ?_
      exact hJ 1 (if_neg c5).symm
  · replace h := h.2 c3
    obtain ⟨h28, h⟩ := h
    obtain ⟨h29, h⟩ := h
    refine wm_aload_n d_Wo_takeNumber_12 rfl rfl ?_
    refine gf_Wo_9 rfl d_Wo_takeNumber_13 h1 ?_
    refine wm_iload_n d_Wo_takeNumber_16 rfl rfl ?_
    refine wm_cald d_Wo_takeNumber_17 h28 h29 ?_
    refine cf_Wo_54 rfl d_Wo_takeNumber_18 (Nat.le_of_ble_eq_true rfl) (Ci.mono h (fun x31 M30 h => ?_))
    obtain ⟨h32, hOM30, h⟩ := h
    refine wm_if_eq (tgt := 57) d_Wo_takeNumber_21 rfl h32 (fun c39 => ?_) (fun c39 => ?_)
    · replace h := h.1 c39
      obtain ⟨h40, h⟩ := h
      refine wm_iload_n d_Wo_takeNumber_57 rfl rfl ?_
      refine wm_iload_n d_Wo_takeNumber_58 rfl rfl ?_
      refine wm_isub d_Wo_takeNumber_59 ?_
      refine wm_bipush d_Wo_takeNumber_60 (by decide) ?_
      have hJ : ∀ v42 : Int, v42 = (if (9 < l3 - l1) then 0 else 1) → mWm G y_Wo_takeNumber (d + 1) 70 [vr a0, vi l1, vi l2, vi l3, vd] [vi v42] M30 (fun r9 M9 => ∃ x9, r9 = some (vi x9) ∧ Q x9 M9) := by
        intro v42 e44
        have h := h v42 e44
        have h45 : i32 v42 := by rw [e44]; (repeat' split) <;> first | exact ⟨by decide, by decide⟩ | exact ⟨by decide, by decide⟩
        have h46 : (v42 = 0 ∨ v42 = 1) := by rw [e44]; (repeat' split) <;> decide
        refine wm_istore d_Wo_takeNumber_70 (by decide) (L' := [vr a0, vi l1, vi l2, vi l3, vi v42]) rfl ?_
        refine wm_aload_n d_Wo_takeNumber_72 rfl rfl ?_
        refine wm_iload d_Wo_takeNumber_73 rfl ?_
        have hJ : ∀ v48 : Int, v48 = (if (v42 = 0) then 1 else 3) → mWm G y_Wo_takeNumber (d + 1) 83 [vr a0, vi l1, vi l2, vi l3, vi v42] [vi v48, vr a0] M30 (fun r9 M9 => ∃ x9, r9 = some (vi x9) ∧ Q x9 M9) := by
          intro v48 e50
          have h := h v48 e50
          have h51 : i32 v48 := by rw [e50]; (repeat' split) <;> first | exact ⟨by decide, by decide⟩ | exact ⟨by decide, by decide⟩
          obtain ⟨h52, h⟩ := h
          refine wm_iload_n d_Wo_takeNumber_83 rfl rfl ?_
          refine wm_iload_n d_Wo_takeNumber_84 rfl rfl ?_
          refine cf_Wo_43 rfl d_Wo_takeNumber_85 h52 (Nat.le_of_ble_eq_true rfl) (Cv.mono h (fun M53 h => ?_))
          obtain ⟨hOM53, h⟩ := h
          refine wm_iload d_Wo_takeNumber_88 rfl ?_
          obtain ⟨s59, h⟩ := h
          have hJ : ∀ v58 : Int, v58 = (if (v42 = 0) then mI M53 a0 1 else l3) → mWm G y_Wo_takeNumber (d + 1) 101 [vd, vd, vd, vd, vd] [vi v58] M53 (fun r9 M9 => ∃ x9, r9 = some (vi x9) ∧ Q x9 M9) := by
            intro v58 e60
            have h := h v58 e60
            refine wm_ireturn d_Wo_takeNumber_101 rfl rfl ?_
            exact ⟨_, rfl, h⟩
          clear h
          have s61 := s59
          refine wm_if_eq (tgt := 97) d_Wo_takeNumber_90 rfl h45 (fun c56 => ?_) (fun c56 => ?_)
          · have s61 := s61 c56
            have h57 := s61
            refine wm_aload_n d_Wo_takeNumber_97 rfl rfl ?_
            refine gf_Wo_25 rfl d_Wo_takeNumber_98 h57 ?_
            refine wm_less (L' := [vd, vd, vd, vd, vd]) ⟨Or.inl rfl, Or.inl rfl, Or.inl rfl, Or.inl rfl, Or.inl rfl, trivial⟩ ?_
            exact hJ (mI M53 a0 1) (if_pos c56).symm
          · refine wm_iload_n d_Wo_takeNumber_93 rfl rfl ?_
            refine wm_goto (tgt := 101) d_Wo_takeNumber_94 rfl ?_
            refine wm_less (L' := [vd, vd, vd, vd, vd]) ⟨Or.inl rfl, Or.inl rfl, Or.inl rfl, Or.inl rfl, Or.inl rfl, trivial⟩ ?_
            exact hJ l3 (if_neg c56).symm
        clear h
        refine wm_if_eq (tgt := 82) d_Wo_takeNumber_75 rfl h45 (fun c47 => ?_) (fun c47 => ?_)
        · refine wm_iconst d_Wo_takeNumber_82 ?_
          exact hJ 1 (if_pos c47).symm
        · refine wm_iconst d_Wo_takeNumber_78 ?_
          refine wm_goto (tgt := 83) d_Wo_takeNumber_79 rfl ?_
          exact hJ 3 (if_neg c47).symm
      clear h
      refine wm_icmp_gt (tgt := 69) d_Wo_takeNumber_62 rfl h40 ⟨by decide, by decide⟩ (fun c41 => ?_) (fun c41 => ?_)
      · refine wm_iconst d_Wo_takeNumber_69 ?_
        exact hJ 0 (if_pos c41).symm
      · refine wm_iconst d_Wo_takeNumber_65 ?_
        refine wm_goto (tgt := 70) d_Wo_takeNumber_66 rfl ?_
        exact hJ 1 (if_neg c41).symm
    · replace h := h.2 c39
      obtain ⟨h65, h⟩ := h
      refine wm_iload_n d_Wo_takeNumber_24 rfl rfl ?_
      refine wm_iload_n d_Wo_takeNumber_25 rfl rfl ?_
      refine wm_isub d_Wo_takeNumber_26 ?_
      refine wm_bipush d_Wo_takeNumber_27 (by decide) ?_
      obtain ⟨s71, h⟩ := h
      have hJ : ∀ v70 : Int, v70 = (if (9 ≤ l3 - l1) then 0 else (10 * l2) + ((mI M30 (mR M30 a0 0) (Int.toNat l3)) - 48)) → mWm G y_Wo_takeNumber (d + 1) 50 [vr a0, vi l1, vd, vi l3, vd] [vi v70] M30 (fun r9 M9 => ∃ x9, r9 = some (vi x9) ∧ Q x9 M9) := by
        intro v70 e72
        have h := h v70 e72
        refine wm_istore_n d_Wo_takeNumber_50 rfl (by decide) (L' := [vr a0, vi l1, vi v70, vi l3, vd]) rfl ?_
        refine wm_iinc d_Wo_takeNumber_51 (by decide) rfl (L' := [vr a0, vi l1, vi v70, vi (l3 + 1), vd]) rfl ?_
        refine wm_goto (tgt := 4) d_Wo_takeNumber_54 rfl ?_
        exact h
      clear h
      have s73 := s71
      refine wm_icmp_ge (tgt := 49) d_Wo_takeNumber_29 rfl h65 ⟨by decide, by decide⟩ (fun c66 => ?_) (fun c66 => ?_)
      · refine wm_iconst d_Wo_takeNumber_49 ?_
        refine wm_less (L' := [vr a0, vi l1, vd, vi l3, vd]) ⟨Or.inr rfl, Or.inr rfl, Or.inl rfl, Or.inr rfl, Or.inl rfl, trivial⟩ ?_
        exact hJ 0 (if_pos c66).symm
      · have s73 := s73 c66
        obtain ⟨h67, h68, h69⟩ := s73
        refine wm_bipush d_Wo_takeNumber_32 (by decide) ?_
        refine wm_iload_n d_Wo_takeNumber_34 rfl rfl ?_
        refine wm_imul d_Wo_takeNumber_35 ?_
        refine wm_aload_n d_Wo_takeNumber_36 rfl rfl ?_
        refine gf_Wo_9 rfl d_Wo_takeNumber_37 h67 ?_
        refine wm_iload_n d_Wo_takeNumber_40 rfl rfl ?_
        refine wm_cald d_Wo_takeNumber_41 h68 h69 ?_
        refine wm_bipush d_Wo_takeNumber_42 (by decide) ?_
        refine wm_isub d_Wo_takeNumber_44 ?_
        refine wm_iadd d_Wo_takeNumber_45 ?_
        refine wm_goto (tgt := 50) d_Wo_takeNumber_46 rfl ?_
        refine wm_less (L' := [vr a0, vi l1, vd, vi l3, vd]) ⟨Or.inr rfl, Or.inr rfl, Or.inl rfl, Or.inr rfl, Or.inl rfl, trivial⟩ ?_
        exact hJ ((10 * l2) + ((mI M30 (mR M30 a0 0) (Int.toNat l3)) - 48)) (if_neg c66).symm
theorem d_Wo_isLetter_0 : decode y_Wo_isLetter.2.1 0 = .ok (.iload_n 0, 1) := dc9_26 (by decide +kernel)
theorem d_Wo_isLetter_1 : decode y_Wo_isLetter.2.1 1 = .ok (.bipush 97, 2) := dc9_16 (by decide +kernel)
theorem d_Wo_isLetter_3 : decode y_Wo_isLetter.2.1 3 = .ok (.if_icmp .lt 9, 3) := dc9_161 (by decide +kernel)
theorem d_Wo_isLetter_12 : decode y_Wo_isLetter.2.1 12 = .ok (.iload_n 0, 1) := dc9_26 (by decide +kernel)
theorem d_Wo_isLetter_13 : decode y_Wo_isLetter.2.1 13 = .ok (.bipush 65, 2) := dc9_16 (by decide +kernel)
theorem d_Wo_isLetter_15 : decode y_Wo_isLetter.2.1 15 = .ok (.if_icmp .lt 13, 3) := dc9_161 (by decide +kernel)
theorem d_Wo_isLetter_28 : decode y_Wo_isLetter.2.1 28 = .ok (.iconst 0, 1) := dc9_3 (by decide +kernel)
theorem d_Wo_isLetter_18 : decode y_Wo_isLetter.2.1 18 = .ok (.iload_n 0, 1) := dc9_26 (by decide +kernel)
theorem d_Wo_isLetter_19 : decode y_Wo_isLetter.2.1 19 = .ok (.bipush 90, 2) := dc9_16 (by decide +kernel)
theorem d_Wo_isLetter_21 : decode y_Wo_isLetter.2.1 21 = .ok (.if_icmp .gt 7, 3) := dc9_163 (by decide +kernel)
theorem d_Wo_isLetter_24 : decode y_Wo_isLetter.2.1 24 = .ok (.iconst 1, 1) := dc9_4 (by decide +kernel)
theorem d_Wo_isLetter_25 : decode y_Wo_isLetter.2.1 25 = .ok (.goto 4, 3) := dc9_167 (by decide +kernel)
theorem d_Wo_isLetter_6 : decode y_Wo_isLetter.2.1 6 = .ok (.iload_n 0, 1) := dc9_26 (by decide +kernel)
theorem d_Wo_isLetter_7 : decode y_Wo_isLetter.2.1 7 = .ok (.bipush 122, 2) := dc9_16 (by decide +kernel)
theorem d_Wo_isLetter_9 : decode y_Wo_isLetter.2.1 9 = .ok (.if_icmp .le 15, 3) := dc9_164 (by decide +kernel)
theorem d_Wo_isLetter_29 : decode y_Wo_isLetter.2.1 29 = .ok (.ireturn, 1) := dc9_172 (by decide +kernel)
theorem k_Wo_isLetter {G : mG} {d : Nat} {l0 : Int} {M : mM} {Q : Int → mM → Prop} (hO : mOk M) (hi_l0 : i32 l0)
    (h : ∀ v7 : Int, v7 = (if (((l0 < 97) ∧ ((l0 < 65) ∨ (90 < l0))) ∨ ((¬ (l0 < 97)) ∧ ((¬ (l0 ≤ 122)) ∧ ((l0 < 65) ∨ (90 < l0))))) then 0 else 1) → Q v7 M) :
    Ci G y_Wo_isLetter d [vi l0] M Q := by
  refine wm_open (y := y_Wo_isLetter) rfl (Nat.le_of_ble_eq_true rfl) (L := [vi l0]) rfl ?_
  refine wm_iload_n d_Wo_isLetter_0 rfl rfl ?_
  refine wm_bipush d_Wo_isLetter_1 (by decide) ?_
  have hJ : ∀ v7 : Int, v7 = (if (((l0 < 97) ∧ ((l0 < 65) ∨ (90 < l0))) ∨ ((¬ (l0 < 97)) ∧ ((¬ (l0 ≤ 122)) ∧ ((l0 < 65) ∨ (90 < l0))))) then 0 else 1) → mWm G y_Wo_isLetter d 29 [vd] [vi v7] M (fun r9 M9 => ∃ x9, r9 = some (vi x9) ∧ Q x9 M9) := by
    intro v7 e9
    have h := h v7 e9
    have h10 : i32 v7 := by rw [e9]; (repeat' split) <;> first | exact ⟨by decide, by decide⟩ | exact ⟨by decide, by decide⟩
    have h11 : (v7 = 0 ∨ v7 = 1) := by rw [e9]; (repeat' split) <;> decide
    refine wm_ireturn d_Wo_isLetter_29 rfl (m_nb h11) ?_
    exact ⟨_, rfl, h⟩
  clear h
  refine wm_icmp_lt (tgt := 12) d_Wo_isLetter_3 rfl hi_l0 ⟨by decide, by decide⟩ (fun c1 => ?_) (fun c1 => ?_)
  · refine wm_iload_n d_Wo_isLetter_12 rfl rfl ?_
    refine wm_bipush d_Wo_isLetter_13 (by decide) ?_
    refine wm_icmp_lt (tgt := 28) d_Wo_isLetter_15 rfl hi_l0 ⟨by decide, by decide⟩ (fun c2 => ?_) (fun c2 => ?_)
    · refine wm_iconst d_Wo_isLetter_28 ?_
      refine wm_less (L' := [vd]) ⟨Or.inl rfl, trivial⟩ ?_
      exact hJ 0 (if_pos (Or.inl ⟨c1, (Or.inl c2)⟩)).symm
    · refine wm_iload_n d_Wo_isLetter_18 rfl rfl ?_
      refine wm_bipush d_Wo_isLetter_19 (by decide) ?_
      refine wm_icmp_gt (tgt := 28) d_Wo_isLetter_21 rfl hi_l0 ⟨by decide, by decide⟩ (fun c3 => ?_) (fun c3 => ?_)
      · refine wm_iconst d_Wo_isLetter_28 ?_
        refine wm_less (L' := [vd]) ⟨Or.inl rfl, trivial⟩ ?_
        exact hJ 0 (if_pos (Or.inl ⟨c1, (Or.inr c3)⟩)).symm
      · refine wm_iconst d_Wo_isLetter_24 ?_
        refine wm_goto (tgt := 29) d_Wo_isLetter_25 rfl ?_
        refine wm_less (L' := [vd]) ⟨Or.inl rfl, trivial⟩ ?_
        exact hJ 1 (if_neg (fun z12 => Or.elim z12 (fun w => (fun z13 => Or.elim z13 c2 c3) w.2) (fun w => w.1 c1))).symm
  · refine wm_iload_n d_Wo_isLetter_6 rfl rfl ?_
    refine wm_bipush d_Wo_isLetter_7 (by decide) ?_
    refine wm_icmp_le (tgt := 24) d_Wo_isLetter_9 rfl hi_l0 ⟨by decide, by decide⟩ (fun c4 => ?_) (fun c4 => ?_)
    · refine wm_iconst d_Wo_isLetter_24 ?_
      refine wm_goto (tgt := 29) d_Wo_isLetter_25 rfl ?_
      refine wm_less (L' := [vd]) ⟨Or.inl rfl, trivial⟩ ?_
      exact hJ 1 (if_neg (fun z15 => Or.elim z15 (fun w => c1 w.1) (fun w => (fun z16 => z16.1 c4) w.2))).symm
    · refine wm_iload_n d_Wo_isLetter_12 rfl rfl ?_
      refine wm_bipush d_Wo_isLetter_13 (by decide) ?_
      refine wm_icmp_lt (tgt := 28) d_Wo_isLetter_15 rfl hi_l0 ⟨by decide, by decide⟩ (fun c5 => ?_) (fun c5 => ?_)
      · refine wm_iconst d_Wo_isLetter_28 ?_
        refine wm_less (L' := [vd]) ⟨Or.inl rfl, trivial⟩ ?_
        exact hJ 0 (if_pos (Or.inr ⟨c1, ⟨c4, (Or.inl c5)⟩⟩)).symm
      · refine wm_iload_n d_Wo_isLetter_18 rfl rfl ?_
        refine wm_bipush d_Wo_isLetter_19 (by decide) ?_
        refine wm_icmp_gt (tgt := 28) d_Wo_isLetter_21 rfl hi_l0 ⟨by decide, by decide⟩ (fun c6 => ?_) (fun c6 => ?_)
        · refine wm_iconst d_Wo_isLetter_28 ?_
          refine wm_less (L' := [vd]) ⟨Or.inl rfl, trivial⟩ ?_
          exact hJ 0 (if_pos (Or.inr ⟨c1, ⟨c4, (Or.inr c6)⟩⟩)).symm
        · refine wm_iconst d_Wo_isLetter_24 ?_
          refine wm_goto (tgt := 29) d_Wo_isLetter_25 rfl ?_
          refine wm_less (L' := [vd]) ⟨Or.inl rfl, trivial⟩ ?_
          exact hJ 1 (if_neg (fun z17 => Or.elim z17 (fun w => c1 w.1) (fun w => (fun z18 => (fun z19 => Or.elim z19 c5 c6) z18.2) w.2))).symm
theorem d_Wo_isDigit_0 : decode y_Wo_isDigit.2.1 0 = .ok (.iload_n 0, 1) := dc9_26 (by decide +kernel)
theorem d_Wo_isDigit_1 : decode y_Wo_isDigit.2.1 1 = .ok (.bipush 48, 2) := dc9_16 (by decide +kernel)
theorem d_Wo_isDigit_3 : decode y_Wo_isDigit.2.1 3 = .ok (.if_icmp .lt 13, 3) := dc9_161 (by decide +kernel)
theorem d_Wo_isDigit_16 : decode y_Wo_isDigit.2.1 16 = .ok (.iconst 0, 1) := dc9_3 (by decide +kernel)
theorem d_Wo_isDigit_6 : decode y_Wo_isDigit.2.1 6 = .ok (.iload_n 0, 1) := dc9_26 (by decide +kernel)
theorem d_Wo_isDigit_7 : decode y_Wo_isDigit.2.1 7 = .ok (.bipush 57, 2) := dc9_16 (by decide +kernel)
theorem d_Wo_isDigit_9 : decode y_Wo_isDigit.2.1 9 = .ok (.if_icmp .gt 7, 3) := dc9_163 (by decide +kernel)
theorem d_Wo_isDigit_12 : decode y_Wo_isDigit.2.1 12 = .ok (.iconst 1, 1) := dc9_4 (by decide +kernel)
theorem d_Wo_isDigit_13 : decode y_Wo_isDigit.2.1 13 = .ok (.goto 4, 3) := dc9_167 (by decide +kernel)
theorem d_Wo_isDigit_17 : decode y_Wo_isDigit.2.1 17 = .ok (.ireturn, 1) := dc9_172 (by decide +kernel)
theorem k_Wo_isDigit {G : mG} {d : Nat} {l0 : Int} {M : mM} {Q : Int → mM → Prop} (hO : mOk M) (hi_l0 : i32 l0)
    (h : ∀ v3 : Int, v3 = (if ((l0 < 48) ∨ (57 < l0)) then 0 else 1) → Q v3 M) :
    Ci G y_Wo_isDigit d [vi l0] M Q := by
  refine wm_open (y := y_Wo_isDigit) rfl (Nat.le_of_ble_eq_true rfl) (L := [vi l0]) rfl ?_
  refine wm_iload_n d_Wo_isDigit_0 rfl rfl ?_
  refine wm_bipush d_Wo_isDigit_1 (by decide) ?_
  have hJ : ∀ v3 : Int, v3 = (if ((l0 < 48) ∨ (57 < l0)) then 0 else 1) → mWm G y_Wo_isDigit d 17 [vd] [vi v3] M (fun r9 M9 => ∃ x9, r9 = some (vi x9) ∧ Q x9 M9) := by
    intro v3 e5
    have h := h v3 e5
    have h6 : i32 v3 := by rw [e5]; (repeat' split) <;> first | exact ⟨by decide, by decide⟩ | exact ⟨by decide, by decide⟩
    have h7 : (v3 = 0 ∨ v3 = 1) := by rw [e5]; (repeat' split) <;> decide
    refine wm_ireturn d_Wo_isDigit_17 rfl (m_nb h7) ?_
    exact ⟨_, rfl, h⟩
  clear h
  refine wm_icmp_lt (tgt := 16) d_Wo_isDigit_3 rfl hi_l0 ⟨by decide, by decide⟩ (fun c1 => ?_) (fun c1 => ?_)
  · refine wm_iconst d_Wo_isDigit_16 ?_
    refine wm_less (L' := [vd]) ⟨Or.inl rfl, trivial⟩ ?_
    exact hJ 0 (if_pos (Or.inl c1)).symm
  · refine wm_iload_n d_Wo_isDigit_6 rfl rfl ?_
    refine wm_bipush d_Wo_isDigit_7 (by decide) ?_
    refine wm_icmp_gt (tgt := 16) d_Wo_isDigit_9 rfl hi_l0 ⟨by decide, by decide⟩ (fun c2 => ?_) (fun c2 => ?_)
    · refine wm_iconst d_Wo_isDigit_16 ?_
      refine wm_less (L' := [vd]) ⟨Or.inl rfl, trivial⟩ ?_
      exact hJ 0 (if_pos (Or.inr c2)).symm
    · refine wm_iconst d_Wo_isDigit_12 ?_
      refine wm_goto (tgt := 17) d_Wo_isDigit_13 rfl ?_
      refine wm_less (L' := [vd]) ⟨Or.inl rfl, trivial⟩ ?_
      exact hJ 1 (if_neg (fun z8 => Or.elim z8 c1 c2)).symm
theorem d_Wo_longSign_0 : decode y_Wo_longSign.2.1 0 = .ok (.iload_n 0, 1) := dc9_26 (by decide +kernel)
theorem d_Wo_longSign_1 : decode y_Wo_longSign.2.1 1 = .ok (.bipush 46, 2) := dc9_16 (by decide +kernel)
theorem d_Wo_longSign_3 : decode y_Wo_longSign.2.1 3 = .ok (.if_icmp .ne 12, 3) := dc9_160 (by decide +kernel)
theorem d_Wo_longSign_6 : decode y_Wo_longSign.2.1 6 = .ok (.iload_n 1, 1) := dc9_27 (by decide +kernel)
theorem d_Wo_longSign_7 : decode y_Wo_longSign.2.1 7 = .ok (.bipush 46, 2) := dc9_16 (by decide +kernel)
theorem d_Wo_longSign_9 : decode y_Wo_longSign.2.1 9 = .ok (.if_icmp .ne 6, 3) := dc9_160 (by decide +kernel)
theorem d_Wo_longSign_12 : decode y_Wo_longSign.2.1 12 = .ok (.bipush 17, 2) := dc9_16 (by decide +kernel)
theorem d_Wo_longSign_14 : decode y_Wo_longSign.2.1 14 = .ok (.ireturn, 1) := dc9_172 (by decide +kernel)
theorem d_Wo_longSign_15 : decode y_Wo_longSign.2.1 15 = .ok (.iload_n 0, 1) := dc9_26 (by decide +kernel)
theorem d_Wo_longSign_16 : decode y_Wo_longSign.2.1 16 = .ok (.bipush 45, 2) := dc9_16 (by decide +kernel)
theorem d_Wo_longSign_18 : decode y_Wo_longSign.2.1 18 = .ok (.if_icmp .ne 12, 3) := dc9_160 (by decide +kernel)
theorem d_Wo_longSign_21 : decode y_Wo_longSign.2.1 21 = .ok (.iload_n 1, 1) := dc9_27 (by decide +kernel)
theorem d_Wo_longSign_22 : decode y_Wo_longSign.2.1 22 = .ok (.bipush 62, 2) := dc9_16 (by decide +kernel)
theorem d_Wo_longSign_24 : decode y_Wo_longSign.2.1 24 = .ok (.if_icmp .ne 6, 3) := dc9_160 (by decide +kernel)
theorem d_Wo_longSign_27 : decode y_Wo_longSign.2.1 27 = .ok (.bipush 18, 2) := dc9_16 (by decide +kernel)
theorem d_Wo_longSign_29 : decode y_Wo_longSign.2.1 29 = .ok (.ireturn, 1) := dc9_172 (by decide +kernel)
theorem d_Wo_longSign_30 : decode y_Wo_longSign.2.1 30 = .ok (.iload_n 1, 1) := dc9_27 (by decide +kernel)
theorem d_Wo_longSign_31 : decode y_Wo_longSign.2.1 31 = .ok (.bipush 61, 2) := dc9_16 (by decide +kernel)
theorem d_Wo_longSign_33 : decode y_Wo_longSign.2.1 33 = .ok (.if_icmp .eq 5, 3) := dc9_159 (by decide +kernel)
theorem d_Wo_longSign_38 : decode y_Wo_longSign.2.1 38 = .ok (.iload_n 0, 1) := dc9_26 (by decide +kernel)
theorem d_Wo_longSign_39 : decode y_Wo_longSign.2.1 39 = .ok (.bipush 33, 2) := dc9_16 (by decide +kernel)
theorem d_Wo_longSign_36 : decode y_Wo_longSign.2.1 36 = .ok (.iconst 1, 1) := dc9_4 (by decide +kernel)
theorem d_Wo_longSign_37 : decode y_Wo_longSign.2.1 37 = .ok (.ireturn, 1) := dc9_172 (by decide +kernel)
theorem d_Wo_longSign_41 : decode y_Wo_longSign.2.1 41 = .ok (.if_icmp .ne 8, 3) := dc9_160 (by decide +kernel)
theorem d_Wo_longSign_44 : decode y_Wo_longSign.2.1 44 = .ok (.bipush 19, 2) := dc9_16 (by decide +kernel)
theorem d_Wo_longSign_46 : decode y_Wo_longSign.2.1 46 = .ok (.goto 26, 3) := dc9_167 (by decide +kernel)
theorem d_Wo_longSign_72 : decode y_Wo_longSign.2.1 72 = .ok (.ireturn, 1) := dc9_172 (by decide +kernel)
theorem d_Wo_longSign_49 : decode y_Wo_longSign.2.1 49 = .ok (.iload_n 0, 1) := dc9_26 (by decide +kernel)
theorem d_Wo_longSign_50 : decode y_Wo_longSign.2.1 50 = .ok (.bipush 60, 2) := dc9_16 (by decide +kernel)
theorem d_Wo_longSign_52 : decode y_Wo_longSign.2.1 52 = .ok (.if_icmp .ne 8, 3) := dc9_160 (by decide +kernel)
theorem d_Wo_longSign_55 : decode y_Wo_longSign.2.1 55 = .ok (.bipush 20, 2) := dc9_16 (by decide +kernel)
theorem d_Wo_longSign_57 : decode y_Wo_longSign.2.1 57 = .ok (.goto 15, 3) := dc9_167 (by decide +kernel)
theorem d_Wo_longSign_60 : decode y_Wo_longSign.2.1 60 = .ok (.iload_n 0, 1) := dc9_26 (by decide +kernel)
theorem d_Wo_longSign_61 : decode y_Wo_longSign.2.1 61 = .ok (.bipush 62, 2) := dc9_16 (by decide +kernel)
theorem d_Wo_longSign_63 : decode y_Wo_longSign.2.1 63 = .ok (.if_icmp .ne 8, 3) := dc9_160 (by decide +kernel)
theorem d_Wo_longSign_66 : decode y_Wo_longSign.2.1 66 = .ok (.bipush 21, 2) := dc9_16 (by decide +kernel)
theorem d_Wo_longSign_68 : decode y_Wo_longSign.2.1 68 = .ok (.goto 4, 3) := dc9_167 (by decide +kernel)
theorem d_Wo_longSign_71 : decode y_Wo_longSign.2.1 71 = .ok (.iconst 1, 1) := dc9_4 (by decide +kernel)
theorem k_Wo_longSign {G : mG} {d : Nat} {l0 : Int} {l1 : Int} {M : mM} {Q : Int → mM → Prop} (hO : mOk M) (hi_l0 : i32 l0) (hi_l1 : i32 l1)
    (h : (((l0 = 46) ∧ (l1 = 46)) → (Q 17 M)) ∧ (¬ ((l0 = 46) ∧ (l1 = 46)) → ((((l0 = 45) ∧ (l1 = 62)) → (Q 18 M)) ∧ (¬ ((l0 = 45) ∧ (l1 = 62)) → (((l1 = 61) → (∀ v19 : Int, v19 = (if l0 = 33 then 19 else (if l0 = 60 then 20 else (if l0 = 62 then 21 else 1))) → Q v19 M)) ∧ (¬ (l1 = 61) → (Q 1 M))))))) :
    Ci G y_Wo_longSign d [vi l0, vi l1] M Q := by
  refine wm_open (y := y_Wo_longSign) rfl (Nat.le_of_ble_eq_true rfl) (L := [vi l0, vi l1]) rfl ?_
  refine wm_iload_n d_Wo_longSign_0 rfl rfl ?_
  refine wm_bipush d_Wo_longSign_1 (by decide) ?_
  have hE0 : ((l0 = 46) ∧ (l1 = 46)) → mWm G y_Wo_longSign d 12 [vi l0, vi l1] [] M (fun r9 M9 => ∃ x9, r9 = some (vi x9) ∧ Q x9 M9) := by
    intro q4
    have h := h.1 q4
    refine wm_bipush d_Wo_longSign_12 (by decide) ?_
    refine wm_ireturn d_Wo_longSign_14 rfl rfl ?_
    exact ⟨_, rfl, h⟩
  have hE1 : ¬ ((l0 = 46) ∧ (l1 = 46)) → mWm G y_Wo_longSign d 15 [vi l0, vi l1] [] M (fun r9 M9 => ∃ x9, r9 = some (vi x9) ∧ Q x9 M9) := by
    intro q5
    have h := h.2 q5
    refine wm_iload_n d_Wo_longSign_15 rfl rfl ?_
    refine wm_bipush d_Wo_longSign_16 (by decide) ?_
    have hE0 : ((l0 = 45) ∧ (l1 = 62)) → mWm G y_Wo_longSign d 27 [vi l0, vi l1] [] M (fun r9 M9 => ∃ x9, r9 = some (vi x9) ∧ Q x9 M9) := by
      intro q9
      have h := h.1 q9
      refine wm_bipush d_Wo_longSign_27 (by decide) ?_
      refine wm_ireturn d_Wo_longSign_29 rfl rfl ?_
      exact ⟨_, rfl, h⟩
    have hE1 : ¬ ((l0 = 45) ∧ (l1 = 62)) → mWm G y_Wo_longSign d 30 [vi l0, vi l1] [] M (fun r9 M9 => ∃ x9, r9 = some (vi x9) ∧ Q x9 M9) := by
      intro q10
      have h := h.2 q10
      refine wm_iload_n d_Wo_longSign_30 rfl rfl ?_
      refine wm_bipush d_Wo_longSign_31 (by decide) ?_
      refine wm_icmp_eq (tgt := 38) d_Wo_longSign_33 rfl hi_l1 ⟨by decide, by decide⟩ (fun c15 => ?_) (fun c15 => ?_)
      · replace h := h.1 c15
        refine wm_iload_n d_Wo_longSign_38 rfl rfl ?_
        refine wm_bipush d_Wo_longSign_39 (by decide) ?_
        have hJ : ∀ v19 : Int, v19 = (if l0 = 33 then 19 else (if l0 = 60 then 20 else (if l0 = 62 then 21 else 1))) → mWm G y_Wo_longSign d 72 [vd, vd] [vi v19] M (fun r9 M9 => ∃ x9, r9 = some (vi x9) ∧ Q x9 M9) := by
          intro v19 e21
          have h := h v19 e21
          have h22 : i32 v19 := by rw [e21]; (repeat' split) <;> first | exact ⟨by decide, by decide⟩ | exact ⟨by decide, by decide⟩ | exact ⟨by decide, by decide⟩ | exact ⟨by decide, by decide⟩
          refine wm_ireturn d_Wo_longSign_72 rfl rfl ?_
          exact ⟨_, rfl, h⟩
        clear h
        refine wm_icmp_ne (tgt := 49) d_Wo_longSign_41 rfl hi_l0 ⟨by decide, by decide⟩ (fun c16 => ?_) (fun c16 => ?_)
        · refine wm_iload_n d_Wo_longSign_49 rfl rfl ?_
          refine wm_bipush d_Wo_longSign_50 (by decide) ?_
          refine wm_icmp_ne (tgt := 60) d_Wo_longSign_52 rfl hi_l0 ⟨by decide, by decide⟩ (fun c17 => ?_) (fun c17 => ?_)
          · refine wm_iload_n d_Wo_longSign_60 rfl rfl ?_
            refine wm_bipush d_Wo_longSign_61 (by decide) ?_
            refine wm_icmp_ne (tgt := 71) d_Wo_longSign_63 rfl hi_l0 ⟨by decide, by decide⟩ (fun c18 => ?_) (fun c18 => ?_)
            · refine wm_iconst d_Wo_longSign_71 ?_
              refine wm_less (L' := [vd, vd]) ⟨Or.inl rfl, Or.inl rfl, trivial⟩ ?_
              exact hJ 1 (by rw [if_neg c16, if_neg c17, if_neg c18])
            · replace c18 := Classical.not_not.mp c18
              refine wm_bipush d_Wo_longSign_66 (by decide) ?_
              refine wm_goto (tgt := 72) d_Wo_longSign_68 rfl ?_
              refine wm_less (L' := [vd, vd]) ⟨Or.inl rfl, Or.inl rfl, trivial⟩ ?_
              exact hJ 21 (by rw [if_neg c16, if_neg c17, if_pos c18])
          · replace c17 := Classical.not_not.mp c17
            refine wm_bipush d_Wo_longSign_55 (by decide) ?_
            refine wm_goto (tgt := 72) d_Wo_longSign_57 rfl ?_
            refine wm_less (L' := [vd, vd]) ⟨Or.inl rfl, Or.inl rfl, trivial⟩ ?_
            exact hJ 20 (by rw [if_neg c16, if_pos c17])
        · replace c16 := Classical.not_not.mp c16
          refine wm_bipush d_Wo_longSign_44 (by decide) ?_
          refine wm_goto (tgt := 72) d_Wo_longSign_46 rfl ?_
          refine wm_less (L' := [vd, vd]) ⟨Or.inl rfl, Or.inl rfl, trivial⟩ ?_
          exact hJ 19 (by rw [if_pos c16])
      · replace h := h.2 c15
        refine wm_iconst d_Wo_longSign_36 ?_
        refine wm_ireturn d_Wo_longSign_37 rfl rfl ?_
        exact ⟨_, rfl, h⟩
    clear h
    refine wm_icmp_ne (tgt := 30) d_Wo_longSign_18 rfl hi_l0 ⟨by decide, by decide⟩ (fun c7 => ?_) (fun c7 => ?_)
    · exact hE1 (fun z25 => c7 z25.1)
    · replace c7 := Classical.not_not.mp c7
      refine wm_iload_n d_Wo_longSign_21 rfl rfl ?_
      refine wm_bipush d_Wo_longSign_22 (by decide) ?_
      refine wm_icmp_ne (tgt := 30) d_Wo_longSign_24 rfl hi_l1 ⟨by decide, by decide⟩ (fun c6 => ?_) (fun c6 => ?_)
      · exact hE1 (fun z23 => c6 z23.2)
      · replace c6 := Classical.not_not.mp c6
        exact hE0 ⟨c7, c6⟩
  clear h
  refine wm_icmp_ne (tgt := 15) d_Wo_longSign_3 rfl hi_l0 ⟨by decide, by decide⟩ (fun c2 => ?_) (fun c2 => ?_)
  · exact hE1 (fun z28 => c2 z28.1)
  · replace c2 := Classical.not_not.mp c2
    refine wm_iload_n d_Wo_longSign_6 rfl rfl ?_
    refine wm_bipush d_Wo_longSign_7 (by decide) ?_
    refine wm_icmp_ne (tgt := 15) d_Wo_longSign_9 rfl hi_l1 ⟨by decide, by decide⟩ (fun c1 => ?_) (fun c1 => ?_)
    · exact hE1 (fun z26 => c1 z26.2)
    · replace c1 := Classical.not_not.mp c1
      exact hE0 ⟨c2, c1⟩
theorem d_Wo_shortSign_0 : decode y_Wo_shortSign.2.1 0 = .ok (.iload_n 0, 1) := dc9_26 (by decide +kernel)
theorem d_Wo_shortSign_1 : decode y_Wo_shortSign.2.1 1 = .ok (.lookupswitch 209 #[(33, 185), (37, 176), (38, 179), (39, 206), (40, 200), (41, 203), (42, 170), (43, 164), (44, 197), (45, 167), (47, 173), (58, 191), (59, 194), (60, 155), (61, 161), (62, 158), (63, 188), (124, 182)], 155) := by decide +kernel
theorem z_Wo_shortSign_1_s : lkS #[(33, 185), (37, 176), (38, 179), (39, 206), (40, 200), (41, 203), (42, 170), (43, 164), (44, 197), (45, 167), (47, 173), (58, 191), (59, 194), (60, 155), (61, 161), (62, 158), (63, 188), (124, 182)] := by unfold lkS; decide
theorem d_Wo_shortSign_186 : decode y_Wo_shortSign.2.1 186 = .ok (.bipush 32, 2) := dc9_16 (by decide +kernel)
theorem d_Wo_shortSign_188 : decode y_Wo_shortSign.2.1 188 = .ok (.ireturn, 1) := dc9_172 (by decide +kernel)
theorem d_Wo_shortSign_177 : decode y_Wo_shortSign.2.1 177 = .ok (.bipush 29, 2) := dc9_16 (by decide +kernel)
theorem d_Wo_shortSign_179 : decode y_Wo_shortSign.2.1 179 = .ok (.ireturn, 1) := dc9_172 (by decide +kernel)
theorem d_Wo_shortSign_180 : decode y_Wo_shortSign.2.1 180 = .ok (.bipush 30, 2) := dc9_16 (by decide +kernel)
theorem d_Wo_shortSign_182 : decode y_Wo_shortSign.2.1 182 = .ok (.ireturn, 1) := dc9_172 (by decide +kernel)
theorem d_Wo_shortSign_207 : decode y_Wo_shortSign.2.1 207 = .ok (.bipush 39, 2) := dc9_16 (by decide +kernel)
theorem d_Wo_shortSign_209 : decode y_Wo_shortSign.2.1 209 = .ok (.ireturn, 1) := dc9_172 (by decide +kernel)
theorem d_Wo_shortSign_201 : decode y_Wo_shortSign.2.1 201 = .ok (.bipush 37, 2) := dc9_16 (by decide +kernel)
theorem d_Wo_shortSign_203 : decode y_Wo_shortSign.2.1 203 = .ok (.ireturn, 1) := dc9_172 (by decide +kernel)
theorem d_Wo_shortSign_204 : decode y_Wo_shortSign.2.1 204 = .ok (.bipush 38, 2) := dc9_16 (by decide +kernel)
theorem d_Wo_shortSign_206 : decode y_Wo_shortSign.2.1 206 = .ok (.ireturn, 1) := dc9_172 (by decide +kernel)
theorem d_Wo_shortSign_171 : decode y_Wo_shortSign.2.1 171 = .ok (.bipush 27, 2) := dc9_16 (by decide +kernel)
theorem d_Wo_shortSign_173 : decode y_Wo_shortSign.2.1 173 = .ok (.ireturn, 1) := dc9_172 (by decide +kernel)
theorem d_Wo_shortSign_165 : decode y_Wo_shortSign.2.1 165 = .ok (.bipush 25, 2) := dc9_16 (by decide +kernel)
theorem d_Wo_shortSign_167 : decode y_Wo_shortSign.2.1 167 = .ok (.ireturn, 1) := dc9_172 (by decide +kernel)
theorem d_Wo_shortSign_198 : decode y_Wo_shortSign.2.1 198 = .ok (.bipush 36, 2) := dc9_16 (by decide +kernel)
theorem d_Wo_shortSign_200 : decode y_Wo_shortSign.2.1 200 = .ok (.ireturn, 1) := dc9_172 (by decide +kernel)
theorem d_Wo_shortSign_168 : decode y_Wo_shortSign.2.1 168 = .ok (.bipush 26, 2) := dc9_16 (by decide +kernel)
theorem d_Wo_shortSign_170 : decode y_Wo_shortSign.2.1 170 = .ok (.ireturn, 1) := dc9_172 (by decide +kernel)
theorem d_Wo_shortSign_174 : decode y_Wo_shortSign.2.1 174 = .ok (.bipush 28, 2) := dc9_16 (by decide +kernel)
theorem d_Wo_shortSign_176 : decode y_Wo_shortSign.2.1 176 = .ok (.ireturn, 1) := dc9_172 (by decide +kernel)
theorem d_Wo_shortSign_192 : decode y_Wo_shortSign.2.1 192 = .ok (.bipush 34, 2) := dc9_16 (by decide +kernel)
theorem d_Wo_shortSign_194 : decode y_Wo_shortSign.2.1 194 = .ok (.ireturn, 1) := dc9_172 (by decide +kernel)
theorem d_Wo_shortSign_195 : decode y_Wo_shortSign.2.1 195 = .ok (.bipush 35, 2) := dc9_16 (by decide +kernel)
theorem d_Wo_shortSign_197 : decode y_Wo_shortSign.2.1 197 = .ok (.ireturn, 1) := dc9_172 (by decide +kernel)
theorem d_Wo_shortSign_156 : decode y_Wo_shortSign.2.1 156 = .ok (.bipush 22, 2) := dc9_16 (by decide +kernel)
theorem d_Wo_shortSign_158 : decode y_Wo_shortSign.2.1 158 = .ok (.ireturn, 1) := dc9_172 (by decide +kernel)
theorem d_Wo_shortSign_162 : decode y_Wo_shortSign.2.1 162 = .ok (.bipush 24, 2) := dc9_16 (by decide +kernel)
theorem d_Wo_shortSign_164 : decode y_Wo_shortSign.2.1 164 = .ok (.ireturn, 1) := dc9_172 (by decide +kernel)
theorem d_Wo_shortSign_159 : decode y_Wo_shortSign.2.1 159 = .ok (.bipush 23, 2) := dc9_16 (by decide +kernel)
theorem d_Wo_shortSign_161 : decode y_Wo_shortSign.2.1 161 = .ok (.ireturn, 1) := dc9_172 (by decide +kernel)
theorem d_Wo_shortSign_189 : decode y_Wo_shortSign.2.1 189 = .ok (.bipush 33, 2) := dc9_16 (by decide +kernel)
theorem d_Wo_shortSign_191 : decode y_Wo_shortSign.2.1 191 = .ok (.ireturn, 1) := dc9_172 (by decide +kernel)
theorem d_Wo_shortSign_183 : decode y_Wo_shortSign.2.1 183 = .ok (.bipush 31, 2) := dc9_16 (by decide +kernel)
theorem d_Wo_shortSign_185 : decode y_Wo_shortSign.2.1 185 = .ok (.ireturn, 1) := dc9_172 (by decide +kernel)
theorem d_Wo_shortSign_210 : decode y_Wo_shortSign.2.1 210 = .ok (.iconst 1, 1) := dc9_4 (by decide +kernel)
theorem d_Wo_shortSign_211 : decode y_Wo_shortSign.2.1 211 = .ok (.ireturn, 1) := dc9_172 (by decide +kernel)
theorem k_Wo_shortSign {G : mG} {d : Nat} {l0 : Int} {M : mM} {Q : Int → mM → Prop} (hO : mOk M) (hi_l0 : i32 l0)
    (h : ((l0 = 33) → (Q 32 M)) ∧ (¬ (l0 = 33) → (((l0 = 37) → (Q 29 M)) ∧ (¬ (l0 = 37) → (((l0 = 38) → (Q 30 M)) ∧ (¬ (l0 = 38) → (((l0 = 39) → (Q 39 M)) ∧ (¬ (l0 = 39) → (((l0 = 40) → (Q 37 M)) ∧ (¬ (l0 = 40) → (((l0 = 41) → (Q 38 M)) ∧ (¬ (l0 = 41) → (((l0 = 42) → (Q 27 M)) ∧ (¬ (l0 = 42) → (((l0 = 43) → (Q 25 M)) ∧ (¬ (l0 = 43) → (((l0 = 44) → (Q 36 M)) ∧ (¬ (l0 = 44) → (((l0 = 45) → (Q 26 M)) ∧ (¬ (l0 = 45) → (((l0 = 47) → (Q 28 M)) ∧ (¬ (l0 = 47) → (((l0 = 58) → (Q 34 M)) ∧ (¬ (l0 = 58) → (((l0 = 59) → (Q 35 M)) ∧ (¬ (l0 = 59) → (((l0 = 60) → (Q 22 M)) ∧ (¬ (l0 = 60) → (((l0 = 61) → (Q 24 M)) ∧ (¬ (l0 = 61) → (((l0 = 62) → (Q 23 M)) ∧ (¬ (l0 = 62) → (((l0 = 63) → (Q 33 M)) ∧ (¬ (l0 = 63) → (((l0 = 124) → (Q 31 M)) ∧ (¬ (l0 = 124) → (Q 1 M))))))))))))))))))))))))))))))))))))) :
    Ci G y_Wo_shortSign d [vi l0] M Q := by
  refine wm_open (y := y_Wo_shortSign) rfl (Nat.le_of_ble_eq_true rfl) (L := [vi l0]) rfl ?_
  refine wm_iload_n d_Wo_shortSign_0 rfl rfl ?_
  by_cases c1 : l0 = 33
  · replace h := h.1 c1
    refine wm_lookup (tgt := 186) (off := 185) d_Wo_shortSign_1 z_Wo_shortSign_1_s hi_l0 (by rw [c1]; rfl) rfl ?_
    refine wm_bipush d_Wo_shortSign_186 (by decide) ?_
    refine wm_ireturn d_Wo_shortSign_188 rfl rfl ?_
    exact ⟨_, rfl, h⟩
  · replace h := h.2 c1
    by_cases c2 : l0 = 37
    · replace h := h.1 c2
      refine wm_lookup (tgt := 177) (off := 176) d_Wo_shortSign_1 z_Wo_shortSign_1_s hi_l0 (by rw [c2]; rfl) rfl ?_
      refine wm_bipush d_Wo_shortSign_177 (by decide) ?_
      refine wm_ireturn d_Wo_shortSign_179 rfl rfl ?_
      exact ⟨_, rfl, h⟩
    · replace h := h.2 c2
      by_cases c3 : l0 = 38
      · replace h := h.1 c3
        refine wm_lookup (tgt := 180) (off := 179) d_Wo_shortSign_1 z_Wo_shortSign_1_s hi_l0 (by rw [c3]; rfl) rfl ?_
        refine wm_bipush d_Wo_shortSign_180 (by decide) ?_
        refine wm_ireturn d_Wo_shortSign_182 rfl rfl ?_
        exact ⟨_, rfl, h⟩
      · replace h := h.2 c3
        by_cases c4 : l0 = 39
        · replace h := h.1 c4
          refine wm_lookup (tgt := 207) (off := 206) d_Wo_shortSign_1 z_Wo_shortSign_1_s hi_l0 (by rw [c4]; rfl) rfl ?_
          refine wm_bipush d_Wo_shortSign_207 (by decide) ?_
          refine wm_ireturn d_Wo_shortSign_209 rfl rfl ?_
          exact ⟨_, rfl, h⟩
        · replace h := h.2 c4
          by_cases c5 : l0 = 40
          · replace h := h.1 c5
            refine wm_lookup (tgt := 201) (off := 200) d_Wo_shortSign_1 z_Wo_shortSign_1_s hi_l0 (by rw [c5]; rfl) rfl ?_
            refine wm_bipush d_Wo_shortSign_201 (by decide) ?_
            refine wm_ireturn d_Wo_shortSign_203 rfl rfl ?_
            exact ⟨_, rfl, h⟩
          · replace h := h.2 c5
            by_cases c6 : l0 = 41
            · replace h := h.1 c6
              refine wm_lookup (tgt := 204) (off := 203) d_Wo_shortSign_1 z_Wo_shortSign_1_s hi_l0 (by rw [c6]; rfl) rfl ?_
              refine wm_bipush d_Wo_shortSign_204 (by decide) ?_
              refine wm_ireturn d_Wo_shortSign_206 rfl rfl ?_
              exact ⟨_, rfl, h⟩
            · replace h := h.2 c6
              by_cases c7 : l0 = 42
              · replace h := h.1 c7
                refine wm_lookup (tgt := 171) (off := 170) d_Wo_shortSign_1 z_Wo_shortSign_1_s hi_l0 (by rw [c7]; rfl) rfl ?_
                refine wm_bipush d_Wo_shortSign_171 (by decide) ?_
                refine wm_ireturn d_Wo_shortSign_173 rfl rfl ?_
                exact ⟨_, rfl, h⟩
              · replace h := h.2 c7
                by_cases c8 : l0 = 43
                · replace h := h.1 c8
                  refine wm_lookup (tgt := 165) (off := 164) d_Wo_shortSign_1 z_Wo_shortSign_1_s hi_l0 (by rw [c8]; rfl) rfl ?_
                  refine wm_bipush d_Wo_shortSign_165 (by decide) ?_
                  refine wm_ireturn d_Wo_shortSign_167 rfl rfl ?_
                  exact ⟨_, rfl, h⟩
                · replace h := h.2 c8
                  by_cases c9 : l0 = 44
                  · replace h := h.1 c9
                    refine wm_lookup (tgt := 198) (off := 197) d_Wo_shortSign_1 z_Wo_shortSign_1_s hi_l0 (by rw [c9]; rfl) rfl ?_
                    refine wm_bipush d_Wo_shortSign_198 (by decide) ?_
                    refine wm_ireturn d_Wo_shortSign_200 rfl rfl ?_
                    exact ⟨_, rfl, h⟩
                  · replace h := h.2 c9
                    by_cases c10 : l0 = 45
                    · replace h := h.1 c10
                      refine wm_lookup (tgt := 168) (off := 167) d_Wo_shortSign_1 z_Wo_shortSign_1_s hi_l0 (by rw [c10]; rfl) rfl ?_
                      refine wm_bipush d_Wo_shortSign_168 (by decide) ?_
                      refine wm_ireturn d_Wo_shortSign_170 rfl rfl ?_
                      exact ⟨_, rfl, h⟩
                    · replace h := h.2 c10
                      by_cases c11 : l0 = 47
                      · replace h := h.1 c11
                        refine wm_lookup (tgt := 174) (off := 173) d_Wo_shortSign_1 z_Wo_shortSign_1_s hi_l0 (by rw [c11]; rfl) rfl ?_
                        refine wm_bipush d_Wo_shortSign_174 (by decide) ?_
                        refine wm_ireturn d_Wo_shortSign_176 rfl rfl ?_
                        exact ⟨_, rfl, h⟩
                      · replace h := h.2 c11
                        by_cases c12 : l0 = 58
                        · replace h := h.1 c12
                          refine wm_lookup (tgt := 192) (off := 191) d_Wo_shortSign_1 z_Wo_shortSign_1_s hi_l0 (by rw [c12]; rfl) rfl ?_
                          refine wm_bipush d_Wo_shortSign_192 (by decide) ?_
                          refine wm_ireturn d_Wo_shortSign_194 rfl rfl ?_
                          exact ⟨_, rfl, h⟩
                        · replace h := h.2 c12
                          by_cases c13 : l0 = 59
                          · replace h := h.1 c13
                            refine wm_lookup (tgt := 195) (off := 194) d_Wo_shortSign_1 z_Wo_shortSign_1_s hi_l0 (by rw [c13]; rfl) rfl ?_
                            refine wm_bipush d_Wo_shortSign_195 (by decide) ?_
                            refine wm_ireturn d_Wo_shortSign_197 rfl rfl ?_
                            exact ⟨_, rfl, h⟩
                          · replace h := h.2 c13
                            by_cases c14 : l0 = 60
                            · replace h := h.1 c14
                              refine wm_lookup (tgt := 156) (off := 155) d_Wo_shortSign_1 z_Wo_shortSign_1_s hi_l0 (by rw [c14]; rfl) rfl ?_
                              refine wm_bipush d_Wo_shortSign_156 (by decide) ?_
                              refine wm_ireturn d_Wo_shortSign_158 rfl rfl ?_
                              exact ⟨_, rfl, h⟩
                            · replace h := h.2 c14
                              by_cases c15 : l0 = 61
                              · replace h := h.1 c15
                                refine wm_lookup (tgt := 162) (off := 161) d_Wo_shortSign_1 z_Wo_shortSign_1_s hi_l0 (by rw [c15]; rfl) rfl ?_
                                refine wm_bipush d_Wo_shortSign_162 (by decide) ?_
                                refine wm_ireturn d_Wo_shortSign_164 rfl rfl ?_
                                exact ⟨_, rfl, h⟩
                              · replace h := h.2 c15
                                by_cases c16 : l0 = 62
                                · replace h := h.1 c16
                                  refine wm_lookup (tgt := 159) (off := 158) d_Wo_shortSign_1 z_Wo_shortSign_1_s hi_l0 (by rw [c16]; rfl) rfl ?_
                                  refine wm_bipush d_Wo_shortSign_159 (by decide) ?_
                                  refine wm_ireturn d_Wo_shortSign_161 rfl rfl ?_
                                  exact ⟨_, rfl, h⟩
                                · replace h := h.2 c16
                                  by_cases c17 : l0 = 63
                                  · replace h := h.1 c17
                                    refine wm_lookup (tgt := 189) (off := 188) d_Wo_shortSign_1 z_Wo_shortSign_1_s hi_l0 (by rw [c17]; rfl) rfl ?_
                                    refine wm_bipush d_Wo_shortSign_189 (by decide) ?_
                                    refine wm_ireturn d_Wo_shortSign_191 rfl rfl ?_
                                    exact ⟨_, rfl, h⟩
                                  · replace h := h.2 c17
                                    by_cases c18 : l0 = 124
                                    · replace h := h.1 c18
                                      refine wm_lookup (tgt := 183) (off := 182) d_Wo_shortSign_1 z_Wo_shortSign_1_s hi_l0 (by rw [c18]; rfl) rfl ?_
                                      refine wm_bipush d_Wo_shortSign_183 (by decide) ?_
                                      refine wm_ireturn d_Wo_shortSign_185 rfl rfl ?_
                                      exact ⟨_, rfl, h⟩
                                    · replace h := h.2 c18
                                      refine wm_lookup (tgt := 210) (off := 209) d_Wo_shortSign_1 z_Wo_shortSign_1_s hi_l0 (by simp [Op.lookupswitch.offset]; repeat rw [if_neg (by omega)]) rfl ?_
                                      refine wm_iconst d_Wo_shortSign_210 ?_
                                      refine wm_ireturn d_Wo_shortSign_211 rfl rfl ?_
                                      exact ⟨_, rfl, h⟩
theorem d_Wo_same_0 : decode y_Wo_same.2.1 0 = .ok (.iconst 0, 1) := dc9_3 (by decide +kernel)
theorem d_Wo_same_1 : decode y_Wo_same.2.1 1 = .ok (.istore 4, 2) := dc9_54 (by decide +kernel)
theorem d_Wo_same_3 : decode y_Wo_same.2.1 3 = .ok (.iload 4, 2) := dc9_21 (by decide +kernel)
theorem d_Wo_same_5 : decode y_Wo_same.2.1 5 = .ok (.iload_n 3, 1) := dc9_29 (by decide +kernel)
theorem d_Wo_same_6 : decode y_Wo_same.2.1 6 = .ok (.if_icmp .ge 32, 3) := dc9_162 (by decide +kernel)
theorem d_Wo_same_38 : decode y_Wo_same.2.1 38 = .ok (.iconst 1, 1) := dc9_4 (by decide +kernel)
theorem d_Wo_same_39 : decode y_Wo_same.2.1 39 = .ok (.ireturn, 1) := dc9_172 (by decide +kernel)
theorem d_Wo_same_9 : decode y_Wo_same.2.1 9 = .ok (.aload_n 0, 1) := dc9_42 (by decide +kernel)
theorem d_Wo_same_10 : decode y_Wo_same.2.1 10 = .ok (.getfield 9, 3) := dc9_180 (by decide +kernel)
theorem d_Wo_same_13 : decode y_Wo_same.2.1 13 = .ok (.iload_n 1, 1) := dc9_27 (by decide +kernel)
theorem d_Wo_same_14 : decode y_Wo_same.2.1 14 = .ok (.iload 4, 2) := dc9_21 (by decide +kernel)
theorem d_Wo_same_16 : decode y_Wo_same.2.1 16 = .ok (.iadd, 1) := dc9_96 (by decide +kernel)
theorem d_Wo_same_17 : decode y_Wo_same.2.1 17 = .ok (.caload, 1) := dc9_52 (by decide +kernel)
theorem d_Wo_same_18 : decode y_Wo_same.2.1 18 = .ok (.aload_n 0, 1) := dc9_42 (by decide +kernel)
theorem d_Wo_same_19 : decode y_Wo_same.2.1 19 = .ok (.getfield 9, 3) := dc9_180 (by decide +kernel)
theorem d_Wo_same_22 : decode y_Wo_same.2.1 22 = .ok (.iload_n 2, 1) := dc9_28 (by decide +kernel)
theorem d_Wo_same_23 : decode y_Wo_same.2.1 23 = .ok (.iload 4, 2) := dc9_21 (by decide +kernel)
theorem d_Wo_same_25 : decode y_Wo_same.2.1 25 = .ok (.iadd, 1) := dc9_96 (by decide +kernel)
theorem d_Wo_same_26 : decode y_Wo_same.2.1 26 = .ok (.caload, 1) := dc9_52 (by decide +kernel)
theorem d_Wo_same_27 : decode y_Wo_same.2.1 27 = .ok (.if_icmp .eq 5, 3) := dc9_159 (by decide +kernel)
theorem d_Wo_same_32 : decode y_Wo_same.2.1 32 = .ok (.iinc 4 1, 3) := by decide +kernel
theorem d_Wo_same_35 : decode y_Wo_same.2.1 35 = .ok (.goto (-32), 3) := dc9_167 (by decide +kernel)
theorem d_Wo_same_30 : decode y_Wo_same.2.1 30 = .ok (.iconst 0, 1) := dc9_3 (by decide +kernel)
theorem d_Wo_same_31 : decode y_Wo_same.2.1 31 = .ok (.ireturn, 1) := dc9_172 (by decide +kernel)
def h_Wo_same_3 (G : mG) (d : Nat) (a0 : Nat) (l1 : Int) (l2 : Int) (l3 : Int) (l4 : Int) (M : mM) (Q : Int → mM → Prop) : Prop := mWm G y_Wo_same d 3 [vr a0, vi l1, vi l2, vi l3, vi l4] [] M (fun r9 M9 => ∃ x9, r9 = some (vi x9) ∧ Q x9 M9)
theorem k_Wo_same {G : mG} {d : Nat} {a0 : Nat} {l1 : Int} {l2 : Int} {l3 : Int} {M : mM} {Q : Int → mM → Prop} (hO : mOk M) (hi_l1 : i32 l1) (hi_l2 : i32 l2) (hi_l3 : i32 l3)
    (h : h_Wo_same_3 G d a0 l1 l2 l3 0 M Q) :
    Ci G y_Wo_same d [vr a0, vi l1, vi l2, vi l3] M Q := by
  refine wm_open (y := y_Wo_same) rfl (Nat.le_of_ble_eq_true rfl) (L := [vr a0, vi l1, vi l2, vi l3, vd]) rfl ?_
  refine wm_iconst d_Wo_same_0 ?_
  refine wm_istore d_Wo_same_1 (by decide) (L' := [vr a0, vi l1, vi l2, vi l3, vi 0]) rfl ?_
  exact h
theorem k_Wo_same_3 {G : mG} {d : Nat} {a0 : Nat} {l1 : Int} {l2 : Int} {l3 : Int} {l4 : Int} {M : mM} {Q : Int → mM → Prop} (hO : mOk M) (hi_l1 : i32 l1) (hi_l2 : i32 l2) (hi_l3 : i32 l3) (hi_l4 : i32 l4)
    (h : ((l3 ≤ l4) → (Q 1 M)) ∧ (¬ (l3 ≤ l4) → (mK M a0 = 2 ∧ mK M (mR M a0 0) = 32 ∧ ((0 : Int) ≤ l1 + l4 ∧ l1 + l4 < (mN M (mR M a0 0) : Int)) ∧ ((0 : Int) ≤ l2 + l4 ∧ l2 + l4 < (mN M (mR M a0 0) : Int)) ∧ ((mI M (mR M a0 0) (Int.toNat (l1 + l4)) = mI M (mR M a0 0) (Int.toNat (l2 + l4))) → (h_Wo_same_3 G d a0 l1 l2 l3 (l4 + 1) M Q)) ∧ (¬ (mI M (mR M a0 0) (Int.toNat (l1 + l4)) = mI M (mR M a0 0) (Int.toNat (l2 + l4))) → (Q 0 M))))) :
    h_Wo_same_3 G d a0 l1 l2 l3 l4 M Q := by
  unfold h_Wo_same_3
  refine wm_iload d_Wo_same_3 rfl ?_
  refine wm_iload_n d_Wo_same_5 rfl rfl ?_
  refine wm_icmp_ge (tgt := 38) d_Wo_same_6 rfl hi_l4 hi_l3 (fun c7 => ?_) (fun c7 => ?_)
  · replace h := h.1 c7
    refine wm_iconst d_Wo_same_38 ?_
    refine wm_ireturn d_Wo_same_39 rfl (m_nb (by decide)) ?_
    exact ⟨_, rfl, h⟩
  · replace h := h.2 c7
    obtain ⟨h8, h⟩ := h
    obtain ⟨h9, h⟩ := h
    obtain ⟨h10, h⟩ := h
    obtain ⟨h11, h⟩ := h
    refine wm_aload_n d_Wo_same_9 rfl rfl ?_
    refine gf_Wo_9 rfl d_Wo_same_10 h8 ?_
    refine wm_iload_n d_Wo_same_13 rfl rfl ?_
    refine wm_iload d_Wo_same_14 rfl ?_
    refine wm_iadd d_Wo_same_16 ?_
    refine wm_cald d_Wo_same_17 h9 h10 ?_
    refine wm_aload_n d_Wo_same_18 rfl rfl ?_
    refine gf_Wo_9 rfl d_Wo_same_19 h8 ?_
    refine wm_iload_n d_Wo_same_22 rfl rfl ?_
    refine wm_iload d_Wo_same_23 rfl ?_
    refine wm_iadd d_Wo_same_25 ?_
    refine wm_cald d_Wo_same_26 h9 h11 ?_
    refine wm_icmp_eq (tgt := 32) d_Wo_same_27 rfl (hO _ _).1 (hO _ _).1 (fun c13 => ?_) (fun c13 => ?_)
    · replace h := h.1 c13
      refine wm_iinc d_Wo_same_32 (by decide) rfl (L' := [vr a0, vi l1, vi l2, vi l3, vi (l4 + 1)]) rfl ?_
      refine wm_goto (tgt := 3) d_Wo_same_35 rfl ?_
      exact h
    · replace h := h.2 c13
      refine wm_iconst d_Wo_same_30 ?_
      refine wm_ireturn d_Wo_same_31 rfl (m_nb (by decide)) ?_
      exact ⟨_, rfl, h⟩
theorem d_MF_init_0 : decode y_MF_init.2.1 0 = .ok (.aload_n 0, 1) := dc9_42 (by decide +kernel)
theorem d_MF_init_1 : decode y_MF_init.2.1 1 = .ok (.invokespecial 1, 3) := dc9_183 (by decide +kernel)
theorem d_MF_init_4 : decode y_MF_init.2.1 4 = .ok (.aload_n 0, 1) := dc9_42 (by decide +kernel)
theorem d_MF_init_5 : decode y_MF_init.2.1 5 = .ok (.new 7, 3) := dc9_187 (by decide +kernel)
theorem d_MF_init_8 : decode y_MF_init.2.1 8 = .ok (.dup, 1) := dc9_89 (by decide +kernel)
theorem d_MF_init_9 : decode y_MF_init.2.1 9 = .ok (.iload_n 1, 1) := dc9_27 (by decide +kernel)
theorem d_MF_init_10 : decode y_MF_init.2.1 10 = .ok (.invokespecial 9, 3) := dc9_183 (by decide +kernel)
theorem d_MF_init_13 : decode y_MF_init.2.1 13 = .ok (.putfield 12, 3) := dc9_181 (by decide +kernel)
theorem d_MF_init_16 : decode y_MF_init.2.1 16 = .ok (.aload_n 0, 1) := dc9_42 (by decide +kernel)
theorem d_MF_init_17 : decode y_MF_init.2.1 17 = .ok (.new 7, 3) := dc9_187 (by decide +kernel)
theorem d_MF_init_20 : decode y_MF_init.2.1 20 = .ok (.dup, 1) := dc9_89 (by decide +kernel)
theorem d_MF_init_21 : decode y_MF_init.2.1 21 = .ok (.iload_n 1, 1) := dc9_27 (by decide +kernel)
theorem d_MF_init_22 : decode y_MF_init.2.1 22 = .ok (.invokespecial 9, 3) := dc9_183 (by decide +kernel)
theorem d_MF_init_25 : decode y_MF_init.2.1 25 = .ok (.putfield 18, 3) := dc9_181 (by decide +kernel)
theorem d_MF_init_28 : decode y_MF_init.2.1 28 = .ok (.aload_n 0, 1) := dc9_42 (by decide +kernel)
theorem d_MF_init_29 : decode y_MF_init.2.1 29 = .ok (.getfield 18, 3) := dc9_180 (by decide +kernel)
theorem d_MF_init_32 : decode y_MF_init.2.1 32 = .ok (.lconst 1, 1) := dc9_10 (by decide +kernel)
theorem d_MF_init_33 : decode y_MF_init.2.1 33 = .ok (.invokevirtual 21, 3) := dc9_182 (by decide +kernel)
theorem d_MF_init_36 : decode y_MF_init.2.1 36 = .ok (.return_, 1) := dc9_177 (by decide +kernel)
theorem k_MF_init {G : mG} {d : Nat} {a0 : Nat} {l1 : Int} {M : mM} {Q : mM → Prop} (hO : mOk M) (hi_l1 : i32 l1)
    (h : 0 < a0 ∧ ∀ M2, M2 = mNew M 20 0 2 → Cv G y_MW_init d [vr (mZ M), vi l1] M2 (fun M4 => mOk M4 ∧ (mK M4 a0 = 19 ∧ ∀ M8, M8 = mUR M4 a0 0 (mZ M) → ∀ M10, M10 = mNew M8 20 0 2 → Cv G y_MW_init d [vr (mZ M8), vi l1] M10 (fun M12 => mOk M12 ∧ (mK M12 a0 = 19 ∧ ∀ M16, M16 = mUR M12 a0 1 (mZ M8) → mK M16 (mR M16 a0 1) = 20 ∧ Cv G y_MW_set d [vr (mR M16 a0 1), vl 1] M16 (fun M19 => mOk M19 ∧ (Q M19))))))) :
    Cv G y_MF_init (d + 1) [vr a0, vi l1] M Q := by
  refine wm_open (y := y_MF_init) rfl (Nat.le_of_ble_eq_true rfl) (L := [vr a0, vi l1]) rfl ?_
  obtain ⟨h1, h⟩ := h
  obtain ⟨M2, e3⟩ : ∃ M2, M2 = mNew M 20 0 2 := ⟨_, rfl⟩
  replace h := h M2 e3
  refine wm_aload_n d_MF_init_0 rfl rfl ?_
  refine wm_objInit trivial k9_162 kO_inst kO_code (Nat.le_of_ble_eq_true rfl) d_MF_init_1 h1 ?_
  refine wm_aload_n d_MF_init_4 rfl rfl ?_
  have hOM2 : mOk M2 := by rw [e3]; exact mOk_New hO
  refine nf_MF_7 rfl d_MF_init_5 e3 ?_
  refine wm_dup d_MF_init_8 rfl ?_
  refine wm_iload_n d_MF_init_9 rfl rfl ?_
  refine cf_MF_9 rfl d_MF_init_10 (by rw [e3]; exact if_pos rfl) (Nat.le_of_ble_eq_true rfl) (Cv.mono h (fun M4 h => ?_))
  obtain ⟨hOM4, h⟩ := h
  obtain ⟨h7, h⟩ := h
  obtain ⟨M8, e9⟩ : ∃ M8, M8 = mUR M4 a0 0 (mZ M) := ⟨_, rfl⟩
  replace h := h M8 e9
  obtain ⟨M10, e11⟩ : ∃ M10, M10 = mNew M8 20 0 2 := ⟨_, rfl⟩
  replace h := h M10 e11
  have hOM8 : mOk M8 := by rw [e9]; exact mOk_UR hOM4
  refine pf_MF_12 rfl rfl d_MF_init_13 h7 e9 ?_
  refine wm_aload_n d_MF_init_16 rfl rfl ?_
  have hOM10 : mOk M10 := by rw [e11]; exact mOk_New hOM8
  refine nf_MF_7 rfl d_MF_init_17 e11 ?_
  refine wm_dup d_MF_init_20 rfl ?_
  refine wm_iload_n d_MF_init_21 rfl rfl ?_
  refine cf_MF_9 rfl d_MF_init_22 (by rw [e11]; exact if_pos rfl) (Nat.le_of_ble_eq_true rfl) (Cv.mono h (fun M12 h => ?_))
  obtain ⟨hOM12, h⟩ := h
  obtain ⟨h15, h⟩ := h
  obtain ⟨M16, e17⟩ : ∃ M16, M16 = mUR M12 a0 1 (mZ M8) := ⟨_, rfl⟩
  replace h := h M16 e17
  obtain ⟨h18, h⟩ := h
  have hOM16 : mOk M16 := by rw [e17]; exact mOk_UR hOM12
  refine pf_MF_18 rfl rfl d_MF_init_25 h15 e17 ?_
  refine wm_aload_n d_MF_init_28 rfl rfl ?_
  refine gf_MF_18 rfl d_MF_init_29 (by rw [e17]; exact h15) ?_
  refine wm_lconst (x := 1) d_MF_init_32 rfl ?_
  refine cf_MF_21 rfl d_MF_init_33 h18 (Nat.le_of_ble_eq_true rfl) (Cv.mono h (fun M19 h => ?_))
  obtain ⟨hOM19, h⟩ := h
  refine wm_return d_MF_init_36 rfl ?_
  exact ⟨rfl, h⟩
theorem d_MF_set_0 : decode y_MF_set.2.1 0 = .ok (.aload_n 0, 1) := dc9_42 (by decide +kernel)
theorem d_MF_set_1 : decode y_MF_set.2.1 1 = .ok (.lload_n 1, 1) := dc9_31 (by decide +kernel)
theorem d_MF_set_2 : decode y_MF_set.2.1 2 = .ok (.lconst 0, 1) := dc9_9 (by decide +kernel)
theorem d_MF_set_3 : decode y_MF_set.2.1 3 = .ok (.lcmp, 1) := dc9_148 (by decide +kernel)
theorem d_MF_set_4 : decode y_MF_set.2.1 4 = .ok (.ifCond .ge 7, 3) := dc9_156 (by decide +kernel)
theorem d_MF_set_11 : decode y_MF_set.2.1 11 = .ok (.iconst 0, 1) := dc9_3 (by decide +kernel)
theorem d_MF_set_7 : decode y_MF_set.2.1 7 = .ok (.iconst 1, 1) := dc9_4 (by decide +kernel)
theorem d_MF_set_8 : decode y_MF_set.2.1 8 = .ok (.goto 4, 3) := dc9_167 (by decide +kernel)
theorem d_MF_set_12 : decode y_MF_set.2.1 12 = .ok (.putfield 25, 3) := dc9_181 (by decide +kernel)
theorem d_MF_set_15 : decode y_MF_set.2.1 15 = .ok (.aload_n 0, 1) := dc9_42 (by decide +kernel)
theorem d_MF_set_16 : decode y_MF_set.2.1 16 = .ok (.getfield 12, 3) := dc9_180 (by decide +kernel)
theorem d_MF_set_19 : decode y_MF_set.2.1 19 = .ok (.lload_n 1, 1) := dc9_31 (by decide +kernel)
theorem d_MF_set_20 : decode y_MF_set.2.1 20 = .ok (.lconst 0, 1) := dc9_9 (by decide +kernel)
theorem d_MF_set_21 : decode y_MF_set.2.1 21 = .ok (.lcmp, 1) := dc9_148 (by decide +kernel)
theorem d_MF_set_22 : decode y_MF_set.2.1 22 = .ok (.ifCond .ge 8, 3) := dc9_156 (by decide +kernel)
theorem d_MF_set_30 : decode y_MF_set.2.1 30 = .ok (.lload_n 1, 1) := dc9_31 (by decide +kernel)
theorem d_MF_set_25 : decode y_MF_set.2.1 25 = .ok (.lload_n 1, 1) := dc9_31 (by decide +kernel)
theorem d_MF_set_26 : decode y_MF_set.2.1 26 = .ok (.lneg, 1) := dc9_117 (by decide +kernel)
theorem d_MF_set_27 : decode y_MF_set.2.1 27 = .ok (.goto 4, 3) := dc9_167 (by decide +kernel)
theorem d_MF_set_31 : decode y_MF_set.2.1 31 = .ok (.invokevirtual 21, 3) := dc9_182 (by decide +kernel)
theorem d_MF_set_34 : decode y_MF_set.2.1 34 = .ok (.aload_n 0, 1) := dc9_42 (by decide +kernel)
theorem d_MF_set_35 : decode y_MF_set.2.1 35 = .ok (.getfield 18, 3) := dc9_180 (by decide +kernel)
theorem d_MF_set_38 : decode y_MF_set.2.1 38 = .ok (.lload_n 3, 1) := dc9_33 (by decide +kernel)
theorem d_MF_set_39 : decode y_MF_set.2.1 39 = .ok (.invokevirtual 21, 3) := dc9_182 (by decide +kernel)
theorem d_MF_set_42 : decode y_MF_set.2.1 42 = .ok (.return_, 1) := dc9_177 (by decide +kernel)
theorem k_MF_set {G : mG} {d : Nat} {a0 : Nat} {j1 : Int} {j3 : Int} {M : mM} {Q : mM → Prop} (hO : mOk M) (hi_j1 : i64 j1) (hi_j3 : i64 j3)
    (h : ∀ v2 : Int, v2 = (if (0 ≤ cmpL j1 0) then 0 else 1) → mK M a0 = 19 ∧ ∀ M8, M8 = mUI M a0 2 v2 → ∀ v11 : Int, v11 = (if (0 ≤ cmpL j1 0) then j1 else -j1) → mK M8 (mR M8 a0 0) = 20 ∧ Cv G y_MW_set d [vr (mR M8 a0 0), vl v11] M8 (fun M15 => mOk M15 ∧ (mK M15 a0 = 19 ∧ mK M15 (mR M15 a0 1) = 20 ∧ Cv G y_MW_set d [vr (mR M15 a0 1), vl j3] M15 (fun M20 => mOk M20 ∧ (Q M20))))) :
    Cv G y_MF_set (d + 1) [vr a0, vl j1, vl j3] M Q := by
  refine wm_open (y := y_MF_set) rfl (Nat.le_of_ble_eq_true rfl) (L := [vr a0, vl j1, vd, vl j3, vd]) rfl ?_
  refine wm_aload_n d_MF_set_0 rfl rfl ?_
  refine wm_lload_n d_MF_set_1 rfl rfl ?_
  refine wm_lconst (x := 0) d_MF_set_2 rfl ?_
  refine wm_lcmp d_MF_set_3 hi_j1 ⟨by decide, by decide⟩ ?_
  have hJ : ∀ v2 : Int, v2 = (if (0 ≤ cmpL j1 0) then 0 else 1) → mWm G y_MF_set (d + 1) 12 [vr a0, vl j1, vd, vl j3, vd] [vi v2, vr a0] M (fun r9 M9 => r9 = none ∧ Q M9) := by
    intro v2 e4
    have h := h v2 e4
    have h5 : i32 v2 := by rw [e4]; (repeat' split) <;> first | exact ⟨by decide, by decide⟩ | exact ⟨by decide, by decide⟩
    have h6 : (v2 = 0 ∨ v2 = 1) := by rw [e4]; (repeat' split) <;> decide
    obtain ⟨h7, h⟩ := h
    obtain ⟨M8, e9⟩ : ∃ M8, M8 = mUI M a0 2 v2 := ⟨_, rfl⟩
    replace h := h M8 e9
    have hOM8 : mOk M8 := by rw [e9]; exact mOk_UI hO (m_b32 h6)
    refine pf_MF_25 rfl d_MF_set_12 h7 h6 e9 ?_
    refine wm_aload_n d_MF_set_15 rfl rfl ?_
    refine gf_MF_12 rfl d_MF_set_16 (by rw [e9]; exact h7) ?_
    refine wm_lload_n d_MF_set_19 rfl rfl ?_
    refine wm_lconst (x := 0) d_MF_set_20 rfl ?_
    refine wm_lcmp d_MF_set_21 hi_j1 ⟨by decide, by decide⟩ ?_
    have hJ : ∀ v11 : Int, v11 = (if (0 ≤ cmpL j1 0) then j1 else -j1) → mWm G y_MF_set (d + 1) 31 [vr a0, vd, vd, vl j3, vd] [vl v11, vr (mR M8 a0 0)] M8 (fun r9 M9 => r9 = none ∧ Q M9) := by
      intro v11 e13
      have h := h v11 e13
      obtain ⟨h14, h⟩ := h
      refine cf_MF_21 rfl d_MF_set_31 h14 (Nat.le_of_ble_eq_true rfl) (Cv.mono h (fun M15 h => ?_))
      obtain ⟨hOM15, h⟩ := h
      obtain ⟨h18, h⟩ := h
      obtain ⟨h19, h⟩ := h
      refine wm_aload_n d_MF_set_34 rfl rfl ?_
      refine gf_MF_18 rfl d_MF_set_35 h18 ?_
      refine wm_lload_n d_MF_set_38 rfl rfl ?_
      refine cf_MF_21 rfl d_MF_set_39 h19 (Nat.le_of_ble_eq_true rfl) (Cv.mono h (fun M20 h => ?_))
      obtain ⟨hOM20, h⟩ := h
      refine wm_return d_MF_set_42 rfl ?_
      exact ⟨rfl, h⟩
    clear h
    refine wm_if_ge (tgt := 30) d_MF_set_22 rfl (m_cmp32 _ _) (fun c10 => ?_) (fun c10 => ?_)
    · refine wm_lload_n d_MF_set_30 rfl rfl ?_
      refine wm_less (L' := [vr a0, vd, vd, vl j3, vd]) ⟨Or.inr rfl, Or.inl rfl, Or.inl rfl, Or.inr rfl, Or.inl rfl, trivial⟩ ?_
      exact hJ j1 (if_pos c10).symm
    · refine wm_lload_n d_MF_set_25 rfl rfl ?_
      refine wm_lneg d_MF_set_26 ?_
      refine wm_goto (tgt := 31) d_MF_set_27 rfl ?_
      refine wm_less (L' := [vr a0, vd, vd, vl j3, vd]) ⟨Or.inr rfl, Or.inl rfl, Or.inl rfl, Or.inr rfl, Or.inl rfl, trivial⟩ ?_
      exact hJ (-j1) (if_neg c10).symm
  clear h
  refine wm_if_ge (tgt := 11) d_MF_set_4 rfl (m_cmp32 _ _) (fun c1 => ?_) (fun c1 => ?_)
  · refine wm_iconst d_MF_set_11 ?_
    exact hJ 0 (if_pos c1).symm
  · refine wm_iconst d_MF_set_7 ?_
    refine wm_goto (tgt := 12) d_MF_set_8 rfl ?_
    exact hJ 1 (if_neg c1).symm
theorem d_MF_copy_0 : decode y_MF_copy.2.1 0 = .ok (.aload_n 0, 1) := dc9_42 (by decide +kernel)
theorem d_MF_copy_1 : decode y_MF_copy.2.1 1 = .ok (.aload_n 1, 1) := dc9_43 (by decide +kernel)
theorem d_MF_copy_2 : decode y_MF_copy.2.1 2 = .ok (.getfield 25, 3) := dc9_180 (by decide +kernel)
theorem d_MF_copy_5 : decode y_MF_copy.2.1 5 = .ok (.putfield 25, 3) := dc9_181 (by decide +kernel)
theorem d_MF_copy_8 : decode y_MF_copy.2.1 8 = .ok (.aload_n 0, 1) := dc9_42 (by decide +kernel)
theorem d_MF_copy_9 : decode y_MF_copy.2.1 9 = .ok (.getfield 12, 3) := dc9_180 (by decide +kernel)
theorem d_MF_copy_12 : decode y_MF_copy.2.1 12 = .ok (.aload_n 1, 1) := dc9_43 (by decide +kernel)
theorem d_MF_copy_13 : decode y_MF_copy.2.1 13 = .ok (.getfield 12, 3) := dc9_180 (by decide +kernel)
theorem d_MF_copy_16 : decode y_MF_copy.2.1 16 = .ok (.invokevirtual 29, 3) := dc9_182 (by decide +kernel)
theorem d_MF_copy_19 : decode y_MF_copy.2.1 19 = .ok (.aload_n 0, 1) := dc9_42 (by decide +kernel)
theorem d_MF_copy_20 : decode y_MF_copy.2.1 20 = .ok (.getfield 18, 3) := dc9_180 (by decide +kernel)
theorem d_MF_copy_23 : decode y_MF_copy.2.1 23 = .ok (.aload_n 1, 1) := dc9_43 (by decide +kernel)
theorem d_MF_copy_24 : decode y_MF_copy.2.1 24 = .ok (.getfield 18, 3) := dc9_180 (by decide +kernel)
theorem d_MF_copy_27 : decode y_MF_copy.2.1 27 = .ok (.invokevirtual 29, 3) := dc9_182 (by decide +kernel)
theorem d_MF_copy_30 : decode y_MF_copy.2.1 30 = .ok (.return_, 1) := dc9_177 (by decide +kernel)
theorem k_MF_copy {G : mG} {d : Nat} {a0 : Nat} {a1 : Nat} {M : mM} {Q : mM → Prop} (hO : mOk M)
    (h : mK M a1 = 19 ∧ mK M a0 = 19 ∧ ((mI M a1 2) = 0 ∨ (mI M a1 2) = 1) ∧ ∀ M4, M4 = mUI M a0 2 (mI M a1 2) → mK M4 (mR M4 a0 0) = 20 ∧ Cv G y_MW_copy d [vr (mR M4 a0 0), vr (mR M4 a1 0)] M4 (fun M7 => mOk M7 ∧ (mK M7 a0 = 19 ∧ mK M7 a1 = 19 ∧ mK M7 (mR M7 a0 1) = 20 ∧ Cv G y_MW_copy d [vr (mR M7 a0 1), vr (mR M7 a1 1)] M7 (fun M13 => mOk M13 ∧ (Q M13))))) :
    Cv G y_MF_copy (d + 1) [vr a0, vr a1] M Q := by
  refine wm_open (y := y_MF_copy) rfl (Nat.le_of_ble_eq_true rfl) (L := [vr a0, vr a1]) rfl ?_
  obtain ⟨h1, h⟩ := h
  obtain ⟨h2, h⟩ := h
  obtain ⟨h3, h⟩ := h
  obtain ⟨M4, e5⟩ : ∃ M4, M4 = mUI M a0 2 (mI M a1 2) := ⟨_, rfl⟩
  replace h := h M4 e5
  obtain ⟨h6, h⟩ := h
  refine wm_aload_n d_MF_copy_0 rfl rfl ?_
  refine wm_aload_n d_MF_copy_1 rfl rfl ?_
  refine gf_MF_25 rfl d_MF_copy_2 h1 ?_
  have hOM4 : mOk M4 := by rw [e5]; exact mOk_UI hO (m_b32 h3)
  refine pf_MF_25 rfl d_MF_copy_5 h2 h3 e5 ?_
  refine wm_aload_n d_MF_copy_8 rfl rfl ?_
  refine gf_MF_12 rfl d_MF_copy_9 (by rw [e5]; exact h2) ?_
  refine wm_aload_n d_MF_copy_12 rfl rfl ?_
  refine gf_MF_12 rfl d_MF_copy_13 (by rw [e5]; exact h1) ?_
  refine cf_MF_29 rfl d_MF_copy_16 h6 (Nat.le_of_ble_eq_true rfl) (Cv.mono h (fun M7 h => ?_))
  obtain ⟨hOM7, h⟩ := h
  obtain ⟨h10, h⟩ := h
  obtain ⟨h11, h⟩ := h
  obtain ⟨h12, h⟩ := h
  refine wm_aload_n d_MF_copy_19 rfl rfl ?_
  refine gf_MF_18 rfl d_MF_copy_20 h10 ?_
  refine wm_aload_n d_MF_copy_23 rfl rfl ?_
  refine gf_MF_18 rfl d_MF_copy_24 h11 ?_
  refine cf_MF_29 rfl d_MF_copy_27 h12 (Nat.le_of_ble_eq_true rfl) (Cv.mono h (fun M13 h => ?_))
  obtain ⟨hOM13, h⟩ := h
  refine wm_return d_MF_copy_30 rfl ?_
  exact ⟨rfl, h⟩
theorem d_MF_isZero_0 : decode y_MF_isZero.2.1 0 = .ok (.aload_n 0, 1) := dc9_42 (by decide +kernel)
theorem d_MF_isZero_1 : decode y_MF_isZero.2.1 1 = .ok (.getfield 12, 3) := dc9_180 (by decide +kernel)
theorem d_MF_isZero_4 : decode y_MF_isZero.2.1 4 = .ok (.invokevirtual 33, 3) := dc9_182 (by decide +kernel)
theorem d_MF_isZero_7 : decode y_MF_isZero.2.1 7 = .ok (.ireturn, 1) := dc9_172 (by decide +kernel)
theorem k_MF_isZero {G : mG} {d : Nat} {a0 : Nat} {M : mM} {Q : Int → mM → Prop} (hO : mOk M)
    (h : mK M a0 = 19 ∧ mK M (mR M a0 0) = 20 ∧ Ci G y_MW_isZero d [vr (mR M a0 0)] M (fun x4 M3 => i32 x4 ∧ mOk M3 ∧ ((x4 = 0 ∨ x4 = 1) ∧ Q x4 M3))) :
    Ci G y_MF_isZero (d + 1) [vr a0] M Q := by
  refine wm_open (y := y_MF_isZero) rfl (Nat.le_of_ble_eq_true rfl) (L := [vr a0]) rfl ?_
  obtain ⟨h1, h⟩ := h
  obtain ⟨h2, h⟩ := h
  refine wm_aload_n d_MF_isZero_0 rfl rfl ?_
  refine gf_MF_12 rfl d_MF_isZero_1 h1 ?_
  refine cf_MF_33 rfl d_MF_isZero_4 h2 (Nat.le_of_ble_eq_true rfl) (Ci.mono h (fun x4 M3 h => ?_))
  obtain ⟨h5, hOM3, h⟩ := h
  obtain ⟨h6, h⟩ := h
  refine wm_ireturn d_MF_isZero_7 rfl (m_nb h6) ?_
  exact ⟨_, rfl, h⟩
