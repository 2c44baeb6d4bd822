theorem d_Sc_pick_0 : decode y_Sc_pick.2.1 0 = .ok (.aload_n 0, 1) := by decide +kernel
theorem d_Sc_pick_1 : decode y_Sc_pick.2.1 1 = .ok (.aload_n 1, 1) := by decide +kernel
theorem d_Sc_pick_2 : decode y_Sc_pick.2.1 2 = .ok (.iload_n 2, 1) := by decide +kernel
theorem d_Sc_pick_3 : decode y_Sc_pick.2.1 3 = .ok (.aload 5, 2) := by decide +kernel
theorem d_Sc_pick_5 : decode y_Sc_pick.2.1 5 = .ok (.aload_n 0, 1) := by decide +kernel
theorem d_Sc_pick_6 : decode y_Sc_pick.2.1 6 = .ok (.getfield 46, 3) := by decide +kernel
theorem d_Sc_pick_9 : decode y_Sc_pick.2.1 9 = .ok (.invokevirtual 159, 3) := by decide +kernel
theorem d_Sc_pick_12 : decode y_Sc_pick.2.1 12 = .ok (.iload_n 2, 1) := by decide +kernel
theorem d_Sc_pick_13 : decode y_Sc_pick.2.1 13 = .ok (.istore 6, 2) := by decide +kernel
theorem d_Sc_pick_15 : decode y_Sc_pick.2.1 15 = .ok (.iload_n 2, 1) := by decide +kernel
theorem d_Sc_pick_16 : decode y_Sc_pick.2.1 16 = .ok (.iconst 1, 1) := by decide +kernel
theorem d_Sc_pick_17 : decode y_Sc_pick.2.1 17 = .ok (.iadd, 1) := by decide +kernel
theorem d_Sc_pick_18 : decode y_Sc_pick.2.1 18 = .ok (.istore 7, 2) := by decide +kernel
theorem d_Sc_pick_20 : decode y_Sc_pick.2.1 20 = .ok (.iload 7, 2) := by decide +kernel
theorem d_Sc_pick_22 : decode y_Sc_pick.2.1 22 = .ok (.iload_n 3, 1) := by decide +kernel
theorem d_Sc_pick_23 : decode y_Sc_pick.2.1 23 = .ok (.if_icmp .ge 78, 3) := by decide +kernel
theorem d_Sc_pick_101 : decode y_Sc_pick.2.1 101 = .ok (.iload 6, 2) := by decide +kernel
theorem d_Sc_pick_103 : decode y_Sc_pick.2.1 103 = .ok (.ireturn, 1) := by decide +kernel
theorem d_Sc_pick_26 : decode y_Sc_pick.2.1 26 = .ok (.aload_n 0, 1) := by decide +kernel
theorem d_Sc_pick_27 : decode y_Sc_pick.2.1 27 = .ok (.aload_n 1, 1) := by decide +kernel
theorem d_Sc_pick_28 : decode y_Sc_pick.2.1 28 = .ok (.iload 7, 2) := by decide +kernel
theorem d_Sc_pick_30 : decode y_Sc_pick.2.1 30 = .ok (.aload 5, 2) := by decide +kernel
theorem d_Sc_pick_32 : decode y_Sc_pick.2.1 32 = .ok (.aload_n 0, 1) := by decide +kernel
theorem d_Sc_pick_33 : decode y_Sc_pick.2.1 33 = .ok (.getfield 50, 3) := by decide +kernel
theorem d_Sc_pick_36 : decode y_Sc_pick.2.1 36 = .ok (.invokevirtual 159, 3) := by decide +kernel
theorem d_Sc_pick_39 : decode y_Sc_pick.2.1 39 = .ok (.aload_n 0, 1) := by decide +kernel
theorem d_Sc_pick_40 : decode y_Sc_pick.2.1 40 = .ok (.aload_n 0, 1) := by decide +kernel
theorem d_Sc_pick_41 : decode y_Sc_pick.2.1 41 = .ok (.getfield 50, 3) := by decide +kernel
theorem d_Sc_pick_44 : decode y_Sc_pick.2.1 44 = .ok (.aload_n 0, 1) := by decide +kernel
theorem d_Sc_pick_45 : decode y_Sc_pick.2.1 45 = .ok (.getfield 46, 3) := by decide +kernel
theorem d_Sc_pick_48 : decode y_Sc_pick.2.1 48 = .ok (.invokevirtual 163, 3) := by decide +kernel
theorem d_Sc_pick_51 : decode y_Sc_pick.2.1 51 = .ok (.istore 8, 2) := by decide +kernel
theorem d_Sc_pick_53 : decode y_Sc_pick.2.1 53 = .ok (.iload 4, 2) := by decide +kernel
theorem d_Sc_pick_55 : decode y_Sc_pick.2.1 55 = .ok (.ifCond .eq 11, 3) := by decide +kernel
theorem d_Sc_pick_66 : decode y_Sc_pick.2.1 66 = .ok (.iload 8, 2) := by decide +kernel
theorem d_Sc_pick_68 : decode y_Sc_pick.2.1 68 = .ok (.ifCond .ge 27, 3) := by decide +kernel
theorem d_Sc_pick_71 : decode y_Sc_pick.2.1 71 = .ok (.aload_n 0, 1) := by decide +kernel
theorem d_Sc_pick_72 : decode y_Sc_pick.2.1 72 = .ok (.getfield 46, 3) := by decide +kernel
theorem d_Sc_pick_75 : decode y_Sc_pick.2.1 75 = .ok (.astore 9, 2) := by decide +kernel
theorem d_Sc_pick_77 : decode y_Sc_pick.2.1 77 = .ok (.aload_n 0, 1) := by decide +kernel
theorem d_Sc_pick_78 : decode y_Sc_pick.2.1 78 = .ok (.aload_n 0, 1) := by decide +kernel
theorem d_Sc_pick_79 : decode y_Sc_pick.2.1 79 = .ok (.getfield 50, 3) := by decide +kernel
theorem d_Sc_pick_82 : decode y_Sc_pick.2.1 82 = .ok (.putfield 46, 3) := by decide +kernel
theorem d_Sc_pick_85 : decode y_Sc_pick.2.1 85 = .ok (.aload_n 0, 1) := by decide +kernel
theorem d_Sc_pick_86 : decode y_Sc_pick.2.1 86 = .ok (.aload 9, 2) := by decide +kernel
theorem d_Sc_pick_88 : decode y_Sc_pick.2.1 88 = .ok (.putfield 50, 3) := by decide +kernel
theorem d_Sc_pick_58 : decode y_Sc_pick.2.1 58 = .ok (.iload 8, 2) := by decide +kernel
theorem d_Sc_pick_60 : decode y_Sc_pick.2.1 60 = .ok (.ifCond .le 35, 3) := by decide +kernel
theorem d_Sc_pick_63 : decode y_Sc_pick.2.1 63 = .ok (.goto 8, 3) := by decide +kernel
theorem d_Sc_pick_95 : decode y_Sc_pick.2.1 95 = .ok (.iinc 7 1, 3) := by decide +kernel
theorem d_Sc_pick_98 : decode y_Sc_pick.2.1 98 = .ok (.goto (-78), 3) := by decide +kernel
theorem d_Sc_pick_91 : decode y_Sc_pick.2.1 91 = .ok (.iload 7, 2) := by decide +kernel
theorem d_Sc_pick_93 : decode y_Sc_pick.2.1 93 = .ok (.istore 6, 2) := by decide +kernel
def h_Sc_pick_20 (G : mG) (d : Nat) (a0 : Nat) (a1 : Nat) (l3 : Int) (l4 : Int) (a5 : Nat) (l6 : Int) (l7 : Int) (M : mM) (Q : Int → mM → Prop) : Prop := mWm G y_Sc_pick (d + 1) 20 [vr a0, vr a1, vd, vi l3, vi l4, vr a5, vi l6, vi l7, vd, vd] [] M (fun r9 M9 => ∃ x9, r9 = some (vi x9) ∧ Q x9 M9)
theorem k_Sc_pick {G : mG} {d : Nat} {a0 : Nat} {a1 : Nat} {l2 : Int} {l3 : Int} {l4 : Int} {a5 : Nat} {M : mM} {Q : Int → mM → Prop} (hO : mOk M) (hi_l2 : i32 l2) (hi_l3 : i32 l3) (hi_l4 : i32 l4)
    (h : mK M a0 = 9 ∧ Cv G y_Sc_weigh d [vr a0, vr a1, vi l2, vr a5, vr (mR M a0 9)] M (fun M2 => mOk M2 ∧ (h_Sc_pick_20 G d a0 a1 l3 l4 a5 l2 (l2 + 1) M2 Q))) :
    Ci G y_Sc_pick (d + 1) [vr a0, vr a1, vi l2, vi l3, vi l4, vr a5] M Q := by
  refine wm_open (y := y_Sc_pick) rfl (Nat.le_of_ble_eq_true rfl) (L := [vr a0, vr a1, vi l2, vi l3, vi l4, vr a5, vd, vd, vd, vd]) rfl ?_
  obtain ⟨h1, h⟩ := h
  refine wm_aload_n d_Sc_pick_0 rfl rfl ?_
  refine wm_aload_n d_Sc_pick_1 rfl rfl ?_
  refine wm_iload_n d_Sc_pick_2 rfl rfl ?_
  refine wm_aload d_Sc_pick_3 rfl ?_
  refine wm_aload_n d_Sc_pick_5 rfl rfl ?_
  refine gf_Sc_46 rfl d_Sc_pick_6 h1 ?_
  refine cf_Sc_159 rfl d_Sc_pick_9 h1 (Nat.le_of_ble_eq_true rfl) (Cv.mono h (fun M2 h => ?_))
  obtain ⟨hOM2, h⟩ := h
  refine wm_iload_n d_Sc_pick_12 rfl rfl ?_
  refine wm_istore d_Sc_pick_13 (by decide) (L' := [vr a0, vr a1, vi l2, vi l3, vi l4, vr a5, vi l2, vd, vd, vd]) rfl ?_
  refine wm_iload_n d_Sc_pick_15 rfl rfl ?_
  refine wm_iconst d_Sc_pick_16 ?_
  refine wm_iadd d_Sc_pick_17 ?_
  refine wm_istore d_Sc_pick_18 (by decide) (L' := [vr a0, vr a1, vi l2, vi l3, vi l4, vr a5, vi l2, vi (l2 + 1), vd, vd]) rfl ?_
  refine wm_less (L' := [vr a0, vr a1, vd, vi l3, vi l4, vr a5, vi l2, vi (l2 + 1), vd, vd]) ⟨Or.inr rfl, Or.inr rfl, Or.inl rfl, Or.inr rfl, Or.inr rfl, Or.inr rfl, Or.inr rfl, Or.inr rfl, Or.inl rfl, Or.inl rfl, trivial⟩ ?_
  exact h
theorem k_Sc_pick_20 {G : mG} {d : Nat} {a0 : Nat} {a1 : Nat} {l3 : Int} {l4 : Int} {a5 : Nat} {l6 : Int} {l7 : Int} {M : mM} {Q : Int → mM → Prop} (hO : mOk M) (hi_l3 : i32 l3) (hi_l4 : i32 l4) (hi_l6 : i32 l6) (hi_l7 : i32 l7)
    (h : ((l3 ≤ l7) → (Q l6 M)) ∧ (¬ (l3 ≤ l7) → (mK M a0 = 9 ∧ Cv G y_Sc_weigh d [vr a0, vr a1, vi l7, vr a5, vr (mR M a0 10)] M (fun M8 => mOk M8 ∧ (mK M8 a0 = 9 ∧ Ci G y_Sc_order d [vr a0, vr (mR M8 a0 10), vr (mR M8 a0 9)] M8 (fun x13 M12 => i32 x13 ∧ mOk M12 ∧ (((l4 = 0) → (((0 ≤ x13) → (h_Sc_pick_20 G d a0 a1 l3 l4 a5 l6 (l7 + 1) M12 Q)) ∧ (¬ (0 ≤ x13) → (mK M12 a0 = 9 ∧ ∀ M29, M29 = mUR M12 a0 9 (mR M12 a0 10) → ∀ M31, M31 = mUR M29 a0 10 (mR M12 a0 9) → h_Sc_pick_20 G d a0 a1 l3 l4 a5 l7 (l7 + 1) M31 Q)))) ∧ (¬ (l4 = 0) → (((x13 ≤ 0) → (h_Sc_pick_20 G d a0 a1 l3 l4 a5 l6 (l7 + 1) M12 Q)) ∧ (¬ (x13 ≤ 0) → (mK M12 a0 = 9 ∧ ∀ M38, M38 = mUR M12 a0 9 (mR M12 a0 10) → ∀ M40, M40 = mUR M38 a0 10 (mR M12 a0 9) → h_Sc_pick_20 G d a0 a1 l3 l4 a5 l7 (l7 + 1) M40 Q))))))))))) :
    h_Sc_pick_20 G d a0 a1 l3 l4 a5 l6 l7 M Q := by
  unfold h_Sc_pick_20
  refine wm_iload d_Sc_pick_20 rfl ?_
  refine wm_iload_n d_Sc_pick_22 rfl rfl ?_
  refine wm_icmp_ge (tgt := 101) d_Sc_pick_23 rfl hi_l7 hi_l3 (fun c6 => ?_) (fun c6 => ?_)
  · replace h := h.1 c6
    refine wm_iload d_Sc_pick_101 rfl ?_
    refine wm_ireturn d_Sc_pick_103 rfl rfl ?_
    exact ⟨_, rfl, h⟩
  · replace h := h.2 c6
    obtain ⟨h7, h⟩ := h
    refine wm_aload_n d_Sc_pick_26 rfl rfl ?_
    refine wm_aload_n d_Sc_pick_27 rfl rfl ?_
    refine wm_iload d_Sc_pick_28 rfl ?_
    refine wm_aload d_Sc_pick_30 rfl ?_
    refine wm_aload_n d_Sc_pick_32 rfl rfl ?_
    refine gf_Sc_50 rfl d_Sc_pick_33 h7 ?_
    refine cf_Sc_159 rfl d_Sc_pick_36 h7 (Nat.le_of_ble_eq_true rfl) (Cv.mono h (fun M8 h => ?_))
    obtain ⟨hOM8, h⟩ := h
    obtain ⟨h11, h⟩ := h
    refine wm_aload_n d_Sc_pick_39 rfl rfl ?_
    refine wm_aload_n d_Sc_pick_40 rfl rfl ?_
    refine gf_Sc_50 rfl d_Sc_pick_41 h11 ?_
    refine wm_aload_n d_Sc_pick_44 rfl rfl ?_
    refine gf_Sc_46 rfl d_Sc_pick_45 h11 ?_
    refine cf_Sc_163 rfl d_Sc_pick_48 h11 (Nat.le_of_ble_eq_true rfl) (Ci.mono h (fun x13 M12 h => ?_))
    obtain ⟨h14, hOM12, h⟩ := h
    refine wm_istore d_Sc_pick_51 (by decide) (L' := [vr a0, vr a1, vd, vi l3, vi l4, vr a5, vi l6, vi l7, vi x13, vd]) rfl ?_
    refine wm_iload d_Sc_pick_53 rfl ?_
    refine wm_if_eq (tgt := 66) d_Sc_pick_55 rfl hi_l4 (fun c23 => ?_) (fun c23 => ?_)
    · replace h := h.1 c23
      refine wm_iload d_Sc_pick_66 rfl ?_
      refine wm_if_ge (tgt := 95) d_Sc_pick_68 rfl h14 (fun c27 => ?_) (fun c27 => ?_)
      · replace h := h.1 c27
        refine wm_iinc d_Sc_pick_95 (by decide) rfl (L' := [vr a0, vr a1, vd, vi l3, vi l4, vr a5, vi l6, vi (l7 + 1), vi x13, vd]) rfl ?_
        refine wm_goto (tgt := 20) d_Sc_pick_98 rfl ?_
        refine wm_less (L' := [vr a0, vr a1, vd, vi l3, vi l4, vr a5, vi l6, vi (l7 + 1), vd, vd]) ⟨Or.inr rfl, Or.inr rfl, Or.inl rfl, Or.inr rfl, Or.inr rfl, Or.inr rfl, Or.inr rfl, Or.inr rfl, Or.inl rfl, Or.inl rfl, trivial⟩ ?_
        exact h
      · replace h := h.2 c27
        obtain ⟨h28, h⟩ := h
        obtain ⟨M29, e30⟩ : ∃ M29, M29 = mUR M12 a0 9 (mR M12 a0 10) := ⟨_, rfl⟩
        replace h := h M29 e30
        obtain ⟨M31, e32⟩ : ∃ M31, M31 = mUR M29 a0 10 (mR M12 a0 9) := ⟨_, rfl⟩
        replace h := h M31 e32
        refine wm_aload_n d_Sc_pick_71 rfl rfl ?_
        refine gf_Sc_46 rfl d_Sc_pick_72 h28 ?_
        refine wm_astore d_Sc_pick_75 (by decide) (L' := [vr a0, vr a1, vd, vi l3, vi l4, vr a5, vi l6, vi l7, vi x13, vr (mR M12 a0 9)]) rfl ?_
        refine wm_aload_n d_Sc_pick_77 rfl rfl ?_
        refine wm_aload_n d_Sc_pick_78 rfl rfl ?_
        refine gf_Sc_50 rfl d_Sc_pick_79 h28 ?_
        have hOM29 : mOk M29 := by rw [e30]; exact mOk_UR hOM12
        refine pf_Sc_46 rfl d_Sc_pick_82 h28 e30 ?_
        refine wm_aload_n d_Sc_pick_85 rfl rfl ?_
        refine wm_aload d_Sc_pick_86 rfl ?_
        have hOM31 : mOk M31 := by rw [e32]; exact mOk_UR hOM29
        refine pf_Sc_50 rfl d_Sc_pick_88 (by rw [e30]; exact h28) e32 ?_
        refine wm_iload d_Sc_pick_91 rfl ?_
        refine wm_istore d_Sc_pick_93 (by decide) (L' := [vr a0, vr a1, vd, vi l3, vi l4, vr a5, vi l7, vi l7, vi x13, vr (mR M12 a0 9)]) rfl ?_
        refine wm_iinc d_Sc_pick_95 (by decide) rfl (L' := [vr a0, vr a1, vd, vi l3, vi l4, vr a5, vi l7, vi (l7 + 1), vi x13, vr (mR M12 a0 9)]) rfl ?_
        refine wm_goto (tgt := 20) d_Sc_pick_98 rfl ?_
        refine wm_less (L' := [vr a0, vr a1, vd, vi l3, vi l4, vr a5, vi l7, vi (l7 + 1), vd, vd]) ⟨Or.inr rfl, Or.inr rfl, Or.inl rfl, Or.inr rfl, Or.inr rfl, Or.inr rfl, Or.inr rfl, Or.inr rfl, Or.inl rfl, Or.inl rfl, trivial⟩ ?_
        exact h
    · replace h := h.2 c23
      refine wm_iload d_Sc_pick_58 rfl ?_
      refine wm_if_le (tgt := 95) d_Sc_pick_60 rfl h14 (fun c36 => ?_) (fun c36 => ?_)
      · replace h := h.1 c36
        refine wm_iinc d_Sc_pick_95 (by decide) rfl (L' := [vr a0, vr a1, vd, vi l3, vi l4, vr a5, vi l6, vi (l7 + 1), vi x13, vd]) rfl ?_
        refine wm_goto (tgt := 20) d_Sc_pick_98 rfl ?_
        refine wm_less (L' := [vr a0, vr a1, vd, vi l3, vi l4, vr a5, vi l6, vi (l7 + 1), vd, vd]) ⟨Or.inr rfl, Or.inr rfl, Or.inl rfl, Or.inr rfl, Or.inr rfl, Or.inr rfl, Or.inr rfl, Or.inr rfl, Or.inl rfl, Or.inl rfl, trivial⟩ ?_
        exact h
      · replace h := h.2 c36
        obtain ⟨h37, h⟩ := h
        obtain ⟨M38, e39⟩ : ∃ M38, M38 = mUR M12 a0 9 (mR M12 a0 10) := ⟨_, rfl⟩
        replace h := h M38 e39
        obtain ⟨M40, e41⟩ : ∃ M40, M40 = mUR M38 a0 10 (mR M12 a0 9) := ⟨_, rfl⟩
        replace h := h M40 e41
        refine wm_goto (tgt := 71) d_Sc_pick_63 rfl ?_
        refine wm_aload_n d_Sc_pick_71 rfl rfl ?_
        refine gf_Sc_46 rfl d_Sc_pick_72 h37 ?_
        refine wm_astore d_Sc_pick_75 (by decide) (L' := [vr a0, vr a1, vd, vi l3, vi l4, vr a5, vi l6, vi l7, vi x13, vr (mR M12 a0 9)]) rfl ?_
        refine wm_aload_n d_Sc_pick_77 rfl rfl ?_
        refine wm_aload_n d_Sc_pick_78 rfl rfl ?_
        refine gf_Sc_50 rfl d_Sc_pick_79 h37 ?_
        have hOM38 : mOk M38 := by rw [e39]; exact mOk_UR hOM12
        refine pf_Sc_46 rfl d_Sc_pick_82 h37 e39 ?_
        refine wm_aload_n d_Sc_pick_85 rfl rfl ?_
        refine wm_aload d_Sc_pick_86 rfl ?_
        have hOM40 : mOk M40 := by rw [e41]; exact mOk_UR hOM38
        refine pf_Sc_50 rfl d_Sc_pick_88 (by rw [e39]; exact h37) e41 ?_
        refine wm_iload d_Sc_pick_91 rfl ?_
        refine wm_istore d_Sc_pick_93 (by decide) (L' := [vr a0, vr a1, vd, vi l3, vi l4, vr a5, vi l7, vi l7, vi x13, vr (mR M12 a0 9)]) rfl ?_
        refine wm_iinc d_Sc_pick_95 (by decide) rfl (L' := [vr a0, vr a1, vd, vi l3, vi l4, vr a5, vi l7, vi (l7 + 1), vi x13, vr (mR M12 a0 9)]) rfl ?_
        refine wm_goto (tgt := 20) d_Sc_pick_98 rfl ?_
        refine wm_less (L' := [vr a0, vr a1, vd, vi l3, vi l4, vr a5, vi l7, vi (l7 + 1), vd, vd]) ⟨Or.inr rfl, Or.inr rfl, Or.inl rfl, Or.inr rfl, Or.inr rfl, Or.inr rfl, Or.inr rfl, Or.inr rfl, Or.inl rfl, Or.inl rfl, trivial⟩ ?_
        exact h
theorem d_Sc_orderOfPicked_0 : decode y_Sc_orderOfPicked.2.1 0 = .ok (.aload_n 0, 1) := by decide +kernel
theorem d_Sc_orderOfPicked_1 : decode y_Sc_orderOfPicked.2.1 1 = .ok (.aload_n 0, 1) := by decide +kernel
theorem d_Sc_orderOfPicked_2 : decode y_Sc_orderOfPicked.2.1 2 = .ok (.getfield 46, 3) := by decide +kernel
theorem d_Sc_orderOfPicked_5 : decode y_Sc_orderOfPicked.2.1 5 = .ok (.aload_n 1, 1) := by decide +kernel
theorem d_Sc_orderOfPicked_6 : decode y_Sc_orderOfPicked.2.1 6 = .ok (.invokevirtual 163, 3) := by decide +kernel
theorem d_Sc_orderOfPicked_9 : decode y_Sc_orderOfPicked.2.1 9 = .ok (.ireturn, 1) := by decide +kernel
theorem k_Sc_orderOfPicked {G : mG} {d : Nat} {a0 : Nat} {a1 : Nat} {M : mM} {Q : Int → mM → Prop} (hO : mOk M)
    (h : mK M a0 = 9 ∧ Ci G y_Sc_order d [vr a0, vr (mR M a0 9), vr a1] M (fun x3 M2 => i32 x3 ∧ mOk M2 ∧ (Q x3 M2))) :
    Ci G y_Sc_orderOfPicked (d + 1) [vr a0, vr a1] M Q := by
  refine wm_open (y := y_Sc_orderOfPicked) rfl (Nat.le_of_ble_eq_true rfl) (L := [vr a0, vr a1]) rfl ?_
  obtain ⟨h1, h⟩ := h
  refine wm_aload_n d_Sc_orderOfPicked_0 rfl rfl ?_
  refine wm_aload_n d_Sc_orderOfPicked_1 rfl rfl ?_
  refine gf_Sc_46 rfl d_Sc_orderOfPicked_2 h1 ?_
  refine wm_aload_n d_Sc_orderOfPicked_5 rfl rfl ?_
  refine cf_Sc_163 rfl d_Sc_orderOfPicked_6 h1 (Nat.le_of_ble_eq_true rfl) (Ci.mono h (fun x3 M2 h => ?_))
  obtain ⟨h4, hOM2, h⟩ := h
  refine wm_ireturn d_Sc_orderOfPicked_9 rfl rfl ?_
  exact ⟨_, rfl, h⟩
theorem d_Sc_move_0 : decode y_Sc_move.2.1 0 = .ok (.aload_n 3, 1) := by decide +kernel
theorem d_Sc_move_1 : decode y_Sc_move.2.1 1 = .ok (.aload_n 1, 1) := by decide +kernel
theorem d_Sc_move_2 : decode y_Sc_move.2.1 2 = .ok (.getfield 166, 3) := by decide +kernel
theorem d_Sc_move_5 : decode y_Sc_move.2.1 5 = .ok (.invokevirtual 169, 3) := by decide +kernel
theorem d_Sc_move_8 : decode y_Sc_move.2.1 8 = .ok (.iconst 0, 1) := by decide +kernel
theorem d_Sc_move_9 : decode y_Sc_move.2.1 9 = .ok (.istore 4, 2) := by decide +kernel
theorem d_Sc_move_11 : decode y_Sc_move.2.1 11 = .ok (.iload 4, 2) := by decide +kernel
theorem d_Sc_move_13 : decode y_Sc_move.2.1 13 = .ok (.aload_n 1, 1) := by decide +kernel
theorem d_Sc_move_14 : decode y_Sc_move.2.1 14 = .ok (.getfield 166, 3) := by decide +kernel
theorem d_Sc_move_17 : decode y_Sc_move.2.1 17 = .ok (.if_icmp .ge 110, 3) := by decide +kernel
theorem d_Sc_move_127 : decode y_Sc_move.2.1 127 = .ok (.iconst 1, 1) := by decide +kernel
theorem d_Sc_move_128 : decode y_Sc_move.2.1 128 = .ok (.ireturn, 1) := by decide +kernel
theorem d_Sc_move_20 : decode y_Sc_move.2.1 20 = .ok (.aload_n 1, 1) := by decide +kernel
theorem d_Sc_move_21 : decode y_Sc_move.2.1 21 = .ok (.getfield 172, 3) := by decide +kernel
theorem d_Sc_move_24 : decode y_Sc_move.2.1 24 = .ok (.iload 4, 2) := by decide +kernel
theorem d_Sc_move_26 : decode y_Sc_move.2.1 26 = .ok (.iaload, 1) := by decide +kernel
theorem d_Sc_move_27 : decode y_Sc_move.2.1 27 = .ok (.istore 5, 2) := by decide +kernel
theorem d_Sc_move_29 : decode y_Sc_move.2.1 29 = .ok (.aload_n 1, 1) := by decide +kernel
theorem d_Sc_move_30 : decode y_Sc_move.2.1 30 = .ok (.getfield 172, 3) := by decide +kernel
theorem d_Sc_move_33 : decode y_Sc_move.2.1 33 = .ok (.iload 4, 2) := by decide +kernel
theorem d_Sc_move_35 : decode y_Sc_move.2.1 35 = .ok (.iconst 1, 1) := by decide +kernel
theorem d_Sc_move_36 : decode y_Sc_move.2.1 36 = .ok (.iadd, 1) := by decide +kernel
theorem d_Sc_move_37 : decode y_Sc_move.2.1 37 = .ok (.iaload, 1) := by decide +kernel
theorem d_Sc_move_38 : decode y_Sc_move.2.1 38 = .ok (.istore 6, 2) := by decide +kernel
theorem d_Sc_move_40 : decode y_Sc_move.2.1 40 = .ok (.iload 5, 2) := by decide +kernel
theorem d_Sc_move_42 : decode y_Sc_move.2.1 42 = .ok (.iload 6, 2) := by decide +kernel
theorem d_Sc_move_44 : decode y_Sc_move.2.1 44 = .ok (.if_icmp .ne 23, 3) := by decide +kernel
theorem d_Sc_move_47 : decode y_Sc_move.2.1 47 = .ok (.aload_n 3, 1) := by decide +kernel
theorem d_Sc_move_48 : decode y_Sc_move.2.1 48 = .ok (.getfield 143, 3) := by decide +kernel
theorem d_Sc_move_51 : decode y_Sc_move.2.1 51 = .ok (.iload 4, 2) := by decide +kernel
theorem d_Sc_move_53 : decode y_Sc_move.2.1 53 = .ok (.aaload, 1) := by decide +kernel
theorem d_Sc_move_54 : decode y_Sc_move.2.1 54 = .ok (.aload_n 2, 1) := by decide +kernel
theorem d_Sc_move_55 : decode y_Sc_move.2.1 55 = .ok (.getfield 143, 3) := by decide +kernel
theorem d_Sc_move_58 : decode y_Sc_move.2.1 58 = .ok (.iload 4, 2) := by decide +kernel
theorem d_Sc_move_60 : decode y_Sc_move.2.1 60 = .ok (.aaload, 1) := by decide +kernel
theorem d_Sc_move_67 : decode y_Sc_move.2.1 67 = .ok (.aload_n 0, 1) := by decide +kernel
theorem d_Sc_move_68 : decode y_Sc_move.2.1 68 = .ok (.aload_n 1, 1) := by decide +kernel
theorem d_Sc_move_69 : decode y_Sc_move.2.1 69 = .ok (.iload 5, 2) := by decide +kernel
theorem d_Sc_move_71 : decode y_Sc_move.2.1 71 = .ok (.iload 6, 2) := by decide +kernel
theorem d_Sc_move_73 : decode y_Sc_move.2.1 73 = .ok (.aload_n 1, 1) := by decide +kernel
theorem d_Sc_move_74 : decode y_Sc_move.2.1 74 = .ok (.getfield 178, 3) := by decide +kernel
theorem d_Sc_move_77 : decode y_Sc_move.2.1 77 = .ok (.iload 4, 2) := by decide +kernel
theorem d_Sc_move_79 : decode y_Sc_move.2.1 79 = .ok (.iaload, 1) := by decide +kernel
theorem d_Sc_move_80 : decode y_Sc_move.2.1 80 = .ok (.iconst 1, 1) := by decide +kernel
theorem d_Sc_move_61 : decode y_Sc_move.2.1 61 = .ok (.invokevirtual 175, 3) := by decide +kernel
theorem d_Sc_move_64 : decode y_Sc_move.2.1 64 = .ok (.goto 57, 3) := by decide +kernel
theorem d_Sc_move_121 : decode y_Sc_move.2.1 121 = .ok (.iinc 4 1, 3) := by decide +kernel
theorem d_Sc_move_124 : decode y_Sc_move.2.1 124 = .ok (.goto (-113), 3) := by decide +kernel
theorem d_Sc_move_81 : decode y_Sc_move.2.1 81 = .ok (.if_icmp .ne 7, 3) := by decide +kernel
theorem d_Sc_move_84 : decode y_Sc_move.2.1 84 = .ok (.iconst 1, 1) := by decide +kernel
theorem d_Sc_move_85 : decode y_Sc_move.2.1 85 = .ok (.goto 4, 3) := by decide +kernel
theorem d_Sc_move_88 : decode y_Sc_move.2.1 88 = .ok (.iconst 0, 1) := by decide +kernel
theorem d_Sc_move_89 : decode y_Sc_move.2.1 89 = .ok (.aload_n 2, 1) := by decide +kernel
theorem d_Sc_move_90 : decode y_Sc_move.2.1 90 = .ok (.invokevirtual 181, 3) := by decide +kernel
theorem d_Sc_move_93 : decode y_Sc_move.2.1 93 = .ok (.pop, 1) := by decide +kernel
theorem d_Sc_move_94 : decode y_Sc_move.2.1 94 = .ok (.aload_n 0, 1) := by decide +kernel
theorem d_Sc_move_95 : decode y_Sc_move.2.1 95 = .ok (.aload_n 0, 1) := by decide +kernel
theorem d_Sc_move_96 : decode y_Sc_move.2.1 96 = .ok (.getfield 46, 3) := by decide +kernel
theorem d_Sc_move_99 : decode y_Sc_move.2.1 99 = .ok (.invokevirtual 185, 3) := by decide +kernel
theorem d_Sc_move_102 : decode y_Sc_move.2.1 102 = .ok (.ifCond .ne 5, 3) := by decide +kernel
theorem d_Sc_move_105 : decode y_Sc_move.2.1 105 = .ok (.iconst 0, 1) := by decide +kernel
theorem d_Sc_move_106 : decode y_Sc_move.2.1 106 = .ok (.ireturn, 1) := by decide +kernel
theorem d_Sc_move_107 : decode y_Sc_move.2.1 107 = .ok (.aload_n 3, 1) := by decide +kernel
theorem d_Sc_move_108 : decode y_Sc_move.2.1 108 = .ok (.getfield 143, 3) := by decide +kernel
theorem d_Sc_move_111 : decode y_Sc_move.2.1 111 = .ok (.iload 4, 2) := by decide +kernel
theorem d_Sc_move_113 : decode y_Sc_move.2.1 113 = .ok (.aaload, 1) := by decide +kernel
theorem d_Sc_move_114 : decode y_Sc_move.2.1 114 = .ok (.aload_n 0, 1) := by decide +kernel
theorem d_Sc_move_115 : decode y_Sc_move.2.1 115 = .ok (.getfield 46, 3) := by decide +kernel
theorem d_Sc_move_118 : decode y_Sc_move.2.1 118 = .ok (.invokevirtual 175, 3) := by decide +kernel
def h_Sc_move_11 (G : mG) (d : Nat) (a0 : Nat) (a1 : Nat) (a2 : Nat) (a3 : Nat) (l4 : Int) (M : mM) (Q : Int → mM → Prop) : Prop := mWm G y_Sc_move (d + 1) 11 [vr a0, vr a1, vr a2, vr a3, vi l4, vd, vd] [] M (fun r9 M9 => ∃ x9, r9 = some (vi x9) ∧ Q x9 M9)
theorem k_Sc_move {G : mG} {d : Nat} {a0 : Nat} {a1 : Nat} {a2 : Nat} {a3 : Nat} {M : mM} {Q : Int → mM → Prop} (hO : mOk M)
    (h : mK M a1 = 7 ∧ mK M a3 = 13 ∧ Cv G y_Fs_reserve d [vr a3, vi (mI M a1 0)] M (fun M3 => mOk M3 ∧ (h_Sc_move_11 G d a0 a1 a2 a3 0 M3 Q))) :
    Ci G y_Sc_move (d + 1) [vr a0, vr a1, vr a2, vr a3] M Q := by
  refine wm_open (y := y_Sc_move) rfl (Nat.le_of_ble_eq_true rfl) (L := [vr a0, vr a1, vr a2, vr a3, vd, vd, vd]) rfl ?_
  obtain ⟨h1, h⟩ := h
  obtain ⟨h2, h⟩ := h
  refine wm_aload_n d_Sc_move_0 rfl rfl ?_
  refine wm_aload_n d_Sc_move_1 rfl rfl ?_
  refine gf_Sc_166 rfl d_Sc_move_2 h1 ?_
  refine cf_Sc_169 rfl d_Sc_move_5 h2 (Nat.le_of_ble_eq_true rfl) (Cv.mono h (fun M3 h => ?_))
  obtain ⟨hOM3, h⟩ := h
  refine wm_iconst d_Sc_move_8 ?_
  refine wm_istore d_Sc_move_9 (by decide) (L' := [vr a0, vr a1, vr a2, vr a3, vi 0, vd, vd]) rfl ?_
  exact h
theorem k_Sc_move_11 {G : mG} {d : Nat} {a0 : Nat} {a1 : Nat} {a2 : Nat} {a3 : Nat} {l4 : Int} {M : mM} {Q : Int → mM → Prop} (hO : mOk M) (hi_l4 : i32 l4)
    (h : mK M a1 = 7 ∧ ((mI M a1 0 ≤ l4) → (Q 1 M)) ∧ (¬ (mI M a1 0 ≤ l4) → (mK M (mR M a1 4) = 30 ∧ ((0 : Int) ≤ l4 ∧ l4 < (mN M (mR M a1 4) : Int)) ∧ ((0 : Int) ≤ l4 + 1 ∧ l4 + 1 < (mN M (mR M a1 4) : Int)) ∧ ((mI M (mR M a1 4) (Int.toNat l4) = mI M (mR M a1 4) (Int.toNat (l4 + 1))) → (mK M a3 = 13 ∧ mK M (mR M a3 0) = 35 ∧ ((0 : Int) ≤ l4 ∧ l4 < (mN M (mR M a3 0) : Int)) ∧ mK M a2 = 13 ∧ mK M (mR M a2 0) = 35 ∧ ((0 : Int) ≤ l4 ∧ l4 < (mN M (mR M a2 0) : Int)) ∧ mK M (mR M (mR M a3 0) (Int.toNat l4)) = 11 ∧ Cv G y_Fr_put1 d [vr (mR M (mR M a3 0) (Int.toNat l4)), vr (mR M (mR M a2 0) (Int.toNat l4))] M (fun M26 => mOk M26 ∧ (h_Sc_move_11 G d a0 a1 a2 a3 (l4 + 1) M26 Q)))) ∧ (¬ (mI M (mR M a1 4) (Int.toNat l4) = mI M (mR M a1 4) (Int.toNat (l4 + 1))) → (mK M (mR M a1 2) = 30 ∧ ((0 : Int) ≤ l4 ∧ l4 < (mN M (mR M a1 2) : Int)) ∧ ∀ v32 : Int, v32 = (if (mI M (mR M a1 2) (Int.toNat l4) = 1) then 1 else 0) → mK M a0 = 9 ∧ Ci G y_Sc_pick d [vr a0, vr a1, vi (mI M (mR M a1 4) (Int.toNat l4)), vi (mI M (mR M a1 4) (Int.toNat (l4 + 1))), vi v32, vr a2] M (fun x39 M38 => i32 x39 ∧ mOk M38 ∧ (mK M38 a0 = 9 ∧ Ci G y_Sc_fits d [vr a0, vr (mR M38 a0 9)] M38 (fun x43 M42 => i32 x43 ∧ mOk M42 ∧ (((x43 = 0) → (Q 0 M42)) ∧ (¬ (x43 = 0) → (mK M42 a3 = 13 ∧ mK M42 (mR M42 a3 0) = 35 ∧ ((0 : Int) ≤ l4 ∧ l4 < (mN M42 (mR M42 a3 0) : Int)) ∧ mK M42 a0 = 9 ∧ mK M42 (mR M42 (mR M42 a3 0) (Int.toNat l4)) = 11 ∧ Cv G y_Fr_put1 d [vr (mR M42 (mR M42 a3 0) (Int.toNat l4)), vr (mR M42 a0 9)] M42 (fun M52 => mOk M52 ∧ (h_Sc_move_11 G d a0 a1 a2 a3 (l4 + 1) M52 Q))))))))))))) :
    h_Sc_move_11 G d a0 a1 a2 a3 l4 M Q := by
  unfold h_Sc_move_11
  obtain ⟨h6, h⟩ := h
  refine wm_iload d_Sc_move_11 rfl ?_
  refine wm_aload_n d_Sc_move_13 rfl rfl ?_
  refine gf_Sc_166 rfl d_Sc_move_14 h6 ?_
  refine wm_icmp_ge (tgt := 127) d_Sc_move_17 rfl hi_l4 (hO _ _).1 (fun c11 => ?_) (fun c11 => ?_)
  · replace h := h.1 c11
    refine wm_iconst d_Sc_move_127 ?_
    refine wm_ireturn d_Sc_move_128 rfl (m_nb (by decide)) ?_
    exact ⟨_, rfl, h⟩
  · replace h := h.2 c11
    obtain ⟨h12, h⟩ := h
    obtain ⟨h13, h⟩ := h
    obtain ⟨h14, h⟩ := h
    refine wm_aload_n d_Sc_move_20 rfl rfl ?_
    refine gf_Sc_172 rfl d_Sc_move_21 h6 ?_
    refine wm_iload d_Sc_move_24 rfl ?_
    refine wm_iald d_Sc_move_26 h12 h13 ?_
    refine wm_istore d_Sc_move_27 (by decide) (L' := [vr a0, vr a1, vr a2, vr a3, vi l4, vi (mI M (mR M a1 4) (Int.toNat l4)), vd]) rfl ?_
    refine wm_aload_n d_Sc_move_29 rfl rfl ?_
    refine gf_Sc_172 rfl d_Sc_move_30 h6 ?_
    refine wm_iload d_Sc_move_33 rfl ?_
    refine wm_iconst d_Sc_move_35 ?_
    refine wm_iadd d_Sc_move_36 ?_
    refine wm_iald d_Sc_move_37 h12 h14 ?_
    refine wm_istore d_Sc_move_38 (by decide) (L' := [vr a0, vr a1, vr a2, vr a3, vi l4, vi (mI M (mR M a1 4) (Int.toNat l4)), vi (mI M (mR M a1 4) (Int.toNat (l4 + 1)))]) rfl ?_
    refine wm_iload d_Sc_move_40 rfl ?_
    refine wm_iload d_Sc_move_42 rfl ?_
    refine wm_icmp_ne (tgt := 67) d_Sc_move_44 rfl (hO _ _).1 (hO _ _).1 (fun c18 => ?_) (fun c18 => ?_)
    · replace h := h.2 c18
      obtain ⟨h29, h⟩ := h
      obtain ⟨h30, h⟩ := h
      refine wm_aload_n d_Sc_move_67 rfl rfl ?_
      refine wm_aload_n d_Sc_move_68 rfl rfl ?_
      refine wm_iload d_Sc_move_69 rfl ?_
      refine wm_iload d_Sc_move_71 rfl ?_
      refine wm_aload_n d_Sc_move_73 rfl rfl ?_
      refine gf_Sc_178 rfl d_Sc_move_74 h6 ?_
      refine wm_iload d_Sc_move_77 rfl ?_
      refine wm_iald d_Sc_move_79 h29 h30 ?_
      refine wm_iconst d_Sc_move_80 ?_
      have hJ : ∀ v32 : Int, v32 = (if (mI M (mR M a1 2) (Int.toNat l4) = 1) then 1 else 0) → mWm G y_Sc_move (d + 1) 89 [vr a0, vr a1, vr a2, vr a3, vi l4, vd, vd] [vi v32, vi (mI M (mR M a1 4) (Int.toNat (l4 + 1))), vi (mI M (mR M a1 4) (Int.toNat l4)), vr a1, vr a0] M (fun r9 M9 => ∃ x9, r9 = some (vi x9) ∧ Q x9 M9) := by
        intro v32 e34
        have h := h v32 e34
        have h35 : i32 v32 := by rw [e34]; (repeat' split) <;> first | exact ⟨by decide, by decide⟩ | exact ⟨by decide, by decide⟩
        have h36 : (v32 = 0 ∨ v32 = 1) := by rw [e34]; (repeat' split) <;> decide
        obtain ⟨h37, h⟩ := h
        refine wm_aload_n d_Sc_move_89 rfl rfl ?_
        refine cf_Sc_181 rfl d_Sc_move_90 h37 (Nat.le_of_ble_eq_true rfl) (Ci.mono h (fun x39 M38 h => ?_))
        obtain ⟨h40, hOM38, h⟩ := h
        obtain ⟨h41, h⟩ := h
        refine wm_pop d_Sc_move_93 rfl ?_
        refine wm_aload_n d_Sc_move_94 rfl rfl ?_
        refine wm_aload_n d_Sc_move_95 rfl rfl ?_
        refine gf_Sc_46 rfl d_Sc_move_96 h41 ?_
        refine cf_Sc_185 rfl d_Sc_move_99 h41 (Nat.le_of_ble_eq_true rfl) (Ci.mono h (fun x43 M42 h => ?_))
        obtain ⟨h44, hOM42, h⟩ := h
        refine wm_if_ne (tgt := 107) d_Sc_move_102 rfl h44 (fun c46 => ?_) (fun c46 => ?_)
        · replace h := h.2 c46
          obtain ⟨h47, h⟩ := h
          obtain ⟨h48, h⟩ := h
          obtain ⟨h49, h⟩ := h
          obtain ⟨h50, h⟩ := h
          obtain ⟨h51, h⟩ := h
          refine wm_aload_n d_Sc_move_107 rfl rfl ?_
          refine gf_Sc_143 rfl d_Sc_move_108 h47 ?_
          refine wm_iload d_Sc_move_111 rfl ?_
          refine wm_aald5 d_Sc_move_113 h48 h49 ?_
          refine wm_aload_n d_Sc_move_114 rfl rfl ?_
          refine gf_Sc_46 rfl d_Sc_move_115 h50 ?_
          refine cf_Sc_175 rfl d_Sc_move_118 h51 (Nat.le_of_ble_eq_true rfl) (Cv.mono h (fun M52 h => ?_))
          obtain ⟨hOM52, h⟩ := h
          refine wm_iinc d_Sc_move_121 (by decide) rfl (L' := [vr a0, vr a1, vr a2, vr a3, vi (l4 + 1), vd, vd]) rfl ?_
          refine wm_goto (tgt := 11) d_Sc_move_124 rfl ?_
          exact h
        · replace c46 := Classical.not_not.mp c46
          replace h := h.1 c46
          refine wm_iconst d_Sc_move_105 ?_
          refine wm_ireturn d_Sc_move_106 rfl (m_nb (by decide)) ?_
          exact ⟨_, rfl, h⟩
      clear h
      refine wm_icmp_ne (tgt := 88) d_Sc_move_81 rfl (hO _ _).1 ⟨by decide, by decide⟩ (fun c31 => ?_) (fun c31 => ?_)
      · refine wm_iconst d_Sc_move_88 ?_
        refine wm_less (L' := [vr a0, vr a1, vr a2, vr a3, vi l4, vd, vd]) ⟨Or.inr rfl, Or.inr rfl, Or.inr rfl, Or.inr rfl, Or.inr rfl, Or.inl rfl, Or.inl rfl, trivial⟩ ?_
        exact hJ 0 (if_neg c31).symm
      · replace c31 := Classical.not_not.mp c31
        refine wm_iconst d_Sc_move_84 ?_
        refine wm_goto (tgt := 89) d_Sc_move_85 rfl ?_
        refine wm_less (L' := [vr a0, vr a1, vr a2, vr a3, vi l4, vd, vd]) ⟨Or.inr rfl, Or.inr rfl, Or.inr rfl, Or.inr rfl, Or.inr rfl, Or.inl rfl, Or.inl rfl, trivial⟩ ?_
        exact hJ 1 (if_pos c31).symm
    · replace c18 := Classical.not_not.mp c18
      replace h := h.1 c18
      obtain ⟨h19, h⟩ := h
      obtain ⟨h20, h⟩ := h
      obtain ⟨h21, h⟩ := h
      obtain ⟨h22, h⟩ := h
      obtain ⟨h23, h⟩ := h
      obtain ⟨h24, h⟩ := h
      obtain ⟨h25, h⟩ := h
      refine wm_aload_n d_Sc_move_47 rfl rfl ?_
      refine gf_Sc_143 rfl d_Sc_move_48 h19 ?_
      refine wm_iload d_Sc_move_51 rfl ?_
      refine wm_aald5 d_Sc_move_53 h20 h21 ?_
      refine wm_aload_n d_Sc_move_54 rfl rfl ?_
      refine gf_Sc_143 rfl d_Sc_move_55 h22 ?_
      refine wm_iload d_Sc_move_58 rfl ?_
      refine wm_aald5 d_Sc_move_60 h23 h24 ?_
      refine cf_Sc_175 rfl d_Sc_move_61 h25 (Nat.le_of_ble_eq_true rfl) (Cv.mono h (fun M26 h => ?_))
      obtain ⟨hOM26, h⟩ := h
      refine wm_goto (tgt := 121) d_Sc_move_64 rfl ?_
      refine wm_iinc d_Sc_move_121 (by decide) rfl (L' := [vr a0, vr a1, vr a2, vr a3, vi (l4 + 1), vi (mI M (mR M a1 4) (Int.toNat l4)), vi (mI M (mR M a1 4) (Int.toNat (l4 + 1)))]) rfl ?_
      refine wm_goto (tgt := 11) d_Sc_move_124 rfl ?_
      refine wm_less (L' := [vr a0, vr a1, vr a2, vr a3, vi (l4 + 1), vd, vd]) ⟨Or.inr rfl, Or.inr rfl, Or.inr rfl, Or.inr rfl, Or.inr rfl, Or.inl rfl, Or.inl rfl, trivial⟩ ?_
      exact h
theorem d_Sc_fits_0 : decode y_Sc_fits.2.1 0 = .ok (.aload_n 1, 1) := by decide +kernel
theorem d_Sc_fits_1 : decode y_Sc_fits.2.1 1 = .ok (.getfield 108, 3) := by decide +kernel
theorem d_Sc_fits_4 : decode y_Sc_fits.2.1 4 = .ok (.aload_n 1, 1) := by decide +kernel
theorem d_Sc_fits_5 : decode y_Sc_fits.2.1 5 = .ok (.getfield 111, 3) := by decide +kernel
theorem d_Sc_fits_8 : decode y_Sc_fits.2.1 8 = .ok (.invokevirtual 114, 3) := by decide +kernel
theorem d_Sc_fits_11 : decode y_Sc_fits.2.1 11 = .ok (.aload_n 1, 1) := by decide +kernel
theorem d_Sc_fits_12 : decode y_Sc_fits.2.1 12 = .ok (.iconst 1, 1) := by decide +kernel
theorem d_Sc_fits_13 : decode y_Sc_fits.2.1 13 = .ok (.putfield 111, 3) := by decide +kernel
theorem d_Sc_fits_16 : decode y_Sc_fits.2.1 16 = .ok (.aload_n 1, 1) := by decide +kernel
theorem d_Sc_fits_17 : decode y_Sc_fits.2.1 17 = .ok (.getfield 118, 3) := by decide +kernel
theorem d_Sc_fits_20 : decode y_Sc_fits.2.1 20 = .ok (.getfield 57, 3) := by decide +kernel
theorem d_Sc_fits_23 : decode y_Sc_fits.2.1 23 = .ok (.ifCond .ne 11, 3) := by decide +kernel
theorem d_Sc_fits_26 : decode y_Sc_fits.2.1 26 = .ok (.aload_n 1, 1) := by decide +kernel
theorem d_Sc_fits_27 : decode y_Sc_fits.2.1 27 = .ok (.iconst 0, 1) := by decide +kernel
theorem d_Sc_fits_34 : decode y_Sc_fits.2.1 34 = .ok (.aload_n 1, 1) := by decide +kernel
theorem d_Sc_fits_35 : decode y_Sc_fits.2.1 35 = .ok (.getfield 118, 3) := by decide +kernel
theorem d_Sc_fits_38 : decode y_Sc_fits.2.1 38 = .ok (.aload_n 1, 1) := by decide +kernel
theorem d_Sc_fits_39 : decode y_Sc_fits.2.1 39 = .ok (.getfield 108, 3) := by decide +kernel
theorem d_Sc_fits_28 : decode y_Sc_fits.2.1 28 = .ok (.invokevirtual 134, 3) := by decide +kernel
theorem d_Sc_fits_31 : decode y_Sc_fits.2.1 31 = .ok (.goto 43, 3) := by decide +kernel
theorem d_Sc_fits_42 : decode y_Sc_fits.2.1 42 = .ok (.invokestatic 65, 3) := by decide +kernel
theorem d_Sc_fits_45 : decode y_Sc_fits.2.1 45 = .ok (.ifCond .ne 11, 3) := by decide +kernel
theorem d_Sc_fits_48 : decode y_Sc_fits.2.1 48 = .ok (.aload_n 1, 1) := by decide +kernel
theorem d_Sc_fits_49 : decode y_Sc_fits.2.1 49 = .ok (.iconst 1, 1) := by decide +kernel
theorem d_Sc_fits_56 : decode y_Sc_fits.2.1 56 = .ok (.aload_n 1, 1) := by decide +kernel
theorem d_Sc_fits_57 : decode y_Sc_fits.2.1 57 = .ok (.getfield 108, 3) := by decide +kernel
theorem d_Sc_fits_50 : decode y_Sc_fits.2.1 50 = .ok (.invokevirtual 134, 3) := by decide +kernel
theorem d_Sc_fits_53 : decode y_Sc_fits.2.1 53 = .ok (.goto 21, 3) := by decide +kernel
theorem d_Sc_fits_60 : decode y_Sc_fits.2.1 60 = .ok (.invokevirtual 88, 3) := by decide +kernel
theorem d_Sc_fits_63 : decode y_Sc_fits.2.1 63 = .ok (.sipush 480, 3) := by decide +kernel
theorem d_Sc_fits_66 : decode y_Sc_fits.2.1 66 = .ok (.if_icmp .le 8, 3) := by decide +kernel
theorem d_Sc_fits_69 : decode y_Sc_fits.2.1 69 = .ok (.aload_n 0, 1) := by decide +kernel
theorem d_Sc_fits_70 : decode y_Sc_fits.2.1 70 = .ok (.aload_n 1, 1) := by decide +kernel
theorem d_Sc_fits_71 : decode y_Sc_fits.2.1 71 = .ok (.invokevirtual 189, 3) := by decide +kernel
theorem d_Sc_fits_74 : decode y_Sc_fits.2.1 74 = .ok (.aload_n 1, 1) := by decide +kernel
theorem d_Sc_fits_75 : decode y_Sc_fits.2.1 75 = .ok (.getfield 108, 3) := by decide +kernel
theorem d_Sc_fits_78 : decode y_Sc_fits.2.1 78 = .ok (.invokevirtual 88, 3) := by decide +kernel
theorem d_Sc_fits_81 : decode y_Sc_fits.2.1 81 = .ok (.sipush 480, 3) := by decide +kernel
theorem d_Sc_fits_84 : decode y_Sc_fits.2.1 84 = .ok (.if_icmp .gt 7, 3) := by decide +kernel
theorem d_Sc_fits_91 : decode y_Sc_fits.2.1 91 = .ok (.iconst 0, 1) := by decide +kernel
theorem d_Sc_fits_87 : decode y_Sc_fits.2.1 87 = .ok (.iconst 1, 1) := by decide +kernel
theorem d_Sc_fits_88 : decode y_Sc_fits.2.1 88 = .ok (.goto 4, 3) := by decide +kernel
theorem d_Sc_fits_92 : decode y_Sc_fits.2.1 92 = .ok (.ireturn, 1) := by decide +kernel
def h_Sc_fits_74 (G : mG) (d : Nat) (a1 : Nat) (M : mM) (Q : Int → mM → Prop) : Prop := mWm G y_Sc_fits (d + 1) 74 [vd, vr a1] [] M (fun r9 M9 => ∃ x9, r9 = some (vi x9) ∧ Q x9 M9)
theorem k_Sc_fits {G : mG} {d : Nat} {a0 : Nat} {a1 : Nat} {M : mM} {Q : Int → mM → Prop} (hO : mOk M)
    (h : mK M a1 = 11 ∧ mK M (mR M a1 1) = 10 ∧ Cv G y_Na_multiply d [vr (mR M a1 1), vi (mI M a1 2)] M (fun M3 => mOk M3 ∧ (mK M3 a1 = 11 ∧ ∀ M7, M7 = mUI M3 a1 2 1 → mK M7 (mR M7 a1 0) = 10 ∧ ((mI M7 (mR M7 a1 0) 1 = 0) → (Cv G y_Fr_put0 d [vr a1, vi 0] M7 (fun M12 => mOk M12 ∧ (h_Sc_fits_74 G d a1 M12 Q)))) ∧ (¬ (mI M7 (mR M7 a1 0) 1 = 0) → (Ci G y_Na_order d [vr (mR M7 a1 0), vr (mR M7 a1 1)] M7 (fun x16 M15 => i32 x16 ∧ mOk M15 ∧ (((x16 = 0) → (mK M15 a1 = 11 ∧ Cv G y_Fr_put0 d [vr a1, vi 1] M15 (fun M21 => mOk M21 ∧ (h_Sc_fits_74 G d a1 M21 Q)))) ∧ (¬ (x16 = 0) → (mK M15 a1 = 11 ∧ mK M15 (mR M15 a1 1) = 10 ∧ Ci G y_Na_bits d [vr (mR M15 a1 1)] M15 (fun x27 M26 => i32 x27 ∧ mOk M26 ∧ (((x27 ≤ 480) → (h_Sc_fits_74 G d a1 M26 Q)) ∧ (¬ (x27 ≤ 480) → (mK M26 a0 = 9 ∧ Cv G y_Sc_reduce d [vr a0, vr a1] M26 (fun M32 => mOk M32 ∧ (h_Sc_fits_74 G d a1 M32 Q))))))))))))))) :
    Ci G y_Sc_fits (d + 1) [vr a0, vr a1] M Q := by
  refine wm_open (y := y_Sc_fits) rfl (Nat.le_of_ble_eq_true rfl) (L := [vr a0, vr a1]) rfl ?_
  obtain ⟨h1, h⟩ := h
  obtain ⟨h2, h⟩ := h
  refine wm_aload_n d_Sc_fits_0 rfl rfl ?_
  refine gf_Sc_108 rfl d_Sc_fits_1 h1 ?_
  refine wm_aload_n d_Sc_fits_4 rfl rfl ?_
  refine gf_Sc_111 rfl d_Sc_fits_5 h1 ?_
  refine cf_Sc_114 rfl d_Sc_fits_8 h2 (Nat.le_of_ble_eq_true rfl) (Cv.mono h (fun M3 h => ?_))
  obtain ⟨hOM3, h⟩ := h
  obtain ⟨h6, h⟩ := h
  obtain ⟨M7, e8⟩ : ∃ M7, M7 = mUI M3 a1 2 1 := ⟨_, rfl⟩
  replace h := h M7 e8
  obtain ⟨h9, h⟩ := h
  refine wm_aload_n d_Sc_fits_11 rfl rfl ?_
  refine wm_iconst d_Sc_fits_12 ?_
  have hOM7 : mOk M7 := by rw [e8]; exact mOk_UI hOM3 ⟨by decide, by decide⟩
  refine pf_Sc_111 rfl d_Sc_fits_13 h6 ⟨by decide, by decide⟩ e8 ?_
  refine wm_aload_n d_Sc_fits_16 rfl rfl ?_
  refine gf_Sc_118 rfl d_Sc_fits_17 (by rw [e8]; exact h6) ?_
  refine gf_Sc_57 rfl d_Sc_fits_20 h9 ?_
  refine wm_if_ne (tgt := 34) d_Sc_fits_23 rfl (hOM7 _ _).1 (fun c11 => ?_) (fun c11 => ?_)
  · replace h := h.2 c11
    refine wm_aload_n d_Sc_fits_34 rfl rfl ?_
    refine gf_Sc_118 rfl d_Sc_fits_35 (by rw [e8]; exact h6) ?_
    refine wm_aload_n d_Sc_fits_38 rfl rfl ?_
    refine gf_Sc_108 rfl d_Sc_fits_39 (by rw [e8]; exact h6) ?_
    refine cf_Sc_65 rfl d_Sc_fits_42 (Nat.le_of_ble_eq_true rfl) (Ci.mono h (fun x16 M15 h => ?_))
    obtain ⟨h17, hOM15, h⟩ := h
    refine wm_if_ne (tgt := 56) d_Sc_fits_45 rfl h17 (fun c19 => ?_) (fun c19 => ?_)
    · replace h := h.2 c19
      obtain ⟨h24, h⟩ := h
      obtain ⟨h25, h⟩ := h
      refine wm_aload_n d_Sc_fits_56 rfl rfl ?_
      refine gf_Sc_108 rfl d_Sc_fits_57 h24 ?_
      refine cf_Sc_88 rfl d_Sc_fits_60 h25 (Nat.le_of_ble_eq_true rfl) (Ci.mono h (fun x27 M26 h => ?_))
      obtain ⟨h28, hOM26, h⟩ := h
      refine wm_sipush d_Sc_fits_63 (by decide) ?_
      refine wm_icmp_le (tgt := 74) d_Sc_fits_66 rfl h28 ⟨by decide, by decide⟩ (fun c30 => ?_) (fun c30 => ?_)
      · replace h := h.1 c30
        refine wm_less (L' := [vd, vr a1]) ⟨Or.inl rfl, Or.inr rfl, trivial⟩ ?_
        exact h
      · replace h := h.2 c30
        obtain ⟨h31, h⟩ := h
        refine wm_aload_n d_Sc_fits_69 rfl rfl ?_
        refine wm_aload_n d_Sc_fits_70 rfl rfl ?_
        refine cf_Sc_189 rfl d_Sc_fits_71 h31 (Nat.le_of_ble_eq_true rfl) (Cv.mono h (fun M32 h => ?_))
        obtain ⟨hOM32, h⟩ := h
        refine wm_less (L' := [vd, vr a1]) ⟨Or.inl rfl, Or.inr rfl, trivial⟩ ?_
        exact h
    · replace c19 := Classical.not_not.mp c19
      replace h := h.1 c19
      obtain ⟨h20, h⟩ := h
      refine wm_aload_n d_Sc_fits_48 rfl rfl ?_
      refine wm_iconst d_Sc_fits_49 ?_
      refine cf_Sc_134 rfl d_Sc_fits_50 h20 (Nat.le_of_ble_eq_true rfl) (Cv.mono h (fun M21 h => ?_))
      obtain ⟨hOM21, h⟩ := h
      refine wm_goto (tgt := 74) d_Sc_fits_53 rfl ?_
      refine wm_less (L' := [vd, vr a1]) ⟨Or.inl rfl, Or.inr rfl, trivial⟩ ?_
      exact h
  · replace c11 := Classical.not_not.mp c11
    replace h := h.1 c11
    refine wm_aload_n d_Sc_fits_26 rfl rfl ?_
    refine wm_iconst d_Sc_fits_27 ?_
    refine cf_Sc_134 rfl d_Sc_fits_28 (by rw [e8]; exact h6) (Nat.le_of_ble_eq_true rfl) (Cv.mono h (fun M12 h => ?_))
    obtain ⟨hOM12, h⟩ := h
    refine wm_goto (tgt := 74) d_Sc_fits_31 rfl ?_
    refine wm_less (L' := [vd, vr a1]) ⟨Or.inl rfl, Or.inr rfl, trivial⟩ ?_
    exact h
theorem k_Sc_fits_74 {G : mG} {d : Nat} {a1 : Nat} {M : mM} {Q : Int → mM → Prop} (hO : mOk M)
    (h : mK M a1 = 11 ∧ mK M (mR M a1 1) = 10 ∧ Ci G y_Na_bits d [vr (mR M a1 1)] M (fun x38 M37 => i32 x38 ∧ mOk M37 ∧ (∀ v41 : Int, v41 = (if (480 < x38) then 0 else 1) → Q v41 M37))) :
    h_Sc_fits_74 G d a1 M Q := by
  unfold h_Sc_fits_74
  obtain ⟨h35, h⟩ := h
  obtain ⟨h36, h⟩ := h
  refine wm_aload_n d_Sc_fits_74 rfl rfl ?_
  refine gf_Sc_108 rfl d_Sc_fits_75 h35 ?_
  refine cf_Sc_88 rfl d_Sc_fits_78 h36 (Nat.le_of_ble_eq_true rfl) (Ci.mono h (fun x38 M37 h => ?_))
  obtain ⟨h39, hOM37, h⟩ := h
  refine wm_sipush d_Sc_fits_81 (by decide) ?_
  have hJ : ∀ v41 : Int, v41 = (if (480 < x38) then 0 else 1) → mWm G y_Sc_fits (d + 1) 92 [vd, vd] [vi v41] M37 (fun r9 M9 => ∃ x9, r9 = some (vi x9) ∧ Q x9 M9) := by
    intro v41 e43
    have h := h v41 e43
    have h44 : i32 v41 := by rw [e43]; (repeat' split) <;> first | exact ⟨by decide, by decide⟩ | exact ⟨by decide, by decide⟩
    have h45 : (v41 = 0 ∨ v41 = 1) := by rw [e43]; (repeat' split) <;> decide
    refine wm_ireturn d_Sc_fits_92 rfl (m_nb h45) ?_
    exact ⟨_, rfl, h⟩
  clear h
  refine wm_icmp_gt (tgt := 91) d_Sc_fits_84 rfl h39 ⟨by decide, by decide⟩ (fun c40 => ?_) (fun c40 => ?_)
  · refine wm_iconst d_Sc_fits_91 ?_
    refine wm_less (L' := [vd, vd]) ⟨Or.inl rfl, Or.inl rfl, trivial⟩ ?_
    exact hJ 0 (if_pos c40).symm
  · refine wm_iconst d_Sc_fits_87 ?_
    refine wm_goto (tgt := 92) d_Sc_fits_88 rfl ?_
    refine wm_less (L' := [vd, vd]) ⟨Or.inl rfl, Or.inl rfl, trivial⟩ ?_
    exact hJ 1 (if_neg c40).symm
theorem d_So_init_0 : decode y_So_init.2.1 0 = .ok (.aload_n 0, 1) := by decide +kernel
theorem d_So_init_1 : decode y_So_init.2.1 1 = .ok (.invokespecial 3, 3) := by decide +kernel
theorem d_So_init_4 : decode y_So_init.2.1 4 = .ok (.aload_n 0, 1) := by decide +kernel
theorem d_So_init_5 : decode y_So_init.2.1 5 = .ok (.new 9, 3) := by decide +kernel
theorem d_So_init_8 : decode y_So_init.2.1 8 = .ok (.dup, 1) := by decide +kernel
theorem d_So_init_9 : decode y_So_init.2.1 9 = .ok (.invokespecial 11, 3) := by decide +kernel
theorem d_So_init_12 : decode y_So_init.2.1 12 = .ok (.putfield 12, 3) := by decide +kernel
theorem d_So_init_15 : decode y_So_init.2.1 15 = .ok (.aload_n 0, 1) := by decide +kernel
theorem d_So_init_16 : decode y_So_init.2.1 16 = .ok (.sipush 512, 3) := by decide +kernel
theorem d_So_init_19 : decode y_So_init.2.1 19 = .ok (.newarray .int, 2) := by decide +kernel
theorem d_So_init_21 : decode y_So_init.2.1 21 = .ok (.putfield 18, 3) := by decide +kernel
theorem d_So_init_24 : decode y_So_init.2.1 24 = .ok (.aload_n 0, 1) := by decide +kernel
theorem d_So_init_25 : decode y_So_init.2.1 25 = .ok (.sipush 512, 3) := by decide +kernel
theorem d_So_init_28 : decode y_So_init.2.1 28 = .ok (.newarray .int, 2) := by decide +kernel
theorem d_So_init_30 : decode y_So_init.2.1 30 = .ok (.putfield 22, 3) := by decide +kernel
theorem d_So_init_33 : decode y_So_init.2.1 33 = .ok (.aload_n 0, 1) := by decide +kernel
theorem d_So_init_34 : decode y_So_init.2.1 34 = .ok (.new 25, 3) := by decide +kernel
theorem d_So_init_37 : decode y_So_init.2.1 37 = .ok (.dup, 1) := by decide +kernel
theorem d_So_init_38 : decode y_So_init.2.1 38 = .ok (.invokespecial 27, 3) := by decide +kernel
theorem d_So_init_41 : decode y_So_init.2.1 41 = .ok (.putfield 28, 3) := by decide +kernel
theorem d_So_init_44 : decode y_So_init.2.1 44 = .ok (.aload_n 0, 1) := by decide +kernel
theorem d_So_init_45 : decode y_So_init.2.1 45 = .ok (.sipush 512, 3) := by decide +kernel
theorem d_So_init_48 : decode y_So_init.2.1 48 = .ok (.newarray .int, 2) := by decide +kernel
theorem d_So_init_50 : decode y_So_init.2.1 50 = .ok (.putfield 32, 3) := by decide +kernel
theorem d_So_init_53 : decode y_So_init.2.1 53 = .ok (.aload_n 0, 1) := by decide +kernel
theorem d_So_init_54 : decode y_So_init.2.1 54 = .ok (.sipush 512, 3) := by decide +kernel
theorem d_So_init_57 : decode y_So_init.2.1 57 = .ok (.newarray .int, 2) := by decide +kernel
theorem d_So_init_59 : decode y_So_init.2.1 59 = .ok (.putfield 35, 3) := by decide +kernel
theorem d_So_init_62 : decode y_So_init.2.1 62 = .ok (.aload_n 0, 1) := by decide +kernel
theorem d_So_init_63 : decode y_So_init.2.1 63 = .ok (.sipush 512, 3) := by decide +kernel
theorem d_So_init_66 : decode y_So_init.2.1 66 = .ok (.newarray .int, 2) := by decide +kernel
theorem d_So_init_68 : decode y_So_init.2.1 68 = .ok (.putfield 38, 3) := by decide +kernel
theorem d_So_init_71 : decode y_So_init.2.1 71 = .ok (.aload_n 0, 1) := by decide +kernel
theorem d_So_init_72 : decode y_So_init.2.1 72 = .ok (.bipush 40, 2) := by decide +kernel
theorem d_So_init_74 : decode y_So_init.2.1 74 = .ok (.newarray .int, 2) := by decide +kernel
theorem d_So_init_76 : decode y_So_init.2.1 76 = .ok (.putfield 41, 3) := by decide +kernel
theorem d_So_init_79 : decode y_So_init.2.1 79 = .ok (.aload_n 0, 1) := by decide +kernel
theorem d_So_init_80 : decode y_So_init.2.1 80 = .ok (.bipush 40, 2) := by decide +kernel
theorem d_So_init_82 : decode y_So_init.2.1 82 = .ok (.newarray .int, 2) := by decide +kernel
theorem d_So_init_84 : decode y_So_init.2.1 84 = .ok (.putfield 44, 3) := by decide +kernel
theorem d_So_init_87 : decode y_So_init.2.1 87 = .ok (.aload_n 0, 1) := by decide +kernel
theorem d_So_init_88 : decode y_So_init.2.1 88 = .ok (.iconst 0, 1) := by decide +kernel
theorem d_So_init_89 : decode y_So_init.2.1 89 = .ok (.newarray .int, 2) := by decide +kernel
theorem d_So_init_91 : decode y_So_init.2.1 91 = .ok (.putfield 47, 3) := by decide +kernel
theorem d_So_init_94 : decode y_So_init.2.1 94 = .ok (.aload_n 0, 1) := by decide +kernel
theorem d_So_init_95 : decode y_So_init.2.1 95 = .ok (.sipush 4097, 3) := by decide +kernel
theorem d_So_init_98 : decode y_So_init.2.1 98 = .ok (.newarray .boolean, 2) := by decide +kernel
theorem d_So_init_100 : decode y_So_init.2.1 100 = .ok (.putfield 50, 3) := by decide +kernel
theorem d_So_init_103 : decode y_So_init.2.1 103 = .ok (.aload_n 0, 1) := by decide +kernel
theorem d_So_init_104 : decode y_So_init.2.1 104 = .ok (.sipush 512, 3) := by decide +kernel
theorem d_So_init_107 : decode y_So_init.2.1 107 = .ok (.newarray .int, 2) := by decide +kernel
theorem d_So_init_109 : decode y_So_init.2.1 109 = .ok (.putfield 54, 3) := by decide +kernel
theorem d_So_init_112 : decode y_So_init.2.1 112 = .ok (.aload_n 0, 1) := by decide +kernel
theorem d_So_init_113 : decode y_So_init.2.1 113 = .ok (.new 57, 3) := by decide +kernel
theorem d_So_init_116 : decode y_So_init.2.1 116 = .ok (.dup, 1) := by decide +kernel
theorem d_So_init_117 : decode y_So_init.2.1 117 = .ok (.invokespecial 59, 3) := by decide +kernel
theorem d_So_init_120 : decode y_So_init.2.1 120 = .ok (.putfield 60, 3) := by decide +kernel
theorem d_So_init_123 : decode y_So_init.2.1 123 = .ok (.aload_n 0, 1) := by decide +kernel
theorem d_So_init_124 : decode y_So_init.2.1 124 = .ok (.aload_n 1, 1) := by decide +kernel
theorem d_So_init_125 : decode y_So_init.2.1 125 = .ok (.putfield 64, 3) := by decide +kernel
theorem d_So_init_128 : decode y_So_init.2.1 128 = .ok (.return_, 1) := by decide +kernel
theorem k_So_init {G : mG} {d : Nat} {a0 : Nat} {a1 : Nat} {M : mM} {Q : mM → Prop} (hO : mOk M)
    (h : 0 < a0 ∧ ∀ M2, M2 = mNew M 9 0 11 → Cv G y_Sc_init d [vr (mZ M)] M2 (fun M4 => mOk M4 ∧ (mK M4 a0 = 8 ∧ ∀ M8, M8 = mUR M4 a0 0 (mZ M) → ∀ M10, M10 = mNew M8 30 512 512 → mK M10 a0 = 8 ∧ ∀ M13, M13 = mUR M10 a0 1 (mZ M8) → ∀ M15, M15 = mNew M13 30 512 512 → mK M15 a0 = 8 ∧ ∀ M18, M18 = mUR M15 a0 2 (mZ M13) → ∀ M20, M20 = mNew M18 12 0 7 → Cv G y_Re_init d [vr (mZ M18)] M20 (fun M22 => mOk M22 ∧ (mK M22 a0 = 8 ∧ ∀ M26, M26 = mUR M22 a0 4 (mZ M18) → ∀ M28, M28 = mNew M26 30 512 512 → mK M28 a0 = 8 ∧ ∀ M31, M31 = mUR M28 a0 5 (mZ M26) → ∀ M33, M33 = mNew M31 30 512 512 → mK M33 a0 = 8 ∧ ∀ M36, M36 = mUR M33 a0 6 (mZ M31) → ∀ M38, M38 = mNew M36 30 512 512 → mK M38 a0 = 8 ∧ ∀ M41, M41 = mUR M38 a0 7 (mZ M36) → ∀ M43, M43 = mNew M41 30 40 40 → mK M43 a0 = 8 ∧ ∀ M46, M46 = mUR M43 a0 8 (mZ M41) → ∀ M48, M48 = mNew M46 30 40 40 → mK M48 a0 = 8 ∧ ∀ M51, M51 = mUR M48 a0 9 (mZ M46) → ∀ M53, M53 = mNew M51 30 0 0 → mK M53 a0 = 8 ∧ ∀ M56, M56 = mUR M53 a0 11 (mZ M51) → ∀ M58, M58 = mNew M56 31 4097 4097 → mK M58 a0 = 8 ∧ ∀ M61, M61 = mUR M58 a0 15 (mZ M56) → ∀ M63, M63 = mNew M61 30 512 512 → mK M63 a0 = 8 ∧ ∀ M66, M66 = mUR M63 a0 16 (mZ M61) → ∀ M68, M68 = mNew M66 11 0 3 → Cv G y_Fr_init d [vr (mZ M66)] M68 (fun M70 => mOk M70 ∧ (mK M70 a0 = 8 ∧ ∀ M74, M74 = mUR M70 a0 17 (mZ M66) → ∀ M76, M76 = mUR M74 a0 3 a1 → Q M76))))))) :
    Cv G y_So_init (d + 1) [vr a0, vr a1] M Q := by
  refine wm_open (y := y_So_init) rfl (Nat.le_of_ble_eq_true rfl) (L := [vr a0, vr a1]) rfl ?_
  obtain ⟨h1, h⟩ := h
  obtain ⟨M2, e3⟩ : ∃ M2, M2 = mNew M 9 0 11 := ⟨_, rfl⟩
  replace h := h M2 e3
  refine wm_aload_n d_So_init_0 rfl rfl ?_
  refine wm_objInit trivial k2_226 kO_inst kO_code (Nat.le_of_ble_eq_true rfl) d_So_init_1 h1 ?_
  refine wm_aload_n d_So_init_4 rfl rfl ?_
  have hOM2 : mOk M2 := by rw [e3]; exact mOk_New hO
  refine nf_So_9 rfl d_So_init_5 e3 ?_
  refine wm_dup d_So_init_8 rfl ?_
  refine cf_So_11 rfl d_So_init_9 (by rw [e3]; exact if_pos rfl) (Nat.le_of_ble_eq_true rfl) (Cv.mono h (fun M4 h => ?_))
  obtain ⟨hOM4, h⟩ := h
  obtain ⟨h7, h⟩ := h
  obtain ⟨M8, e9⟩ : ∃ M8, M8 = mUR M4 a0 0 (mZ M) := ⟨_, rfl⟩
  replace h := h M8 e9
  obtain ⟨M10, e11⟩ : ∃ M10, M10 = mNew M8 30 512 512 := ⟨_, rfl⟩
  replace h := h M10 e11
  obtain ⟨h12, h⟩ := h
  obtain ⟨M13, e14⟩ : ∃ M13, M13 = mUR M10 a0 1 (mZ M8) := ⟨_, rfl⟩
  replace h := h M13 e14
  obtain ⟨M15, e16⟩ : ∃ M15, M15 = mNew M13 30 512 512 := ⟨_, rfl⟩
  replace h := h M15 e16
  obtain ⟨h17, h⟩ := h
  obtain ⟨M18, e19⟩ : ∃ M18, M18 = mUR M15 a0 2 (mZ M13) := ⟨_, rfl⟩
  replace h := h M18 e19
  obtain ⟨M20, e21⟩ : ∃ M20, M20 = mNew M18 12 0 7 := ⟨_, rfl⟩
  replace h := h M20 e21
  have hOM8 : mOk M8 := by rw [e9]; exact mOk_UR hOM4
  refine pf_So_12 rfl rfl d_So_init_12 h7 e9 ?_
  refine wm_aload_n d_So_init_15 rfl rfl ?_
  refine wm_sipush d_So_init_16 (by decide) ?_
  have hOM10 : mOk M10 := by rw [e11]; exact mOk_New hOM8
  refine wm_newarrE 0 (atype := .int) (ty := .int) rfl rfl (fun _ => rfl) rfl rfl (by decide) k1_82 ⟨by decide, by decide⟩ d_So_init_19 e11 ?_
  have hOM13 : mOk M13 := by rw [e14]; exact mOk_UR hOM10
  refine pf_So_18 rfl rfl d_So_init_21 h12 e14 ?_
  refine wm_aload_n d_So_init_24 rfl rfl ?_
  refine wm_sipush d_So_init_25 (by decide) ?_
  have hOM15 : mOk M15 := by rw [e16]; exact mOk_New hOM13
  refine wm_newarrE 0 (atype := .int) (ty := .int) rfl rfl (fun _ => rfl) rfl rfl (by decide) k1_82 ⟨by decide, by decide⟩ d_So_init_28 e16 ?_
  have hOM18 : mOk M18 := by rw [e19]; exact mOk_UR hOM15
  refine pf_So_22 rfl rfl d_So_init_30 h17 e19 ?_
  refine wm_aload_n d_So_init_33 rfl rfl ?_
  have hOM20 : mOk M20 := by rw [e21]; exact mOk_New hOM18
  refine nf_So_25 rfl d_So_init_34 e21 ?_
  refine wm_dup d_So_init_37 rfl ?_
  refine cf_So_27 rfl d_So_init_38 (by rw [e21]; exact if_pos rfl) (Nat.le_of_ble_eq_true rfl) (Cv.mono h (fun M22 h => ?_))
  obtain ⟨hOM22, h⟩ := h
  obtain ⟨h25, h⟩ := h
  obtain ⟨M26, e27⟩ : ∃ M26, M26 = mUR M22 a0 4 (mZ M18) := ⟨_, rfl⟩
  replace h := h M26 e27
  obtain ⟨M28, e29⟩ : ∃ M28, M28 = mNew M26 30 512 512 := ⟨_, rfl⟩
  replace h := h M28 e29
  obtain ⟨h30, h⟩ := h
  obtain ⟨M31, e32⟩ : ∃ M31, M31 = mUR M28 a0 5 (mZ M26) := ⟨_, rfl⟩
  replace h := h M31 e32
  obtain ⟨M33, e34⟩ : ∃ M33, M33 = mNew M31 30 512 512 := ⟨_, rfl⟩
  replace h := h M33 e34
  obtain ⟨h35, h⟩ := h
  obtain ⟨M36, e37⟩ : ∃ M36, M36 = mUR M33 a0 6 (mZ M31) := ⟨_, rfl⟩
  replace h := h M36 e37
  obtain ⟨M38, e39⟩ : ∃ M38, M38 = mNew M36 30 512 512 := ⟨_, rfl⟩
  replace h := h M38 e39
  obtain ⟨h40, h⟩ := h
  obtain ⟨M41, e42⟩ : ∃ M41, M41 = mUR M38 a0 7 (mZ M36) := ⟨_, rfl⟩
  replace h := h M41 e42
  obtain ⟨M43, e44⟩ : ∃ M43, M43 = mNew M41 30 40 40 := ⟨_, rfl⟩
  replace h := h M43 e44
  obtain ⟨h45, h⟩ := h
  obtain ⟨M46, e47⟩ : ∃ M46, M46 = mUR M43 a0 8 (mZ M41) := ⟨_, rfl⟩
  replace h := h M46 e47
  obtain ⟨M48, e49⟩ : ∃ M48, M48 = mNew M46 30 40 40 := ⟨_, rfl⟩
  replace h := h M48 e49
  obtain ⟨h50, h⟩ := h
  obtain ⟨M51, e52⟩ : ∃ M51, M51 = mUR M48 a0 9 (mZ M46) := ⟨_, rfl⟩
  replace h := h M51 e52
  obtain ⟨M53, e54⟩ : ∃ M53, M53 = mNew M51 30 0 0 := ⟨_, rfl⟩
  replace h := h M53 e54
  obtain ⟨h55, h⟩ := h
  obtain ⟨M56, e57⟩ : ∃ M56, M56 = mUR M53 a0 11 (mZ M51) := ⟨_, rfl⟩
  replace h := h M56 e57
  obtain ⟨M58, e59⟩ : ∃ M58, M58 = mNew M56 31 4097 4097 := ⟨_, rfl⟩
  replace h := h M58 e59
  obtain ⟨h60, h⟩ := h
  obtain ⟨M61, e62⟩ : ∃ M61, M61 = mUR M58 a0 15 (mZ M56) := ⟨_, rfl⟩
  replace h := h M61 e62
  obtain ⟨M63, e64⟩ : ∃ M63, M63 = mNew M61 30 512 512 := ⟨_, rfl⟩
  replace h := h M63 e64
  obtain ⟨h65, h⟩ := h
  obtain ⟨M66, e67⟩ : ∃ M66, M66 = mUR M63 a0 16 (mZ M61) := ⟨_, rfl⟩
  replace h := h M66 e67
  obtain ⟨M68, e69⟩ : ∃ M68, M68 = mNew M66 11 0 3 := ⟨_, rfl⟩
  replace h := h M68 e69
  have hOM26 : mOk M26 := by rw [e27]; exact mOk_UR hOM22
  refine pf_So_28 rfl rfl d_So_init_41 h25 e27 ?_
  refine wm_aload_n d_So_init_44 rfl rfl ?_
  refine wm_sipush d_So_init_45 (by decide) ?_
  have hOM28 : mOk M28 := by rw [e29]; exact mOk_New hOM26
  refine wm_newarrE 0 (atype := .int) (ty := .int) rfl rfl (fun _ => rfl) rfl rfl (by decide) k1_82 ⟨by decide, by decide⟩ d_So_init_48 e29 ?_
  have hOM31 : mOk M31 := by rw [e32]; exact mOk_UR hOM28
  refine pf_So_32 rfl rfl d_So_init_50 h30 e32 ?_
  refine wm_aload_n d_So_init_53 rfl rfl ?_
  refine wm_sipush d_So_init_54 (by decide) ?_
  have hOM33 : mOk M33 := by rw [e34]; exact mOk_New hOM31
  refine wm_newarrE 0 (atype := .int) (ty := .int) rfl rfl (fun _ => rfl) rfl rfl (by decide) k1_82 ⟨by decide, by decide⟩ d_So_init_57 e34 ?_
  have hOM36 : mOk M36 := by rw [e37]; exact mOk_UR hOM33
  refine pf_So_35 rfl rfl d_So_init_59 h35 e37 ?_
  refine wm_aload_n d_So_init_62 rfl rfl ?_
  refine wm_sipush d_So_init_63 (by decide) ?_
  have hOM38 : mOk M38 := by rw [e39]; exact mOk_New hOM36
  refine wm_newarrE 0 (atype := .int) (ty := .int) rfl rfl (fun _ => rfl) rfl rfl (by decide) k1_82 ⟨by decide, by decide⟩ d_So_init_66 e39 ?_
  have hOM41 : mOk M41 := by rw [e42]; exact mOk_UR hOM38
  refine pf_So_38 rfl rfl d_So_init_68 h40 e42 ?_
  refine wm_aload_n d_So_init_71 rfl rfl ?_
  refine wm_bipush d_So_init_72 (by decide) ?_
  have hOM43 : mOk M43 := by rw [e44]; exact mOk_New hOM41
  refine wm_newarrE 0 (atype := .int) (ty := .int) rfl rfl (fun _ => rfl) rfl rfl (by decide) k1_82 ⟨by decide, by decide⟩ d_So_init_74 e44 ?_
  have hOM46 : mOk M46 := by rw [e47]; exact mOk_UR hOM43
  refine pf_So_41 rfl rfl d_So_init_76 h45 e47 ?_
  refine wm_aload_n d_So_init_79 rfl rfl ?_
  refine wm_bipush d_So_init_80 (by decide) ?_
  have hOM48 : mOk M48 := by rw [e49]; exact mOk_New hOM46
  refine wm_newarrE 0 (atype := .int) (ty := .int) rfl rfl (fun _ => rfl) rfl rfl (by decide) k1_82 ⟨by decide, by decide⟩ d_So_init_82 e49 ?_
  have hOM51 : mOk M51 := by rw [e52]; exact mOk_UR hOM48
  refine pf_So_44 rfl rfl d_So_init_84 h50 e52 ?_
  refine wm_aload_n d_So_init_87 rfl rfl ?_
  refine wm_iconst d_So_init_88 ?_
  have hOM53 : mOk M53 := by rw [e54]; exact mOk_New hOM51
  refine wm_newarrE 0 (atype := .int) (ty := .int) rfl rfl (fun _ => rfl) rfl rfl (by decide) k1_82 ⟨by decide, by decide⟩ d_So_init_89 e54 ?_
  have hOM56 : mOk M56 := by rw [e57]; exact mOk_UR hOM53
  refine pf_So_47 rfl d_So_init_91 h55 e57 ?_
  refine wm_aload_n d_So_init_94 rfl rfl ?_
  refine wm_sipush d_So_init_95 (by decide) ?_
  have hOM58 : mOk M58 := by rw [e59]; exact mOk_New hOM56
  refine wm_newarrE 1 (atype := .boolean) (ty := .boolean) rfl rfl (fun _ => rfl) rfl rfl (by decide) k1_162 ⟨by decide, by decide⟩ d_So_init_98 e59 ?_
  have hOM61 : mOk M61 := by rw [e62]; exact mOk_UR hOM58
  refine pf_So_50 rfl rfl d_So_init_100 h60 e62 ?_
  refine wm_aload_n d_So_init_103 rfl rfl ?_
  refine wm_sipush d_So_init_104 (by decide) ?_
  have hOM63 : mOk M63 := by rw [e64]; exact mOk_New hOM61
  refine wm_newarrE 0 (atype := .int) (ty := .int) rfl rfl (fun _ => rfl) rfl rfl (by decide) k1_82 ⟨by decide, by decide⟩ d_So_init_107 e64 ?_
  have hOM66 : mOk M66 := by rw [e67]; exact mOk_UR hOM63
  refine pf_So_54 rfl rfl d_So_init_109 h65 e67 ?_
  refine wm_aload_n d_So_init_112 rfl rfl ?_
  have hOM68 : mOk M68 := by rw [e69]; exact mOk_New hOM66
  refine nf_So_57 rfl d_So_init_113 e69 ?_
  refine wm_dup d_So_init_116 rfl ?_
  refine cf_So_59 rfl d_So_init_117 (by rw [e69]; exact if_pos rfl) (Nat.le_of_ble_eq_true rfl) (Cv.mono h (fun M70 h => ?_))
  obtain ⟨hOM70, h⟩ := h
  obtain ⟨h73, h⟩ := h
  obtain ⟨M74, e75⟩ : ∃ M74, M74 = mUR M70 a0 17 (mZ M66) := ⟨_, rfl⟩
  replace h := h M74 e75
  obtain ⟨M76, e77⟩ : ∃ M76, M76 = mUR M74 a0 3 a1 := ⟨_, rfl⟩
  replace h := h M76 e77
  have hOM74 : mOk M74 := by rw [e75]; exact mOk_UR hOM70
  refine pf_So_60 rfl rfl d_So_init_120 h73 e75 ?_
  refine wm_aload_n d_So_init_123 rfl rfl ?_
  refine wm_aload_n d_So_init_124 rfl rfl ?_
  have hOM76 : mOk M76 := by rw [e77]; exact mOk_UR hOM74
  refine pf_So_64 rfl rfl d_So_init_125 (by rw [e75]; exact h73) e77 ?_
  refine wm_return d_So_init_128 rfl ?_
  exact ⟨rfl, h⟩
theorem d_So_workOut_0 : decode y_So_workOut.2.1 0 = .ok (.aload_n 2, 1) := by decide +kernel
theorem d_So_workOut_1 : decode y_So_workOut.2.1 1 = .ok (.iconst 0, 1) := by decide +kernel
theorem d_So_workOut_2 : decode y_So_workOut.2.1 2 = .ok (.putfield 68, 3) := by decide +kernel
theorem d_So_workOut_5 : decode y_So_workOut.2.1 5 = .ok (.aload_n 0, 1) := by decide +kernel
theorem d_So_workOut_6 : decode y_So_workOut.2.1 6 = .ok (.iload_n 1, 1) := by decide +kernel
theorem d_So_workOut_7 : decode y_So_workOut.2.1 7 = .ok (.invokevirtual 74, 3) := by decide +kernel
theorem d_So_workOut_10 : decode y_So_workOut.2.1 10 = .ok (.aload_n 0, 1) := by decide +kernel
theorem d_So_workOut_11 : decode y_So_workOut.2.1 11 = .ok (.invokevirtual 78, 3) := by decide +kernel
theorem d_So_workOut_14 : decode y_So_workOut.2.1 14 = .ok (.ifCond .ne 5, 3) := by decide +kernel
theorem d_So_workOut_17 : decode y_So_workOut.2.1 17 = .ok (.iconst 5, 1) := by decide +kernel
theorem d_So_workOut_18 : decode y_So_workOut.2.1 18 = .ok (.ireturn, 1) := by decide +kernel
theorem d_So_workOut_19 : decode y_So_workOut.2.1 19 = .ok (.aload_n 0, 1) := by decide +kernel
theorem d_So_workOut_20 : decode y_So_workOut.2.1 20 = .ok (.invokevirtual 82, 3) := by decide +kernel
theorem d_So_workOut_23 : decode y_So_workOut.2.1 23 = .ok (.sipush 480, 3) := by decide +kernel
theorem d_So_workOut_26 : decode y_So_workOut.2.1 26 = .ok (.if_icmp .le 6, 3) := by decide +kernel
theorem d_So_workOut_32 : decode y_So_workOut.2.1 32 = .ok (.aload_n 2, 1) := by decide +kernel
theorem d_So_workOut_33 : decode y_So_workOut.2.1 33 = .ok (.aload_n 0, 1) := by decide +kernel
theorem d_So_workOut_34 : decode y_So_workOut.2.1 34 = .ok (.getfield 64, 3) := by decide +kernel
theorem d_So_workOut_29 : decode y_So_workOut.2.1 29 = .ok (.bipush 6, 2) := by decide +kernel
theorem d_So_workOut_31 : decode y_So_workOut.2.1 31 = .ok (.ireturn, 1) := by decide +kernel
theorem d_So_workOut_37 : decode y_So_workOut.2.1 37 = .ok (.invokevirtual 86, 3) := by decide +kernel
theorem d_So_workOut_40 : decode y_So_workOut.2.1 40 = .ok (.iconst 1, 1) := by decide +kernel
theorem d_So_workOut_41 : decode y_So_workOut.2.1 41 = .ok (.istore_n 3, 1) := by decide +kernel
theorem d_So_workOut_42 : decode y_So_workOut.2.1 42 = .ok (.iconst 0, 1) := by decide +kernel
theorem d_So_workOut_43 : decode y_So_workOut.2.1 43 = .ok (.istore 4, 2) := by decide +kernel
theorem d_So_workOut_45 : decode y_So_workOut.2.1 45 = .ok (.iload 4, 2) := by decide +kernel
theorem d_So_workOut_47 : decode y_So_workOut.2.1 47 = .ok (.bipush 100, 2) := by decide +kernel
theorem d_So_workOut_49 : decode y_So_workOut.2.1 49 = .ok (.if_icmp .ge 42, 3) := by decide +kernel
theorem d_So_workOut_52 : decode y_So_workOut.2.1 52 = .ok (.iload_n 3, 1) := by decide +kernel
theorem d_So_workOut_53 : decode y_So_workOut.2.1 53 = .ok (.ifCond .eq 38, 3) := by decide +kernel
theorem d_So_workOut_56 : decode y_So_workOut.2.1 56 = .ok (.aload_n 0, 1) := by decide +kernel
theorem d_So_workOut_57 : decode y_So_workOut.2.1 57 = .ok (.aload_n 2, 1) := by decide +kernel
theorem d_So_workOut_91 : decode y_So_workOut.2.1 91 = .ok (.iload_n 3, 1) := by decide +kernel
theorem d_So_workOut_92 : decode y_So_workOut.2.1 92 = .ok (.ifCond .eq 7, 3) := by decide +kernel
theorem d_So_workOut_95 : decode y_So_workOut.2.1 95 = .ok (.aload_n 0, 1) := by decide +kernel
theorem d_So_workOut_99 : decode y_So_workOut.2.1 99 = .ok (.lconst 0, 1) := by decide +kernel
theorem d_So_workOut_100 : decode y_So_workOut.2.1 100 = .ok (.lstore 4, 2) := by decide +kernel
theorem d_So_workOut_96 : decode y_So_workOut.2.1 96 = .ok (.invokevirtual 98, 3) := by decide +kernel
theorem d_So_workOut_58 : decode y_So_workOut.2.1 58 = .ok (.invokevirtual 90, 3) := by decide +kernel
theorem d_So_workOut_61 : decode y_So_workOut.2.1 61 = .ok (.aload_n 0, 1) := by decide +kernel
theorem d_So_workOut_62 : decode y_So_workOut.2.1 62 = .ok (.iconst 2, 1) := by decide +kernel
theorem d_So_workOut_63 : decode y_So_workOut.2.1 63 = .ok (.aload_n 2, 1) := by decide +kernel
theorem d_So_workOut_64 : decode y_So_workOut.2.1 64 = .ok (.invokevirtual 94, 3) := by decide +kernel
theorem d_So_workOut_67 : decode y_So_workOut.2.1 67 = .ok (.ifCond .ne 12, 3) := by decide +kernel
theorem d_So_workOut_70 : decode y_So_workOut.2.1 70 = .ok (.aload_n 0, 1) := by decide +kernel
theorem d_So_workOut_71 : decode y_So_workOut.2.1 71 = .ok (.iconst 1, 1) := by decide +kernel
theorem d_So_workOut_72 : decode y_So_workOut.2.1 72 = .ok (.aload_n 2, 1) := by decide +kernel
theorem d_So_workOut_73 : decode y_So_workOut.2.1 73 = .ok (.invokevirtual 94, 3) := by decide +kernel
theorem d_So_workOut_76 : decode y_So_workOut.2.1 76 = .ok (.ifCond .eq 7, 3) := by decide +kernel
theorem d_So_workOut_83 : decode y_So_workOut.2.1 83 = .ok (.iconst 0, 1) := by decide +kernel
theorem d_So_workOut_79 : decode y_So_workOut.2.1 79 = .ok (.iconst 1, 1) := by decide +kernel
theorem d_So_workOut_80 : decode y_So_workOut.2.1 80 = .ok (.goto 4, 3) := by decide +kernel
theorem d_So_workOut_84 : decode y_So_workOut.2.1 84 = .ok (.istore_n 3, 1) := by decide +kernel
theorem d_So_workOut_85 : decode y_So_workOut.2.1 85 = .ok (.iinc 4 1, 3) := by decide +kernel
theorem d_So_workOut_88 : decode y_So_workOut.2.1 88 = .ok (.goto (-43), 3) := by decide +kernel
theorem d_So_workOut_102 : decode y_So_workOut.2.1 102 = .ok (.lload 4, 2) := by decide +kernel
theorem d_So_workOut_104 : decode y_So_workOut.2.1 104 = .ok (.ldc2_w 101, 3) := by decide +kernel
theorem d_So_workOut_107 : decode y_So_workOut.2.1 107 = .ok (.lcmp, 1) := by decide +kernel
theorem d_So_workOut_108 : decode y_So_workOut.2.1 108 = .ok (.ifCond .ge 27, 3) := by decide +kernel
theorem d_So_workOut_111 : decode y_So_workOut.2.1 111 = .ok (.iload_n 3, 1) := by decide +kernel
theorem d_So_workOut_112 : decode y_So_workOut.2.1 112 = .ok (.ifCond .eq 23, 3) := by decide +kernel
theorem d_So_workOut_115 : decode y_So_workOut.2.1 115 = .ok (.aload_n 0, 1) := by decide +kernel
theorem d_So_workOut_116 : decode y_So_workOut.2.1 116 = .ok (.aload_n 2, 1) := by decide +kernel
theorem d_So_workOut_135 : decode y_So_workOut.2.1 135 = .ok (.aload_n 2, 1) := by decide +kernel
theorem d_So_workOut_136 : decode y_So_workOut.2.1 136 = .ok (.iconst 1, 1) := by decide +kernel
theorem d_So_workOut_137 : decode y_So_workOut.2.1 137 = .ok (.putfield 68, 3) := by decide +kernel
theorem d_So_workOut_140 : decode y_So_workOut.2.1 140 = .ok (.iconst 0, 1) := by decide +kernel
theorem d_So_workOut_141 : decode y_So_workOut.2.1 141 = .ok (.ireturn, 1) := by decide +kernel
theorem d_So_workOut_117 : decode y_So_workOut.2.1 117 = .ok (.invokevirtual 90, 3) := by decide +kernel
theorem d_So_workOut_120 : decode y_So_workOut.2.1 120 = .ok (.aload_n 0, 1) := by decide +kernel
theorem d_So_workOut_121 : decode y_So_workOut.2.1 121 = .ok (.aload_n 2, 1) := by decide +kernel
theorem d_So_workOut_122 : decode y_So_workOut.2.1 122 = .ok (.invokevirtual 103, 3) := by decide +kernel
theorem d_So_workOut_125 : decode y_So_workOut.2.1 125 = .ok (.istore_n 3, 1) := by decide +kernel
theorem d_So_workOut_126 : decode y_So_workOut.2.1 126 = .ok (.lload 4, 2) := by decide +kernel
theorem d_So_workOut_128 : decode y_So_workOut.2.1 128 = .ok (.lconst 1, 1) := by decide +kernel
theorem d_So_workOut_129 : decode y_So_workOut.2.1 129 = .ok (.ladd, 1) := by decide +kernel
theorem d_So_workOut_130 : decode y_So_workOut.2.1 130 = .ok (.lstore 4, 2) := by decide +kernel
theorem d_So_workOut_132 : decode y_So_workOut.2.1 132 = .ok (.goto (-30), 3) := by decide +kernel
def h_So_workOut_45 (G : mG) (d : Nat) (a0 : Nat) (a2 : Nat) (l3 : Int) (l4 : Int) (M : mM) (Q : Int → mM → Prop) : Prop := mWm G y_So_workOut (d + 1) 45 [vr a0, vd, vr a2, vi l3, vi l4, vd] [] M (fun r9 M9 => ∃ x9, r9 = some (vi x9) ∧ Q x9 M9)
def h_So_workOut_102 (G : mG) (d : Nat) (a0 : Nat) (a2 : Nat) (l3 : Int) (j4 : Int) (M : mM) (Q : Int → mM → Prop) : Prop := mWm G y_So_workOut (d + 1) 102 [vr a0, vd, vr a2, vi l3, vl j4, vd] [] M (fun r9 M9 => ∃ x9, r9 = some (vi x9) ∧ Q x9 M9)
theorem k_So_workOut {G : mG} {d : Nat} {a0 : Nat} {l1 : Int} {a2 : Nat} {M : mM} {Q : Int → mM → Prop} (hO : mOk M) (hi_l1 : i32 l1)
    (h : mK M a2 = 13 ∧ ∀ M2, M2 = mUI M a2 1 0 → mK M2 a0 = 8 ∧ Cv G y_So_leaveCommands d [vr a0, vi l1] M2 (fun M5 => mOk M5 ∧ (mK M5 a0 = 8 ∧ Ci G y_So_findUnknown d [vr a0] M5 (fun x10 M9 => i32 x10 ∧ mOk M9 ∧ (((x10 = 0) → (Q 5 M9)) ∧ (¬ (x10 = 0) → (mK M9 a0 = 8 ∧ Ci G y_So_weights d [vr a0] M9 (fun x16 M15 => i32 x16 ∧ mOk M15 ∧ (((x16 ≤ 480) → (mK M15 a0 = 8 ∧ mK M15 a2 = 13 ∧ Cv G y_Fs_begin d [vr a2, vr (mR M15 a0 3)] M15 (fun M22 => mOk M22 ∧ (h_So_workOut_45 G d a0 a2 1 0 M22 Q)))) ∧ (¬ (x16 ≤ 480) → (Q 6 M15))))))))))) :
    Ci G y_So_workOut (d + 1) [vr a0, vi l1, vr a2] M Q := by
  refine wm_open (y := y_So_workOut) rfl (Nat.le_of_ble_eq_true rfl) (L := [vr a0, vi l1, vr a2, vd, vd, vd]) rfl ?_
  obtain ⟨h1, h⟩ := h
  obtain ⟨M2, e3⟩ : ∃ M2, M2 = mUI M a2 1 0 := ⟨_, rfl⟩
  replace h := h M2 e3
  obtain ⟨h4, h⟩ := h
  refine wm_aload_n d_So_workOut_0 rfl rfl ?_
  refine wm_iconst d_So_workOut_1 ?_
  have hOM2 : mOk M2 := by rw [e3]; exact mOk_UI hO (m_b32 (by decide))
  refine pf_So_68 rfl d_So_workOut_2 h1 (by decide) e3 ?_
  refine wm_aload_n d_So_workOut_5 rfl rfl ?_
  refine wm_iload_n d_So_workOut_6 rfl rfl ?_
  refine cf_So_74 rfl d_So_workOut_7 h4 (Nat.le_of_ble_eq_true rfl) (Cv.mono h (fun M5 h => ?_))
  obtain ⟨hOM5, h⟩ := h
  obtain ⟨h8, h⟩ := h
  refine wm_aload_n d_So_workOut_10 rfl rfl ?_
  refine cf_So_78 rfl d_So_workOut_11 h8 (Nat.le_of_ble_eq_true rfl) (Ci.mono h (fun x10 M9 h => ?_))
  obtain ⟨h11, hOM9, h⟩ := h
  refine wm_if_ne (tgt := 19) d_So_workOut_14 rfl h11 (fun c13 => ?_) (fun c13 => ?_)
  · replace h := h.2 c13
    obtain ⟨h14, h⟩ := h
    refine wm_aload_n d_So_workOut_19 rfl rfl ?_
    refine cf_So_82 rfl d_So_workOut_20 h14 (Nat.le_of_ble_eq_true rfl) (Ci.mono h (fun x16 M15 h => ?_))
    obtain ⟨h17, hOM15, h⟩ := h
    refine wm_sipush d_So_workOut_23 (by decide) ?_
    refine wm_icmp_le (tgt := 32) d_So_workOut_26 rfl h17 ⟨by decide, by decide⟩ (fun c19 => ?_) (fun c19 => ?_)
    · replace h := h.1 c19
      obtain ⟨h20, h⟩ := h
      obtain ⟨h21, h⟩ := h
      refine wm_aload_n d_So_workOut_32 rfl rfl ?_
      refine wm_aload_n d_So_workOut_33 rfl rfl ?_
      refine gf_So_64 rfl d_So_workOut_34 h20 ?_
      refine cf_So_86 rfl d_So_workOut_37 h21 (Nat.le_of_ble_eq_true rfl) (Cv.mono h (fun M22 h => ?_))
      obtain ⟨hOM22, h⟩ := h
      refine wm_iconst d_So_workOut_40 ?_
      refine wm_istore_n d_So_workOut_41 rfl (by decide) (L' := [vr a0, vi l1, vr a2, vi 1, vd, vd]) rfl ?_
      refine wm_iconst d_So_workOut_42 ?_
      refine wm_istore d_So_workOut_43 (by decide) (L' := [vr a0, vi l1, vr a2, vi 1, vi 0, vd]) rfl ?_
      refine wm_less (L' := [vr a0, vd, vr a2, vi 1, vi 0, vd]) ⟨Or.inr rfl, Or.inl rfl, Or.inr rfl, Or.inr rfl, Or.inr rfl, Or.inl rfl, trivial⟩ ?_
      exact h
    · replace h := h.2 c19
      refine wm_bipush d_So_workOut_29 (by decide) ?_
      refine wm_ireturn d_So_workOut_31 rfl rfl ?_
      exact ⟨_, rfl, h⟩
  · replace c13 := Classical.not_not.mp c13
    replace h := h.1 c13
    refine wm_iconst d_So_workOut_17 ?_
    refine wm_ireturn d_So_workOut_18 rfl rfl ?_
    exact ⟨_, rfl, h⟩
theorem k_So_workOut_45 {G : mG} {d : Nat} {a0 : Nat} {a2 : Nat} {l3 : Int} {l4 : Int} {M : mM} {Q : Int → mM → Prop} (hO : mOk M) (hi_l3 : i32 l3) (hi_l4 : i32 l4)
    (h : (((100 ≤ l4) ∨ (l3 = 0)) → (((l3 = 0) → (h_So_workOut_102 G d a0 a2 l3 0 M Q)) ∧ (¬ (l3 = 0) → (mK M a0 = 8 ∧ Cv G y_So_listOthers d [vr a0] M (fun M33 => mOk M33 ∧ (h_So_workOut_102 G d a0 a2 l3 0 M33 Q)))))) ∧ (¬ ((100 ≤ l4) ∨ (l3 = 0)) → (mK M a0 = 8 ∧ Cv G y_So_evaluate d [vr a0, vr a2] M (fun M38 => mOk M38 ∧ (mK M38 a0 = 8 ∧ Ci G y_So_improve d [vr a0, vi 2, vr a2] M38 (fun x43 M42 => i32 x43 ∧ mOk M42 ∧ (((x43 = 0) → (mK M42 a0 = 8 ∧ Ci G y_So_improve d [vr a0, vi 1, vr a2] M42 (fun x50 M49 => i32 x50 ∧ mOk M49 ∧ (∀ v53 : Int, v53 = (if (x50 = 0) then 0 else 1) → h_So_workOut_45 G d a0 a2 v53 (l4 + 1) M49 Q)))) ∧ (¬ (x43 = 0) → (h_So_workOut_45 G d a0 a2 1 (l4 + 1) M42 Q))))))))) :
    h_So_workOut_45 G d a0 a2 l3 l4 M Q := by
  unfold h_So_workOut_45
  refine wm_iload d_So_workOut_45 rfl ?_
  refine wm_bipush d_So_workOut_47 (by decide) ?_
  have hE0 : ((100 ≤ l4) ∨ (l3 = 0)) → mWm G y_So_workOut (d + 1) 91 [vr a0, vd, vr a2, vi l3, vi l4, vd] [] M (fun r9 M9 => ∃ x9, r9 = some (vi x9) ∧ Q x9 M9) := by
    intro q28
    have h := h.1 q28
    refine wm_iload_n d_So_workOut_91 rfl rfl ?_
    refine wm_if_eq (tgt := 99) d_So_workOut_92 rfl hi_l3 (fun c31 => ?_) (fun c31 => ?_)
    · replace h := h.1 c31
      refine wm_lconst (x := 0) d_So_workOut_99 rfl ?_
      refine wm_lstore d_So_workOut_100 (by decide) (L' := [vr a0, vd, vr a2, vi l3, vl 0, vd]) rfl ?_
      exact h
    · replace h := h.2 c31
      obtain ⟨h32, h⟩ := h
      refine wm_aload_n d_So_workOut_95 rfl rfl ?_
      refine cf_So_98 rfl d_So_workOut_96 h32 (Nat.le_of_ble_eq_true rfl) (Cv.mono h (fun M33 h => ?_))
      obtain ⟨hOM33, h⟩ := h
      refine wm_lconst (x := 0) d_So_workOut_99 rfl ?_
      refine wm_lstore d_So_workOut_100 (by decide) (L' := [vr a0, vd, vr a2, vi l3, vl 0, vd]) rfl ?_
      exact h
  have hE1 : ¬ ((100 ≤ l4) ∨ (l3 = 0)) → mWm G y_So_workOut (d + 1) 56 [vr a0, vd, vr a2, vi l3, vi l4, vd] [] M (fun r9 M9 => ∃ x9, r9 = some (vi x9) ∧ Q x9 M9) := by
    intro q36
    have h := h.2 q36
    obtain ⟨h37, h⟩ := h
    refine wm_aload_n d_So_workOut_56 rfl rfl ?_
    refine wm_aload_n d_So_workOut_57 rfl rfl ?_
    refine cf_So_90 rfl d_So_workOut_58 h37 (Nat.le_of_ble_eq_true rfl) (Cv.mono h (fun M38 h => ?_))
    obtain ⟨hOM38, h⟩ := h
    obtain ⟨h41, h⟩ := h
    refine wm_aload_n d_So_workOut_61 rfl rfl ?_
    refine wm_iconst d_So_workOut_62 ?_
    refine wm_aload_n d_So_workOut_63 rfl rfl ?_
    refine cf_So_94 rfl d_So_workOut_64 h41 (Nat.le_of_ble_eq_true rfl) (Ci.mono h (fun x43 M42 h => ?_))
    obtain ⟨h44, hOM42, h⟩ := h
    refine wm_if_ne (tgt := 79) d_So_workOut_67 rfl h44 (fun c47 => ?_) (fun c47 => ?_)
    · replace h := h.2 c47
      refine wm_iconst d_So_workOut_79 ?_
      refine wm_goto (tgt := 84) d_So_workOut_80 rfl ?_
      refine wm_istore_n d_So_workOut_84 rfl (by decide) (L' := [vr a0, vd, vr a2, vi 1, vi l4, vd]) rfl ?_
      refine wm_iinc d_So_workOut_85 (by decide) rfl (L' := [vr a0, vd, vr a2, vi 1, vi (l4 + 1), vd]) rfl ?_
      refine wm_goto (tgt := 45) d_So_workOut_88 rfl ?_
      exact h
    · replace c47 := Classical.not_not.mp c47
      replace h := h.1 c47
      obtain ⟨h48, h⟩ := h
      refine wm_aload_n d_So_workOut_70 rfl rfl ?_
      refine wm_iconst d_So_workOut_71 ?_
      refine wm_aload_n d_So_workOut_72 rfl rfl ?_
      refine cf_So_94 rfl d_So_workOut_73 h48 (Nat.le_of_ble_eq_true rfl) (Ci.mono h (fun x50 M49 h => ?_))
      obtain ⟨h51, hOM49, h⟩ := h
      have hJ : ∀ v53 : Int, v53 = (if (x50 = 0) then 0 else 1) → mWm G y_So_workOut (d + 1) 84 [vr a0, vd, vr a2, vd, vi l4, vd] [vi v53] M49 (fun r9 M9 => ∃ x9, r9 = some (vi x9) ∧ Q x9 M9) := by
        intro v53 e55
        have h := h v53 e55
        have h56 : i32 v53 := by rw [e55]; (repeat' split) <;> first | exact ⟨by decide, by decide⟩ | exact ⟨by decide, by decide⟩
        have h57 : (v53 = 0 ∨ v53 = 1) := by rw [e55]; (repeat' split) <;> decide
        refine wm_istore_n d_So_workOut_84 rfl (by decide) (L' := [vr a0, vd, vr a2, vi v53, vi l4, vd]) rfl ?_
        refine wm_iinc d_So_workOut_85 (by decide) rfl (L' := [vr a0, vd, vr a2, vi v53, vi (l4 + 1), vd]) rfl ?_
        refine wm_goto (tgt := 45) d_So_workOut_88 rfl ?_
        exact h
      clear h
      refine wm_if_eq (tgt := 83) d_So_workOut_76 rfl h51 (fun c52 => ?_) (fun c52 => ?_)
      · refine wm_iconst d_So_workOut_83 ?_
        refine wm_less (L' := [vr a0, vd, vr a2, vd, vi l4, vd]) ⟨Or.inr rfl, Or.inl rfl, Or.inr rfl, Or.inl rfl, Or.inr rfl, Or.inl rfl, trivial⟩ ?_
        exact hJ 0 (if_pos c52).symm
      · refine wm_iconst d_So_workOut_79 ?_
        refine wm_goto (tgt := 84) d_So_workOut_80 rfl ?_
        refine wm_less (L' := [vr a0, vd, vr a2, vd, vi l4, vd]) ⟨Or.inr rfl, Or.inl rfl, Or.inr rfl, Or.inl rfl, Or.inr rfl, Or.inl rfl, trivial⟩ ?_
        exact hJ 1 (if_neg c52).symm
  clear h
  refine wm_icmp_ge (tgt := 91) d_So_workOut_49 rfl hi_l4 ⟨by decide, by decide⟩ (fun c26 => ?_) (fun c26 => ?_)
  · exact hE0 (Or.inl c26)
  · refine wm_iload_n d_So_workOut_52 rfl rfl ?_
    refine wm_if_eq (tgt := 91) d_So_workOut_53 rfl hi_l3 (fun c25 => ?_) (fun c25 => ?_)
    · exact hE0 (Or.inr c25)
    · exact hE1 (fun z59 => Or.elim z59 c26 c25)
theorem k_So_workOut_102 {G : mG} {d : Nat} {a0 : Nat} {a2 : Nat} {l3 : Int} {j4 : Int} {M : mM} {Q : Int → mM → Prop} (hO : mOk M) (hi_l3 : i32 l3) (hi_j4 : i64 j4)
    (h : (((0 ≤ cmpL j4 4611686018427387904) ∨ (l3 = 0)) → (mK M a2 = 13 ∧ ∀ M66, M66 = mUI M a2 1 1 → Q 0 M66)) ∧ (¬ ((0 ≤ cmpL j4 4611686018427387904) ∨ (l3 = 0)) → (mK M a0 = 8 ∧ Cv G y_So_evaluate d [vr a0, vr a2] M (fun M70 => mOk M70 ∧ (mK M70 a0 = 8 ∧ Ci G y_So_improveOne d [vr a0, vr a2] M70 (fun x75 M74 => i32 x75 ∧ mOk M74 ∧ (h_So_workOut_102 G d a0 a2 x75 (j4 + 1) M74 Q))))))) :
    h_So_workOut_102 G d a0 a2 l3 j4 M Q := by
  unfold h_So_workOut_102
  refine wm_lload d_So_workOut_102 rfl ?_
  refine wm_ldc2 (x := 4611686018427387904) d_So_workOut_104 k8_182 (by decide) ?_
  refine wm_lcmp d_So_workOut_107 hi_j4 ⟨by decide, by decide⟩ ?_
  have hE0 : ((0 ≤ cmpL j4 4611686018427387904) ∨ (l3 = 0)) → mWm G y_So_workOut (d + 1) 135 [vr a0, vd, vr a2, vi l3, vl j4, vd] [] M (fun r9 M9 => ∃ x9, r9 = some (vi x9) ∧ Q x9 M9) := by
    intro q64
    have h := h.1 q64
    obtain ⟨h65, h⟩ := h
    obtain ⟨M66, e67⟩ : ∃ M66, M66 = mUI M a2 1 1 := ⟨_, rfl⟩
    replace h := h M66 e67
    refine wm_aload_n d_So_workOut_135 rfl rfl ?_
    refine wm_iconst d_So_workOut_136 ?_
    have hOM66 : mOk M66 := by rw [e67]; exact mOk_UI hO (m_b32 (by decide))
    refine pf_So_68 rfl d_So_workOut_137 h65 (by decide) e67 ?_
    refine wm_iconst d_So_workOut_140 ?_
    refine wm_ireturn d_So_workOut_141 rfl rfl ?_
    exact ⟨_, rfl, h⟩
  have hE1 : ¬ ((0 ≤ cmpL j4 4611686018427387904) ∨ (l3 = 0)) → mWm G y_So_workOut (d + 1) 115 [vr a0, vd, vr a2, vi l3, vl j4, vd] [] M (fun r9 M9 => ∃ x9, r9 = some (vi x9) ∧ Q x9 M9) := by
    intro q68
    have h := h.2 q68
    obtain ⟨h69, h⟩ := h
    refine wm_aload_n d_So_workOut_115 rfl rfl ?_
    refine wm_aload_n d_So_workOut_116 rfl rfl ?_
    refine cf_So_90 rfl d_So_workOut_117 h69 (Nat.le_of_ble_eq_true rfl) (Cv.mono h (fun M70 h => ?_))
    obtain ⟨hOM70, h⟩ := h
    obtain ⟨h73, h⟩ := h
    refine wm_aload_n d_So_workOut_120 rfl rfl ?_
    refine wm_aload_n d_So_workOut_121 rfl rfl ?_
    refine cf_So_103 rfl d_So_workOut_122 h73 (Nat.le_of_ble_eq_true rfl) (Ci.mono h (fun x75 M74 h => ?_))
    obtain ⟨h76, hOM74, h⟩ := h
    refine wm_istore_n d_So_workOut_125 rfl (by decide) (L' := [vr a0, vd, vr a2, vi x75, vl j4, vd]) rfl ?_
    refine wm_lload d_So_workOut_126 rfl ?_
    refine wm_lconst (x := 1) d_So_workOut_128 rfl ?_
    refine wm_ladd d_So_workOut_129 ?_
    refine wm_lstore d_So_workOut_130 (by decide) (L' := [vr a0, vd, vr a2, vi x75, vl (j4 + 1), vd]) rfl ?_
    refine wm_goto (tgt := 102) d_So_workOut_132 rfl ?_
    exact h
  clear h
  refine wm_if_ge (tgt := 135) d_So_workOut_108 rfl (m_cmp32 _ _) (fun c62 => ?_) (fun c62 => ?_)
  · exact hE0 (Or.inl c62)
  · refine wm_iload_n d_So_workOut_111 rfl rfl ?_
    refine wm_if_eq (tgt := 135) d_So_workOut_112 rfl hi_l3 (fun c61 => ?_) (fun c61 => ?_)
    · exact hE0 (Or.inr c61)
    · exact hE1 (fun z77 => Or.elim z77 c62 c61)
theorem d_So_leaveCommands_0 : decode y_So_leaveCommands.2.1 0 = .ok (.iconst 0, 1) := by decide +kernel
theorem d_So_leaveCommands_1 : decode y_So_leaveCommands.2.1 1 = .ok (.istore_n 2, 1) := by decide +kernel
theorem d_So_leaveCommands_2 : decode y_So_leaveCommands.2.1 2 = .ok (.iload_n 2, 1) := by decide +kernel
theorem d_So_leaveCommands_3 : decode y_So_leaveCommands.2.1 3 = .ok (.aload_n 0, 1) := by decide +kernel
theorem d_So_leaveCommands_4 : decode y_So_leaveCommands.2.1 4 = .ok (.getfield 64, 3) := by decide +kernel
theorem d_So_leaveCommands_7 : decode y_So_leaveCommands.2.1 7 = .ok (.getfield 107, 3) := by decide +kernel
theorem d_So_leaveCommands_10 : decode y_So_leaveCommands.2.1 10 = .ok (.if_icmp .ge 97, 3) := by decide +kernel
theorem d_So_leaveCommands_107 : decode y_So_leaveCommands.2.1 107 = .ok (.return_, 1) := by decide +kernel
theorem d_So_leaveCommands_13 : decode y_So_leaveCommands.2.1 13 = .ok (.iload_n 1, 1) := by decide +kernel
theorem d_So_leaveCommands_14 : decode y_So_leaveCommands.2.1 14 = .ok (.ifCond .eq 20, 3) := by decide +kernel
theorem d_So_leaveCommands_17 : decode y_So_leaveCommands.2.1 17 = .ok (.aload_n 0, 1) := by decide +kernel
theorem d_So_leaveCommands_18 : decode y_So_leaveCommands.2.1 18 = .ok (.getfield 64, 3) := by decide +kernel
theorem d_So_leaveCommands_21 : decode y_So_leaveCommands.2.1 21 = .ok (.getfield 113, 3) := by decide +kernel
theorem d_So_leaveCommands_24 : decode y_So_leaveCommands.2.1 24 = .ok (.iload_n 2, 1) := by decide +kernel
theorem d_So_leaveCommands_25 : decode y_So_leaveCommands.2.1 25 = .ok (.iaload, 1) := by decide +kernel
theorem d_So_leaveCommands_26 : decode y_So_leaveCommands.2.1 26 = .ok (.iload_n 1, 1) := by decide +kernel
theorem d_So_leaveCommands_27 : decode y_So_leaveCommands.2.1 27 = .ok (.if_icmp .ne 7, 3) := by decide +kernel
theorem d_So_leaveCommands_30 : decode y_So_leaveCommands.2.1 30 = .ok (.iconst 1, 1) := by decide +kernel
theorem d_So_leaveCommands_31 : decode y_So_leaveCommands.2.1 31 = .ok (.goto 4, 3) := by decide +kernel
theorem d_So_leaveCommands_35 : decode y_So_leaveCommands.2.1 35 = .ok (.istore_n 3, 1) := by decide +kernel
theorem d_So_leaveCommands_36 : decode y_So_leaveCommands.2.1 36 = .ok (.aload_n 0, 1) := by decide +kernel
theorem d_So_leaveCommands_37 : decode y_So_leaveCommands.2.1 37 = .ok (.getfield 32, 3) := by decide +kernel
theorem d_So_leaveCommands_40 : decode y_So_leaveCommands.2.1 40 = .ok (.iload_n 2, 1) := by decide +kernel
theorem d_So_leaveCommands_41 : decode y_So_leaveCommands.2.1 41 = .ok (.aload_n 0, 1) := by decide +kernel
theorem d_So_leaveCommands_42 : decode y_So_leaveCommands.2.1 42 = .ok (.getfield 64, 3) := by decide +kernel
theorem d_So_leaveCommands_45 : decode y_So_leaveCommands.2.1 45 = .ok (.getfield 116, 3) := by decide +kernel
theorem d_So_leaveCommands_48 : decode y_So_leaveCommands.2.1 48 = .ok (.iload_n 2, 1) := by decide +kernel
theorem d_So_leaveCommands_49 : decode y_So_leaveCommands.2.1 49 = .ok (.iaload, 1) := by decide +kernel
theorem d_So_leaveCommands_50 : decode y_So_leaveCommands.2.1 50 = .ok (.iload_n 3, 1) := by decide +kernel
theorem d_So_leaveCommands_34 : decode y_So_leaveCommands.2.1 34 = .ok (.iconst 0, 1) := by decide +kernel
theorem d_So_leaveCommands_51 : decode y_So_leaveCommands.2.1 51 = .ok (.ifCond .eq 15, 3) := by decide +kernel
theorem d_So_leaveCommands_66 : decode y_So_leaveCommands.2.1 66 = .ok (.iconst 0, 1) := by decide +kernel
theorem d_So_leaveCommands_54 : decode y_So_leaveCommands.2.1 54 = .ok (.aload_n 0, 1) := by decide +kernel
theorem d_So_leaveCommands_55 : decode y_So_leaveCommands.2.1 55 = .ok (.getfield 64, 3) := by decide +kernel
theorem d_So_leaveCommands_58 : decode y_So_leaveCommands.2.1 58 = .ok (.getfield 119, 3) := by decide +kernel
theorem d_So_leaveCommands_61 : decode y_So_leaveCommands.2.1 61 = .ok (.iload_n 2, 1) := by decide +kernel
theorem d_So_leaveCommands_62 : decode y_So_leaveCommands.2.1 62 = .ok (.iaload, 1) := by decide +kernel
theorem d_So_leaveCommands_63 : decode y_So_leaveCommands.2.1 63 = .ok (.goto 4, 3) := by decide +kernel
theorem d_So_leaveCommands_67 : decode y_So_leaveCommands.2.1 67 = .ok (.iadd, 1) := by decide +kernel
theorem d_So_leaveCommands_68 : decode y_So_leaveCommands.2.1 68 = .ok (.iastore, 1) := by decide +kernel
theorem d_So_leaveCommands_69 : decode y_So_leaveCommands.2.1 69 = .ok (.aload_n 0, 1) := by decide +kernel
theorem d_So_leaveCommands_70 : decode y_So_leaveCommands.2.1 70 = .ok (.getfield 35, 3) := by decide +kernel
theorem d_So_leaveCommands_73 : decode y_So_leaveCommands.2.1 73 = .ok (.iload_n 2, 1) := by decide +kernel
theorem d_So_leaveCommands_74 : decode y_So_leaveCommands.2.1 74 = .ok (.iload_n 3, 1) := by decide +kernel
theorem d_So_leaveCommands_75 : decode y_So_leaveCommands.2.1 75 = .ok (.ifCond .eq 14, 3) := by decide +kernel
theorem d_So_leaveCommands_89 : decode y_So_leaveCommands.2.1 89 = .ok (.aload_n 0, 1) := by decide +kernel
theorem d_So_leaveCommands_90 : decode y_So_leaveCommands.2.1 90 = .ok (.getfield 64, 3) := by decide +kernel
theorem d_So_leaveCommands_93 : decode y_So_leaveCommands.2.1 93 = .ok (.getfield 116, 3) := by decide +kernel
theorem d_So_leaveCommands_96 : decode y_So_leaveCommands.2.1 96 = .ok (.iload_n 2, 1) := by decide +kernel
theorem d_So_leaveCommands_97 : decode y_So_leaveCommands.2.1 97 = .ok (.iconst 1, 1) := by decide +kernel
theorem d_So_leaveCommands_98 : decode y_So_leaveCommands.2.1 98 = .ok (.iadd, 1) := by decide +kernel
theorem d_So_leaveCommands_99 : decode y_So_leaveCommands.2.1 99 = .ok (.iaload, 1) := by decide +kernel
theorem d_So_leaveCommands_78 : decode y_So_leaveCommands.2.1 78 = .ok (.aload_n 0, 1) := by decide +kernel
theorem d_So_leaveCommands_79 : decode y_So_leaveCommands.2.1 79 = .ok (.getfield 32, 3) := by decide +kernel
theorem d_So_leaveCommands_82 : decode y_So_leaveCommands.2.1 82 = .ok (.iload_n 2, 1) := by decide +kernel
theorem d_So_leaveCommands_83 : decode y_So_leaveCommands.2.1 83 = .ok (.iaload, 1) := by decide +kernel
theorem d_So_leaveCommands_84 : decode y_So_leaveCommands.2.1 84 = .ok (.iconst 1, 1) := by decide +kernel
theorem d_So_leaveCommands_85 : decode y_So_leaveCommands.2.1 85 = .ok (.iadd, 1) := by decide +kernel
theorem d_So_leaveCommands_86 : decode y_So_leaveCommands.2.1 86 = .ok (.goto 14, 3) := by decide +kernel
theorem d_So_leaveCommands_100 : decode y_So_leaveCommands.2.1 100 = .ok (.iastore, 1) := by decide +kernel
theorem d_So_leaveCommands_101 : decode y_So_leaveCommands.2.1 101 = .ok (.iinc 2 1, 3) := by decide +kernel
theorem d_So_leaveCommands_104 : decode y_So_leaveCommands.2.1 104 = .ok (.goto (-102), 3) := by decide +kernel
def h_So_leaveCommands_2 (G : mG) (d : Nat) (a0 : Nat) (l1 : Int) (l2 : Int) (M : mM) (Q : mM → Prop) : Prop := mWm G y_So_leaveCommands d 2 [vr a0, vi l1, vi l2, vd] [] M (fun r9 M9 => r9 = none ∧ Q M9)
theorem k_So_leaveCommands {G : mG} {d : Nat} {a0 : Nat} {l1 : Int} {M : mM} {Q : mM → Prop} (hO : mOk M) (hi_l1 : i32 l1)
    (h : h_So_leaveCommands_2 G d a0 l1 0 M Q) :
    Cv G y_So_leaveCommands d [vr a0, vi l1] M Q := by
  refine wm_open (y := y_So_leaveCommands) rfl (Nat.le_of_ble_eq_true rfl) (L := [vr a0, vi l1, vd, vd]) rfl ?_
  refine wm_iconst d_So_leaveCommands_0 ?_
  refine wm_istore_n d_So_leaveCommands_1 rfl (by decide) (L' := [vr a0, vi l1, vi 0, vd]) rfl ?_
  exact h
theorem k_So_leaveCommands_2 {G : mG} {d : Nat} {a0 : Nat} {l1 : Int} {l2 : Int} {M : mM} {Q : mM → Prop} (hO : mOk M) (hi_l1 : i32 l1) (hi_l2 : i32 l2)
    (h : mK M a0 = 8 ∧ mK M (mR M a0 3) = 7 ∧ ((mI M (mR M a0 3) 0 ≤ l2) → (Q M)) ∧ (¬ (mI M (mR M a0 3) 0 ≤ l2) → ((¬ (l1 = 0) → (mK M (mR M (mR M a0 3) 2) = 30 ∧ ((0 : Int) ≤ l2 ∧ l2 < (mN M (mR M (mR M a0 3) 2) : Int)))) ∧ ∀ v15 : Int, v15 = (if ((l1 = 0) ∨ (¬ (mI M (mR M (mR M a0 3) 2) (Int.toNat l2) = l1))) then 0 else 1) → mK M (mR M (mR M a0 3) 4) = 30 ∧ ((0 : Int) ≤ l2 ∧ l2 < (mN M (mR M (mR M a0 3) 4) : Int)) ∧ (¬ (v15 = 0) → (mK M (mR M (mR M a0 3) 3) = 30 ∧ ((0 : Int) ≤ l2 ∧ l2 < (mN M (mR M (mR M a0 3) 3) : Int)))) ∧ ∀ v25 : Int, v25 = (if (v15 = 0) then 0 else mI M (mR M (mR M a0 3) 3) (Int.toNat l2)) → mK M (mR M a0 5) = 30 ∧ ((0 : Int) ≤ l2 ∧ l2 < (mN M (mR M a0 5) : Int)) ∧ i32 ((mI M (mR M (mR M a0 3) 4) (Int.toNat l2)) + v25) ∧ ∀ M31, M31 = mUI M (mR M a0 5) (Int.toNat l2) ((mI M (mR M (mR M a0 3) 4) (Int.toNat l2)) + v25) → (((v15 = 0) → (mK M31 (mR M31 a0 3) = 7 ∧ mK M31 (mR M31 (mR M31 a0 3) 4) = 30 ∧ ((0 : Int) ≤ l2 + 1 ∧ l2 + 1 < (mN M31 (mR M31 (mR M31 a0 3) 4) : Int)))) ∧ (¬ (v15 = 0) → (mK M31 (mR M31 a0 5) = 30 ∧ ((0 : Int) ≤ l2 ∧ l2 < (mN M31 (mR M31 a0 5) : Int))))) ∧ ∀ v39 : Int, v39 = (if (v15 = 0) then mI M31 (mR M31 (mR M31 a0 3) 4) (Int.toNat (l2 + 1)) else (mI M31 (mR M31 a0 5) (Int.toNat l2)) + 1) → mK M31 (mR M31 a0 6) = 30 ∧ ((0 : Int) ≤ l2 ∧ l2 < (mN M31 (mR M31 a0 6) : Int)) ∧ i32 v39 ∧ ∀ M45, M45 = mUI M31 (mR M31 a0 6) (Int.toNat l2) v39 → h_So_leaveCommands_2 G d a0 l1 (l2 + 1) M45 Q))) :
    h_So_leaveCommands_2 G d a0 l1 l2 M Q := by
  unfold h_So_leaveCommands_2
  obtain ⟨h1, h⟩ := h
  obtain ⟨h2, h⟩ := h
  refine wm_iload_n d_So_leaveCommands_2 rfl rfl ?_
  refine wm_aload_n d_So_leaveCommands_3 rfl rfl ?_
  refine gf_So_64 rfl d_So_leaveCommands_4 h1 ?_
  refine gf_So_107 rfl d_So_leaveCommands_7 h2 ?_
  refine wm_icmp_ge (tgt := 107) d_So_leaveCommands_10 rfl hi_l2 (hO _ _).1 (fun c10 => ?_) (fun c10 => ?_)
  · replace h := h.1 c10
    refine wm_return d_So_leaveCommands_107 rfl ?_
    exact ⟨rfl, h⟩
  · replace h := h.2 c10
    refine wm_iload_n d_So_leaveCommands_13 rfl rfl ?_
    obtain ⟨s16, h⟩ := h
    have hJ : ∀ v15 : Int, v15 = (if ((l1 = 0) ∨ (¬ (mI M (mR M (mR M a0 3) 2) (Int.toNat l2) = l1))) then 0 else 1) → mWm G y_So_leaveCommands d 35 [vr a0, vi l1, vi l2, vd] [vi v15] M (fun r9 M9 => r9 = none ∧ Q M9) := by
      intro v15 e17
      have h := h v15 e17
      have h18 : i32 v15 := by rw [e17]; (repeat' split) <;> first | exact ⟨by decide, by decide⟩ | exact ⟨by decide, by decide⟩
      have h19 : (v15 = 0 ∨ v15 = 1) := by rw [e17]; (repeat' split) <;> decide
      obtain ⟨h20, h⟩ := h
      obtain ⟨h21, h⟩ := h
      refine wm_istore_n d_So_leaveCommands_35 rfl (by decide) (L' := [vr a0, vi l1, vi l2, vi v15]) rfl ?_
      refine wm_aload_n d_So_leaveCommands_36 rfl rfl ?_
      refine gf_So_32 rfl d_So_leaveCommands_37 h1 ?_
      refine wm_iload_n d_So_leaveCommands_40 rfl rfl ?_
      refine wm_aload_n d_So_leaveCommands_41 rfl rfl ?_
      refine gf_So_64 rfl d_So_leaveCommands_42 h1 ?_
      refine gf_So_116 rfl d_So_leaveCommands_45 h2 ?_
      refine wm_iload_n d_So_leaveCommands_48 rfl rfl ?_
      refine wm_iald d_So_leaveCommands_49 h20 h21 ?_
      refine wm_iload_n d_So_leaveCommands_50 rfl rfl ?_
      obtain ⟨s26, h⟩ := h
      have hJ : ∀ v25 : Int, v25 = (if (v15 = 0) then 0 else mI M (mR M (mR M a0 3) 3) (Int.toNat l2)) → mWm G y_So_leaveCommands d 67 [vr a0, vi l1, vi l2, vi v15] [vi v25, vi (mI M (mR M (mR M a0 3) 4) (Int.toNat l2)), vi l2, vr (mR M a0 5)] M (fun r9 M9 => r9 = none ∧ Q M9) := by
        intro v25 e27
        have h := h v25 e27
        obtain ⟨h28, h⟩ := h
        obtain ⟨h29, h⟩ := h
        obtain ⟨h30, h⟩ := h
        obtain ⟨M31, e32⟩ : ∃ M31, M31 = mUI M (mR M a0 5) (Int.toNat l2) ((mI M (mR M (mR M a0 3) 4) (Int.toNat l2)) + v25) := ⟨_, rfl⟩
        replace h := h M31 e32
        refine wm_iadd d_So_leaveCommands_67 ?_
        have hOM31 : mOk M31 := by rw [e32]; exact mOk_UI hO h30
        refine wm_iastE d_So_leaveCommands_68 h28 h29 h30 e32 ?_
        refine wm_aload_n d_So_leaveCommands_69 rfl rfl ?_
        refine gf_So_35 rfl d_So_leaveCommands_70 (by rw [e32]; exact h1) ?_
        refine wm_iload_n d_So_leaveCommands_73 rfl rfl ?_
        refine wm_iload_n d_So_leaveCommands_74 rfl rfl ?_
        obtain ⟨s40, h⟩ := h
        have hJ : ∀ v39 : Int, v39 = (if (v15 = 0) then mI M31 (mR M31 (mR M31 a0 3) 4) (Int.toNat (l2 + 1)) else (mI M31 (mR M31 a0 5) (Int.toNat l2)) + 1) → mWm G y_So_leaveCommands d 100 [vr a0, vi l1, vi l2, vd] [vi v39, vi l2, vr (mR M31 a0 6)] M31 (fun r9 M9 => r9 = none ∧ Q M9) := by
          intro v39 e41
          have h := h v39 e41
          obtain ⟨h42, h⟩ := h
          obtain ⟨h43, h⟩ := h
          obtain ⟨h44, h⟩ := h
          obtain ⟨M45, e46⟩ : ∃ M45, M45 = mUI M31 (mR M31 a0 6) (Int.toNat l2) v39 := ⟨_, rfl⟩
          replace h := h M45 e46
          have hOM45 : mOk M45 := by rw [e46]; exact mOk_UI hOM31 h44
          refine wm_iastE d_So_leaveCommands_100 h42 h43 h44 e46 ?_
          refine wm_iinc d_So_leaveCommands_101 (by decide) rfl (L' := [vr a0, vi l1, vi (l2 + 1), vd]) rfl ?_
          refine wm_goto (tgt := 2) d_So_leaveCommands_104 rfl ?_
          exact h
        clear h
        obtain ⟨s47, s48⟩ := s40
        refine wm_if_eq (tgt := 89) d_So_leaveCommands_75 rfl h18 (fun c33 => ?_) (fun c33 => ?_)
        · have s47 := s47 c33
          obtain ⟨h34, h35, h36⟩ := s47
          refine wm_aload_n d_So_leaveCommands_89 rfl rfl ?_
          refine gf_So_64 rfl d_So_leaveCommands_90 (by rw [e32]; exact h1) ?_
          refine gf_So_116 rfl d_So_leaveCommands_93 h34 ?_
          refine wm_iload_n d_So_leaveCommands_96 rfl rfl ?_
          refine wm_iconst d_So_leaveCommands_97 ?_
          refine wm_iadd d_So_leaveCommands_98 ?_
          refine wm_iald d_So_leaveCommands_99 h35 h36 ?_
          refine wm_less (L' := [vr a0, vi l1, vi l2, vd]) ⟨Or.inr rfl, Or.inr rfl, Or.inr rfl, Or.inl rfl, trivial⟩ ?_
          exact hJ (mI M31 (mR M31 (mR M31 a0 3) 4) (Int.toNat (l2 + 1))) (if_pos c33).symm
        · have s48 := s48 c33
          obtain ⟨h37, h38⟩ := s48
          refine wm_aload_n d_So_leaveCommands_78 rfl rfl ?_
          refine gf_So_32 rfl d_So_leaveCommands_79 (by rw [e32]; exact h1) ?_
          refine wm_iload_n d_So_leaveCommands_82 rfl rfl ?_
          refine wm_iald d_So_leaveCommands_83 h37 h38 ?_
          refine wm_iconst d_So_leaveCommands_84 ?_
          refine wm_iadd d_So_leaveCommands_85 ?_
          refine wm_goto (tgt := 100) d_So_leaveCommands_86 rfl ?_
          refine wm_less (L' := [vr a0, vi l1, vi l2, vd]) ⟨Or.inr rfl, Or.inr rfl, Or.inr rfl, Or.inl rfl, trivial⟩ ?_
          exact hJ ((mI M31 (mR M31 a0 5) (Int.toNat l2)) + 1) (if_neg c33).symm
      clear h
      have s50 := s26
      refine wm_if_eq (tgt := 66) d_So_leaveCommands_51 rfl h18 (fun c22 => ?_) (fun c22 => ?_)
      · refine wm_iconst d_So_leaveCommands_66 ?_
        exact hJ 0 (if_pos c22).symm
      · have s50 := s50 c22
        obtain ⟨h23, h24⟩ := s50
        refine wm_aload_n d_So_leaveCommands_54 rfl rfl ?_
        refine gf_So_64 rfl d_So_leaveCommands_55 h1 ?_
        refine gf_So_119 rfl d_So_leaveCommands_58 h2 ?_
        refine wm_iload_n d_So_leaveCommands_61 rfl rfl ?_
        refine wm_iald d_So_leaveCommands_62 h23 h24 ?_
        refine wm_goto (tgt := 67) d_So_leaveCommands_63 rfl ?_
        exact hJ (mI M (mR M (mR M a0 3) 3) (Int.toNat l2)) (if_neg c22).symm
    clear h
    have s52 := s16
    refine wm_if_eq (tgt := 34) d_So_leaveCommands_14 rfl hi_l1 (fun c11 => ?_) (fun c11 => ?_)
    · refine wm_iconst d_So_leaveCommands_34 ?_
      exact hJ 0 (if_pos (Or.inl c11)).symm
    · have s52 := s52 c11
      obtain ⟨h12, h13⟩ := s52
      refine wm_aload_n d_So_leaveCommands_17 rfl rfl ?_
      refine gf_So_64 rfl d_So_leaveCommands_18 h1 ?_
      refine gf_So_113 rfl d_So_leaveCommands_21 h2 ?_
      refine wm_iload_n d_So_leaveCommands_24 rfl rfl ?_
      refine wm_iald d_So_leaveCommands_25 h12 h13 ?_
      refine wm_iload_n d_So_leaveCommands_26 rfl rfl ?_
      refine wm_icmp_ne (tgt := 34) d_So_leaveCommands_27 rfl (hO _ _).1 hi_l1 (fun c14 => ?_) (fun c14 => ?_)
      · refine wm_iconst d_So_leaveCommands_34 ?_
        exact hJ 0 (if_pos (Or.inr c14)).symm
      · replace c14 := Classical.not_not.mp c14
        refine wm_iconst d_So_leaveCommands_30 ?_
        refine wm_goto (tgt := 35) d_So_leaveCommands_31 rfl ?_
        exact hJ 1 (if_neg (fun z53 => Or.elim z53 c11 (fun z54 => z54 c14))).symm
theorem d_So_findUnknown_0 : decode y_So_findUnknown.2.1 0 = .ok (.aload_n 0, 1) := by decide +kernel
theorem d_So_findUnknown_1 : decode y_So_findUnknown.2.1 1 = .ok (.iconst 0, 1) := by decide +kernel
theorem d_So_findUnknown_2 : decode y_So_findUnknown.2.1 2 = .ok (.putfield 122, 3) := by decide +kernel
theorem d_So_findUnknown_5 : decode y_So_findUnknown.2.1 5 = .ok (.aload_n 0, 1) := by decide +kernel
theorem d_So_findUnknown_6 : decode y_So_findUnknown.2.1 6 = .ok (.getfield 38, 3) := by decide +kernel
theorem d_So_findUnknown_9 : decode y_So_findUnknown.2.1 9 = .ok (.iconst (-1), 1) := by decide +kernel
theorem d_So_findUnknown_10 : decode y_So_findUnknown.2.1 10 = .ok (.invokestatic 125, 3) := by decide +kernel
theorem d_So_findUnknown_13 : decode y_So_findUnknown.2.1 13 = .ok (.iconst 1, 1) := by decide +kernel
theorem d_So_findUnknown_14 : decode y_So_findUnknown.2.1 14 = .ok (.istore_n 1, 1) := by decide +kernel
theorem d_So_findUnknown_15 : decode y_So_findUnknown.2.1 15 = .ok (.iconst 0, 1) := by decide +kernel
theorem d_So_findUnknown_16 : decode y_So_findUnknown.2.1 16 = .ok (.istore_n 2, 1) := by decide +kernel
theorem d_So_findUnknown_17 : decode y_So_findUnknown.2.1 17 = .ok (.iload_n 2, 1) := by decide +kernel
theorem d_So_findUnknown_18 : decode y_So_findUnknown.2.1 18 = .ok (.sipush 512, 3) := by decide +kernel
theorem d_So_findUnknown_21 : decode y_So_findUnknown.2.1 21 = .ok (.if_icmp .gt 119, 3) := by decide +kernel
theorem d_So_findUnknown_24 : decode y_So_findUnknown.2.1 24 = .ok (.iload_n 1, 1) := by decide +kernel
theorem d_So_findUnknown_25 : decode y_So_findUnknown.2.1 25 = .ok (.ifCond .eq 115, 3) := by decide +kernel
theorem d_So_findUnknown_28 : decode y_So_findUnknown.2.1 28 = .ok (.iconst 0, 1) := by decide +kernel
theorem d_So_findUnknown_29 : decode y_So_findUnknown.2.1 29 = .ok (.istore_n 1, 1) := by decide +kernel
theorem d_So_findUnknown_30 : decode y_So_findUnknown.2.1 30 = .ok (.aload_n 0, 1) := by decide +kernel
theorem d_So_findUnknown_31 : decode y_So_findUnknown.2.1 31 = .ok (.getfield 64, 3) := by decide +kernel
theorem d_So_findUnknown_34 : decode y_So_findUnknown.2.1 34 = .ok (.getfield 107, 3) := by decide +kernel
theorem d_So_findUnknown_37 : decode y_So_findUnknown.2.1 37 = .ok (.iconst 1, 1) := by decide +kernel
theorem d_So_findUnknown_38 : decode y_So_findUnknown.2.1 38 = .ok (.isub, 1) := by decide +kernel
theorem d_So_findUnknown_39 : decode y_So_findUnknown.2.1 39 = .ok (.istore_n 3, 1) := by decide +kernel
theorem d_So_findUnknown_140 : decode y_So_findUnknown.2.1 140 = .ok (.iconst 1, 1) := by decide +kernel
theorem d_So_findUnknown_141 : decode y_So_findUnknown.2.1 141 = .ok (.ireturn, 1) := by decide +kernel
theorem d_So_findUnknown_40 : decode y_So_findUnknown.2.1 40 = .ok (.iload_n 3, 1) := by decide +kernel
theorem d_So_findUnknown_41 : decode y_So_findUnknown.2.1 41 = .ok (.ifCond .lt 93, 3) := by decide +kernel
theorem d_So_findUnknown_134 : decode y_So_findUnknown.2.1 134 = .ok (.iinc 2 1, 3) := by decide +kernel
theorem d_So_findUnknown_137 : decode y_So_findUnknown.2.1 137 = .ok (.goto (-120), 3) := by decide +kernel
theorem d_So_findUnknown_44 : decode y_So_findUnknown.2.1 44 = .ok (.aload_n 0, 1) := by decide +kernel
theorem d_So_findUnknown_45 : decode y_So_findUnknown.2.1 45 = .ok (.getfield 38, 3) := by decide +kernel
theorem d_So_findUnknown_48 : decode y_So_findUnknown.2.1 48 = .ok (.iload_n 3, 1) := by decide +kernel
theorem d_So_findUnknown_49 : decode y_So_findUnknown.2.1 49 = .ok (.iaload, 1) := by decide +kernel
theorem d_So_findUnknown_50 : decode y_So_findUnknown.2.1 50 = .ok (.iconst (-1), 1) := by decide +kernel
theorem d_So_findUnknown_51 : decode y_So_findUnknown.2.1 51 = .ok (.if_icmp .ne 11, 3) := by decide +kernel
theorem d_So_findUnknown_54 : decode y_So_findUnknown.2.1 54 = .ok (.aload_n 0, 1) := by decide +kernel
theorem d_So_findUnknown_55 : decode y_So_findUnknown.2.1 55 = .ok (.iload_n 3, 1) := by decide +kernel
theorem d_So_findUnknown_62 : decode y_So_findUnknown.2.1 62 = .ok (.iconst (-1), 1) := by decide +kernel
theorem d_So_findUnknown_56 : decode y_So_findUnknown.2.1 56 = .ok (.invokevirtual 131, 3) := by decide +kernel
theorem d_So_findUnknown_59 : decode y_So_findUnknown.2.1 59 = .ok (.goto 4, 3) := by decide +kernel
theorem d_So_findUnknown_63 : decode y_So_findUnknown.2.1 63 = .ok (.istore 4, 2) := by decide +kernel
theorem d_So_findUnknown_65 : decode y_So_findUnknown.2.1 65 = .ok (.iload 4, 2) := by decide +kernel
theorem d_So_findUnknown_67 : decode y_So_findUnknown.2.1 67 = .ok (.iconst (-1), 1) := by decide +kernel
theorem d_So_findUnknown_68 : decode y_So_findUnknown.2.1 68 = .ok (.if_icmp .ne 6, 3) := by decide +kernel
theorem d_So_findUnknown_71 : decode y_So_findUnknown.2.1 71 = .ok (.goto 57, 3) := by decide +kernel
theorem d_So_findUnknown_128 : decode y_So_findUnknown.2.1 128 = .ok (.iinc 3 (-1), 3) := by decide +kernel
theorem d_So_findUnknown_131 : decode y_So_findUnknown.2.1 131 = .ok (.goto (-91), 3) := by decide +kernel
theorem d_So_findUnknown_74 : decode y_So_findUnknown.2.1 74 = .ok (.aload_n 0, 1) := by decide +kernel
theorem d_So_findUnknown_75 : decode y_So_findUnknown.2.1 75 = .ok (.getfield 122, 3) := by decide +kernel
theorem d_So_findUnknown_78 : decode y_So_findUnknown.2.1 78 = .ok (.bipush 40, 2) := by decide +kernel
theorem d_So_findUnknown_80 : decode y_So_findUnknown.2.1 80 = .ok (.if_icmp .ne 5, 3) := by decide +kernel
theorem d_So_findUnknown_83 : decode y_So_findUnknown.2.1 83 = .ok (.iconst 0, 1) := by decide +kernel
theorem d_So_findUnknown_84 : decode y_So_findUnknown.2.1 84 = .ok (.ireturn, 1) := by decide +kernel
theorem d_So_findUnknown_85 : decode y_So_findUnknown.2.1 85 = .ok (.aload_n 0, 1) := by decide +kernel
theorem d_So_findUnknown_86 : decode y_So_findUnknown.2.1 86 = .ok (.getfield 38, 3) := by decide +kernel
theorem d_So_findUnknown_89 : decode y_So_findUnknown.2.1 89 = .ok (.iload_n 3, 1) := by decide +kernel
theorem d_So_findUnknown_90 : decode y_So_findUnknown.2.1 90 = .ok (.aload_n 0, 1) := by decide +kernel
theorem d_So_findUnknown_91 : decode y_So_findUnknown.2.1 91 = .ok (.getfield 122, 3) := by decide +kernel
theorem d_So_findUnknown_94 : decode y_So_findUnknown.2.1 94 = .ok (.iastore, 1) := by decide +kernel
theorem d_So_findUnknown_95 : decode y_So_findUnknown.2.1 95 = .ok (.aload_n 0, 1) := by decide +kernel
theorem d_So_findUnknown_96 : decode y_So_findUnknown.2.1 96 = .ok (.getfield 41, 3) := by decide +kernel
theorem d_So_findUnknown_99 : decode y_So_findUnknown.2.1 99 = .ok (.aload_n 0, 1) := by decide +kernel
theorem d_So_findUnknown_100 : decode y_So_findUnknown.2.1 100 = .ok (.getfield 122, 3) := by decide +kernel
theorem d_So_findUnknown_103 : decode y_So_findUnknown.2.1 103 = .ok (.iload_n 3, 1) := by decide +kernel
theorem d_So_findUnknown_104 : decode y_So_findUnknown.2.1 104 = .ok (.iastore, 1) := by decide +kernel
theorem d_So_findUnknown_105 : decode y_So_findUnknown.2.1 105 = .ok (.aload_n 0, 1) := by decide +kernel
theorem d_So_findUnknown_106 : decode y_So_findUnknown.2.1 106 = .ok (.getfield 44, 3) := by decide +kernel
theorem d_So_findUnknown_109 : decode y_So_findUnknown.2.1 109 = .ok (.aload_n 0, 1) := by decide +kernel
theorem d_So_findUnknown_110 : decode y_So_findUnknown.2.1 110 = .ok (.getfield 122, 3) := by decide +kernel
theorem d_So_findUnknown_113 : decode y_So_findUnknown.2.1 113 = .ok (.iload 4, 2) := by decide +kernel
theorem d_So_findUnknown_115 : decode y_So_findUnknown.2.1 115 = .ok (.iastore, 1) := by decide +kernel
theorem d_So_findUnknown_116 : decode y_So_findUnknown.2.1 116 = .ok (.aload_n 0, 1) := by decide +kernel
theorem d_So_findUnknown_117 : decode y_So_findUnknown.2.1 117 = .ok (.dup, 1) := by decide +kernel
theorem d_So_findUnknown_118 : decode y_So_findUnknown.2.1 118 = .ok (.getfield 122, 3) := by decide +kernel
theorem d_So_findUnknown_121 : decode y_So_findUnknown.2.1 121 = .ok (.iconst 1, 1) := by decide +kernel
theorem d_So_findUnknown_122 : decode y_So_findUnknown.2.1 122 = .ok (.iadd, 1) := by decide +kernel
theorem d_So_findUnknown_123 : decode y_So_findUnknown.2.1 123 = .ok (.putfield 122, 3) := by decide +kernel
theorem d_So_findUnknown_126 : decode y_So_findUnknown.2.1 126 = .ok (.iconst 1, 1) := by decide +kernel
theorem d_So_findUnknown_127 : decode y_So_findUnknown.2.1 127 = .ok (.istore_n 1, 1) := by decide +kernel
def h_So_findUnknown_17 (G : mG) (d : Nat) (a0 : Nat) (l1 : Int) (l2 : Int) (M : mM) (Q : Int → mM → Prop) : Prop := mWm G y_So_findUnknown (d + 1) 17 [vr a0, vi l1, vi l2, vd, vd] [] M (fun r9 M9 => ∃ x9, r9 = some (vi x9) ∧ Q x9 M9)
def h_So_findUnknown_40 (G : mG) (d : Nat) (a0 : Nat) (l1 : Int) (l2 : Int) (l3 : Int) (M : mM) (Q : Int → mM → Prop) : Prop := mWm G y_So_findUnknown (d + 1) 40 [vr a0, vi l1, vi l2, vi l3, vd] [] M (fun r9 M9 => ∃ x9, r9 = some (vi x9) ∧ Q x9 M9)
def h_So_findUnknown_63 (G : mG) (d : Nat) (a0 : Nat) (l1 : Int) (l2 : Int) (l3 : Int) (k0 : Int) (M : mM) (Q : Int → mM → Prop) : Prop := mWm G y_So_findUnknown (d + 1) 63 [vr a0, vi l1, vi l2, vi l3, vd] [vi k0] M (fun r9 M9 => ∃ x9, r9 = some (vi x9) ∧ Q x9 M9)
theorem k_So_findUnknown {G : mG} {d : Nat} {a0 : Nat} {M : mM} {Q : Int → mM → Prop} (hO : mOk M)
    (h : mK M a0 = 8 ∧ ∀ M2, M2 = mUI M a0 10 0 → Cv G y_JA_fill d [vr (mR M2 a0 7), vi (-1)] M2 (fun M4 => mOk M4 ∧ (h_So_findUnknown_17 G d a0 1 0 M4 Q))) :
    Ci G y_So_findUnknown (d + 1) [vr a0] M Q := by
  refine wm_open (y := y_So_findUnknown) rfl (Nat.le_of_ble_eq_true rfl) (L := [vr a0, vd, vd, vd, vd]) rfl ?_
  obtain ⟨h1, h⟩ := h
  obtain ⟨M2, e3⟩ : ∃ M2, M2 = mUI M a0 10 0 := ⟨_, rfl⟩
  replace h := h M2 e3
  refine wm_aload_n d_So_findUnknown_0 rfl rfl ?_
  refine wm_iconst d_So_findUnknown_1 ?_
  have hOM2 : mOk M2 := by rw [e3]; exact mOk_UI hO ⟨by decide, by decide⟩
  refine pf_So_122 rfl d_So_findUnknown_2 h1 ⟨by decide, by decide⟩ e3 ?_
  refine wm_aload_n d_So_findUnknown_5 rfl rfl ?_
  refine gf_So_38 rfl d_So_findUnknown_6 (by rw [e3]; exact h1) ?_
  refine wm_iconst d_So_findUnknown_9 ?_
  refine cf_So_125 rfl d_So_findUnknown_10 (Nat.le_of_ble_eq_true rfl) (Cv.mono h (fun M4 h => ?_))
  obtain ⟨hOM4, h⟩ := h
  refine wm_iconst d_So_findUnknown_13 ?_
  refine wm_istore_n d_So_findUnknown_14 rfl (by decide) (L' := [vr a0, vi 1, vd, vd, vd]) rfl ?_
  refine wm_iconst d_So_findUnknown_15 ?_
  refine wm_istore_n d_So_findUnknown_16 rfl (by decide) (L' := [vr a0, vi 1, vi 0, vd, vd]) rfl ?_
  exact h
theorem k_So_findUnknown_17 {G : mG} {d : Nat} {a0 : Nat} {l1 : Int} {l2 : Int} {M : mM} {Q : Int → mM → Prop} (hO : mOk M) (hi_l1 : i32 l1) (hi_l2 : i32 l2)
    (h : (((512 < l2) ∨ (l1 = 0)) → (Q 1 M)) ∧ (¬ ((512 < l2) ∨ (l1 = 0)) → (mK M a0 = 8 ∧ mK M (mR M a0 3) = 7 ∧ h_So_findUnknown_40 G d a0 0 l2 ((mI M (mR M a0 3) 0) - 1) M Q))) :
    h_So_findUnknown_17 G d a0 l1 l2 M Q := by
  unfold h_So_findUnknown_17
  refine wm_iload_n d_So_findUnknown_17 rfl rfl ?_
  refine wm_sipush d_So_findUnknown_18 (by decide) ?_
  have hE0 : ((512 < l2) ∨ (l1 = 0)) → mWm G y_So_findUnknown (d + 1) 140 [vr a0, vi l1, vi l2, vd, vd] [] M (fun r9 M9 => ∃ x9, r9 = some (vi x9) ∧ Q x9 M9) := by
    intro q12
    have h := h.1 q12
    refine wm_iconst d_So_findUnknown_140 ?_
    refine wm_ireturn d_So_findUnknown_141 rfl (m_nb (by decide)) ?_
    exact ⟨_, rfl, h⟩
  have hE1 : ¬ ((512 < l2) ∨ (l1 = 0)) → mWm G y_So_findUnknown (d + 1) 28 [vr a0, vi l1, vi l2, vd, vd] [] M (fun r9 M9 => ∃ x9, r9 = some (vi x9) ∧ Q x9 M9) := by
    intro q13
    have h := h.2 q13
    obtain ⟨h14, h⟩ := h
    obtain ⟨h15, h⟩ := h
    refine wm_iconst d_So_findUnknown_28 ?_
    refine wm_istore_n d_So_findUnknown_29 rfl (by decide) (L' := [vr a0, vi 0, vi l2, vd, vd]) rfl ?_
    refine wm_aload_n d_So_findUnknown_30 rfl rfl ?_
    refine gf_So_64 rfl d_So_findUnknown_31 h14 ?_
    refine gf_So_107 rfl d_So_findUnknown_34 h15 ?_
    refine wm_iconst d_So_findUnknown_37 ?_
    refine wm_isub d_So_findUnknown_38 ?_
    refine wm_istore_n d_So_findUnknown_39 rfl (by decide) (L' := [vr a0, vi 0, vi l2, vi ((mI M (mR M a0 3) 0) - 1), vd]) rfl ?_
    exact h
  clear h
  refine wm_icmp_gt (tgt := 140) d_So_findUnknown_21 rfl hi_l2 ⟨by decide, by decide⟩ (fun c10 => ?_) (fun c10 => ?_)
  · exact hE0 (Or.inl c10)
  · refine wm_iload_n d_So_findUnknown_24 rfl rfl ?_
    refine wm_if_eq (tgt := 140) d_So_findUnknown_25 rfl hi_l1 (fun c9 => ?_) (fun c9 => ?_)
    · exact hE0 (Or.inr c9)
    · exact hE1 (fun z16 => Or.elim z16 c10 c9)
theorem k_So_findUnknown_40 {G : mG} {d : Nat} {a0 : Nat} {l1 : Int} {l2 : Int} {l3 : Int} {M : mM} {Q : Int → mM → Prop} (hO : mOk M) (hi_l1 : i32 l1) (hi_l2 : i32 l2) (hi_l3 : i32 l3)
    (h : ((l3 < 0) → (h_So_findUnknown_17 G d a0 l1 (l2 + 1) M Q)) ∧ (¬ (l3 < 0) → (mK M a0 = 8 ∧ mK M (mR M a0 7) = 30 ∧ ((0 : Int) ≤ l3 ∧ l3 < (mN M (mR M a0 7) : Int)) ∧ ((mI M (mR M a0 7) (Int.toNat l3) = (-1)) → (Ci G y_So_wayFrom d [vr a0, vi l3] M (fun x30 M29 => i32 x30 ∧ mOk M29 ∧ (h_So_findUnknown_63 G d a0 l1 l2 l3 x30 M29 Q)))) ∧ (¬ (mI M (mR M a0 7) (Int.toNat l3) = (-1)) → (h_So_findUnknown_63 G d a0 l1 l2 l3 (-1) M Q))))) :
    h_So_findUnknown_40 G d a0 l1 l2 l3 M Q := by
  unfold h_So_findUnknown_40
  refine wm_iload_n d_So_findUnknown_40 rfl rfl ?_
  refine wm_if_lt (tgt := 134) d_So_findUnknown_41 rfl hi_l3 (fun c23 => ?_) (fun c23 => ?_)
  · replace h := h.1 c23
    refine wm_iinc d_So_findUnknown_134 (by decide) rfl (L' := [vr a0, vi l1, vi (l2 + 1), vi l3, vd]) rfl ?_
    refine wm_goto (tgt := 17) d_So_findUnknown_137 rfl ?_
    refine wm_less (L' := [vr a0, vi l1, vi (l2 + 1), vd, vd]) ⟨Or.inr rfl, Or.inr rfl, Or.inr rfl, Or.inl rfl, Or.inl rfl, trivial⟩ ?_
    exact h
  · replace h := h.2 c23
    obtain ⟨h24, h⟩ := h
    obtain ⟨h25, h⟩ := h
    obtain ⟨h26, h⟩ := h
    refine wm_aload_n d_So_findUnknown_44 rfl rfl ?_
    refine gf_So_38 rfl d_So_findUnknown_45 h24 ?_
    refine wm_iload_n d_So_findUnknown_48 rfl rfl ?_
    refine wm_iald d_So_findUnknown_49 h25 h26 ?_
    refine wm_iconst d_So_findUnknown_50 ?_
    refine wm_icmp_ne (tgt := 62) d_So_findUnknown_51 rfl (hO _ _).1 ⟨by decide, by decide⟩ (fun c28 => ?_) (fun c28 => ?_)
    · replace h := h.2 c28
      refine wm_iconst d_So_findUnknown_62 ?_
      exact h
    · replace c28 := Classical.not_not.mp c28
      replace h := h.1 c28
      refine wm_aload_n d_So_findUnknown_54 rfl rfl ?_
      refine wm_iload_n d_So_findUnknown_55 rfl rfl ?_
      refine cf_So_131 rfl d_So_findUnknown_56 h24 (Nat.le_of_ble_eq_true rfl) (Ci.mono h (fun x30 M29 h => ?_))
      obtain ⟨h31, hOM29, h⟩ := h
      refine wm_goto (tgt := 63) d_So_findUnknown_59 rfl ?_
      exact h
theorem k_So_findUnknown_63 {G : mG} {d : Nat} {a0 : Nat} {l1 : Int} {l2 : Int} {l3 : Int} {k0 : Int} {M : mM} {Q : Int → mM → Prop} (hO : mOk M) (hi_l1 : i32 l1) (hi_l2 : i32 l2) (hi_l3 : i32 l3) (hi_k0 : i32 k0)
    (h : ((k0 = (-1)) → (h_So_findUnknown_40 G d a0 l1 l2 (l3 + (-1)) M Q)) ∧ (¬ (k0 = (-1)) → (mK M a0 = 8 ∧ ((mI M a0 10 = 40) → (Q 0 M)) ∧ (¬ (mI M a0 10 = 40) → (mK M (mR M a0 7) = 30 ∧ ((0 : Int) ≤ l3 ∧ l3 < (mN M (mR M a0 7) : Int)) ∧ ∀ M41, M41 = mUI M (mR M a0 7) (Int.toNat l3) (mI M a0 10) → mK M41 (mR M41 a0 8) = 30 ∧ ((0 : Int) ≤ mI M41 a0 10 ∧ mI M41 a0 10 < (mN M41 (mR M41 a0 8) : Int)) ∧ ∀ M45, M45 = mUI M41 (mR M41 a0 8) (Int.toNat (mI M41 a0 10)) l3 → mK M45 (mR M45 a0 9) = 30 ∧ ((0 : Int) ≤ mI M45 a0 10 ∧ mI M45 a0 10 < (mN M45 (mR M45 a0 9) : Int)) ∧ ∀ M49, M49 = mUI M45 (mR M45 a0 9) (Int.toNat (mI M45 a0 10)) k0 → i32 ((mI M49 a0 10) + 1) ∧ ∀ M52, M52 = mUI M49 a0 10 ((mI M49 a0 10) + 1) → h_So_findUnknown_40 G d a0 1 l2 (l3 + (-1)) M52 Q))))) :
    h_So_findUnknown_63 G d a0 l1 l2 l3 k0 M Q := by
  unfold h_So_findUnknown_63
  refine wm_istore d_So_findUnknown_63 (by decide) (L' := [vr a0, vi l1, vi l2, vi l3, vi k0]) rfl ?_
  refine wm_iload d_So_findUnknown_65 rfl ?_
  refine wm_iconst d_So_findUnknown_67 ?_
  refine wm_icmp_ne (tgt := 74) d_So_findUnknown_68 rfl hi_k0 ⟨by decide, by decide⟩ (fun c35 => ?_) (fun c35 => ?_)
  · replace h := h.2 c35
    obtain ⟨h36, h⟩ := h
    refine wm_aload_n d_So_findUnknown_74 rfl rfl ?_
    refine gf_So_122 rfl d_So_findUnknown_75 h36 ?_
    refine wm_bipush d_So_findUnknown_78 (by decide) ?_
    refine wm_icmp_ne (tgt := 85) d_So_findUnknown_80 rfl (hO _ _).1 ⟨by decide, by decide⟩ (fun c38 => ?_) (fun c38 => ?_)
    · replace h := h.2 c38
      obtain ⟨h39, h⟩ := h
      obtain ⟨h40, h⟩ := h
      obtain ⟨M41, e42⟩ : ∃ M41, M41 = mUI M (mR M a0 7) (Int.toNat l3) (mI M a0 10) := ⟨_, rfl⟩
      replace h := h M41 e42
      obtain ⟨h43, h⟩ := h
      obtain ⟨h44, h⟩ := h
      obtain ⟨M45, e46⟩ : ∃ M45, M45 = mUI M41 (mR M41 a0 8) (Int.toNat (mI M41 a0 10)) l3 := ⟨_, rfl⟩
      replace h := h M45 e46
      obtain ⟨h47, h⟩ := h
      obtain ⟨h48, h⟩ := h
      obtain ⟨M49, e50⟩ : ∃ M49, M49 = mUI M45 (mR M45 a0 9) (Int.toNat (mI M45 a0 10)) k0 := ⟨_, rfl⟩
      replace h := h M49 e50
      obtain ⟨h51, h⟩ := h
      obtain ⟨M52, e53⟩ : ∃ M52, M52 = mUI M49 a0 10 ((mI M49 a0 10) + 1) := ⟨_, rfl⟩
      replace h := h M52 e53
      refine wm_aload_n d_So_findUnknown_85 rfl rfl ?_
      refine gf_So_38 rfl d_So_findUnknown_86 h36 ?_
      refine wm_iload_n d_So_findUnknown_89 rfl rfl ?_
      refine wm_aload_n d_So_findUnknown_90 rfl rfl ?_
      refine gf_So_122 rfl d_So_findUnknown_91 h36 ?_
      have hOM41 : mOk M41 := by rw [e42]; exact mOk_UI hO (hO _ _).1
      refine wm_iastE d_So_findUnknown_94 h39 h40 (hO _ _).1 e42 ?_
      refine wm_aload_n d_So_findUnknown_95 rfl rfl ?_
      refine gf_So_41 rfl d_So_findUnknown_96 (by rw [e42]; exact h36) ?_
      refine wm_aload_n d_So_findUnknown_99 rfl rfl ?_
      refine gf_So_122 rfl d_So_findUnknown_100 (by rw [e42]; exact h36) ?_
      refine wm_iload_n d_So_findUnknown_103 rfl rfl ?_
      have hOM45 : mOk M45 := by rw [e46]; exact mOk_UI hOM41 hi_l3
      refine wm_iastE d_So_findUnknown_104 h43 h44 hi_l3 e46 ?_
      refine wm_aload_n d_So_findUnknown_105 rfl rfl ?_
      refine gf_So_44 rfl d_So_findUnknown_106 (by rw [e46, e42]; exact h36) ?_
      refine wm_aload_n d_So_findUnknown_109 rfl rfl ?_
      refine gf_So_122 rfl d_So_findUnknown_110 (by rw [e46, e42]; exact h36) ?_
      refine wm_iload d_So_findUnknown_113 rfl ?_
      have hOM49 : mOk M49 := by rw [e50]; exact mOk_UI hOM45 hi_k0
      refine wm_iastE d_So_findUnknown_115 h47 h48 hi_k0 e50 ?_
      refine wm_aload_n d_So_findUnknown_116 rfl rfl ?_
      refine wm_dup d_So_findUnknown_117 rfl ?_
      refine gf_So_122 rfl d_So_findUnknown_118 (by rw [e50, e46, e42]; exact h36) ?_
      refine wm_iconst d_So_findUnknown_121 ?_
      refine wm_iadd d_So_findUnknown_122 ?_
      have hOM52 : mOk M52 := by rw [e53]; exact mOk_UI hOM49 h51
      refine pf_So_122 rfl d_So_findUnknown_123 (by rw [e50, e46, e42]; exact h36) h51 e53 ?_
      refine wm_iconst d_So_findUnknown_126 ?_
      refine wm_istore_n d_So_findUnknown_127 rfl (by decide) (L' := [vr a0, vi 1, vi l2, vi l3, vi k0]) rfl ?_
      refine wm_iinc d_So_findUnknown_128 (by decide) rfl (L' := [vr a0, vi 1, vi l2, vi (l3 + (-1)), vi k0]) rfl ?_
      refine wm_goto (tgt := 40) d_So_findUnknown_131 rfl ?_
      refine wm_less (L' := [vr a0, vi 1, vi l2, vi (l3 + (-1)), vd]) ⟨Or.inr rfl, Or.inr rfl, Or.inr rfl, Or.inr rfl, Or.inl rfl, trivial⟩ ?_
      exact h
    · replace c38 := Classical.not_not.mp c38
      replace h := h.1 c38
      refine wm_iconst d_So_findUnknown_83 ?_
      refine wm_ireturn d_So_findUnknown_84 rfl (m_nb (by decide)) ?_
      exact ⟨_, rfl, h⟩
  · replace c35 := Classical.not_not.mp c35
    replace h := h.1 c35
    refine wm_goto (tgt := 128) d_So_findUnknown_71 rfl ?_
    refine wm_iinc d_So_findUnknown_128 (by decide) rfl (L' := [vr a0, vi l1, vi l2, vi (l3 + (-1)), vi k0]) rfl ?_
    refine wm_goto (tgt := 40) d_So_findUnknown_131 rfl ?_
    refine wm_less (L' := [vr a0, vi l1, vi l2, vi (l3 + (-1)), vd]) ⟨Or.inr rfl, Or.inr rfl, Or.inr rfl, Or.inr rfl, Or.inl rfl, trivial⟩ ?_
    exact h
theorem d_So_wayFrom_0 : decode y_So_wayFrom.2.1 0 = .ok (.aload_n 0, 1) := by decide +kernel
theorem d_So_wayFrom_1 : decode y_So_wayFrom.2.1 1 = .ok (.getfield 64, 3) := by decide +kernel
theorem d_So_wayFrom_4 : decode y_So_wayFrom.2.1 4 = .ok (.getfield 113, 3) := by decide +kernel
theorem d_So_wayFrom_7 : decode y_So_wayFrom.2.1 7 = .ok (.iload_n 1, 1) := by decide +kernel
theorem d_So_wayFrom_8 : decode y_So_wayFrom.2.1 8 = .ok (.iaload, 1) := by decide +kernel
theorem d_So_wayFrom_9 : decode y_So_wayFrom.2.1 9 = .ok (.iconst 1, 1) := by decide +kernel
theorem d_So_wayFrom_10 : decode y_So_wayFrom.2.1 10 = .ok (.if_icmp .ne 7, 3) := by decide +kernel
theorem d_So_wayFrom_13 : decode y_So_wayFrom.2.1 13 = .ok (.iconst 1, 1) := by decide +kernel
theorem d_So_wayFrom_14 : decode y_So_wayFrom.2.1 14 = .ok (.goto 4, 3) := by decide +kernel
theorem d_So_wayFrom_17 : decode y_So_wayFrom.2.1 17 = .ok (.iconst 0, 1) := by decide +kernel
theorem d_So_wayFrom_18 : decode y_So_wayFrom.2.1 18 = .ok (.istore_n 2, 1) := by decide +kernel
theorem d_So_wayFrom_19 : decode y_So_wayFrom.2.1 19 = .ok (.aload_n 0, 1) := by decide +kernel
theorem d_So_wayFrom_20 : decode y_So_wayFrom.2.1 20 = .ok (.getfield 32, 3) := by decide +kernel
theorem d_So_wayFrom_23 : decode y_So_wayFrom.2.1 23 = .ok (.iload_n 1, 1) := by decide +kernel
theorem d_So_wayFrom_24 : decode y_So_wayFrom.2.1 24 = .ok (.iaload, 1) := by decide +kernel
theorem d_So_wayFrom_25 : decode y_So_wayFrom.2.1 25 = .ok (.istore_n 3, 1) := by decide +kernel
theorem d_So_wayFrom_26 : decode y_So_wayFrom.2.1 26 = .ok (.iload_n 3, 1) := by decide +kernel
theorem d_So_wayFrom_27 : decode y_So_wayFrom.2.1 27 = .ok (.aload_n 0, 1) := by decide +kernel
theorem d_So_wayFrom_28 : decode y_So_wayFrom.2.1 28 = .ok (.getfield 35, 3) := by decide +kernel
theorem d_So_wayFrom_31 : decode y_So_wayFrom.2.1 31 = .ok (.iload_n 1, 1) := by decide +kernel
theorem d_So_wayFrom_32 : decode y_So_wayFrom.2.1 32 = .ok (.iaload, 1) := by decide +kernel
theorem d_So_wayFrom_33 : decode y_So_wayFrom.2.1 33 = .ok (.if_icmp .ge 28, 3) := by decide +kernel
theorem d_So_wayFrom_61 : decode y_So_wayFrom.2.1 61 = .ok (.iload_n 2, 1) := by decide +kernel
theorem d_So_wayFrom_36 : decode y_So_wayFrom.2.1 36 = .ok (.aload_n 0, 1) := by decide +kernel
theorem d_So_wayFrom_37 : decode y_So_wayFrom.2.1 37 = .ok (.iload_n 3, 1) := by decide +kernel
theorem d_So_wayFrom_62 : decode y_So_wayFrom.2.1 62 = .ok (.ifCond .ne 18, 3) := by decide +kernel
theorem d_So_wayFrom_65 : decode y_So_wayFrom.2.1 65 = .ok (.aload_n 0, 1) := by decide +kernel
theorem d_So_wayFrom_66 : decode y_So_wayFrom.2.1 66 = .ok (.getfield 32, 3) := by decide +kernel
theorem d_So_wayFrom_69 : decode y_So_wayFrom.2.1 69 = .ok (.iload_n 1, 1) := by decide +kernel
theorem d_So_wayFrom_70 : decode y_So_wayFrom.2.1 70 = .ok (.iaload, 1) := by decide +kernel
theorem d_So_wayFrom_71 : decode y_So_wayFrom.2.1 71 = .ok (.aload_n 0, 1) := by decide +kernel
theorem d_So_wayFrom_72 : decode y_So_wayFrom.2.1 72 = .ok (.getfield 35, 3) := by decide +kernel
theorem d_So_wayFrom_75 : decode y_So_wayFrom.2.1 75 = .ok (.iload_n 1, 1) := by decide +kernel
theorem d_So_wayFrom_76 : decode y_So_wayFrom.2.1 76 = .ok (.iaload, 1) := by decide +kernel
theorem d_So_wayFrom_77 : decode y_So_wayFrom.2.1 77 = .ok (.if_icmp .ne 7, 3) := by decide +kernel
theorem d_So_wayFrom_84 : decode y_So_wayFrom.2.1 84 = .ok (.aload_n 0, 1) := by decide +kernel
theorem d_So_wayFrom_85 : decode y_So_wayFrom.2.1 85 = .ok (.getfield 32, 3) := by decide +kernel
theorem d_So_wayFrom_88 : decode y_So_wayFrom.2.1 88 = .ok (.iload_n 1, 1) := by decide +kernel
theorem d_So_wayFrom_89 : decode y_So_wayFrom.2.1 89 = .ok (.iaload, 1) := by decide +kernel
theorem d_So_wayFrom_90 : decode y_So_wayFrom.2.1 90 = .ok (.ireturn, 1) := by decide +kernel
theorem d_So_wayFrom_80 : decode y_So_wayFrom.2.1 80 = .ok (.iconst (-1), 1) := by decide +kernel
theorem d_So_wayFrom_81 : decode y_So_wayFrom.2.1 81 = .ok (.goto 9, 3) := by decide +kernel
theorem d_So_wayFrom_38 : decode y_So_wayFrom.2.1 38 = .ok (.invokevirtual 135, 3) := by decide +kernel
theorem d_So_wayFrom_41 : decode y_So_wayFrom.2.1 41 = .ok (.iload_n 2, 1) := by decide +kernel
theorem d_So_wayFrom_42 : decode y_So_wayFrom.2.1 42 = .ok (.if_icmp .ne 13, 3) := by decide +kernel
theorem d_So_wayFrom_45 : decode y_So_wayFrom.2.1 45 = .ok (.iload_n 2, 1) := by decide +kernel
theorem d_So_wayFrom_55 : decode y_So_wayFrom.2.1 55 = .ok (.iinc 3 1, 3) := by decide +kernel
theorem d_So_wayFrom_58 : decode y_So_wayFrom.2.1 58 = .ok (.goto (-32), 3) := by decide +kernel
theorem d_So_wayFrom_46 : decode y_So_wayFrom.2.1 46 = .ok (.ifCond .eq 7, 3) := by decide +kernel
theorem d_So_wayFrom_53 : decode y_So_wayFrom.2.1 53 = .ok (.iconst (-1), 1) := by decide +kernel
theorem d_So_wayFrom_54 : decode y_So_wayFrom.2.1 54 = .ok (.ireturn, 1) := by decide +kernel
theorem d_So_wayFrom_49 : decode y_So_wayFrom.2.1 49 = .ok (.iload_n 3, 1) := by decide +kernel
theorem d_So_wayFrom_50 : decode y_So_wayFrom.2.1 50 = .ok (.goto 4, 3) := by decide +kernel
def h_So_wayFrom_26 (G : mG) (d : Nat) (a0 : Nat) (l1 : Int) (l2 : Int) (l3 : Int) (M : mM) (Q : Int → mM → Prop) : Prop := mWm G y_So_wayFrom (d + 1) 26 [vr a0, vi l1, vi l2, vi l3] [] M (fun r9 M9 => ∃ x9, r9 = some (vi x9) ∧ Q x9 M9)
theorem k_So_wayFrom {G : mG} {d : Nat} {a0 : Nat} {l1 : Int} {M : mM} {Q : Int → mM → Prop} (hO : mOk M) (hi_l1 : i32 l1)
    (h : mK M a0 = 8 ∧ mK M (mR M a0 3) = 7 ∧ mK M (mR M (mR M a0 3) 2) = 30 ∧ ((0 : Int) ≤ l1 ∧ l1 < (mN M (mR M (mR M a0 3) 2) : Int)) ∧ ∀ v6 : Int, v6 = (if (mI M (mR M (mR M a0 3) 2) (Int.toNat l1) = 1) then 1 else 0) → mK M (mR M a0 5) = 30 ∧ ((0 : Int) ≤ l1 ∧ l1 < (mN M (mR M a0 5) : Int)) ∧ h_So_wayFrom_26 G d a0 l1 v6 (mI M (mR M a0 5) (Int.toNat l1)) M Q) :
    Ci G y_So_wayFrom (d + 1) [vr a0, vi l1] M Q := by
  refine wm_open (y := y_So_wayFrom) rfl (Nat.le_of_ble_eq_true rfl) (L := [vr a0, vi l1, vd, vd]) rfl ?_
  obtain ⟨h1, h⟩ := h
  obtain ⟨h2, h⟩ := h
  obtain ⟨h3, h⟩ := h
  obtain ⟨h4, h⟩ := h
  refine wm_aload_n d_So_wayFrom_0 rfl rfl ?_
  refine gf_So_64 rfl d_So_wayFrom_1 h1 ?_
  refine gf_So_113 rfl d_So_wayFrom_4 h2 ?_
  refine wm_iload_n d_So_wayFrom_7 rfl rfl ?_
  refine wm_iald d_So_wayFrom_8 h3 h4 ?_
  refine wm_iconst d_So_wayFrom_9 ?_
  have hJ : ∀ v6 : Int, v6 = (if (mI M (mR M (mR M a0 3) 2) (Int.toNat l1) = 1) then 1 else 0) → mWm G y_So_wayFrom (d + 1) 18 [vr a0, vi l1, vd, vd] [vi v6] M (fun r9 M9 => ∃ x9, r9 = some (vi x9) ∧ Q x9 M9) := by
    intro v6 e8
    have h := h v6 e8
    have h9 : i32 v6 := by rw [e8]; (repeat' split) <;> first | exact ⟨by decide, by decide⟩ | exact ⟨by decide, by decide⟩
    have h10 : (v6 = 0 ∨ v6 = 1) := by rw [e8]; (repeat' split) <;> decide
    obtain ⟨h11, h⟩ := h
    obtain ⟨h12, h⟩ := h
    refine wm_istore_n d_So_wayFrom_18 rfl (by decide) (L' := [vr a0, vi l1, vi v6, vd]) rfl ?_
    refine wm_aload_n d_So_wayFrom_19 rfl rfl ?_
    refine gf_So_32 rfl d_So_wayFrom_20 h1 ?_
    refine wm_iload_n d_So_wayFrom_23 rfl rfl ?_
    refine wm_iald d_So_wayFrom_24 h11 h12 ?_
    refine wm_istore_n d_So_wayFrom_25 rfl (by decide) (L' := [vr a0, vi l1, vi v6, vi (mI M (mR M a0 5) (Int.toNat l1))]) rfl ?_
    exact h
  clear h
  refine wm_icmp_ne (tgt := 17) d_So_wayFrom_10 rfl (hO _ _).1 ⟨by decide, by decide⟩ (fun c5 => ?_) (fun c5 => ?_)
  · refine wm_iconst d_So_wayFrom_17 ?_
    exact hJ 0 (if_neg c5).symm
  · replace c5 := Classical.not_not.mp c5
    refine wm_iconst d_So_wayFrom_13 ?_
    refine wm_goto (tgt := 18) d_So_wayFrom_14 rfl ?_
    exact hJ 1 (if_pos c5).symm
theorem k_So_wayFrom_26 {G : mG} {d : Nat} {a0 : Nat} {l1 : Int} {l2 : Int} {l3 : Int} {M : mM} {Q : Int → mM → Prop} (hO : mOk M) (hi_l1 : i32 l1) (hi_l2 : i32 l2) (hi_l3 : i32 l3)
    (h : mK M a0 = 8 ∧ mK M (mR M a0 6) = 30 ∧ ((0 : Int) ≤ l1 ∧ l1 < (mN M (mR M a0 6) : Int)) ∧ ((mI M (mR M a0 6) (Int.toNat l1) ≤ l3) → (((l2 = 0) → (mK M (mR M a0 5) = 30 ∧ ((0 : Int) ≤ l1 ∧ l1 < (mN M (mR M a0 5) : Int)) ∧ ((0 : Int) ≤ l1 ∧ l1 < (mN M (mR M a0 6) : Int)) ∧ (¬ (mI M (mR M a0 5) (Int.toNat l1) = mI M (mR M a0 6) (Int.toNat l1)) → ((0 : Int) ≤ l1 ∧ l1 < (mN M (mR M a0 5) : Int))))) ∧ ∀ v31 : Int, v31 = (if ((¬ (l2 = 0)) ∨ (mI M (mR M a0 5) (Int.toNat l1) = mI M (mR M a0 6) (Int.toNat l1))) then (-1) else mI M (mR M a0 5) (Int.toNat l1)) → Q v31 M)) ∧ (¬ (mI M (mR M a0 6) (Int.toNat l1) ≤ l3) → (Ci G y_So_comesOn d [vr a0, vi l3] M (fun x39 M38 => i32 x39 ∧ mOk M38 ∧ (((x39 = l2) → (∀ v45 : Int, v45 = (if (l2 = 0) then (-1) else l3) → Q v45 M38)) ∧ (¬ (x39 = l2) → (h_So_wayFrom_26 G d a0 l1 l2 (l3 + 1) M38 Q))))))) :
    h_So_wayFrom_26 G d a0 l1 l2 l3 M Q := by
  unfold h_So_wayFrom_26
  obtain ⟨h14, h⟩ := h
  obtain ⟨h15, h⟩ := h
  obtain ⟨h16, h⟩ := h
  refine wm_iload_n d_So_wayFrom_26 rfl rfl ?_
  refine wm_aload_n d_So_wayFrom_27 rfl rfl ?_
  refine gf_So_35 rfl d_So_wayFrom_28 h14 ?_
  refine wm_iload_n d_So_wayFrom_31 rfl rfl ?_
  refine wm_iald d_So_wayFrom_32 h15 h16 ?_
  refine wm_icmp_ge (tgt := 61) d_So_wayFrom_33 rfl hi_l3 (hO _ _).1 (fun c24 => ?_) (fun c24 => ?_)
  · replace h := h.1 c24
    refine wm_iload_n d_So_wayFrom_61 rfl rfl ?_
    obtain ⟨s32, h⟩ := h
    have hJ : ∀ v31 : Int, v31 = (if ((¬ (l2 = 0)) ∨ (mI M (mR M a0 5) (Int.toNat l1) = mI M (mR M a0 6) (Int.toNat l1))) then (-1) else mI M (mR M a0 5) (Int.toNat l1)) → mWm G y_So_wayFrom (d + 1) 90 [vd, vd, vd, vd] [vi v31] M (fun r9 M9 => ∃ x9, r9 = some (vi x9) ∧ Q x9 M9) := by
      intro v31 e33
      have h := h v31 e33
      refine wm_ireturn d_So_wayFrom_90 rfl rfl ?_
      exact ⟨_, rfl, h⟩
    clear h
    have s34 := s32
    refine wm_if_ne (tgt := 80) d_So_wayFrom_62 rfl hi_l2 (fun c25 => ?_) (fun c25 => ?_)
    · refine wm_iconst d_So_wayFrom_80 ?_
      refine wm_goto (tgt := 90) d_So_wayFrom_81 rfl ?_
      refine wm_less (L' := [vd, vd, vd, vd]) ⟨Or.inl rfl, Or.inl rfl, Or.inl rfl, Or.inl rfl, trivial⟩ ?_
      exact hJ (-1) (if_pos (Or.inl c25)).symm
    · replace c25 := Classical.not_not.mp c25
      have s34 := s34 c25
      obtain ⟨h26, h27, h28, s35⟩ := s34
      refine wm_aload_n d_So_wayFrom_65 rfl rfl ?_
      refine gf_So_32 rfl d_So_wayFrom_66 h14 ?_
      refine wm_iload_n d_So_wayFrom_69 rfl rfl ?_
      refine wm_iald d_So_wayFrom_70 h26 h27 ?_
      refine wm_aload_n d_So_wayFrom_71 rfl rfl ?_
      refine gf_So_35 rfl d_So_wayFrom_72 h14 ?_
      refine wm_iload_n d_So_wayFrom_75 rfl rfl ?_
      refine wm_iald d_So_wayFrom_76 h15 h28 ?_
      refine wm_icmp_ne (tgt := 84) d_So_wayFrom_77 rfl (hO _ _).1 (hO _ _).1 (fun c29 => ?_) (fun c29 => ?_)
      · have s35 := s35 c29
        have h30 := s35
        refine wm_aload_n d_So_wayFrom_84 rfl rfl ?_
        refine gf_So_32 rfl d_So_wayFrom_85 h14 ?_
        refine wm_iload_n d_So_wayFrom_88 rfl rfl ?_
        refine wm_iald d_So_wayFrom_89 h26 h30 ?_
        refine wm_less (L' := [vd, vd, vd, vd]) ⟨Or.inl rfl, Or.inl rfl, Or.inl rfl, Or.inl rfl, trivial⟩ ?_
        exact hJ (mI M (mR M a0 5) (Int.toNat l1)) (if_neg (fun z36 => Or.elim z36 (fun w => w c25) c29)).symm
      · replace c29 := Classical.not_not.mp c29
        refine wm_iconst d_So_wayFrom_80 ?_
        refine wm_goto (tgt := 90) d_So_wayFrom_81 rfl ?_
        refine wm_less (L' := [vd, vd, vd, vd]) ⟨Or.inl rfl, Or.inl rfl, Or.inl rfl, Or.inl rfl, trivial⟩ ?_
        exact hJ (-1) (if_pos (Or.inr c29)).symm
  · replace h := h.2 c24
    refine wm_aload_n d_So_wayFrom_36 rfl rfl ?_
    refine wm_iload_n d_So_wayFrom_37 rfl rfl ?_
    refine cf_So_135 rfl d_So_wayFrom_38 h14 (Nat.le_of_ble_eq_true rfl) (Ci.mono h (fun x39 M38 h => ?_))
    obtain ⟨h40, hOM38, h⟩ := h
    refine wm_iload_n d_So_wayFrom_41 rfl rfl ?_
    refine wm_icmp_ne (tgt := 55) d_So_wayFrom_42 rfl h40 hi_l2 (fun c43 => ?_) (fun c43 => ?_)
    · replace h := h.2 c43
      refine wm_iinc d_So_wayFrom_55 (by decide) rfl (L' := [vr a0, vi l1, vi l2, vi (l3 + 1)]) rfl ?_
      refine wm_goto (tgt := 26) d_So_wayFrom_58 rfl ?_
      exact h
    · replace c43 := Classical.not_not.mp c43
      replace h := h.1 c43
      refine wm_iload_n d_So_wayFrom_45 rfl rfl ?_
      have hJ : ∀ v45 : Int, v45 = (if (l2 = 0) then (-1) else l3) → mWm G y_So_wayFrom (d + 1) 54 [vd, vd, vd, vd] [vi v45] M38 (fun r9 M9 => ∃ x9, r9 = some (vi x9) ∧ Q x9 M9) := by
        intro v45 e47
        have h := h v45 e47
        have h48 : i32 v45 := by rw [e47]; (repeat' split) <;> first | exact ⟨by decide, by decide⟩ | exact hi_l3
        refine wm_ireturn d_So_wayFrom_54 rfl rfl ?_
        exact ⟨_, rfl, h⟩
      clear h
      refine wm_if_eq (tgt := 53) d_So_wayFrom_46 rfl hi_l2 (fun c44 => ?_) (fun c44 => ?_)
      · refine wm_iconst d_So_wayFrom_53 ?_
        refine wm_less (L' := [vd, vd, vd, vd]) ⟨Or.inl rfl, Or.inl rfl, Or.inl rfl, Or.inl rfl, trivial⟩ ?_
        exact hJ (-1) (if_pos c44).symm
      · refine wm_iload_n d_So_wayFrom_49 rfl rfl ?_
        refine wm_goto (tgt := 54) d_So_wayFrom_50 rfl ?_
        refine wm_less (L' := [vd, vd, vd, vd]) ⟨Or.inl rfl, Or.inl rfl, Or.inl rfl, Or.inl rfl, trivial⟩ ?_
        exact hJ l3 (if_neg c44).symm
theorem d_So_comesOn_0 : decode y_So_comesOn.2.1 0 = .ok (.aload_n 0, 1) := by decide +kernel
theorem d_So_comesOn_1 : decode y_So_comesOn.2.1 1 = .ok (.getfield 64, 3) := by decide +kernel
theorem d_So_comesOn_4 : decode y_So_comesOn.2.1 4 = .ok (.getfield 139, 3) := by decide +kernel
theorem d_So_comesOn_7 : decode y_So_comesOn.2.1 7 = .ok (.iload_n 1, 1) := by decide +kernel
theorem d_So_comesOn_8 : decode y_So_comesOn.2.1 8 = .ok (.iaload, 1) := by decide +kernel
theorem d_So_comesOn_9 : decode y_So_comesOn.2.1 9 = .ok (.istore_n 2, 1) := by decide +kernel
theorem d_So_comesOn_10 : decode y_So_comesOn.2.1 10 = .ok (.iload_n 2, 1) := by decide +kernel
theorem d_So_comesOn_11 : decode y_So_comesOn.2.1 11 = .ok (.aload_n 0, 1) := by decide +kernel
theorem d_So_comesOn_12 : decode y_So_comesOn.2.1 12 = .ok (.getfield 64, 3) := by decide +kernel
theorem d_So_comesOn_15 : decode y_So_comesOn.2.1 15 = .ok (.getfield 139, 3) := by decide +kernel
theorem d_So_comesOn_18 : decode y_So_comesOn.2.1 18 = .ok (.iload_n 1, 1) := by decide +kernel
theorem d_So_comesOn_19 : decode y_So_comesOn.2.1 19 = .ok (.iconst 1, 1) := by decide +kernel
theorem d_So_comesOn_20 : decode y_So_comesOn.2.1 20 = .ok (.iadd, 1) := by decide +kernel
theorem d_So_comesOn_21 : decode y_So_comesOn.2.1 21 = .ok (.iaload, 1) := by decide +kernel
theorem d_So_comesOn_22 : decode y_So_comesOn.2.1 22 = .ok (.if_icmp .ge 44, 3) := by decide +kernel
theorem d_So_comesOn_66 : decode y_So_comesOn.2.1 66 = .ok (.iconst 0, 1) := by decide +kernel
theorem d_So_comesOn_67 : decode y_So_comesOn.2.1 67 = .ok (.ireturn, 1) := by decide +kernel
theorem d_So_comesOn_25 : decode y_So_comesOn.2.1 25 = .ok (.aload_n 0, 1) := by decide +kernel
theorem d_So_comesOn_26 : decode y_So_comesOn.2.1 26 = .ok (.getfield 64, 3) := by decide +kernel
theorem d_So_comesOn_29 : decode y_So_comesOn.2.1 29 = .ok (.getfield 142, 3) := by decide +kernel
theorem d_So_comesOn_32 : decode y_So_comesOn.2.1 32 = .ok (.iload_n 2, 1) := by decide +kernel
theorem d_So_comesOn_33 : decode y_So_comesOn.2.1 33 = .ok (.iaload, 1) := by decide +kernel
theorem d_So_comesOn_34 : decode y_So_comesOn.2.1 34 = .ok (.istore_n 3, 1) := by decide +kernel
theorem d_So_comesOn_35 : decode y_So_comesOn.2.1 35 = .ok (.aload_n 0, 1) := by decide +kernel
theorem d_So_comesOn_36 : decode y_So_comesOn.2.1 36 = .ok (.getfield 38, 3) := by decide +kernel
theorem d_So_comesOn_39 : decode y_So_comesOn.2.1 39 = .ok (.iload_n 3, 1) := by decide +kernel
theorem d_So_comesOn_40 : decode y_So_comesOn.2.1 40 = .ok (.iaload, 1) := by decide +kernel
theorem d_So_comesOn_41 : decode y_So_comesOn.2.1 41 = .ok (.iconst (-1), 1) := by decide +kernel
theorem d_So_comesOn_42 : decode y_So_comesOn.2.1 42 = .ok (.if_icmp .ne 16, 3) := by decide +kernel
theorem d_So_comesOn_45 : decode y_So_comesOn.2.1 45 = .ok (.aload_n 0, 1) := by decide +kernel
theorem d_So_comesOn_46 : decode y_So_comesOn.2.1 46 = .ok (.getfield 64, 3) := by decide +kernel
theorem d_So_comesOn_49 : decode y_So_comesOn.2.1 49 = .ok (.getfield 113, 3) := by decide +kernel
theorem d_So_comesOn_52 : decode y_So_comesOn.2.1 52 = .ok (.iload_n 3, 1) := by decide +kernel
theorem d_So_comesOn_53 : decode y_So_comesOn.2.1 53 = .ok (.iaload, 1) := by decide +kernel
theorem d_So_comesOn_54 : decode y_So_comesOn.2.1 54 = .ok (.iconst 3, 1) := by decide +kernel
theorem d_So_comesOn_55 : decode y_So_comesOn.2.1 55 = .ok (.if_icmp .ne 5, 3) := by decide +kernel
theorem d_So_comesOn_60 : decode y_So_comesOn.2.1 60 = .ok (.iinc 2 1, 3) := by decide +kernel
theorem d_So_comesOn_63 : decode y_So_comesOn.2.1 63 = .ok (.goto (-53), 3) := by decide +kernel
theorem d_So_comesOn_58 : decode y_So_comesOn.2.1 58 = .ok (.iconst 1, 1) := by decide +kernel
theorem d_So_comesOn_59 : decode y_So_comesOn.2.1 59 = .ok (.ireturn, 1) := by decide +kernel
def h_So_comesOn_10 (G : mG) (d : Nat) (a0 : Nat) (l1 : Int) (l2 : Int) (M : mM) (Q : Int → mM → Prop) : Prop := mWm G y_So_comesOn d 10 [vr a0, vi l1, vi l2, vd] [] M (fun r9 M9 => ∃ x9, r9 = some (vi x9) ∧ Q x9 M9)
theorem k_So_comesOn {G : mG} {d : Nat} {a0 : Nat} {l1 : Int} {M : mM} {Q : Int → mM → Prop} (hO : mOk M) (hi_l1 : i32 l1)
    (h : mK M a0 = 8 ∧ mK M (mR M a0 3) = 7 ∧ mK M (mR M (mR M a0 3) 7) = 30 ∧ ((0 : Int) ≤ l1 ∧ l1 < (mN M (mR M (mR M a0 3) 7) : Int)) ∧ h_So_comesOn_10 G d a0 l1 (mI M (mR M (mR M a0 3) 7) (Int.toNat l1)) M Q) :
    Ci G y_So_comesOn d [vr a0, vi l1] M Q := by
  refine wm_open (y := y_So_comesOn) rfl (Nat.le_of_ble_eq_true rfl) (L := [vr a0, vi l1, vd, vd]) rfl ?_
  obtain ⟨h1, h⟩ := h
  obtain ⟨h2, h⟩ := h
  obtain ⟨h3, h⟩ := h
  obtain ⟨h4, h⟩ := h
  refine wm_aload_n d_So_comesOn_0 rfl rfl ?_
  refine gf_So_64 rfl d_So_comesOn_1 h1 ?_
  refine gf_So_139 rfl d_So_comesOn_4 h2 ?_
  refine wm_iload_n d_So_comesOn_7 rfl rfl ?_
  refine wm_iald d_So_comesOn_8 h3 h4 ?_
  refine wm_istore_n d_So_comesOn_9 rfl (by decide) (L' := [vr a0, vi l1, vi (mI M (mR M (mR M a0 3) 7) (Int.toNat l1)), vd]) rfl ?_
  exact h
theorem k_So_comesOn_10 {G : mG} {d : Nat} {a0 : Nat} {l1 : Int} {l2 : Int} {M : mM} {Q : Int → mM → Prop} (hO : mOk M) (hi_l1 : i32 l1) (hi_l2 : i32 l2)
    (h : mK M a0 = 8 ∧ mK M (mR M a0 3) = 7 ∧ mK M (mR M (mR M a0 3) 7) = 30 ∧ ((0 : Int) ≤ l1 + 1 ∧ l1 + 1 < (mN M (mR M (mR M a0 3) 7) : Int)) ∧ ((mI M (mR M (mR M a0 3) 7) (Int.toNat (l1 + 1)) ≤ l2) → (Q 0 M)) ∧ (¬ (mI M (mR M (mR M a0 3) 7) (Int.toNat (l1 + 1)) ≤ l2) → (mK M (mR M (mR M a0 3) 8) = 30 ∧ ((0 : Int) ≤ l2 ∧ l2 < (mN M (mR M (mR M a0 3) 8) : Int)) ∧ mK M (mR M a0 7) = 30 ∧ ((0 : Int) ≤ mI M (mR M (mR M a0 3) 8) (Int.toNat l2) ∧ mI M (mR M (mR M a0 3) 8) (Int.toNat l2) < (mN M (mR M a0 7) : Int)) ∧ ((mI M (mR M a0 7) (Int.toNat (mI M (mR M (mR M a0 3) 8) (Int.toNat l2))) = (-1)) → (mK M (mR M (mR M a0 3) 2) = 30 ∧ ((0 : Int) ≤ mI M (mR M (mR M a0 3) 8) (Int.toNat l2) ∧ mI M (mR M (mR M a0 3) 8) (Int.toNat l2) < (mN M (mR M (mR M a0 3) 2) : Int)))) ∧ (((¬ (mI M (mR M a0 7) (Int.toNat (mI M (mR M (mR M a0 3) 8) (Int.toNat l2))) = (-1))) ∨ (mI M (mR M (mR M a0 3) 2) (Int.toNat (mI M (mR M (mR M a0 3) 8) (Int.toNat l2))) = 3)) → (Q 1 M)) ∧ (¬ ((¬ (mI M (mR M a0 7) (Int.toNat (mI M (mR M (mR M a0 3) 8) (Int.toNat l2))) = (-1))) ∨ (mI M (mR M (mR M a0 3) 2) (Int.toNat (mI M (mR M (mR M a0 3) 8) (Int.toNat l2))) = 3)) → (h_So_comesOn_10 G d a0 l1 (l2 + 1) M Q))))) :
    h_So_comesOn_10 G d a0 l1 l2 M Q := by
  unfold h_So_comesOn_10
  obtain ⟨h5, h⟩ := h
  obtain ⟨h6, h⟩ := h
  obtain ⟨h7, h⟩ := h
  obtain ⟨h8, h⟩ := h
  refine wm_iload_n d_So_comesOn_10 rfl rfl ?_
  refine wm_aload_n d_So_comesOn_11 rfl rfl ?_
  refine gf_So_64 rfl d_So_comesOn_12 h5 ?_
  refine gf_So_139 rfl d_So_comesOn_15 h6 ?_
  refine wm_iload_n d_So_comesOn_18 rfl rfl ?_
  refine wm_iconst d_So_comesOn_19 ?_
  refine wm_iadd d_So_comesOn_20 ?_
  refine wm_iald d_So_comesOn_21 h7 h8 ?_
  refine wm_icmp_ge (tgt := 66) d_So_comesOn_22 rfl hi_l2 (hO _ _).1 (fun c14 => ?_) (fun c14 => ?_)
  · replace h := h.1 c14
    refine wm_iconst d_So_comesOn_66 ?_
    refine wm_ireturn d_So_comesOn_67 rfl (m_nb (by decide)) ?_
    exact ⟨_, rfl, h⟩
  · replace h := h.2 c14
    obtain ⟨h15, h⟩ := h
    obtain ⟨h16, h⟩ := h
    obtain ⟨h17, h⟩ := h
    obtain ⟨h18, h⟩ := h
    refine wm_aload_n d_So_comesOn_25 rfl rfl ?_
    refine gf_So_64 rfl d_So_comesOn_26 h5 ?_
    refine gf_So_142 rfl d_So_comesOn_29 h6 ?_
    refine wm_iload_n d_So_comesOn_32 rfl rfl ?_
    refine wm_iald d_So_comesOn_33 h15 h16 ?_
    refine wm_istore_n d_So_comesOn_34 rfl (by decide) (L' := [vr a0, vi l1, vi l2, vi (mI M (mR M (mR M a0 3) 8) (Int.toNat l2))]) rfl ?_
    refine wm_aload_n d_So_comesOn_35 rfl rfl ?_
    refine gf_So_38 rfl d_So_comesOn_36 h5 ?_
    refine wm_iload_n d_So_comesOn_39 rfl rfl ?_
    refine wm_iald d_So_comesOn_40 h17 h18 ?_
    refine wm_iconst d_So_comesOn_41 ?_
    obtain ⟨s23, h⟩ := h
    have hE0 : ((¬ (mI M (mR M a0 7) (Int.toNat (mI M (mR M (mR M a0 3) 8) (Int.toNat l2))) = (-1))) ∨ (mI M (mR M (mR M a0 3) 2) (Int.toNat (mI M (mR M (mR M a0 3) 8) (Int.toNat l2))) = 3)) → mWm G y_So_comesOn d 58 [vr a0, vi l1, vi l2, vi (mI M (mR M (mR M a0 3) 8) (Int.toNat l2))] [] M (fun r9 M9 => ∃ x9, r9 = some (vi x9) ∧ Q x9 M9) := by
      intro q24
      have h := h.1 q24
      refine wm_iconst d_So_comesOn_58 ?_
      refine wm_ireturn d_So_comesOn_59 rfl (m_nb (by decide)) ?_
      exact ⟨_, rfl, h⟩
    have hE1 : ¬ ((¬ (mI M (mR M a0 7) (Int.toNat (mI M (mR M (mR M a0 3) 8) (Int.toNat l2))) = (-1))) ∨ (mI M (mR M (mR M a0 3) 2) (Int.toNat (mI M (mR M (mR M a0 3) 8) (Int.toNat l2))) = 3)) → mWm G y_So_comesOn d 60 [vr a0, vi l1, vi l2, vi (mI M (mR M (mR M a0 3) 8) (Int.toNat l2))] [] M (fun r9 M9 => ∃ x9, r9 = some (vi x9) ∧ Q x9 M9) := by
      intro q25
      have h := h.2 q25
      refine wm_iinc d_So_comesOn_60 (by decide) rfl (L' := [vr a0, vi l1, vi (l2 + 1), vi (mI M (mR M (mR M a0 3) 8) (Int.toNat l2))]) rfl ?_
      refine wm_goto (tgt := 10) d_So_comesOn_63 rfl ?_
      refine wm_less (L' := [vr a0, vi l1, vi (l2 + 1), vd]) ⟨Or.inr rfl, Or.inr rfl, Or.inr rfl, Or.inl rfl, trivial⟩ ?_
      exact h
    clear h
    have s26 := s23
    refine wm_icmp_ne (tgt := 58) d_So_comesOn_42 rfl (hO _ _).1 ⟨by decide, by decide⟩ (fun c22 => ?_) (fun c22 => ?_)
    · exact hE0 (Or.inl c22)
    · replace c22 := Classical.not_not.mp c22
      have s26 := s26 c22
      obtain ⟨h19, h20⟩ := s26
      refine wm_aload_n d_So_comesOn_45 rfl rfl ?_
      refine gf_So_64 rfl d_So_comesOn_46 h5 ?_
      refine gf_So_113 rfl d_So_comesOn_49 h6 ?_
      refine wm_iload_n d_So_comesOn_52 rfl rfl ?_
      refine wm_iald d_So_comesOn_53 h19 h20 ?_
      refine wm_iconst d_So_comesOn_54 ?_
      refine wm_icmp_ne (tgt := 60) d_So_comesOn_55 rfl (hO _ _).1 ⟨by decide, by decide⟩ (fun c21 => ?_) (fun c21 => ?_)
      · exact hE1 (fun z27 => Or.elim z27 (fun w => w c22) c21)
      · replace c21 := Classical.not_not.mp c21
        exact hE0 (Or.inr c21)
theorem d_So_weights_0 : decode y_So_weights.2.1 0 = .ok (.iconst 0, 1) := by decide +kernel
theorem d_So_weights_1 : decode y_So_weights.2.1 1 = .ok (.istore_n 1, 1) := by decide +kernel
theorem d_So_weights_2 : decode y_So_weights.2.1 2 = .ok (.iconst 0, 1) := by decide +kernel
theorem d_So_weights_3 : decode y_So_weights.2.1 3 = .ok (.istore_n 2, 1) := by decide +kernel
theorem d_So_weights_4 : decode y_So_weights.2.1 4 = .ok (.iload_n 2, 1) := by decide +kernel
theorem d_So_weights_5 : decode y_So_weights.2.1 5 = .ok (.aload_n 0, 1) := by decide +kernel
theorem d_So_weights_6 : decode y_So_weights.2.1 6 = .ok (.getfield 122, 3) := by decide +kernel
theorem d_So_weights_9 : decode y_So_weights.2.1 9 = .ok (.if_icmp .ge 73, 3) := by decide +kernel
theorem d_So_weights_82 : decode y_So_weights.2.1 82 = .ok (.iload_n 1, 1) := by decide +kernel
theorem d_So_weights_83 : decode y_So_weights.2.1 83 = .ok (.ireturn, 1) := by decide +kernel
theorem d_So_weights_12 : decode y_So_weights.2.1 12 = .ok (.iconst 1, 1) := by decide +kernel
theorem d_So_weights_13 : decode y_So_weights.2.1 13 = .ok (.istore_n 3, 1) := by decide +kernel
theorem d_So_weights_14 : decode y_So_weights.2.1 14 = .ok (.aload_n 0, 1) := by decide +kernel
theorem d_So_weights_15 : decode y_So_weights.2.1 15 = .ok (.getfield 32, 3) := by decide +kernel
theorem d_So_weights_18 : decode y_So_weights.2.1 18 = .ok (.aload_n 0, 1) := by decide +kernel
theorem d_So_weights_19 : decode y_So_weights.2.1 19 = .ok (.getfield 41, 3) := by decide +kernel
theorem d_So_weights_22 : decode y_So_weights.2.1 22 = .ok (.iload_n 2, 1) := by decide +kernel
theorem d_So_weights_23 : decode y_So_weights.2.1 23 = .ok (.iaload, 1) := by decide +kernel
theorem d_So_weights_24 : decode y_So_weights.2.1 24 = .ok (.iaload, 1) := by decide +kernel
theorem d_So_weights_25 : decode y_So_weights.2.1 25 = .ok (.istore 4, 2) := by decide +kernel
theorem d_So_weights_27 : decode y_So_weights.2.1 27 = .ok (.iload 4, 2) := by decide +kernel
theorem d_So_weights_29 : decode y_So_weights.2.1 29 = .ok (.aload_n 0, 1) := by decide +kernel
theorem d_So_weights_30 : decode y_So_weights.2.1 30 = .ok (.getfield 35, 3) := by decide +kernel
theorem d_So_weights_33 : decode y_So_weights.2.1 33 = .ok (.aload_n 0, 1) := by decide +kernel
theorem d_So_weights_34 : decode y_So_weights.2.1 34 = .ok (.getfield 41, 3) := by decide +kernel
theorem d_So_weights_37 : decode y_So_weights.2.1 37 = .ok (.iload_n 2, 1) := by decide +kernel
theorem d_So_weights_38 : decode y_So_weights.2.1 38 = .ok (.iaload, 1) := by decide +kernel
theorem d_So_weights_39 : decode y_So_weights.2.1 39 = .ok (.iaload, 1) := by decide +kernel
theorem d_So_weights_40 : decode y_So_weights.2.1 40 = .ok (.if_icmp .ge 24, 3) := by decide +kernel
theorem d_So_weights_64 : decode y_So_weights.2.1 64 = .ok (.iload_n 1, 1) := by decide +kernel
theorem d_So_weights_65 : decode y_So_weights.2.1 65 = .ok (.bipush 33, 2) := by decide +kernel
theorem d_So_weights_67 : decode y_So_weights.2.1 67 = .ok (.iload_n 3, 1) := by decide +kernel
theorem d_So_weights_68 : decode y_So_weights.2.1 68 = .ok (.iconst 1, 1) := by decide +kernel
theorem d_So_weights_69 : decode y_So_weights.2.1 69 = .ok (.isub, 1) := by decide +kernel
theorem d_So_weights_43 : decode y_So_weights.2.1 43 = .ok (.iload_n 3, 1) := by decide +kernel
theorem d_So_weights_44 : decode y_So_weights.2.1 44 = .ok (.aload_n 0, 1) := by decide +kernel
theorem d_So_weights_45 : decode y_So_weights.2.1 45 = .ok (.getfield 64, 3) := by decide +kernel
theorem d_So_weights_48 : decode y_So_weights.2.1 48 = .ok (.getfield 145, 3) := by decide +kernel
theorem d_So_weights_51 : decode y_So_weights.2.1 51 = .ok (.iload 4, 2) := by decide +kernel
theorem d_So_weights_53 : decode y_So_weights.2.1 53 = .ok (.iaload, 1) := by decide +kernel
theorem d_So_weights_54 : decode y_So_weights.2.1 54 = .ok (.invokestatic 148, 3) := by decide +kernel
theorem d_So_weights_57 : decode y_So_weights.2.1 57 = .ok (.istore_n 3, 1) := by decide +kernel
theorem d_So_weights_58 : decode y_So_weights.2.1 58 = .ok (.iinc 4 1, 3) := by decide +kernel
theorem d_So_weights_61 : decode y_So_weights.2.1 61 = .ok (.goto (-34), 3) := by decide +kernel
theorem d_So_weights_70 : decode y_So_weights.2.1 70 = .ok (.invokestatic 154, 3) := by decide +kernel
theorem d_So_weights_73 : decode y_So_weights.2.1 73 = .ok (.isub, 1) := by decide +kernel
theorem d_So_weights_74 : decode y_So_weights.2.1 74 = .ok (.iadd, 1) := by decide +kernel
theorem d_So_weights_75 : decode y_So_weights.2.1 75 = .ok (.istore_n 1, 1) := by decide +kernel
theorem d_So_weights_76 : decode y_So_weights.2.1 76 = .ok (.iinc 2 1, 3) := by decide +kernel
theorem d_So_weights_79 : decode y_So_weights.2.1 79 = .ok (.goto (-75), 3) := by decide +kernel
def h_So_weights_4 (G : mG) (d : Nat) (a0 : Nat) (l1 : Int) (l2 : Int) (M : mM) (Q : Int → mM → Prop) : Prop := mWm G y_So_weights (d + 1) 4 [vr a0, vi l1, vi l2, vd, vd] [] M (fun r9 M9 => ∃ x9, r9 = some (vi x9) ∧ Q x9 M9)
def h_So_weights_27 (G : mG) (d : Nat) (a0 : Nat) (l1 : Int) (l2 : Int) (l3 : Int) (l4 : Int) (M : mM) (Q : Int → mM → Prop) : Prop := mWm G y_So_weights (d + 1) 27 [vr a0, vi l1, vi l2, vi l3, vi l4] [] M (fun r9 M9 => ∃ x9, r9 = some (vi x9) ∧ Q x9 M9)
theorem k_So_weights {G : mG} {d : Nat} {a0 : Nat} {M : mM} {Q : Int → mM → Prop} (hO : mOk M)
    (h : h_So_weights_4 G d a0 0 0 M Q) :
    Ci G y_So_weights (d + 1) [vr a0] M Q := by
  refine wm_open (y := y_So_weights) rfl (Nat.le_of_ble_eq_true rfl) (L := [vr a0, vd, vd, vd, vd]) rfl ?_
  refine wm_iconst d_So_weights_0 ?_
  refine wm_istore_n d_So_weights_1 rfl (by decide) (L' := [vr a0, vi 0, vd, vd, vd]) rfl ?_
  refine wm_iconst d_So_weights_2 ?_
  refine wm_istore_n d_So_weights_3 rfl (by decide) (L' := [vr a0, vi 0, vi 0, vd, vd]) rfl ?_
  exact h
theorem k_So_weights_4 {G : mG} {d : Nat} {a0 : Nat} {l1 : Int} {l2 : Int} {M : mM} {Q : Int → mM → Prop} (hO : mOk M) (hi_l1 : i32 l1) (hi_l2 : i32 l2)
    (h : mK M a0 = 8 ∧ ((mI M a0 10 ≤ l2) → (Q l1 M)) ∧ (¬ (mI M a0 10 ≤ l2) → (mK M (mR M a0 8) = 30 ∧ ((0 : Int) ≤ l2 ∧ l2 < (mN M (mR M a0 8) : Int)) ∧ mK M (mR M a0 5) = 30 ∧ ((0 : Int) ≤ mI M (mR M a0 8) (Int.toNat l2) ∧ mI M (mR M a0 8) (Int.toNat l2) < (mN M (mR M a0 5) : Int)) ∧ h_So_weights_27 G d a0 l1 l2 1 (mI M (mR M a0 5) (Int.toNat (mI M (mR M a0 8) (Int.toNat l2)))) M Q))) :
    h_So_weights_4 G d a0 l1 l2 M Q := by
  unfold h_So_weights_4
  obtain ⟨h1, h⟩ := h
  refine wm_iload_n d_So_weights_4 rfl rfl ?_
  refine wm_aload_n d_So_weights_5 rfl rfl ?_
  refine gf_So_122 rfl d_So_weights_6 h1 ?_
  refine wm_icmp_ge (tgt := 82) d_So_weights_9 rfl hi_l2 (hO _ _).1 (fun c7 => ?_) (fun c7 => ?_)
  · replace h := h.1 c7
    refine wm_iload_n d_So_weights_82 rfl rfl ?_
    refine wm_ireturn d_So_weights_83 rfl rfl ?_
    exact ⟨_, rfl, h⟩
  · replace h := h.2 c7
    obtain ⟨h8, h⟩ := h
    obtain ⟨h9, h⟩ := h
    obtain ⟨h10, h⟩ := h
    obtain ⟨h11, h⟩ := h
    refine wm_iconst d_So_weights_12 ?_
    refine wm_istore_n d_So_weights_13 rfl (by decide) (L' := [vr a0, vi l1, vi l2, vi 1, vd]) rfl ?_
    refine wm_aload_n d_So_weights_14 rfl rfl ?_
    refine gf_So_32 rfl d_So_weights_15 h1 ?_
    refine wm_aload_n d_So_weights_18 rfl rfl ?_
    refine gf_So_41 rfl d_So_weights_19 h1 ?_
    refine wm_iload_n d_So_weights_22 rfl rfl ?_
    refine wm_iald d_So_weights_23 h8 h9 ?_
    refine wm_iald d_So_weights_24 h10 h11 ?_
    refine wm_istore d_So_weights_25 (by decide) (L' := [vr a0, vi l1, vi l2, vi 1, vi (mI M (mR M a0 5) (Int.toNat (mI M (mR M a0 8) (Int.toNat l2))))]) rfl ?_
    exact h
theorem k_So_weights_27 {G : mG} {d : Nat} {a0 : Nat} {l1 : Int} {l2 : Int} {l3 : Int} {l4 : Int} {M : mM} {Q : Int → mM → Prop} (hO : mOk M) (hi_l1 : i32 l1) (hi_l2 : i32 l2) (hi_l3 : i32 l3) (hi_l4 : i32 l4)
    (h : mK M a0 = 8 ∧ mK M (mR M a0 8) = 30 ∧ ((0 : Int) ≤ l2 ∧ l2 < (mN M (mR M a0 8) : Int)) ∧ mK M (mR M a0 6) = 30 ∧ ((0 : Int) ≤ mI M (mR M a0 8) (Int.toNat l2) ∧ mI M (mR M a0 8) (Int.toNat l2) < (mN M (mR M a0 6) : Int)) ∧ ((mI M (mR M a0 6) (Int.toNat (mI M (mR M a0 8) (Int.toNat l2))) ≤ l4) → (Ci G y_JI_nlz d [vi (l3 - 1)] M (fun x23 M22 => i32 x23 ∧ mOk M22 ∧ (h_So_weights_4 G d a0 (l1 + (33 - x23)) (l2 + 1) M22 Q)))) ∧ (¬ (mI M (mR M a0 6) (Int.toNat (mI M (mR M a0 8) (Int.toNat l2))) ≤ l4) → (mK M (mR M a0 3) = 7 ∧ mK M (mR M (mR M a0 3) 6) = 30 ∧ ((0 : Int) ≤ l4 ∧ l4 < (mN M (mR M (mR M a0 3) 6) : Int)) ∧ h_So_weights_27 G d a0 l1 l2 (if l3 < mI M (mR M (mR M a0 3) 6) (Int.toNat l4) then mI M (mR M (mR M a0 3) 6) (Int.toNat l4) else l3) (l4 + 1) M Q))) :
    h_So_weights_27 G d a0 l1 l2 l3 l4 M Q := by
  unfold h_So_weights_27
  obtain ⟨h12, h⟩ := h
  obtain ⟨h13, h⟩ := h
  obtain ⟨h14, h⟩ := h
  obtain ⟨h15, h⟩ := h
  obtain ⟨h16, h⟩ := h
  refine wm_iload d_So_weights_27 rfl ?_
  refine wm_aload_n d_So_weights_29 rfl rfl ?_
  refine gf_So_35 rfl d_So_weights_30 h12 ?_
  refine wm_aload_n d_So_weights_33 rfl rfl ?_
  refine gf_So_41 rfl d_So_weights_34 h12 ?_
  refine wm_iload_n d_So_weights_37 rfl rfl ?_
  refine wm_iald d_So_weights_38 h13 h14 ?_
  refine wm_iald d_So_weights_39 h15 h16 ?_
  refine wm_icmp_ge (tgt := 64) d_So_weights_40 rfl hi_l4 (hO _ _).1 (fun c21 => ?_) (fun c21 => ?_)
  · replace h := h.1 c21
    refine wm_iload_n d_So_weights_64 rfl rfl ?_
    refine wm_bipush d_So_weights_65 (by decide) ?_
    refine wm_iload_n d_So_weights_67 rfl rfl ?_
    refine wm_iconst d_So_weights_68 ?_
    refine wm_isub d_So_weights_69 ?_
    refine cf_So_154 rfl d_So_weights_70 (Nat.le_of_ble_eq_true rfl) (Ci.mono h (fun x23 M22 h => ?_))
    obtain ⟨h24, hOM22, h⟩ := h
    refine wm_isub d_So_weights_73 ?_
    refine wm_iadd d_So_weights_74 ?_
    refine wm_istore_n d_So_weights_75 rfl (by decide) (L' := [vr a0, vi (l1 + (33 - x23)), vi l2, vi l3, vi l4]) rfl ?_
    refine wm_iinc d_So_weights_76 (by decide) rfl (L' := [vr a0, vi (l1 + (33 - x23)), vi (l2 + 1), vi l3, vi l4]) rfl ?_
    refine wm_goto (tgt := 4) d_So_weights_79 rfl ?_
    refine wm_less (L' := [vr a0, vi (l1 + (33 - x23)), vi (l2 + 1), vd, vd]) ⟨Or.inr rfl, Or.inr rfl, Or.inr rfl, Or.inl rfl, Or.inl rfl, trivial⟩ ?_
    exact h
  · replace h := h.2 c21
    obtain ⟨h25, h⟩ := h
    obtain ⟨h26, h⟩ := h
    obtain ⟨h27, h⟩ := h
    refine wm_iload_n d_So_weights_43 rfl rfl ?_
    refine wm_aload_n d_So_weights_44 rfl rfl ?_
    refine gf_So_64 rfl d_So_weights_45 h12 ?_
    refine gf_So_145 rfl d_So_weights_48 h25 ?_
    refine wm_iload d_So_weights_51 rfl ?_
    refine wm_iald d_So_weights_53 h26 h27 ?_
    refine wm_mmax k8_94 (Nat.le_of_ble_eq_true rfl) hi_l3 (hO _ _).1 d_So_weights_54 ?_
    refine wm_istore_n d_So_weights_57 rfl (by decide) (L' := [vr a0, vi l1, vi l2, vi (if l3 < mI M (mR M (mR M a0 3) 6) (Int.toNat l4) then mI M (mR M (mR M a0 3) 6) (Int.toNat l4) else l3), vi l4]) rfl ?_
    refine wm_iinc d_So_weights_58 (by decide) rfl (L' := [vr a0, vi l1, vi l2, vi (if l3 < mI M (mR M (mR M a0 3) 6) (Int.toNat l4) then mI M (mR M (mR M a0 3) 6) (Int.toNat l4) else l3), vi (l4 + 1)]) rfl ?_
    refine wm_goto (tgt := 27) d_So_weights_61 rfl ?_
    exact h
