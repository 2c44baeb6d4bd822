theorem d_RR_accept_0 : decode y_RR_accept.2.1 0 = .ok (.aload_n 0, 1) := by decide +kernel
theorem d_RR_accept_1 : decode y_RR_accept.2.1 1 = .ok (.getfield 40, 3) := by decide +kernel
theorem d_RR_accept_4 : decode y_RR_accept.2.1 4 = .ok (.getfield 69, 3) := by decide +kernel
theorem d_RR_accept_7 : decode y_RR_accept.2.1 7 = .ok (.aload_n 0, 1) := by decide +kernel
theorem d_RR_accept_8 : decode y_RR_accept.2.1 8 = .ok (.getfield 48, 3) := by decide +kernel
theorem d_RR_accept_11 : decode y_RR_accept.2.1 11 = .ok (.iaload, 1) := by decide +kernel
theorem d_RR_accept_12 : decode y_RR_accept.2.1 12 = .ok (.iload_n 1, 1) := by decide +kernel
theorem d_RR_accept_13 : decode y_RR_accept.2.1 13 = .ok (.if_icmp .eq 5, 3) := by decide +kernel
theorem d_RR_accept_18 : decode y_RR_accept.2.1 18 = .ok (.aload_n 0, 1) := by decide +kernel
theorem d_RR_accept_19 : decode y_RR_accept.2.1 19 = .ok (.dup, 1) := by decide +kernel
theorem d_RR_accept_20 : decode y_RR_accept.2.1 20 = .ok (.getfield 48, 3) := by decide +kernel
theorem d_RR_accept_23 : decode y_RR_accept.2.1 23 = .ok (.iconst 1, 1) := by decide +kernel
theorem d_RR_accept_24 : decode y_RR_accept.2.1 24 = .ok (.iadd, 1) := by decide +kernel
theorem d_RR_accept_25 : decode y_RR_accept.2.1 25 = .ok (.putfield 48, 3) := by decide +kernel
theorem d_RR_accept_28 : decode y_RR_accept.2.1 28 = .ok (.iconst 1, 1) := by decide +kernel
theorem d_RR_accept_29 : decode y_RR_accept.2.1 29 = .ok (.ireturn, 1) := by decide +kernel
theorem d_RR_accept_16 : decode y_RR_accept.2.1 16 = .ok (.iconst 0, 1) := by decide +kernel
theorem d_RR_accept_17 : decode y_RR_accept.2.1 17 = .ok (.ireturn, 1) := by decide +kernel
theorem k_RR_accept {G : mG} {d : Nat} {a0 : Nat} {l1 : Int} {M : mM} {Q : Int → mM → Prop} (hO : mOk M) (hi_l1 : i32 l1)
    (h : mK M a0 = 4 ∧ mK M (mR M a0 0) = 2 ∧ mK M (mR M (mR M a0 0) 3) = 30 ∧ ((0 : Int) ≤ mI M a0 2 ∧ mI M a0 2 < (mN M (mR M (mR M a0 0) 3) : Int)) ∧ ((mI M (mR M (mR M a0 0) 3) (Int.toNat (mI M a0 2)) = l1) → (i32 ((mI M a0 2) + 1) ∧ ∀ M9, M9 = mUI M a0 2 ((mI M a0 2) + 1) → Q 1 M9)) ∧ (¬ (mI M (mR M (mR M a0 0) 3) (Int.toNat (mI M a0 2)) = l1) → (Q 0 M))) :
    Ci G y_RR_accept d [vr a0, vi l1] M Q := by
  refine wm_open (y := y_RR_accept) rfl (Nat.le_of_ble_eq_true rfl) (L := [vr a0, vi l1]) rfl ?_
  obtain ⟨h1, h⟩ := h
  obtain ⟨h2, h⟩ := h
  obtain ⟨h3, h⟩ := h
  obtain ⟨h4, h⟩ := h
  refine wm_aload_n d_RR_accept_0 rfl rfl ?_
  refine gf_RR_40 rfl d_RR_accept_1 h1 ?_
  refine gf_RR_69 rfl d_RR_accept_4 h2 ?_
  refine wm_aload_n d_RR_accept_7 rfl rfl ?_
  refine gf_RR_48 rfl d_RR_accept_8 h1 ?_
  refine wm_iald d_RR_accept_11 h3 h4 ?_
  refine wm_iload_n d_RR_accept_12 rfl rfl ?_
  refine wm_icmp_eq (tgt := 18) d_RR_accept_13 rfl (hO _ _).1 hi_l1 (fun c7 => ?_) (fun c7 => ?_)
  · replace h := h.1 c7
    obtain ⟨h8, h⟩ := h
    obtain ⟨M9, e10⟩ : ∃ M9, M9 = mUI M a0 2 ((mI M a0 2) + 1) := ⟨_, rfl⟩
    replace h := h M9 e10
    refine wm_aload_n d_RR_accept_18 rfl rfl ?_
    refine wm_dup d_RR_accept_19 rfl ?_
    refine gf_RR_48 rfl d_RR_accept_20 h1 ?_
    refine wm_iconst d_RR_accept_23 ?_
    refine wm_iadd d_RR_accept_24 ?_
    have hOM9 : mOk M9 := by rw [e10]; exact mOk_UI hO h8
    refine pf_RR_48 rfl d_RR_accept_25 h1 h8 e10 ?_
    refine wm_iconst d_RR_accept_28 ?_
    refine wm_ireturn d_RR_accept_29 rfl (m_nb (by decide)) ?_
    exact ⟨_, rfl, h⟩
  · replace h := h.2 c7
    refine wm_iconst d_RR_accept_16 ?_
    refine wm_ireturn d_RR_accept_17 rfl (m_nb (by decide)) ?_
    exact ⟨_, rfl, h⟩
theorem d_RR_note_0 : decode y_RR_note.2.1 0 = .ok (.aload_n 0, 1) := by decide +kernel
theorem d_RR_note_1 : decode y_RR_note.2.1 1 = .ok (.getfield 52, 3) := by decide +kernel
theorem d_RR_note_4 : decode y_RR_note.2.1 4 = .ok (.ifCond .ne 13, 3) := by decide +kernel
theorem d_RR_note_7 : decode y_RR_note.2.1 7 = .ok (.aload_n 0, 1) := by decide +kernel
theorem d_RR_note_8 : decode y_RR_note.2.1 8 = .ok (.iload_n 1, 1) := by decide +kernel
theorem d_RR_note_9 : decode y_RR_note.2.1 9 = .ok (.putfield 52, 3) := by decide +kernel
theorem d_RR_note_12 : decode y_RR_note.2.1 12 = .ok (.aload_n 0, 1) := by decide +kernel
theorem d_RR_note_13 : decode y_RR_note.2.1 13 = .ok (.iload_n 2, 1) := by decide +kernel
theorem d_RR_note_14 : decode y_RR_note.2.1 14 = .ok (.putfield 55, 3) := by decide +kernel
theorem d_RR_note_17 : decode y_RR_note.2.1 17 = .ok (.return_, 1) := by decide +kernel
theorem k_RR_note {G : mG} {d : Nat} {a0 : Nat} {l1 : Int} {l2 : Int} {M : mM} {Q : mM → Prop} (hO : mOk M) (hi_l1 : i32 l1) (hi_l2 : i32 l2)
    (h : mK M a0 = 4 ∧ ((mI M a0 3 = 0) → (∀ M5, M5 = mUI M a0 3 l1 → ∀ M7, M7 = mUI M5 a0 4 l2 → Q M7)) ∧ (¬ (mI M a0 3 = 0) → (Q M))) :
    Cv G y_RR_note d [vr a0, vi l1, vi l2] M Q := by
  refine wm_open (y := y_RR_note) rfl (Nat.le_of_ble_eq_true rfl) (L := [vr a0, vi l1, vi l2]) rfl ?_
  obtain ⟨h1, h⟩ := h
  refine wm_aload_n d_RR_note_0 rfl rfl ?_
  refine gf_RR_52 rfl d_RR_note_1 h1 ?_
  refine wm_if_ne (tgt := 17) d_RR_note_4 rfl (hO _ _).1 (fun c4 => ?_) (fun c4 => ?_)
  · replace h := h.2 c4
    refine wm_return d_RR_note_17 rfl ?_
    exact ⟨rfl, h⟩
  · replace c4 := Classical.not_not.mp c4
    replace h := h.1 c4
    obtain ⟨M5, e6⟩ : ∃ M5, M5 = mUI M a0 3 l1 := ⟨_, rfl⟩
    replace h := h M5 e6
    obtain ⟨M7, e8⟩ : ∃ M7, M7 = mUI M5 a0 4 l2 := ⟨_, rfl⟩
    replace h := h M7 e8
    refine wm_aload_n d_RR_note_7 rfl rfl ?_
    refine wm_iload_n d_RR_note_8 rfl rfl ?_
    have hOM5 : mOk M5 := by rw [e6]; exact mOk_UI hO hi_l1
    refine pf_RR_52 rfl d_RR_note_9 h1 hi_l1 e6 ?_
    refine wm_aload_n d_RR_note_12 rfl rfl ?_
    refine wm_iload_n d_RR_note_13 rfl rfl ?_
    have hOM7 : mOk M7 := by rw [e8]; exact mOk_UI hOM5 hi_l2
    refine pf_RR_55 rfl d_RR_note_14 (by rw [e6]; exact h1) hi_l2 e8 ?_
    refine wm_return d_RR_note_17 rfl ?_
    exact ⟨rfl, h⟩
theorem d_RR_know_0 : decode y_RR_know.2.1 0 = .ok (.aload_n 0, 1) := by decide +kernel
theorem d_RR_know_1 : decode y_RR_know.2.1 1 = .ok (.getfield 61, 3) := by decide +kernel
theorem d_RR_know_4 : decode y_RR_know.2.1 4 = .ok (.aload_n 0, 1) := by decide +kernel
theorem d_RR_know_5 : decode y_RR_know.2.1 5 = .ok (.getfield 28, 3) := by decide +kernel
theorem d_RR_know_8 : decode y_RR_know.2.1 8 = .ok (.arraylength, 1) := by decide +kernel
theorem d_RR_know_9 : decode y_RR_know.2.1 9 = .ok (.if_icmp .ge 54, 3) := by decide +kernel
theorem d_RR_know_12 : decode y_RR_know.2.1 12 = .ok (.aload_n 0, 1) := by decide +kernel
theorem d_RR_know_13 : decode y_RR_know.2.1 13 = .ok (.getfield 28, 3) := by decide +kernel
theorem d_RR_know_16 : decode y_RR_know.2.1 16 = .ok (.aload_n 0, 1) := by decide +kernel
theorem d_RR_know_17 : decode y_RR_know.2.1 17 = .ok (.getfield 61, 3) := by decide +kernel
theorem d_RR_know_20 : decode y_RR_know.2.1 20 = .ok (.iload_n 1, 1) := by decide +kernel
theorem d_RR_know_21 : decode y_RR_know.2.1 21 = .ok (.iastore, 1) := by decide +kernel
theorem d_RR_know_22 : decode y_RR_know.2.1 22 = .ok (.aload_n 0, 1) := by decide +kernel
theorem d_RR_know_23 : decode y_RR_know.2.1 23 = .ok (.getfield 31, 3) := by decide +kernel
theorem d_RR_know_26 : decode y_RR_know.2.1 26 = .ok (.aload_n 0, 1) := by decide +kernel
theorem d_RR_know_27 : decode y_RR_know.2.1 27 = .ok (.getfield 61, 3) := by decide +kernel
theorem d_RR_know_30 : decode y_RR_know.2.1 30 = .ok (.iload_n 2, 1) := by decide +kernel
theorem d_RR_know_31 : decode y_RR_know.2.1 31 = .ok (.iastore, 1) := by decide +kernel
theorem d_RR_know_63 : decode y_RR_know.2.1 63 = .ok (.return_, 1) := by decide +kernel
theorem d_RR_know_32 : decode y_RR_know.2.1 32 = .ok (.aload_n 0, 1) := by decide +kernel
theorem d_RR_know_33 : decode y_RR_know.2.1 33 = .ok (.getfield 34, 3) := by decide +kernel
theorem d_RR_know_36 : decode y_RR_know.2.1 36 = .ok (.aload_n 0, 1) := by decide +kernel
theorem d_RR_know_37 : decode y_RR_know.2.1 37 = .ok (.getfield 61, 3) := by decide +kernel
theorem d_RR_know_40 : decode y_RR_know.2.1 40 = .ok (.iload_n 3, 1) := by decide +kernel
theorem d_RR_know_41 : decode y_RR_know.2.1 41 = .ok (.iastore, 1) := by decide +kernel
theorem d_RR_know_42 : decode y_RR_know.2.1 42 = .ok (.aload_n 0, 1) := by decide +kernel
theorem d_RR_know_43 : decode y_RR_know.2.1 43 = .ok (.getfield 37, 3) := by decide +kernel
theorem d_RR_know_46 : decode y_RR_know.2.1 46 = .ok (.aload_n 0, 1) := by decide +kernel
theorem d_RR_know_47 : decode y_RR_know.2.1 47 = .ok (.getfield 61, 3) := by decide +kernel
theorem d_RR_know_50 : decode y_RR_know.2.1 50 = .ok (.iload 4, 2) := by decide +kernel
theorem d_RR_know_52 : decode y_RR_know.2.1 52 = .ok (.bastore, 1) := by decide +kernel
theorem d_RR_know_53 : decode y_RR_know.2.1 53 = .ok (.aload_n 0, 1) := by decide +kernel
theorem d_RR_know_54 : decode y_RR_know.2.1 54 = .ok (.dup, 1) := by decide +kernel
theorem d_RR_know_55 : decode y_RR_know.2.1 55 = .ok (.getfield 61, 3) := by decide +kernel
theorem d_RR_know_58 : decode y_RR_know.2.1 58 = .ok (.iconst 1, 1) := by decide +kernel
theorem d_RR_know_59 : decode y_RR_know.2.1 59 = .ok (.iadd, 1) := by decide +kernel
theorem d_RR_know_60 : decode y_RR_know.2.1 60 = .ok (.putfield 61, 3) := by decide +kernel
theorem k_RR_know {G : mG} {d : Nat} {a0 : Nat} {l1 : Int} {l2 : Int} {l3 : Int} {l4 : Int} {M : mM} {Q : mM → Prop} (hO : mOk M) (hi_l1 : i32 l1) (hi_l2 : i32 l2) (hi_l3 : i32 l3) (hi_l4 : i32 l4)
    (h : mK M a0 = 4 ∧ mK M (mR M a0 15) = 30 ∧ i32 (mN M (mR M a0 15) : Int) ∧ (((mN M (mR M a0 15) : Int) ≤ mI M a0 19) → (Q M)) ∧ (¬ ((mN M (mR M a0 15) : Int) ≤ mI M a0 19) → (((0 : Int) ≤ mI M a0 19 ∧ mI M a0 19 < (mN M (mR M a0 15) : Int)) ∧ ∀ M13, M13 = mUI M (mR M a0 15) (Int.toNat (mI M a0 19)) l1 → mK M13 (mR M13 a0 16) = 30 ∧ ((0 : Int) ≤ mI M13 a0 19 ∧ mI M13 a0 19 < (mN M13 (mR M13 a0 16) : Int)) ∧ ∀ M17, M17 = mUI M13 (mR M13 a0 16) (Int.toNat (mI M13 a0 19)) l2 → mK M17 (mR M17 a0 17) = 30 ∧ ((0 : Int) ≤ mI M17 a0 19 ∧ mI M17 a0 19 < (mN M17 (mR M17 a0 17) : Int)) ∧ ∀ M21, M21 = mUI M17 (mR M17 a0 17) (Int.toNat (mI M17 a0 19)) l3 → mK M21 (mR M21 a0 18) = 31 ∧ ((0 : Int) ≤ mI M21 a0 19 ∧ mI M21 a0 19 < (mN M21 (mR M21 a0 18) : Int)) ∧ (l4 = 0 ∨ l4 = 1) ∧ ∀ M26, M26 = mUI M21 (mR M21 a0 18) (Int.toNat (mI M21 a0 19)) l4 → i32 ((mI M26 a0 19) + 1) ∧ ∀ M29, M29 = mUI M26 a0 19 ((mI M26 a0 19) + 1) → Q M29))) :
    Cv G y_RR_know d [vr a0, vi l1, vi l2, vi l3, vi l4] M Q := by
  refine wm_open (y := y_RR_know) rfl (Nat.le_of_ble_eq_true rfl) (L := [vr a0, vi l1, vi l2, vi l3, vi l4]) rfl ?_
  obtain ⟨h1, h⟩ := h
  obtain ⟨h2, h⟩ := h
  obtain ⟨h10, h⟩ := h
  refine wm_aload_n d_RR_know_0 rfl rfl ?_
  refine gf_RR_61 rfl d_RR_know_1 h1 ?_
  refine wm_aload_n d_RR_know_4 rfl rfl ?_
  refine gf_RR_28 rfl d_RR_know_5 h1 ?_
  refine wm_alen 0 rfl (fun _ => rfl) d_RR_know_8 h2 ?_
  refine wm_icmp_ge (tgt := 63) d_RR_know_9 rfl (hO _ _).1 h10 (fun c11 => ?_) (fun c11 => ?_)
  · replace h := h.1 c11
    refine wm_return d_RR_know_63 rfl ?_
    exact ⟨rfl, h⟩
  · replace h := h.2 c11
    obtain ⟨h12, h⟩ := h
    obtain ⟨M13, e14⟩ : ∃ M13, M13 = mUI M (mR M a0 15) (Int.toNat (mI M a0 19)) l1 := ⟨_, rfl⟩
    replace h := h M13 e14
    obtain ⟨h15, h⟩ := h
    obtain ⟨h16, h⟩ := h
    obtain ⟨M17, e18⟩ : ∃ M17, M17 = mUI M13 (mR M13 a0 16) (Int.toNat (mI M13 a0 19)) l2 := ⟨_, rfl⟩
    replace h := h M17 e18
    obtain ⟨h19, h⟩ := h
    obtain ⟨h20, h⟩ := h
    obtain ⟨M21, e22⟩ : ∃ M21, M21 = mUI M17 (mR M17 a0 17) (Int.toNat (mI M17 a0 19)) l3 := ⟨_, rfl⟩
    replace h := h M21 e22
    obtain ⟨h23, h⟩ := h
    obtain ⟨h24, h⟩ := h
    obtain ⟨h25, h⟩ := h
    obtain ⟨M26, e27⟩ : ∃ M26, M26 = mUI M21 (mR M21 a0 18) (Int.toNat (mI M21 a0 19)) l4 := ⟨_, rfl⟩
    replace h := h M26 e27
    obtain ⟨h28, h⟩ := h
    obtain ⟨M29, e30⟩ : ∃ M29, M29 = mUI M26 a0 19 ((mI M26 a0 19) + 1) := ⟨_, rfl⟩
    replace h := h M29 e30
    refine wm_aload_n d_RR_know_12 rfl rfl ?_
    refine gf_RR_28 rfl d_RR_know_13 h1 ?_
    refine wm_aload_n d_RR_know_16 rfl rfl ?_
    refine gf_RR_61 rfl d_RR_know_17 h1 ?_
    refine wm_iload_n d_RR_know_20 rfl rfl ?_
    have hOM13 : mOk M13 := by rw [e14]; exact mOk_UI hO hi_l1
    refine wm_iastE d_RR_know_21 h2 h12 hi_l1 e14 ?_
    refine wm_aload_n d_RR_know_22 rfl rfl ?_
    refine gf_RR_31 rfl d_RR_know_23 (by rw [e14]; exact h1) ?_
    refine wm_aload_n d_RR_know_26 rfl rfl ?_
    refine gf_RR_61 rfl d_RR_know_27 (by rw [e14]; exact h1) ?_
    refine wm_iload_n d_RR_know_30 rfl rfl ?_
    have hOM17 : mOk M17 := by rw [e18]; exact mOk_UI hOM13 hi_l2
    refine wm_iastE d_RR_know_31 h15 h16 hi_l2 e18 ?_
    refine wm_aload_n d_RR_know_32 rfl rfl ?_
    refine gf_RR_34 rfl d_RR_know_33 (by rw [e18, e14]; exact h1) ?_
    refine wm_aload_n d_RR_know_36 rfl rfl ?_
    refine gf_RR_61 rfl d_RR_know_37 (by rw [e18, e14]; exact h1) ?_
    refine wm_iload_n d_RR_know_40 rfl rfl ?_
    have hOM21 : mOk M21 := by rw [e22]; exact mOk_UI hOM17 hi_l3
    refine wm_iastE d_RR_know_41 h19 h20 hi_l3 e22 ?_
    refine wm_aload_n d_RR_know_42 rfl rfl ?_
    refine gf_RR_37 rfl d_RR_know_43 (by rw [e22, e18, e14]; exact h1) ?_
    refine wm_aload_n d_RR_know_46 rfl rfl ?_
    refine gf_RR_61 rfl d_RR_know_47 (by rw [e22, e18, e14]; exact h1) ?_
    refine wm_iload d_RR_know_50 rfl ?_
    have hOM26 : mOk M26 := by rw [e27]; exact mOk_UI hOM21 (m_b32 h25)
    refine wm_zastE d_RR_know_52 h23 h24 h25 e27 ?_
    refine wm_aload_n d_RR_know_53 rfl rfl ?_
    refine wm_dup d_RR_know_54 rfl ?_
    refine gf_RR_61 rfl d_RR_know_55 (by rw [e27, e22, e18, e14]; exact h1) ?_
    refine wm_iconst d_RR_know_58 ?_
    refine wm_iadd d_RR_know_59 ?_
    have hOM29 : mOk M29 := by rw [e30]; exact mOk_UI hOM26 h28
    refine pf_RR_61 rfl d_RR_know_60 (by rw [e27, e22, e18, e14]; exact h1) h28 e30 ?_
    refine wm_return d_RR_know_63 rfl ?_
    exact ⟨rfl, h⟩
theorem d_RR_find_0 : decode y_RR_find.2.1 0 = .ok (.aload_n 0, 1) := by decide +kernel
theorem d_RR_find_1 : decode y_RR_find.2.1 1 = .ok (.getfield 40, 3) := by decide +kernel
theorem d_RR_find_4 : decode y_RR_find.2.1 4 = .ok (.getfield 72, 3) := by decide +kernel
theorem d_RR_find_7 : decode y_RR_find.2.1 7 = .ok (.iload_n 1, 1) := by decide +kernel
theorem d_RR_find_8 : decode y_RR_find.2.1 8 = .ok (.iaload, 1) := by decide +kernel
theorem d_RR_find_9 : decode y_RR_find.2.1 9 = .ok (.istore_n 2, 1) := by decide +kernel
theorem d_RR_find_10 : decode y_RR_find.2.1 10 = .ok (.iconst 0, 1) := by decide +kernel
theorem d_RR_find_11 : decode y_RR_find.2.1 11 = .ok (.istore_n 3, 1) := by decide +kernel
theorem d_RR_find_12 : decode y_RR_find.2.1 12 = .ok (.iload_n 3, 1) := by decide +kernel
theorem d_RR_find_13 : decode y_RR_find.2.1 13 = .ok (.aload_n 0, 1) := by decide +kernel
theorem d_RR_find_14 : decode y_RR_find.2.1 14 = .ok (.getfield 61, 3) := by decide +kernel
theorem d_RR_find_17 : decode y_RR_find.2.1 17 = .ok (.if_icmp .ge 63, 3) := by decide +kernel
theorem d_RR_find_80 : decode y_RR_find.2.1 80 = .ok (.iconst (-1), 1) := by decide +kernel
theorem d_RR_find_81 : decode y_RR_find.2.1 81 = .ok (.ireturn, 1) := by decide +kernel
theorem d_RR_find_20 : decode y_RR_find.2.1 20 = .ok (.aload_n 0, 1) := by decide +kernel
theorem d_RR_find_21 : decode y_RR_find.2.1 21 = .ok (.getfield 28, 3) := by decide +kernel
theorem d_RR_find_24 : decode y_RR_find.2.1 24 = .ok (.iload_n 3, 1) := by decide +kernel
theorem d_RR_find_25 : decode y_RR_find.2.1 25 = .ok (.iaload, 1) := by decide +kernel
theorem d_RR_find_26 : decode y_RR_find.2.1 26 = .ok (.istore 4, 2) := by decide +kernel
theorem d_RR_find_28 : decode y_RR_find.2.1 28 = .ok (.aload_n 0, 1) := by decide +kernel
theorem d_RR_find_29 : decode y_RR_find.2.1 29 = .ok (.getfield 40, 3) := by decide +kernel
theorem d_RR_find_32 : decode y_RR_find.2.1 32 = .ok (.getfield 72, 3) := by decide +kernel
theorem d_RR_find_35 : decode y_RR_find.2.1 35 = .ok (.iload 4, 2) := by decide +kernel
theorem d_RR_find_37 : decode y_RR_find.2.1 37 = .ok (.iaload, 1) := by decide +kernel
theorem d_RR_find_38 : decode y_RR_find.2.1 38 = .ok (.iload_n 2, 1) := by decide +kernel
theorem d_RR_find_39 : decode y_RR_find.2.1 39 = .ok (.if_icmp .ne 35, 3) := by decide +kernel
theorem d_RR_find_42 : decode y_RR_find.2.1 42 = .ok (.aload_n 0, 1) := by decide +kernel
theorem d_RR_find_43 : decode y_RR_find.2.1 43 = .ok (.getfield 40, 3) := by decide +kernel
theorem d_RR_find_46 : decode y_RR_find.2.1 46 = .ok (.aload_n 0, 1) := by decide +kernel
theorem d_RR_find_47 : decode y_RR_find.2.1 47 = .ok (.getfield 40, 3) := by decide +kernel
theorem d_RR_find_50 : decode y_RR_find.2.1 50 = .ok (.getfield 64, 3) := by decide +kernel
theorem d_RR_find_53 : decode y_RR_find.2.1 53 = .ok (.iload 4, 2) := by decide +kernel
theorem d_RR_find_55 : decode y_RR_find.2.1 55 = .ok (.iaload, 1) := by decide +kernel
theorem d_RR_find_56 : decode y_RR_find.2.1 56 = .ok (.aload_n 0, 1) := by decide +kernel
theorem d_RR_find_57 : decode y_RR_find.2.1 57 = .ok (.getfield 40, 3) := by decide +kernel
theorem d_RR_find_60 : decode y_RR_find.2.1 60 = .ok (.getfield 64, 3) := by decide +kernel
theorem d_RR_find_63 : decode y_RR_find.2.1 63 = .ok (.iload_n 1, 1) := by decide +kernel
theorem d_RR_find_64 : decode y_RR_find.2.1 64 = .ok (.iaload, 1) := by decide +kernel
theorem d_RR_find_65 : decode y_RR_find.2.1 65 = .ok (.iload_n 2, 1) := by decide +kernel
theorem d_RR_find_66 : decode y_RR_find.2.1 66 = .ok (.invokevirtual 75, 3) := by decide +kernel
theorem d_RR_find_69 : decode y_RR_find.2.1 69 = .ok (.ifCond .eq 5, 3) := by decide +kernel
theorem d_RR_find_72 : decode y_RR_find.2.1 72 = .ok (.iload_n 3, 1) := by decide +kernel
theorem d_RR_find_73 : decode y_RR_find.2.1 73 = .ok (.ireturn, 1) := by decide +kernel
theorem d_RR_find_74 : decode y_RR_find.2.1 74 = .ok (.iinc 3 1, 3) := by decide +kernel
theorem d_RR_find_77 : decode y_RR_find.2.1 77 = .ok (.goto (-65), 3) := by decide +kernel
def h_RR_find_12 (G : mG) (d : Nat) (a0 : Nat) (l1 : Int) (l2 : Int) (l3 : Int) (M : mM) (Q : Int → mM → Prop) : Prop := mWm G y_RR_find (d + 1) 12 [vr a0, vi l1, vi l2, vi l3, vd] [] M (fun r9 M9 => ∃ x9, r9 = some (vi x9) ∧ Q x9 M9)
theorem k_RR_find {G : mG} {d : Nat} {a0 : Nat} {l1 : Int} {M : mM} {Q : Int → mM → Prop} (hO : mOk M) (hi_l1 : i32 l1)
    (h : mK M a0 = 4 ∧ mK M (mR M a0 0) = 2 ∧ mK M (mR M (mR M a0 0) 5) = 30 ∧ ((0 : Int) ≤ l1 ∧ l1 < (mN M (mR M (mR M a0 0) 5) : Int)) ∧ h_RR_find_12 G d a0 l1 (mI M (mR M (mR M a0 0) 5) (Int.toNat l1)) 0 M Q) :
    Ci G y_RR_find (d + 1) [vr a0, vi l1] M Q := by
  refine wm_open (y := y_RR_find) rfl (Nat.le_of_ble_eq_true rfl) (L := [vr a0, vi l1, vd, vd, vd]) rfl ?_
  obtain ⟨h1, h⟩ := h
  obtain ⟨h2, h⟩ := h
  obtain ⟨h3, h⟩ := h
  obtain ⟨h4, h⟩ := h
  refine wm_aload_n d_RR_find_0 rfl rfl ?_
  refine gf_RR_40 rfl d_RR_find_1 h1 ?_
  refine gf_RR_72 rfl d_RR_find_4 h2 ?_
  refine wm_iload_n d_RR_find_7 rfl rfl ?_
  refine wm_iald d_RR_find_8 h3 h4 ?_
  refine wm_istore_n d_RR_find_9 rfl (by decide) (L' := [vr a0, vi l1, vi (mI M (mR M (mR M a0 0) 5) (Int.toNat l1)), vd, vd]) rfl ?_
  refine wm_iconst d_RR_find_10 ?_
  refine wm_istore_n d_RR_find_11 rfl (by decide) (L' := [vr a0, vi l1, vi (mI M (mR M (mR M a0 0) 5) (Int.toNat l1)), vi 0, vd]) rfl ?_
  exact h
theorem k_RR_find_12 {G : mG} {d : Nat} {a0 : Nat} {l1 : Int} {l2 : Int} {l3 : Int} {M : mM} {Q : Int → mM → Prop} (hO : mOk M) (hi_l1 : i32 l1) (hi_l2 : i32 l2) (hi_l3 : i32 l3)
    (h : mK M a0 = 4 ∧ ((mI M a0 19 ≤ l3) → (Q (-1) M)) ∧ (¬ (mI M a0 19 ≤ l3) → (mK M (mR M a0 15) = 30 ∧ ((0 : Int) ≤ l3 ∧ l3 < (mN M (mR M a0 15) : Int)) ∧ mK M (mR M a0 0) = 2 ∧ mK M (mR M (mR M a0 0) 5) = 30 ∧ ((0 : Int) ≤ mI M (mR M a0 15) (Int.toNat l3) ∧ mI M (mR M a0 15) (Int.toNat l3) < (mN M (mR M (mR M a0 0) 5) : Int)) ∧ ((mI M (mR M (mR M a0 0) 5) (Int.toNat (mI M (mR M a0 15) (Int.toNat l3))) = l2) → (mK M (mR M (mR M a0 0) 4) = 30 ∧ ((0 : Int) ≤ mI M (mR M a0 15) (Int.toNat l3) ∧ mI M (mR M a0 15) (Int.toNat l3) < (mN M (mR M (mR M a0 0) 4) : Int)) ∧ ((0 : Int) ≤ l1 ∧ l1 < (mN M (mR M (mR M a0 0) 4) : Int)) ∧ Ci G y_Wo_same d [vr (mR M a0 0), vi (mI M (mR M (mR M a0 0) 4) (Int.toNat (mI M (mR M a0 15) (Int.toNat l3)))), vi (mI M (mR M (mR M a0 0) 4) (Int.toNat l1)), vi l2] M (fun x24 M23 => i32 x24 ∧ mOk M23 ∧ (((x24 = 0) → (h_RR_find_12 G d a0 l1 l2 (l3 + 1) M23 Q)) ∧ (¬ (x24 = 0) → (Q l3 M23)))))) ∧ (¬ (mI M (mR M (mR M a0 0) 5) (Int.toNat (mI M (mR M a0 15) (Int.toNat l3))) = l2) → (h_RR_find_12 G d a0 l1 l2 (l3 + 1) M Q))))) :
    h_RR_find_12 G d a0 l1 l2 l3 M Q := by
  unfold h_RR_find_12
  obtain ⟨h5, h⟩ := h
  refine wm_iload_n d_RR_find_12 rfl rfl ?_
  refine wm_aload_n d_RR_find_13 rfl rfl ?_
  refine gf_RR_61 rfl d_RR_find_14 h5 ?_
  refine wm_icmp_ge (tgt := 80) d_RR_find_17 rfl hi_l3 (hO _ _).1 (fun c12 => ?_) (fun c12 => ?_)
  · replace h := h.1 c12
    refine wm_iconst d_RR_find_80 ?_
    refine wm_ireturn d_RR_find_81 rfl rfl ?_
    exact ⟨_, rfl, h⟩
  · replace h := h.2 c12
    obtain ⟨h13, h⟩ := h
    obtain ⟨h14, h⟩ := h
    obtain ⟨h15, h⟩ := h
    obtain ⟨h16, h⟩ := h
    obtain ⟨h17, h⟩ := h
    refine wm_aload_n d_RR_find_20 rfl rfl ?_
    refine gf_RR_28 rfl d_RR_find_21 h5 ?_
    refine wm_iload_n d_RR_find_24 rfl rfl ?_
    refine wm_iald d_RR_find_25 h13 h14 ?_
    refine wm_istore d_RR_find_26 (by decide) (L' := [vr a0, vi l1, vi l2, vi l3, vi (mI M (mR M a0 15) (Int.toNat l3))]) rfl ?_
    refine wm_aload_n d_RR_find_28 rfl rfl ?_
    refine gf_RR_40 rfl d_RR_find_29 h5 ?_
    refine gf_RR_72 rfl d_RR_find_32 h15 ?_
    refine wm_iload d_RR_find_35 rfl ?_
    refine wm_iald d_RR_find_37 h16 h17 ?_
    refine wm_iload_n d_RR_find_38 rfl rfl ?_
    refine wm_icmp_ne (tgt := 74) d_RR_find_39 rfl (hO _ _).1 hi_l2 (fun c19 => ?_) (fun c19 => ?_)
    · replace h := h.2 c19
      refine wm_iinc d_RR_find_74 (by decide) rfl (L' := [vr a0, vi l1, vi l2, vi (l3 + 1), vi (mI M (mR M a0 15) (Int.toNat l3))]) rfl ?_
      refine wm_goto (tgt := 12) d_RR_find_77 rfl ?_
      refine wm_less (L' := [vr a0, vi l1, vi l2, vi (l3 + 1), vd]) ⟨Or.inr rfl, Or.inr rfl, Or.inr rfl, Or.inr rfl, Or.inl rfl, trivial⟩ ?_
      exact h
    · replace c19 := Classical.not_not.mp c19
      replace h := h.1 c19
      obtain ⟨h20, h⟩ := h
      obtain ⟨h21, h⟩ := h
      obtain ⟨h22, h⟩ := h
      refine wm_aload_n d_RR_find_42 rfl rfl ?_
      refine gf_RR_40 rfl d_RR_find_43 h5 ?_
      refine wm_aload_n d_RR_find_46 rfl rfl ?_
      refine gf_RR_40 rfl d_RR_find_47 h5 ?_
      refine gf_RR_64 rfl d_RR_find_50 h15 ?_
      refine wm_iload d_RR_find_53 rfl ?_
      refine wm_iald d_RR_find_55 h20 h21 ?_
      refine wm_aload_n d_RR_find_56 rfl rfl ?_
      refine gf_RR_40 rfl d_RR_find_57 h5 ?_
      refine gf_RR_64 rfl d_RR_find_60 h15 ?_
      refine wm_iload_n d_RR_find_63 rfl rfl ?_
      refine wm_iald d_RR_find_64 h20 h22 ?_
      refine wm_iload_n d_RR_find_65 rfl rfl ?_
      refine cf_RR_75 rfl d_RR_find_66 h15 (Nat.le_of_ble_eq_true rfl) (Ci.mono h (fun x24 M23 h => ?_))
      obtain ⟨h25, hOM23, h⟩ := h
      refine wm_if_eq (tgt := 74) d_RR_find_69 rfl h25 (fun c27 => ?_) (fun c27 => ?_)
      · replace h := h.1 c27
        refine wm_iinc d_RR_find_74 (by decide) rfl (L' := [vr a0, vi l1, vi l2, vi (l3 + 1), vi (mI M (mR M a0 15) (Int.toNat l3))]) rfl ?_
        refine wm_goto (tgt := 12) d_RR_find_77 rfl ?_
        refine wm_less (L' := [vr a0, vi l1, vi l2, vi (l3 + 1), vd]) ⟨Or.inr rfl, Or.inr rfl, Or.inr rfl, Or.inr rfl, Or.inl rfl, trivial⟩ ?_
        exact h
      · replace h := h.2 c27
        refine wm_iload_n d_RR_find_72 rfl rfl ?_
        refine wm_ireturn d_RR_find_73 rfl rfl ?_
        exact ⟨_, rfl, h⟩
theorem d_RR_varOf_0 : decode y_RR_varOf.2.1 0 = .ok (.aload_n 0, 1) := by decide +kernel
theorem d_RR_varOf_1 : decode y_RR_varOf.2.1 1 = .ok (.iload_n 1, 1) := by decide +kernel
theorem d_RR_varOf_2 : decode y_RR_varOf.2.1 2 = .ok (.invokevirtual 79, 3) := by decide +kernel
theorem d_RR_varOf_5 : decode y_RR_varOf.2.1 5 = .ok (.istore_n 2, 1) := by decide +kernel
theorem d_RR_varOf_6 : decode y_RR_varOf.2.1 6 = .ok (.iload_n 2, 1) := by decide +kernel
theorem d_RR_varOf_7 : decode y_RR_varOf.2.1 7 = .ok (.iconst (-1), 1) := by decide +kernel
theorem d_RR_varOf_8 : decode y_RR_varOf.2.1 8 = .ok (.if_icmp .eq 13, 3) := by decide +kernel
theorem d_RR_varOf_21 : decode y_RR_varOf.2.1 21 = .ok (.iconst (-1), 1) := by decide +kernel
theorem d_RR_varOf_22 : decode y_RR_varOf.2.1 22 = .ok (.goto 9, 3) := by decide +kernel
theorem d_RR_varOf_11 : decode y_RR_varOf.2.1 11 = .ok (.aload_n 0, 1) := by decide +kernel
theorem d_RR_varOf_12 : decode y_RR_varOf.2.1 12 = .ok (.getfield 31, 3) := by decide +kernel
theorem d_RR_varOf_15 : decode y_RR_varOf.2.1 15 = .ok (.iload_n 2, 1) := by decide +kernel
theorem d_RR_varOf_16 : decode y_RR_varOf.2.1 16 = .ok (.iaload, 1) := by decide +kernel
theorem d_RR_varOf_17 : decode y_RR_varOf.2.1 17 = .ok (.iconst 5, 1) := by decide +kernel
theorem d_RR_varOf_18 : decode y_RR_varOf.2.1 18 = .ok (.if_icmp .eq 7, 3) := by decide +kernel
theorem d_RR_varOf_25 : decode y_RR_varOf.2.1 25 = .ok (.aload_n 0, 1) := by decide +kernel
theorem d_RR_varOf_26 : decode y_RR_varOf.2.1 26 = .ok (.getfield 34, 3) := by decide +kernel
theorem d_RR_varOf_29 : decode y_RR_varOf.2.1 29 = .ok (.iload_n 2, 1) := by decide +kernel
theorem d_RR_varOf_30 : decode y_RR_varOf.2.1 30 = .ok (.iaload, 1) := by decide +kernel
theorem d_RR_varOf_31 : decode y_RR_varOf.2.1 31 = .ok (.ireturn, 1) := by decide +kernel
theorem k_RR_varOf {G : mG} {d : Nat} {a0 : Nat} {l1 : Int} {M : mM} {Q : Int → mM → Prop} (hO : mOk M) (hi_l1 : i32 l1)
    (h : mK M a0 = 4 ∧ Ci G y_RR_find d [vr a0, vi l1] M (fun x3 M2 => i32 x3 ∧ mOk M2 ∧ ((¬ (x3 = (-1)) → (mK M2 a0 = 4 ∧ mK M2 (mR M2 a0 16) = 30 ∧ ((0 : Int) ≤ x3 ∧ x3 < (mN M2 (mR M2 a0 16) : Int)) ∧ ((mI M2 (mR M2 a0 16) (Int.toNat x3) = 5) → (mK M2 (mR M2 a0 17) = 30 ∧ ((0 : Int) ≤ x3 ∧ x3 < (mN M2 (mR M2 a0 17) : Int)))))) ∧ ∀ v12 : Int, v12 = (if ((x3 = (-1)) ∨ (¬ (mI M2 (mR M2 a0 16) (Int.toNat x3) = 5))) then (-1) else mI M2 (mR M2 a0 17) (Int.toNat x3)) → Q v12 M2))) :
    Ci G y_RR_varOf (d + 1) [vr a0, vi l1] M Q := by
  refine wm_open (y := y_RR_varOf) rfl (Nat.le_of_ble_eq_true rfl) (L := [vr a0, vi l1, vd]) rfl ?_
  obtain ⟨h1, h⟩ := h
  refine wm_aload_n d_RR_varOf_0 rfl rfl ?_
  refine wm_iload_n d_RR_varOf_1 rfl rfl ?_
  refine cf_RR_79 rfl d_RR_varOf_2 h1 (Nat.le_of_ble_eq_true rfl) (Ci.mono h (fun x3 M2 h => ?_))
  obtain ⟨h4, hOM2, h⟩ := h
  refine wm_istore_n d_RR_varOf_5 rfl (by decide) (L' := [vr a0, vi l1, vi x3]) rfl ?_
  refine wm_iload_n d_RR_varOf_6 rfl rfl ?_
  refine wm_iconst d_RR_varOf_7 ?_
  obtain ⟨s13, h⟩ := h
  have hJ : ∀ v12 : Int, v12 = (if ((x3 = (-1)) ∨ (¬ (mI M2 (mR M2 a0 16) (Int.toNat x3) = 5))) then (-1) else mI M2 (mR M2 a0 17) (Int.toNat x3)) → mWm G y_RR_varOf (d + 1) 31 [vd, vd, vd] [vi v12] M2 (fun r9 M9 => ∃ x9, r9 = some (vi x9) ∧ Q x9 M9) := by
    intro v12 e14
    have h := h v12 e14
    refine wm_ireturn d_RR_varOf_31 rfl rfl ?_
    exact ⟨_, rfl, h⟩
  clear h
  have s15 := s13
  refine wm_icmp_eq (tgt := 21) d_RR_varOf_8 rfl h4 ⟨by decide, by decide⟩ (fun c5 => ?_) (fun c5 => ?_)
  · refine wm_iconst d_RR_varOf_21 ?_
    refine wm_goto (tgt := 31) d_RR_varOf_22 rfl ?_
    refine wm_less (L' := [vd, vd, vd]) ⟨Or.inl rfl, Or.inl rfl, Or.inl rfl, trivial⟩ ?_
    exact hJ (-1) (if_pos (Or.inl c5)).symm
  · have s15 := s15 c5
    obtain ⟨h6, h7, h8, s16⟩ := s15
    refine wm_aload_n d_RR_varOf_11 rfl rfl ?_
    refine gf_RR_31 rfl d_RR_varOf_12 h6 ?_
    refine wm_iload_n d_RR_varOf_15 rfl rfl ?_
    refine wm_iald d_RR_varOf_16 h7 h8 ?_
    refine wm_iconst d_RR_varOf_17 ?_
    refine wm_icmp_eq (tgt := 25) d_RR_varOf_18 rfl (hOM2 _ _).1 ⟨by decide, by decide⟩ (fun c9 => ?_) (fun c9 => ?_)
    · have s16 := s16 c9
      obtain ⟨h10, h11⟩ := s16
      refine wm_aload_n d_RR_varOf_25 rfl rfl ?_
      refine gf_RR_34 rfl d_RR_varOf_26 h6 ?_
      refine wm_iload_n d_RR_varOf_29 rfl rfl ?_
      refine wm_iald d_RR_varOf_30 h10 h11 ?_
      refine wm_less (L' := [vd, vd, vd]) ⟨Or.inl rfl, Or.inl rfl, Or.inl rfl, trivial⟩ ?_
      exact hJ (mI M2 (mR M2 a0 17) (Int.toNat x3)) (if_neg (fun z17 => Or.elim z17 c5 (fun z18 => z18 c9))).symm
    · refine wm_iconst d_RR_varOf_21 ?_
      refine wm_goto (tgt := 31) d_RR_varOf_22 rfl ?_
      refine wm_less (L' := [vd, vd, vd]) ⟨Or.inl rfl, Or.inl rfl, Or.inl rfl, trivial⟩ ?_
      exact hJ (-1) (if_pos (Or.inr c9)).symm
theorem d_RR_kindOf_0 : decode y_RR_kindOf.2.1 0 = .ok (.aload_n 0, 1) := by decide +kernel
theorem d_RR_kindOf_1 : decode y_RR_kindOf.2.1 1 = .ok (.iload_n 1, 1) := by decide +kernel
theorem d_RR_kindOf_2 : decode y_RR_kindOf.2.1 2 = .ok (.invokevirtual 79, 3) := by decide +kernel
theorem d_RR_kindOf_5 : decode y_RR_kindOf.2.1 5 = .ok (.istore_n 2, 1) := by decide +kernel
theorem d_RR_kindOf_6 : decode y_RR_kindOf.2.1 6 = .ok (.iload_n 2, 1) := by decide +kernel
theorem d_RR_kindOf_7 : decode y_RR_kindOf.2.1 7 = .ok (.iconst (-1), 1) := by decide +kernel
theorem d_RR_kindOf_8 : decode y_RR_kindOf.2.1 8 = .ok (.if_icmp .ne 7, 3) := by decide +kernel
theorem d_RR_kindOf_11 : decode y_RR_kindOf.2.1 11 = .ok (.iconst 0, 1) := by decide +kernel
theorem d_RR_kindOf_12 : decode y_RR_kindOf.2.1 12 = .ok (.goto 17, 3) := by decide +kernel
theorem d_RR_kindOf_15 : decode y_RR_kindOf.2.1 15 = .ok (.aload_n 0, 1) := by decide +kernel
theorem d_RR_kindOf_16 : decode y_RR_kindOf.2.1 16 = .ok (.getfield 37, 3) := by decide +kernel
theorem d_RR_kindOf_19 : decode y_RR_kindOf.2.1 19 = .ok (.iload_n 2, 1) := by decide +kernel
theorem d_RR_kindOf_20 : decode y_RR_kindOf.2.1 20 = .ok (.baload, 1) := by decide +kernel
theorem d_RR_kindOf_21 : decode y_RR_kindOf.2.1 21 = .ok (.ifCond .eq 7, 3) := by decide +kernel
theorem d_RR_kindOf_28 : decode y_RR_kindOf.2.1 28 = .ok (.iconst 1, 1) := by decide +kernel
theorem d_RR_kindOf_24 : decode y_RR_kindOf.2.1 24 = .ok (.iconst 2, 1) := by decide +kernel
theorem d_RR_kindOf_25 : decode y_RR_kindOf.2.1 25 = .ok (.goto 4, 3) := by decide +kernel
theorem d_RR_kindOf_29 : decode y_RR_kindOf.2.1 29 = .ok (.ireturn, 1) := by decide +kernel
theorem k_RR_kindOf {G : mG} {d : Nat} {a0 : Nat} {l1 : Int} {M : mM} {Q : Int → mM → Prop} (hO : mOk M) (hi_l1 : i32 l1)
    (h : mK M a0 = 4 ∧ Ci G y_RR_find d [vr a0, vi l1] M (fun x3 M2 => i32 x3 ∧ mOk M2 ∧ ((¬ (x3 = (-1)) → (mK M2 a0 = 4 ∧ mK M2 (mR M2 a0 18) = 31 ∧ ((0 : Int) ≤ x3 ∧ x3 < (mN M2 (mR M2 a0 18) : Int)))) ∧ ∀ v10 : Int, v10 = (if x3 = (-1) then 0 else (if mI M2 (mR M2 a0 18) (Int.toNat x3) = 0 then 1 else 2)) → Q v10 M2))) :
    Ci G y_RR_kindOf (d + 1) [vr a0, vi l1] M Q := by
  refine wm_open (y := y_RR_kindOf) rfl (Nat.le_of_ble_eq_true rfl) (L := [vr a0, vi l1, vd]) rfl ?_
  obtain ⟨h1, h⟩ := h
  refine wm_aload_n d_RR_kindOf_0 rfl rfl ?_
  refine wm_iload_n d_RR_kindOf_1 rfl rfl ?_
  refine cf_RR_79 rfl d_RR_kindOf_2 h1 (Nat.le_of_ble_eq_true rfl) (Ci.mono h (fun x3 M2 h => ?_))
  obtain ⟨h4, hOM2, h⟩ := h
  refine wm_istore_n d_RR_kindOf_5 rfl (by decide) (L' := [vr a0, vi l1, vi x3]) rfl ?_
  refine wm_iload_n d_RR_kindOf_6 rfl rfl ?_
  refine wm_iconst d_RR_kindOf_7 ?_
  obtain ⟨s11, h⟩ := h
  have hJ : ∀ v10 : Int, v10 = (if x3 = (-1) then 0 else (if mI M2 (mR M2 a0 18) (Int.toNat x3) = 0 then 1 else 2)) → mWm G y_RR_kindOf (d + 1) 29 [vd, vd, vd] [vi v10] M2 (fun r9 M9 => ∃ x9, r9 = some (vi x9) ∧ Q x9 M9) := by
    intro v10 e12
    have h := h v10 e12
    have h13 : i32 v10 := by rw [e12]; (repeat' split) <;> first | exact ⟨by decide, by decide⟩ | exact ⟨by decide, by decide⟩ | exact ⟨by decide, by decide⟩
    refine wm_ireturn d_RR_kindOf_29 rfl rfl ?_
    exact ⟨_, rfl, h⟩
  clear h
  have s14 := s11
  refine wm_icmp_ne (tgt := 15) d_RR_kindOf_8 rfl h4 ⟨by decide, by decide⟩ (fun c5 => ?_) (fun c5 => ?_)
  · have s14 := s14 c5
    obtain ⟨h6, h7, h8⟩ := s14
    refine wm_aload_n d_RR_kindOf_15 rfl rfl ?_
    refine gf_RR_37 rfl d_RR_kindOf_16 h6 ?_
    refine wm_iload_n d_RR_kindOf_19 rfl rfl ?_
    refine wm_zald d_RR_kindOf_20 h7 h8 ?_
    refine wm_if_eq (tgt := 28) d_RR_kindOf_21 rfl (hOM2 _ _).1 (fun c9 => ?_) (fun c9 => ?_)
    · refine wm_iconst d_RR_kindOf_28 ?_
      refine wm_less (L' := [vd, vd, vd]) ⟨Or.inl rfl, Or.inl rfl, Or.inl rfl, trivial⟩ ?_
      exact hJ 1 (by rw [if_neg c5, if_pos c9])
    · refine wm_iconst d_RR_kindOf_24 ?_
      refine wm_goto (tgt := 29) d_RR_kindOf_25 rfl ?_
      refine wm_less (L' := [vd, vd, vd]) ⟨Or.inl rfl, Or.inl rfl, Or.inl rfl, trivial⟩ ?_
      exact hJ 2 (by rw [if_neg c5, if_neg c9])
  · replace c5 := Classical.not_not.mp c5
    refine wm_iconst d_RR_kindOf_11 ?_
    refine wm_goto (tgt := 29) d_RR_kindOf_12 rfl ?_
    refine wm_less (L' := [vd, vd, vd]) ⟨Or.inl rfl, Or.inl rfl, Or.inl rfl, trivial⟩ ?_
    exact hJ 0 (by rw [if_pos c5])
theorem d_RR_isTruth_0 : decode y_RR_isTruth.2.1 0 = .ok (.aload_n 0, 1) := by decide +kernel
theorem d_RR_isTruth_1 : decode y_RR_isTruth.2.1 1 = .ok (.getfield 24, 3) := by decide +kernel
theorem d_RR_isTruth_4 : decode y_RR_isTruth.2.1 4 = .ok (.iconst 0, 1) := by decide +kernel
theorem d_RR_isTruth_5 : decode y_RR_isTruth.2.1 5 = .ok (.baload, 1) := by decide +kernel
theorem d_RR_isTruth_6 : decode y_RR_isTruth.2.1 6 = .ok (.ireturn, 1) := by decide +kernel
theorem k_RR_isTruth {G : mG} {d : Nat} {a0 : Nat} {M : mM} {Q : Int → mM → Prop} (hO : mOk M)
    (h : mK M a0 = 4 ∧ mK M (mR M a0 13) = 31 ∧ ((0 : Int) ≤ 0 ∧ 0 < (mN M (mR M a0 13) : Int)) ∧ ((mI M (mR M a0 13) 0) = 0 ∨ (mI M (mR M a0 13) 0) = 1) ∧ Q (mI M (mR M a0 13) 0) M) :
    Ci G y_RR_isTruth d [vr a0] M Q := by
  refine wm_open (y := y_RR_isTruth) rfl (Nat.le_of_ble_eq_true rfl) (L := [vr a0]) rfl ?_
  obtain ⟨h1, h⟩ := h
  obtain ⟨h2, h⟩ := h
  obtain ⟨h3, h⟩ := h
  obtain ⟨h4, h⟩ := h
  refine wm_aload_n d_RR_isTruth_0 rfl rfl ?_
  refine gf_RR_24 rfl d_RR_isTruth_1 h1 ?_
  refine wm_iconst d_RR_isTruth_4 ?_
  refine wm_zald d_RR_isTruth_5 h2 h3 ?_
  refine wm_ireturn d_RR_isTruth_6 rfl (m_nb h4) ?_
  exact ⟨_, rfl, h⟩
theorem d_RR_readRule_0 : decode y_RR_readRule.2.1 0 = .ok (.aload_n 0, 1) := by decide +kernel
theorem d_RR_readRule_1 : decode y_RR_readRule.2.1 1 = .ok (.invokevirtual 83, 3) := by decide +kernel
theorem d_RR_readRule_4 : decode y_RR_readRule.2.1 4 = .ok (.istore_n 3, 1) := by decide +kernel
theorem d_RR_readRule_5 : decode y_RR_readRule.2.1 5 = .ok (.iconst 0, 1) := by decide +kernel
theorem d_RR_readRule_6 : decode y_RR_readRule.2.1 6 = .ok (.istore 4, 2) := by decide +kernel
theorem d_RR_readRule_8 : decode y_RR_readRule.2.1 8 = .ok (.aload_n 0, 1) := by decide +kernel
theorem d_RR_readRule_9 : decode y_RR_readRule.2.1 9 = .ok (.iconst 0, 1) := by decide +kernel
theorem d_RR_readRule_10 : decode y_RR_readRule.2.1 10 = .ok (.putfield 87, 3) := by decide +kernel
theorem d_RR_readRule_13 : decode y_RR_readRule.2.1 13 = .ok (.aload_n 0, 1) := by decide +kernel
theorem d_RR_readRule_14 : decode y_RR_readRule.2.1 14 = .ok (.iconst 0, 1) := by decide +kernel
theorem d_RR_readRule_15 : decode y_RR_readRule.2.1 15 = .ok (.putfield 90, 3) := by decide +kernel
theorem d_RR_readRule_18 : decode y_RR_readRule.2.1 18 = .ok (.aload_n 0, 1) := by decide +kernel
theorem d_RR_readRule_19 : decode y_RR_readRule.2.1 19 = .ok (.iconst 1, 1) := by decide +kernel
theorem d_RR_readRule_20 : decode y_RR_readRule.2.1 20 = .ok (.putfield 93, 3) := by decide +kernel
theorem d_RR_readRule_23 : decode y_RR_readRule.2.1 23 = .ok (.aload_n 0, 1) := by decide +kernel
theorem d_RR_readRule_24 : decode y_RR_readRule.2.1 24 = .ok (.getfield 40, 3) := by decide +kernel
theorem d_RR_readRule_27 : decode y_RR_readRule.2.1 27 = .ok (.getfield 97, 3) := by decide +kernel
theorem d_RR_readRule_30 : decode y_RR_readRule.2.1 30 = .ok (.aload_n 0, 1) := by decide +kernel
theorem d_RR_readRule_31 : decode y_RR_readRule.2.1 31 = .ok (.getfield 48, 3) := by decide +kernel
theorem d_RR_readRule_34 : decode y_RR_readRule.2.1 34 = .ok (.isub, 1) := by decide +kernel
theorem d_RR_readRule_35 : decode y_RR_readRule.2.1 35 = .ok (.istore 5, 2) := by decide +kernel
theorem d_RR_readRule_37 : decode y_RR_readRule.2.1 37 = .ok (.iload 5, 2) := by decide +kernel
theorem d_RR_readRule_39 : decode y_RR_readRule.2.1 39 = .ok (.ifCond .le 82, 3) := by decide +kernel
theorem d_RR_readRule_42 : decode y_RR_readRule.2.1 42 = .ok (.iload 4, 2) := by decide +kernel
theorem d_RR_readRule_44 : decode y_RR_readRule.2.1 44 = .ok (.ifCond .ne 77, 3) := by decide +kernel
theorem d_RR_readRule_47 : decode y_RR_readRule.2.1 47 = .ok (.aload_n 0, 1) := by decide +kernel
theorem d_RR_readRule_48 : decode y_RR_readRule.2.1 48 = .ok (.getfield 93, 3) := by decide +kernel
theorem d_RR_readRule_51 : decode y_RR_readRule.2.1 51 = .ok (.ifCond .eq 10, 3) := by decide +kernel
theorem d_RR_readRule_61 : decode y_RR_readRule.2.1 61 = .ok (.aload_n 0, 1) := by decide +kernel
theorem d_RR_readRule_62 : decode y_RR_readRule.2.1 62 = .ok (.iload_n 2, 1) := by decide +kernel
theorem d_RR_readRule_54 : decode y_RR_readRule.2.1 54 = .ok (.aload_n 0, 1) := by decide +kernel
theorem d_RR_readRule_121 : decode y_RR_readRule.2.1 121 = .ok (.iload 4, 2) := by decide +kernel
theorem d_RR_readRule_123 : decode y_RR_readRule.2.1 123 = .ok (.iconst 1, 1) := by decide +kernel
theorem d_RR_readRule_124 : decode y_RR_readRule.2.1 124 = .ok (.if_icmp .ne 30, 3) := by decide +kernel
theorem d_RR_readRule_127 : decode y_RR_readRule.2.1 127 = .ok (.iload_n 1, 1) := by decide +kernel
theorem d_RR_readRule_128 : decode y_RR_readRule.2.1 128 = .ok (.ifCond .eq 26, 3) := by decide +kernel
theorem d_RR_readRule_131 : decode y_RR_readRule.2.1 131 = .ok (.aload_n 0, 1) := by decide +kernel
theorem d_RR_readRule_132 : decode y_RR_readRule.2.1 132 = .ok (.invokevirtual 110, 3) := by decide +kernel
theorem d_RR_readRule_135 : decode y_RR_readRule.2.1 135 = .ok (.iload_n 1, 1) := by decide +kernel
theorem d_RR_readRule_136 : decode y_RR_readRule.2.1 136 = .ok (.iconst 2, 1) := by decide +kernel
theorem d_RR_readRule_137 : decode y_RR_readRule.2.1 137 = .ok (.if_icmp .ne 7, 3) := by decide +kernel
theorem d_RR_readRule_140 : decode y_RR_readRule.2.1 140 = .ok (.iconst 1, 1) := by decide +kernel
theorem d_RR_readRule_141 : decode y_RR_readRule.2.1 141 = .ok (.goto 4, 3) := by decide +kernel
theorem d_RR_readRule_144 : decode y_RR_readRule.2.1 144 = .ok (.iconst 0, 1) := by decide +kernel
theorem d_RR_readRule_145 : decode y_RR_readRule.2.1 145 = .ok (.if_icmp .eq 9, 3) := by decide +kernel
theorem d_RR_readRule_148 : decode y_RR_readRule.2.1 148 = .ok (.aload_n 0, 1) := by decide +kernel
theorem d_RR_readRule_149 : decode y_RR_readRule.2.1 149 = .ok (.iconst 3, 1) := by decide +kernel
theorem d_RR_readRule_150 : decode y_RR_readRule.2.1 150 = .ok (.iload_n 3, 1) := by decide +kernel
theorem d_RR_readRule_151 : decode y_RR_readRule.2.1 151 = .ok (.invokevirtual 114, 3) := by decide +kernel
theorem d_RR_readRule_63 : decode y_RR_readRule.2.1 63 = .ok (.invokevirtual 103, 3) := by decide +kernel
theorem d_RR_readRule_66 : decode y_RR_readRule.2.1 66 = .ok (.istore 4, 2) := by decide +kernel
theorem d_RR_readRule_55 : decode y_RR_readRule.2.1 55 = .ok (.invokevirtual 100, 3) := by decide +kernel
theorem d_RR_readRule_58 : decode y_RR_readRule.2.1 58 = .ok (.goto 8, 3) := by decide +kernel
theorem d_RR_readRule_68 : decode y_RR_readRule.2.1 68 = .ok (.aload_n 0, 1) := by decide +kernel
theorem d_RR_readRule_69 : decode y_RR_readRule.2.1 69 = .ok (.getfield 93, 3) := by decide +kernel
theorem d_RR_readRule_72 : decode y_RR_readRule.2.1 72 = .ok (.ifCond .ne 43, 3) := by decide +kernel
theorem d_RR_readRule_75 : decode y_RR_readRule.2.1 75 = .ok (.aload_n 0, 1) := by decide +kernel
theorem d_RR_readRule_76 : decode y_RR_readRule.2.1 76 = .ok (.getfield 87, 3) := by decide +kernel
theorem d_RR_readRule_79 : decode y_RR_readRule.2.1 79 = .ok (.ifCond .le 36, 3) := by decide +kernel
theorem d_RR_readRule_82 : decode y_RR_readRule.2.1 82 = .ok (.aload_n 0, 1) := by decide +kernel
theorem d_RR_readRule_83 : decode y_RR_readRule.2.1 83 = .ok (.getfield 11, 3) := by decide +kernel
theorem d_RR_readRule_86 : decode y_RR_readRule.2.1 86 = .ok (.aload_n 0, 1) := by decide +kernel
theorem d_RR_readRule_87 : decode y_RR_readRule.2.1 87 = .ok (.getfield 87, 3) := by decide +kernel
theorem d_RR_readRule_90 : decode y_RR_readRule.2.1 90 = .ok (.iconst 1, 1) := by decide +kernel
theorem d_RR_readRule_91 : decode y_RR_readRule.2.1 91 = .ok (.isub, 1) := by decide +kernel
theorem d_RR_readRule_92 : decode y_RR_readRule.2.1 92 = .ok (.iaload, 1) := by decide +kernel
theorem d_RR_readRule_93 : decode y_RR_readRule.2.1 93 = .ok (.bipush 40, 2) := by decide +kernel
theorem d_RR_readRule_95 : decode y_RR_readRule.2.1 95 = .ok (.if_icmp .ne 20, 3) := by decide +kernel
theorem d_RR_readRule_98 : decode y_RR_readRule.2.1 98 = .ok (.aload_n 0, 1) := by decide +kernel
theorem d_RR_readRule_99 : decode y_RR_readRule.2.1 99 = .ok (.dup, 1) := by decide +kernel
theorem d_RR_readRule_100 : decode y_RR_readRule.2.1 100 = .ok (.getfield 87, 3) := by decide +kernel
theorem d_RR_readRule_103 : decode y_RR_readRule.2.1 103 = .ok (.iconst 1, 1) := by decide +kernel
theorem d_RR_readRule_104 : decode y_RR_readRule.2.1 104 = .ok (.isub, 1) := by decide +kernel
theorem d_RR_readRule_105 : decode y_RR_readRule.2.1 105 = .ok (.putfield 87, 3) := by decide +kernel
theorem d_RR_readRule_108 : decode y_RR_readRule.2.1 108 = .ok (.aload_n 0, 1) := by decide +kernel
theorem d_RR_readRule_115 : decode y_RR_readRule.2.1 115 = .ok (.iinc 5 (-1), 3) := by decide +kernel
theorem d_RR_readRule_118 : decode y_RR_readRule.2.1 118 = .ok (.goto (-81), 3) := by decide +kernel
theorem d_RR_readRule_109 : decode y_RR_readRule.2.1 109 = .ok (.invokevirtual 107, 3) := by decide +kernel
theorem d_RR_readRule_112 : decode y_RR_readRule.2.1 112 = .ok (.goto (-44), 3) := by decide +kernel
theorem d_RR_readRule_154 : decode y_RR_readRule.2.1 154 = .ok (.iload 4, 2) := by decide +kernel
theorem d_RR_readRule_156 : decode y_RR_readRule.2.1 156 = .ok (.iconst 1, 1) := by decide +kernel
theorem d_RR_readRule_157 : decode y_RR_readRule.2.1 157 = .ok (.if_icmp .ne 7, 3) := by decide +kernel
theorem d_RR_readRule_160 : decode y_RR_readRule.2.1 160 = .ok (.iconst 1, 1) := by decide +kernel
theorem d_RR_readRule_161 : decode y_RR_readRule.2.1 161 = .ok (.goto 4, 3) := by decide +kernel
theorem d_RR_readRule_164 : decode y_RR_readRule.2.1 164 = .ok (.iconst 0, 1) := by decide +kernel
theorem d_RR_readRule_165 : decode y_RR_readRule.2.1 165 = .ok (.ireturn, 1) := by decide +kernel
def h_RR_readRule_37 (G : mG) (d : Nat) (a0 : Nat) (l1 : Int) (l2 : Int) (l3 : Int) (l4 : Int) (l5 : Int) (M : mM) (Q : Int → mM → Prop) : Prop := mWm G y_RR_readRule (d + 1) 37 [vr a0, vi l1, vi l2, vi l3, vi l4, vi l5] [] M (fun r9 M9 => ∃ x9, r9 = some (vi x9) ∧ Q x9 M9)
def h_RR_readRule_68 (G : mG) (d : Nat) (a0 : Nat) (l1 : Int) (l2 : Int) (l3 : Int) (l4 : Int) (l5 : Int) (M : mM) (Q : Int → mM → Prop) : Prop := mWm G y_RR_readRule (d + 1) 68 [vr a0, vi l1, vi l2, vi l3, vi l4, vi l5] [] M (fun r9 M9 => ∃ x9, r9 = some (vi x9) ∧ Q x9 M9)
def h_RR_readRule_154 (G : mG) (d : Nat) (l4 : Int) (M : mM) (Q : Int → mM → Prop) : Prop := mWm G y_RR_readRule (d + 1) 154 [vd, vd, vd, vd, vi l4, vd] [] M (fun r9 M9 => ∃ x9, r9 = some (vi x9) ∧ Q x9 M9)
theorem k_RR_readRule {G : mG} {d : Nat} {a0 : Nat} {l1 : Int} {l2 : Int} {M : mM} {Q : Int → mM → Prop} (hO : mOk M) (hi_l1 : i32 l1) (hi_l2 : i32 l2)
    (h : mK M a0 = 4 ∧ Ci G y_RR_here d [vr a0] M (fun x3 M2 => i32 x3 ∧ mOk M2 ∧ (mK M2 a0 = 4 ∧ ∀ M6, M6 = mUI M2 a0 12 0 → ∀ M8, M8 = mUI M6 a0 14 0 → ∀ M10, M10 = mUI M8 a0 7 1 → mK M10 (mR M10 a0 0) = 2 ∧ h_RR_readRule_37 G d a0 l1 l2 x3 0 ((mI M10 (mR M10 a0 0) 2) - (mI M10 a0 2)) M10 Q))) :
    Ci G y_RR_readRule (d + 1) [vr a0, vi l1, vi l2] M Q := by
  refine wm_open (y := y_RR_readRule) rfl (Nat.le_of_ble_eq_true rfl) (L := [vr a0, vi l1, vi l2, vd, vd, vd]) rfl ?_
  obtain ⟨h1, h⟩ := h
  refine wm_aload_n d_RR_readRule_0 rfl rfl ?_
  refine cf_RR_83 rfl d_RR_readRule_1 h1 (Nat.le_of_ble_eq_true rfl) (Ci.mono h (fun x3 M2 h => ?_))
  obtain ⟨h4, hOM2, h⟩ := h
  obtain ⟨h5, h⟩ := h
  obtain ⟨M6, e7⟩ : ∃ M6, M6 = mUI M2 a0 12 0 := ⟨_, rfl⟩
  replace h := h M6 e7
  obtain ⟨M8, e9⟩ : ∃ M8, M8 = mUI M6 a0 14 0 := ⟨_, rfl⟩
  replace h := h M8 e9
  obtain ⟨M10, e11⟩ : ∃ M10, M10 = mUI M8 a0 7 1 := ⟨_, rfl⟩
  replace h := h M10 e11
  obtain ⟨h12, h⟩ := h
  refine wm_istore_n d_RR_readRule_4 rfl (by decide) (L' := [vr a0, vi l1, vi l2, vi x3, vd, vd]) rfl ?_
  refine wm_iconst d_RR_readRule_5 ?_
  refine wm_istore d_RR_readRule_6 (by decide) (L' := [vr a0, vi l1, vi l2, vi x3, vi 0, vd]) rfl ?_
  refine wm_aload_n d_RR_readRule_8 rfl rfl ?_
  refine wm_iconst d_RR_readRule_9 ?_
  have hOM6 : mOk M6 := by rw [e7]; exact mOk_UI hOM2 ⟨by decide, by decide⟩
  refine pf_RR_87 rfl d_RR_readRule_10 h5 ⟨by decide, by decide⟩ e7 ?_
  refine wm_aload_n d_RR_readRule_13 rfl rfl ?_
  refine wm_iconst d_RR_readRule_14 ?_
  have hOM8 : mOk M8 := by rw [e9]; exact mOk_UI hOM6 ⟨by decide, by decide⟩
  refine pf_RR_90 rfl d_RR_readRule_15 (by rw [e7]; exact h5) ⟨by decide, by decide⟩ e9 ?_
  refine wm_aload_n d_RR_readRule_18 rfl rfl ?_
  refine wm_iconst d_RR_readRule_19 ?_
  have hOM10 : mOk M10 := by rw [e11]; exact mOk_UI hOM8 (m_b32 (by decide))
  refine pf_RR_93 rfl d_RR_readRule_20 (by rw [e9, e7]; exact h5) (by decide) e11 ?_
  refine wm_aload_n d_RR_readRule_23 rfl rfl ?_
  refine gf_RR_40 rfl d_RR_readRule_24 (by rw [e11, e9, e7]; exact h5) ?_
  refine gf_RR_97 rfl d_RR_readRule_27 h12 ?_
  refine wm_aload_n d_RR_readRule_30 rfl rfl ?_
  refine gf_RR_48 rfl d_RR_readRule_31 (by rw [e11, e9, e7]; exact h5) ?_
  refine wm_isub d_RR_readRule_34 ?_
  refine wm_istore d_RR_readRule_35 (by decide) (L' := [vr a0, vi l1, vi l2, vi x3, vi 0, vi ((mI M10 (mR M10 a0 0) 2) - (mI M10 a0 2))]) rfl ?_
  exact h
theorem k_RR_readRule_37 {G : mG} {d : Nat} {a0 : Nat} {l1 : Int} {l2 : Int} {l3 : Int} {l4 : Int} {l5 : Int} {M : mM} {Q : Int → mM → Prop} (hO : mOk M) (hi_l1 : i32 l1) (hi_l2 : i32 l2) (hi_l3 : i32 l3) (hi_l4 : i32 l4) (hi_l5 : i32 l5)
    (h : (((l5 ≤ 0) ∨ (¬ (l4 = 0))) → ((((¬ (l4 = 1)) ∨ (l1 = 0)) → (h_RR_readRule_154 G d l4 M Q)) ∧ (¬ ((¬ (l4 = 1)) ∨ (l1 = 0)) → (mK M a0 = 4 ∧ Ci G y_RR_isTruth d [vr a0] M (fun x26 M25 => i32 x26 ∧ mOk M25 ∧ (∀ v29 : Int, v29 = (if (l1 = 2) then 1 else 0) → ((x26 = v29) → (h_RR_readRule_154 G d l4 M25 Q)) ∧ (¬ (x26 = v29) → (mK M25 a0 = 4 ∧ Cv G y_RR_note d [vr a0, vi 3, vi l3] M25 (fun M37 => mOk M37 ∧ (h_RR_readRule_154 G d l4 M37 Q)))))))))) ∧ (¬ ((l5 ≤ 0) ∨ (¬ (l4 = 0))) → (mK M a0 = 4 ∧ ((mI M a0 7 = 0) → (Ci G y_RR_takeOperator d [vr a0, vi l2] M (fun x49 M48 => i32 x49 ∧ mOk M48 ∧ (h_RR_readRule_68 G d a0 l1 l2 l3 x49 l5 M48 Q)))) ∧ (¬ (mI M a0 7 = 0) → (Ci G y_RR_takeOperand d [vr a0] M (fun x52 M51 => i32 x52 ∧ mOk M51 ∧ (h_RR_readRule_68 G d a0 l1 l2 l3 x52 l5 M51 Q))))))) :
    h_RR_readRule_37 G d a0 l1 l2 l3 l4 l5 M Q := by
  unfold h_RR_readRule_37
  refine wm_iload d_RR_readRule_37 rfl ?_
  have hE0 : ((l5 ≤ 0) ∨ (¬ (l4 = 0))) → mWm G y_RR_readRule (d + 1) 121 [vr a0, vi l1, vi l2, vi l3, vi l4, vi l5] [] M (fun r9 M9 => ∃ x9, r9 = some (vi x9) ∧ Q x9 M9) := by
    intro q18
    have h := h.1 q18
    refine wm_iload d_RR_readRule_121 rfl ?_
    refine wm_iconst d_RR_readRule_123 ?_
    have hE0 : ((¬ (l4 = 1)) ∨ (l1 = 0)) → mWm G y_RR_readRule (d + 1) 154 [vr a0, vi l1, vi l2, vi l3, vi l4, vi l5] [] M (fun r9 M9 => ∃ x9, r9 = some (vi x9) ∧ Q x9 M9) := by
      intro q22
      have h := h.1 q22
      refine wm_less (L' := [vd, vd, vd, vd, vi l4, vd]) ⟨Or.inl rfl, Or.inl rfl, Or.inl rfl, Or.inl rfl, Or.inr rfl, Or.inl rfl, trivial⟩ ?_
      exact h
    have hE1 : ¬ ((¬ (l4 = 1)) ∨ (l1 = 0)) → mWm G y_RR_readRule (d + 1) 131 [vr a0, vi l1, vi l2, vi l3, vi l4, vi l5] [] M (fun r9 M9 => ∃ x9, r9 = some (vi x9) ∧ Q x9 M9) := by
      intro q23
      have h := h.2 q23
      obtain ⟨h24, h⟩ := h
      refine wm_aload_n d_RR_readRule_131 rfl rfl ?_
      refine cf_RR_110 rfl d_RR_readRule_132 h24 (Nat.le_of_ble_eq_true rfl) (Ci.mono h (fun x26 M25 h => ?_))
      obtain ⟨h27, hOM25, h⟩ := h
      refine wm_iload_n d_RR_readRule_135 rfl rfl ?_
      refine wm_iconst d_RR_readRule_136 ?_
      have hJ : ∀ v29 : Int, v29 = (if (l1 = 2) then 1 else 0) → mWm G y_RR_readRule (d + 1) 145 [vr a0, vd, vd, vi l3, vi l4, vd] [vi v29, vi x26] M25 (fun r9 M9 => ∃ x9, r9 = some (vi x9) ∧ Q x9 M9) := by
        intro v29 e31
        have h := h v29 e31
        have h32 : i32 v29 := by rw [e31]; (repeat' split) <;> first | exact ⟨by decide, by decide⟩ | exact ⟨by decide, by decide⟩
        have h33 : (v29 = 0 ∨ v29 = 1) := by rw [e31]; (repeat' split) <;> decide
        refine wm_icmp_eq (tgt := 154) d_RR_readRule_145 rfl h27 h32 (fun c35 => ?_) (fun c35 => ?_)
        · replace h := h.1 c35
          refine wm_less (L' := [vd, vd, vd, vd, vi l4, vd]) ⟨Or.inl rfl, Or.inl rfl, Or.inl rfl, Or.inl rfl, Or.inr rfl, Or.inl rfl, trivial⟩ ?_
          exact h
        · replace h := h.2 c35
          obtain ⟨h36, h⟩ := h
          refine wm_aload_n d_RR_readRule_148 rfl rfl ?_
          refine wm_iconst d_RR_readRule_149 ?_
          refine wm_iload_n d_RR_readRule_150 rfl rfl ?_
          refine cf_RR_114 rfl d_RR_readRule_151 h36 (Nat.le_of_ble_eq_true rfl) (Cv.mono h (fun M37 h => ?_))
          obtain ⟨hOM37, h⟩ := h
          refine wm_less (L' := [vd, vd, vd, vd, vi l4, vd]) ⟨Or.inl rfl, Or.inl rfl, Or.inl rfl, Or.inl rfl, Or.inr rfl, Or.inl rfl, trivial⟩ ?_
          exact h
      clear h
      refine wm_icmp_ne (tgt := 144) d_RR_readRule_137 rfl hi_l1 ⟨by decide, by decide⟩ (fun c28 => ?_) (fun c28 => ?_)
      · refine wm_iconst d_RR_readRule_144 ?_
        refine wm_less (L' := [vr a0, vd, vd, vi l3, vi l4, vd]) ⟨Or.inr rfl, Or.inl rfl, Or.inl rfl, Or.inr rfl, Or.inr rfl, Or.inl rfl, trivial⟩ ?_
        exact hJ 0 (if_neg c28).symm
      · replace c28 := Classical.not_not.mp c28
        refine wm_iconst d_RR_readRule_140 ?_
        refine wm_goto (tgt := 145) d_RR_readRule_141 rfl ?_
        refine wm_less (L' := [vr a0, vd, vd, vi l3, vi l4, vd]) ⟨Or.inr rfl, Or.inl rfl, Or.inl rfl, Or.inr rfl, Or.inr rfl, Or.inl rfl, trivial⟩ ?_
        exact hJ 1 (if_pos c28).symm
    clear h
    refine wm_icmp_ne (tgt := 154) d_RR_readRule_124 rfl hi_l4 ⟨by decide, by decide⟩ (fun c20 => ?_) (fun c20 => ?_)
    · exact hE0 (Or.inl c20)
    · replace c20 := Classical.not_not.mp c20
      refine wm_iload_n d_RR_readRule_127 rfl rfl ?_
      refine wm_if_eq (tgt := 154) d_RR_readRule_128 rfl hi_l1 (fun c19 => ?_) (fun c19 => ?_)
      · exact hE0 (Or.inr c19)
      · exact hE1 (fun z41 => Or.elim z41 (fun w => w c20) c19)
  have hE1 : ¬ ((l5 ≤ 0) ∨ (¬ (l4 = 0))) → mWm G y_RR_readRule (d + 1) 47 [vr a0, vi l1, vi l2, vi l3, vi l4, vi l5] [] M (fun r9 M9 => ∃ x9, r9 = some (vi x9) ∧ Q x9 M9) := by
    intro q43
    have h := h.2 q43
    obtain ⟨h44, h⟩ := h
    refine wm_aload_n d_RR_readRule_47 rfl rfl ?_
    refine gf_RR_93 rfl d_RR_readRule_48 h44 ?_
    refine wm_if_eq (tgt := 61) d_RR_readRule_51 rfl (hO _ _).1 (fun c47 => ?_) (fun c47 => ?_)
    · replace h := h.1 c47
      refine wm_aload_n d_RR_readRule_61 rfl rfl ?_
      refine wm_iload_n d_RR_readRule_62 rfl rfl ?_
      refine cf_RR_103 rfl d_RR_readRule_63 h44 (Nat.le_of_ble_eq_true rfl) (Ci.mono h (fun x49 M48 h => ?_))
      obtain ⟨h50, hOM48, h⟩ := h
      refine wm_istore d_RR_readRule_66 (by decide) (L' := [vr a0, vi l1, vi l2, vi l3, vi x49, vi l5]) rfl ?_
      exact h
    · replace h := h.2 c47
      refine wm_aload_n d_RR_readRule_54 rfl rfl ?_
      refine cf_RR_100 rfl d_RR_readRule_55 h44 (Nat.le_of_ble_eq_true rfl) (Ci.mono h (fun x52 M51 h => ?_))
      obtain ⟨h53, hOM51, h⟩ := h
      refine wm_goto (tgt := 66) d_RR_readRule_58 rfl ?_
      refine wm_istore d_RR_readRule_66 (by decide) (L' := [vr a0, vi l1, vi l2, vi l3, vi x52, vi l5]) rfl ?_
      exact h
  clear h
  refine wm_if_le (tgt := 121) d_RR_readRule_39 rfl hi_l5 (fun c16 => ?_) (fun c16 => ?_)
  · exact hE0 (Or.inl c16)
  · refine wm_iload d_RR_readRule_42 rfl ?_
    refine wm_if_ne (tgt := 121) d_RR_readRule_44 rfl hi_l4 (fun c15 => ?_) (fun c15 => ?_)
    · exact hE0 (Or.inr c15)
    · replace c15 := Classical.not_not.mp c15
      exact hE1 (fun z54 => Or.elim z54 c16 (fun z55 => z55 c15))
theorem k_RR_readRule_68 {G : mG} {d : Nat} {a0 : Nat} {l1 : Int} {l2 : Int} {l3 : Int} {l4 : Int} {l5 : Int} {M : mM} {Q : Int → mM → Prop} (hO : mOk M) (hi_l1 : i32 l1) (hi_l2 : i32 l2) (hi_l3 : i32 l3) (hi_l4 : i32 l4) (hi_l5 : i32 l5)
    (h : mK M a0 = 4 ∧ ((mI M a0 7 = 0) → (¬ (mI M a0 12 ≤ 0) → (mK M (mR M a0 8) = 30 ∧ ((0 : Int) ≤ (mI M a0 12) - 1 ∧ (mI M a0 12) - 1 < (mN M (mR M a0 8) : Int))))) ∧ (((¬ (mI M a0 7 = 0)) ∨ ((mI M a0 12 ≤ 0) ∨ (¬ (mI M (mR M a0 8) (Int.toNat ((mI M a0 12) - 1)) = 40)))) → (h_RR_readRule_37 G d a0 l1 l2 l3 l4 (l5 + (-1)) M Q)) ∧ (¬ ((¬ (mI M a0 7 = 0)) ∨ ((mI M a0 12 ≤ 0) ∨ (¬ (mI M (mR M a0 8) (Int.toNat ((mI M a0 12) - 1)) = 40)))) → (i32 ((mI M a0 12) - 1) ∧ ∀ M66, M66 = mUI M a0 12 ((mI M a0 12) - 1) → Cv G y_RR_group d [vr a0] M66 (fun M68 => mOk M68 ∧ (h_RR_readRule_68 G d a0 l1 l2 l3 l4 l5 M68 Q))))) :
    h_RR_readRule_68 G d a0 l1 l2 l3 l4 l5 M Q := by
  unfold h_RR_readRule_68
  obtain ⟨h56, h⟩ := h
  refine wm_aload_n d_RR_readRule_68 rfl rfl ?_
  refine gf_RR_93 rfl d_RR_readRule_69 h56 ?_
  obtain ⟨s62, h⟩ := h
  have hE0 : ((¬ (mI M a0 7 = 0)) ∨ ((mI M a0 12 ≤ 0) ∨ (¬ (mI M (mR M a0 8) (Int.toNat ((mI M a0 12) - 1)) = 40)))) → mWm G y_RR_readRule (d + 1) 115 [vr a0, vi l1, vi l2, vi l3, vi l4, vi l5] [] M (fun r9 M9 => ∃ x9, r9 = some (vi x9) ∧ Q x9 M9) := by
    intro q63
    have h := h.1 q63
    refine wm_iinc d_RR_readRule_115 (by decide) rfl (L' := [vr a0, vi l1, vi l2, vi l3, vi l4, vi (l5 + (-1))]) rfl ?_
    refine wm_goto (tgt := 37) d_RR_readRule_118 rfl ?_
    exact h
  have hE1 : ¬ ((¬ (mI M a0 7 = 0)) ∨ ((mI M a0 12 ≤ 0) ∨ (¬ (mI M (mR M a0 8) (Int.toNat ((mI M a0 12) - 1)) = 40)))) → mWm G y_RR_readRule (d + 1) 98 [vr a0, vi l1, vi l2, vi l3, vi l4, vi l5] [] M (fun r9 M9 => ∃ x9, r9 = some (vi x9) ∧ Q x9 M9) := by
    intro q64
    have h := h.2 q64
    obtain ⟨h65, h⟩ := h
    obtain ⟨M66, e67⟩ : ∃ M66, M66 = mUI M a0 12 ((mI M a0 12) - 1) := ⟨_, rfl⟩
    replace h := h M66 e67
    refine wm_aload_n d_RR_readRule_98 rfl rfl ?_
    refine wm_dup d_RR_readRule_99 rfl ?_
    refine gf_RR_87 rfl d_RR_readRule_100 h56 ?_
    refine wm_iconst d_RR_readRule_103 ?_
    refine wm_isub d_RR_readRule_104 ?_
    have hOM66 : mOk M66 := by rw [e67]; exact mOk_UI hO h65
    refine pf_RR_87 rfl d_RR_readRule_105 h56 h65 e67 ?_
    refine wm_aload_n d_RR_readRule_108 rfl rfl ?_
    refine cf_RR_107 rfl d_RR_readRule_109 (by rw [e67]; exact h56) (Nat.le_of_ble_eq_true rfl) (Cv.mono h (fun M68 h => ?_))
    obtain ⟨hOM68, h⟩ := h
    refine wm_goto (tgt := 68) d_RR_readRule_112 rfl ?_
    exact h
  clear h
  have s71 := s62
  refine wm_if_ne (tgt := 115) d_RR_readRule_72 rfl (hO _ _).1 (fun c61 => ?_) (fun c61 => ?_)
  · exact hE0 (Or.inl c61)
  · replace c61 := Classical.not_not.mp c61
    have s71 := s71 c61
    have s72 := s71
    refine wm_aload_n d_RR_readRule_75 rfl rfl ?_
    refine gf_RR_87 rfl d_RR_readRule_76 h56 ?_
    refine wm_if_le (tgt := 115) d_RR_readRule_79 rfl (hO _ _).1 (fun c60 => ?_) (fun c60 => ?_)
    · exact hE0 (Or.inr (Or.inl c60))
    · have s72 := s72 c60
      obtain ⟨h57, h58⟩ := s72
      refine wm_aload_n d_RR_readRule_82 rfl rfl ?_
      refine gf_RR_11 rfl d_RR_readRule_83 h56 ?_
      refine wm_aload_n d_RR_readRule_86 rfl rfl ?_
      refine gf_RR_87 rfl d_RR_readRule_87 h56 ?_
      refine wm_iconst d_RR_readRule_90 ?_
      refine wm_isub d_RR_readRule_91 ?_
      refine wm_iald d_RR_readRule_92 h57 h58 ?_
      refine wm_bipush d_RR_readRule_93 (by decide) ?_
      refine wm_icmp_ne (tgt := 115) d_RR_readRule_95 rfl (hO _ _).1 ⟨by decide, by decide⟩ (fun c59 => ?_) (fun c59 => ?_)
      · exact hE0 (Or.inr (Or.inr c59))
      · replace c59 := Classical.not_not.mp c59
        exact hE1 (fun z73 => Or.elim z73 (fun w => w c61) (fun z74 => Or.elim z74 c60 (fun z75 => z75 c59)))
theorem k_RR_readRule_154 {G : mG} {d : Nat} {l4 : Int} {M : mM} {Q : Int → mM → Prop} (hO : mOk M) (hi_l4 : i32 l4)
    (h : ∀ v77 : Int, v77 = (if (l4 = 1) then 1 else 0) → Q v77 M) :
    h_RR_readRule_154 G d l4 M Q := by
  unfold h_RR_readRule_154
  refine wm_iload d_RR_readRule_154 rfl ?_
  refine wm_iconst d_RR_readRule_156 ?_
  have hJ : ∀ v77 : Int, v77 = (if (l4 = 1) then 1 else 0) → mWm G y_RR_readRule (d + 1) 165 [vd, vd, vd, vd, vd, vd] [vi v77] M (fun r9 M9 => ∃ x9, r9 = some (vi x9) ∧ Q x9 M9) := by
    intro v77 e79
    have h := h v77 e79
    have h80 : i32 v77 := by rw [e79]; (repeat' split) <;> first | exact ⟨by decide, by decide⟩ | exact ⟨by decide, by decide⟩
    have h81 : (v77 = 0 ∨ v77 = 1) := by rw [e79]; (repeat' split) <;> decide
    refine wm_ireturn d_RR_readRule_165 rfl (m_nb h81) ?_
    exact ⟨_, rfl, h⟩
  clear h
  refine wm_icmp_ne (tgt := 164) d_RR_readRule_157 rfl hi_l4 ⟨by decide, by decide⟩ (fun c76 => ?_) (fun c76 => ?_)
  · refine wm_iconst d_RR_readRule_164 ?_
    refine wm_less (L' := [vd, vd, vd, vd, vd, vd]) ⟨Or.inl rfl, Or.inl rfl, Or.inl rfl, Or.inl rfl, Or.inl rfl, Or.inl rfl, trivial⟩ ?_
    exact hJ 0 (if_neg c76).symm
  · replace c76 := Classical.not_not.mp c76
    refine wm_iconst d_RR_readRule_160 ?_
    refine wm_goto (tgt := 165) d_RR_readRule_161 rfl ?_
    refine wm_less (L' := [vd, vd, vd, vd, vd, vd]) ⟨Or.inl rfl, Or.inl rfl, Or.inl rfl, Or.inl rfl, Or.inl rfl, Or.inl rfl, trivial⟩ ?_
    exact hJ 1 (if_pos c76).symm
theorem d_RR_takeOperand_0 : decode y_RR_takeOperand.2.1 0 = .ok (.aload_n 0, 1) := by decide +kernel
theorem d_RR_takeOperand_1 : decode y_RR_takeOperand.2.1 1 = .ok (.getfield 40, 3) := by decide +kernel
theorem d_RR_takeOperand_4 : decode y_RR_takeOperand.2.1 4 = .ok (.getfield 69, 3) := by decide +kernel
theorem d_RR_takeOperand_7 : decode y_RR_takeOperand.2.1 7 = .ok (.aload_n 0, 1) := by decide +kernel
theorem d_RR_takeOperand_8 : decode y_RR_takeOperand.2.1 8 = .ok (.getfield 48, 3) := by decide +kernel
theorem d_RR_takeOperand_11 : decode y_RR_takeOperand.2.1 11 = .ok (.iaload, 1) := by decide +kernel
theorem d_RR_takeOperand_12 : decode y_RR_takeOperand.2.1 12 = .ok (.istore_n 1, 1) := by decide +kernel
theorem d_RR_takeOperand_13 : decode y_RR_takeOperand.2.1 13 = .ok (.aload_n 0, 1) := by decide +kernel
theorem d_RR_takeOperand_14 : decode y_RR_takeOperand.2.1 14 = .ok (.invokevirtual 83, 3) := by decide +kernel
theorem d_RR_takeOperand_17 : decode y_RR_takeOperand.2.1 17 = .ok (.istore_n 2, 1) := by decide +kernel
theorem d_RR_takeOperand_18 : decode y_RR_takeOperand.2.1 18 = .ok (.iload_n 1, 1) := by decide +kernel
theorem d_RR_takeOperand_19 : decode y_RR_takeOperand.2.1 19 = .ok (.lookupswitch 259 #[(2, 118), (3, 81), (13, 100), (14, 100), (15, 221), (16, 221), (26, 194), (32, 202), (37, 186)], 81) := by decide +kernel
theorem z_RR_takeOperand_19_s : lkS #[(2, 118), (3, 81), (13, 100), (14, 100), (15, 221), (16, 221), (26, 194), (32, 202), (37, 186)] := by unfold lkS; decide
theorem d_RR_takeOperand_137 : decode y_RR_takeOperand.2.1 137 = .ok (.aload_n 0, 1) := by decide +kernel
theorem d_RR_takeOperand_138 : decode y_RR_takeOperand.2.1 138 = .ok (.aload_n 0, 1) := by decide +kernel
theorem d_RR_takeOperand_139 : decode y_RR_takeOperand.2.1 139 = .ok (.getfield 48, 3) := by decide +kernel
theorem d_RR_takeOperand_142 : decode y_RR_takeOperand.2.1 142 = .ok (.invokevirtual 79, 3) := by decide +kernel
theorem d_RR_takeOperand_145 : decode y_RR_takeOperand.2.1 145 = .ok (.istore_n 3, 1) := by decide +kernel
theorem d_RR_takeOperand_146 : decode y_RR_takeOperand.2.1 146 = .ok (.iload_n 3, 1) := by decide +kernel
theorem d_RR_takeOperand_147 : decode y_RR_takeOperand.2.1 147 = .ok (.iconst (-1), 1) := by decide +kernel
theorem d_RR_takeOperand_148 : decode y_RR_takeOperand.2.1 148 = .ok (.if_icmp .eq 20, 3) := by decide +kernel
theorem d_RR_takeOperand_151 : decode y_RR_takeOperand.2.1 151 = .ok (.aload_n 0, 1) := by decide +kernel
theorem d_RR_takeOperand_152 : decode y_RR_takeOperand.2.1 152 = .ok (.getfield 122, 3) := by decide +kernel
theorem d_RR_takeOperand_155 : decode y_RR_takeOperand.2.1 155 = .ok (.ifCond .eq 27, 3) := by decide +kernel
theorem d_RR_takeOperand_158 : decode y_RR_takeOperand.2.1 158 = .ok (.aload_n 0, 1) := by decide +kernel
theorem d_RR_takeOperand_159 : decode y_RR_takeOperand.2.1 159 = .ok (.getfield 31, 3) := by decide +kernel
theorem d_RR_takeOperand_162 : decode y_RR_takeOperand.2.1 162 = .ok (.iload_n 3, 1) := by decide +kernel
theorem d_RR_takeOperand_163 : decode y_RR_takeOperand.2.1 163 = .ok (.iaload, 1) := by decide +kernel
theorem d_RR_takeOperand_164 : decode y_RR_takeOperand.2.1 164 = .ok (.iconst 4, 1) := by decide +kernel
theorem d_RR_takeOperand_165 : decode y_RR_takeOperand.2.1 165 = .ok (.if_icmp .eq 17, 3) := by decide +kernel
theorem d_RR_takeOperand_168 : decode y_RR_takeOperand.2.1 168 = .ok (.aload_n 0, 1) := by decide +kernel
theorem d_RR_takeOperand_169 : decode y_RR_takeOperand.2.1 169 = .ok (.iconst 2, 1) := by decide +kernel
theorem d_RR_takeOperand_170 : decode y_RR_takeOperand.2.1 170 = .ok (.iload_n 2, 1) := by decide +kernel
theorem d_RR_takeOperand_171 : decode y_RR_takeOperand.2.1 171 = .ok (.invokevirtual 114, 3) := by decide +kernel
theorem d_RR_takeOperand_174 : decode y_RR_takeOperand.2.1 174 = .ok (.aload_n 0, 1) := by decide +kernel
theorem d_RR_takeOperand_175 : decode y_RR_takeOperand.2.1 175 = .ok (.iconst 3, 1) := by decide +kernel
theorem d_RR_takeOperand_176 : decode y_RR_takeOperand.2.1 176 = .ok (.iconst 0, 1) := by decide +kernel
theorem d_RR_takeOperand_177 : decode y_RR_takeOperand.2.1 177 = .ok (.iconst 0, 1) := by decide +kernel
theorem d_RR_takeOperand_178 : decode y_RR_takeOperand.2.1 178 = .ok (.invokevirtual 118, 3) := by decide +kernel
theorem d_RR_takeOperand_181 : decode y_RR_takeOperand.2.1 181 = .ok (.ireturn, 1) := by decide +kernel
theorem d_RR_takeOperand_182 : decode y_RR_takeOperand.2.1 182 = .ok (.aload_n 0, 1) := by decide +kernel
theorem d_RR_takeOperand_183 : decode y_RR_takeOperand.2.1 183 = .ok (.aload_n 0, 1) := by decide +kernel
theorem d_RR_takeOperand_184 : decode y_RR_takeOperand.2.1 184 = .ok (.getfield 31, 3) := by decide +kernel
theorem d_RR_takeOperand_187 : decode y_RR_takeOperand.2.1 187 = .ok (.iload_n 3, 1) := by decide +kernel
theorem d_RR_takeOperand_188 : decode y_RR_takeOperand.2.1 188 = .ok (.iaload, 1) := by decide +kernel
theorem d_RR_takeOperand_189 : decode y_RR_takeOperand.2.1 189 = .ok (.aload_n 0, 1) := by decide +kernel
theorem d_RR_takeOperand_190 : decode y_RR_takeOperand.2.1 190 = .ok (.getfield 34, 3) := by decide +kernel
theorem d_RR_takeOperand_193 : decode y_RR_takeOperand.2.1 193 = .ok (.iload_n 3, 1) := by decide +kernel
theorem d_RR_takeOperand_194 : decode y_RR_takeOperand.2.1 194 = .ok (.iaload, 1) := by decide +kernel
theorem d_RR_takeOperand_195 : decode y_RR_takeOperand.2.1 195 = .ok (.aload_n 0, 1) := by decide +kernel
theorem d_RR_takeOperand_196 : decode y_RR_takeOperand.2.1 196 = .ok (.getfield 37, 3) := by decide +kernel
theorem d_RR_takeOperand_199 : decode y_RR_takeOperand.2.1 199 = .ok (.iload_n 3, 1) := by decide +kernel
theorem d_RR_takeOperand_200 : decode y_RR_takeOperand.2.1 200 = .ok (.baload, 1) := by decide +kernel
theorem d_RR_takeOperand_201 : decode y_RR_takeOperand.2.1 201 = .ok (.invokevirtual 118, 3) := by decide +kernel
theorem d_RR_takeOperand_204 : decode y_RR_takeOperand.2.1 204 = .ok (.ireturn, 1) := by decide +kernel
theorem d_RR_takeOperand_100 : decode y_RR_takeOperand.2.1 100 = .ok (.aload_n 0, 1) := by decide +kernel
theorem d_RR_takeOperand_101 : decode y_RR_takeOperand.2.1 101 = .ok (.iconst 3, 1) := by decide +kernel
theorem d_RR_takeOperand_102 : decode y_RR_takeOperand.2.1 102 = .ok (.aload_n 0, 1) := by decide +kernel
theorem d_RR_takeOperand_103 : decode y_RR_takeOperand.2.1 103 = .ok (.getfield 40, 3) := by decide +kernel
theorem d_RR_takeOperand_106 : decode y_RR_takeOperand.2.1 106 = .ok (.getfield 72, 3) := by decide +kernel
theorem d_RR_takeOperand_109 : decode y_RR_takeOperand.2.1 109 = .ok (.aload_n 0, 1) := by decide +kernel
theorem d_RR_takeOperand_110 : decode y_RR_takeOperand.2.1 110 = .ok (.getfield 48, 3) := by decide +kernel
theorem d_RR_takeOperand_113 : decode y_RR_takeOperand.2.1 113 = .ok (.iaload, 1) := by decide +kernel
theorem d_RR_takeOperand_114 : decode y_RR_takeOperand.2.1 114 = .ok (.iconst 0, 1) := by decide +kernel
theorem d_RR_takeOperand_115 : decode y_RR_takeOperand.2.1 115 = .ok (.invokevirtual 118, 3) := by decide +kernel
theorem d_RR_takeOperand_118 : decode y_RR_takeOperand.2.1 118 = .ok (.ireturn, 1) := by decide +kernel
theorem d_RR_takeOperand_119 : decode y_RR_takeOperand.2.1 119 = .ok (.aload_n 0, 1) := by decide +kernel
theorem d_RR_takeOperand_120 : decode y_RR_takeOperand.2.1 120 = .ok (.iconst 3, 1) := by decide +kernel
theorem d_RR_takeOperand_121 : decode y_RR_takeOperand.2.1 121 = .ok (.iload_n 1, 1) := by decide +kernel
theorem d_RR_takeOperand_122 : decode y_RR_takeOperand.2.1 122 = .ok (.bipush 13, 2) := by decide +kernel
theorem d_RR_takeOperand_124 : decode y_RR_takeOperand.2.1 124 = .ok (.if_icmp .ne 7, 3) := by decide +kernel
theorem d_RR_takeOperand_127 : decode y_RR_takeOperand.2.1 127 = .ok (.iconst 1, 1) := by decide +kernel
theorem d_RR_takeOperand_128 : decode y_RR_takeOperand.2.1 128 = .ok (.goto 4, 3) := by decide +kernel
theorem d_RR_takeOperand_131 : decode y_RR_takeOperand.2.1 131 = .ok (.iconst 0, 1) := by decide +kernel
theorem d_RR_takeOperand_132 : decode y_RR_takeOperand.2.1 132 = .ok (.iconst 1, 1) := by decide +kernel
theorem d_RR_takeOperand_133 : decode y_RR_takeOperand.2.1 133 = .ok (.invokevirtual 118, 3) := by decide +kernel
theorem d_RR_takeOperand_136 : decode y_RR_takeOperand.2.1 136 = .ok (.ireturn, 1) := by decide +kernel
theorem d_RR_takeOperand_240 : decode y_RR_takeOperand.2.1 240 = .ok (.aload_n 0, 1) := by decide +kernel
theorem d_RR_takeOperand_241 : decode y_RR_takeOperand.2.1 241 = .ok (.dup, 1) := by decide +kernel
theorem d_RR_takeOperand_242 : decode y_RR_takeOperand.2.1 242 = .ok (.getfield 48, 3) := by decide +kernel
theorem d_RR_takeOperand_245 : decode y_RR_takeOperand.2.1 245 = .ok (.iconst 1, 1) := by decide +kernel
theorem d_RR_takeOperand_246 : decode y_RR_takeOperand.2.1 246 = .ok (.iadd, 1) := by decide +kernel
theorem d_RR_takeOperand_247 : decode y_RR_takeOperand.2.1 247 = .ok (.putfield 48, 3) := by decide +kernel
theorem d_RR_takeOperand_250 : decode y_RR_takeOperand.2.1 250 = .ok (.aload_n 0, 1) := by decide +kernel
theorem d_RR_takeOperand_251 : decode y_RR_takeOperand.2.1 251 = .ok (.getfield 40, 3) := by decide +kernel
theorem d_RR_takeOperand_254 : decode y_RR_takeOperand.2.1 254 = .ok (.getfield 69, 3) := by decide +kernel
theorem d_RR_takeOperand_257 : decode y_RR_takeOperand.2.1 257 = .ok (.aload_n 0, 1) := by decide +kernel
theorem d_RR_takeOperand_258 : decode y_RR_takeOperand.2.1 258 = .ok (.getfield 48, 3) := by decide +kernel
theorem d_RR_takeOperand_261 : decode y_RR_takeOperand.2.1 261 = .ok (.iaload, 1) := by decide +kernel
theorem d_RR_takeOperand_262 : decode y_RR_takeOperand.2.1 262 = .ok (.bipush 37, 2) := by decide +kernel
theorem d_RR_takeOperand_264 : decode y_RR_takeOperand.2.1 264 = .ok (.if_icmp .ne 12, 3) := by decide +kernel
theorem d_RR_takeOperand_267 : decode y_RR_takeOperand.2.1 267 = .ok (.aload_n 0, 1) := by decide +kernel
theorem d_RR_takeOperand_268 : decode y_RR_takeOperand.2.1 268 = .ok (.iload_n 1, 1) := by decide +kernel
theorem d_RR_takeOperand_269 : decode y_RR_takeOperand.2.1 269 = .ok (.iload_n 2, 1) := by decide +kernel
theorem d_RR_takeOperand_276 : decode y_RR_takeOperand.2.1 276 = .ok (.iconst 2, 1) := by decide +kernel
theorem d_RR_takeOperand_270 : decode y_RR_takeOperand.2.1 270 = .ok (.invokevirtual 125, 3) := by decide +kernel
theorem d_RR_takeOperand_273 : decode y_RR_takeOperand.2.1 273 = .ok (.goto 4, 3) := by decide +kernel
theorem d_RR_takeOperand_213 : decode y_RR_takeOperand.2.1 213 = .ok (.aload_n 0, 1) := by decide +kernel
theorem d_RR_takeOperand_214 : decode y_RR_takeOperand.2.1 214 = .ok (.bipush 40, 2) := by decide +kernel
theorem d_RR_takeOperand_216 : decode y_RR_takeOperand.2.1 216 = .ok (.iload_n 2, 1) := by decide +kernel
theorem d_RR_takeOperand_217 : decode y_RR_takeOperand.2.1 217 = .ok (.invokevirtual 125, 3) := by decide +kernel
theorem d_RR_takeOperand_220 : decode y_RR_takeOperand.2.1 220 = .ok (.ireturn, 1) := by decide +kernel
theorem d_RR_takeOperand_221 : decode y_RR_takeOperand.2.1 221 = .ok (.aload_n 0, 1) := by decide +kernel
theorem d_RR_takeOperand_222 : decode y_RR_takeOperand.2.1 222 = .ok (.invokevirtual 129, 3) := by decide +kernel
theorem d_RR_takeOperand_225 : decode y_RR_takeOperand.2.1 225 = .ok (.ifCond .eq 13, 3) := by decide +kernel
theorem d_RR_takeOperand_238 : decode y_RR_takeOperand.2.1 238 = .ok (.iconst 2, 1) := by decide +kernel
theorem d_RR_takeOperand_228 : decode y_RR_takeOperand.2.1 228 = .ok (.aload_n 0, 1) := by decide +kernel
theorem d_RR_takeOperand_229 : decode y_RR_takeOperand.2.1 229 = .ok (.bipush 41, 2) := by decide +kernel
theorem d_RR_takeOperand_231 : decode y_RR_takeOperand.2.1 231 = .ok (.iload_n 2, 1) := by decide +kernel
theorem d_RR_takeOperand_232 : decode y_RR_takeOperand.2.1 232 = .ok (.invokevirtual 125, 3) := by decide +kernel
theorem d_RR_takeOperand_235 : decode y_RR_takeOperand.2.1 235 = .ok (.goto 4, 3) := by decide +kernel
theorem d_RR_takeOperand_205 : decode y_RR_takeOperand.2.1 205 = .ok (.aload_n 0, 1) := by decide +kernel
theorem d_RR_takeOperand_206 : decode y_RR_takeOperand.2.1 206 = .ok (.bipush 37, 2) := by decide +kernel
theorem d_RR_takeOperand_208 : decode y_RR_takeOperand.2.1 208 = .ok (.iload_n 2, 1) := by decide +kernel
theorem d_RR_takeOperand_209 : decode y_RR_takeOperand.2.1 209 = .ok (.invokevirtual 125, 3) := by decide +kernel
theorem d_RR_takeOperand_212 : decode y_RR_takeOperand.2.1 212 = .ok (.ireturn, 1) := by decide +kernel
theorem d_RR_takeOperand_278 : decode y_RR_takeOperand.2.1 278 = .ok (.iconst 2, 1) := by decide +kernel
theorem d_RR_takeOperand_279 : decode y_RR_takeOperand.2.1 279 = .ok (.ireturn, 1) := by decide +kernel
theorem d_RR_takeOperand_239 : decode y_RR_takeOperand.2.1 239 = .ok (.ireturn, 1) := by decide +kernel
theorem d_RR_takeOperand_277 : decode y_RR_takeOperand.2.1 277 = .ok (.ireturn, 1) := by decide +kernel
def h_RR_takeOperand_239 (G : mG) (d : Nat) (k0 : Int) (M : mM) (Q : Int → mM → Prop) : Prop := mWm G y_RR_takeOperand (d + 1) 239 [vd, vd, vd, vd] [vi k0] M (fun r9 M9 => ∃ x9, r9 = some (vi x9) ∧ Q x9 M9)
def h_RR_takeOperand_277 (G : mG) (d : Nat) (k0 : Int) (M : mM) (Q : Int → mM → Prop) : Prop := mWm G y_RR_takeOperand (d + 1) 277 [vd, vd, vd, vd] [vi k0] M (fun r9 M9 => ∃ x9, r9 = some (vi x9) ∧ Q x9 M9)
theorem k_RR_takeOperand {G : mG} {d : Nat} {a0 : Nat} {M : mM} {Q : Int → mM → Prop} (hO : mOk M)
    (h : mK M a0 = 4 ∧ mK M (mR M a0 0) = 2 ∧ mK M (mR M (mR M a0 0) 3) = 30 ∧ ((0 : Int) ≤ mI M a0 2 ∧ mI M a0 2 < (mN M (mR M (mR M a0 0) 3) : Int)) ∧ Ci G y_RR_here d [vr a0] M (fun x6 M5 => i32 x6 ∧ mOk M5 ∧ (((mI M (mR M (mR M a0 0) 3) (Int.toNat (mI M a0 2)) = 2) → (mK M5 a0 = 4 ∧ Ci G y_RR_find d [vr a0, vi (mI M5 a0 2)] M5 (fun x11 M10 => i32 x11 ∧ mOk M10 ∧ ((¬ (x11 = (-1)) → (mK M10 a0 = 4 ∧ (¬ (mI M10 a0 6 = 0) → (mK M10 (mR M10 a0 16) = 30 ∧ ((0 : Int) ≤ x11 ∧ x11 < (mN M10 (mR M10 a0 16) : Int)))))) ∧ (((x11 = (-1)) ∨ ((¬ (mI M10 a0 6 = 0)) ∧ (¬ (mI M10 (mR M10 a0 16) (Int.toNat x11) = 4)))) → (mK M10 a0 = 4 ∧ Cv G y_RR_note d [vr a0, vi 2, vi x6] M10 (fun M22 => mOk M22 ∧ (mK M22 a0 = 4 ∧ Ci G y_RR_takeValue d [vr a0, vi 3, vi 0, vi 0] M22 (fun x27 M26 => i32 x27 ∧ mOk M26 ∧ (Q x27 M26)))))) ∧ (¬ ((x11 = (-1)) ∨ ((¬ (mI M10 a0 6 = 0)) ∧ (¬ (mI M10 (mR M10 a0 16) (Int.toNat x11) = 4)))) → (mK M10 a0 = 4 ∧ mK M10 (mR M10 a0 16) = 30 ∧ ((0 : Int) ≤ x11 ∧ x11 < (mN M10 (mR M10 a0 16) : Int)) ∧ mK M10 (mR M10 a0 17) = 30 ∧ ((0 : Int) ≤ x11 ∧ x11 < (mN M10 (mR M10 a0 17) : Int)) ∧ mK M10 (mR M10 a0 18) = 31 ∧ ((0 : Int) ≤ x11 ∧ x11 < (mN M10 (mR M10 a0 18) : Int)) ∧ Ci G y_RR_takeValue d [vr a0, vi (mI M10 (mR M10 a0 16) (Int.toNat x11)), vi (mI M10 (mR M10 a0 17) (Int.toNat x11)), vi (mI M10 (mR M10 a0 18) (Int.toNat x11))] M10 (fun x38 M37 => i32 x38 ∧ mOk M37 ∧ (Q x38 M37)))))))) ∧ (¬ (mI M (mR M (mR M a0 0) 3) (Int.toNat (mI M a0 2)) = 2) → (((mI M (mR M (mR M a0 0) 3) (Int.toNat (mI M a0 2)) = 3) → (mK M5 a0 = 4 ∧ mK M5 (mR M5 a0 0) = 2 ∧ mK M5 (mR M5 (mR M5 a0 0) 5) = 30 ∧ ((0 : Int) ≤ mI M5 a0 2 ∧ mI M5 a0 2 < (mN M5 (mR M5 (mR M5 a0 0) 5) : Int)) ∧ Ci G y_RR_takeValue d [vr a0, vi 3, vi (mI M5 (mR M5 (mR M5 a0 0) 5) (Int.toNat (mI M5 a0 2))), vi 0] M5 (fun x53 M52 => i32 x53 ∧ mOk M52 ∧ (Q x53 M52)))) ∧ (¬ (mI M (mR M (mR M a0 0) 3) (Int.toNat (mI M a0 2)) = 3) → (((mI M (mR M (mR M a0 0) 3) (Int.toNat (mI M a0 2)) = 13 ∨ mI M (mR M (mR M a0 0) 3) (Int.toNat (mI M a0 2)) = 14) → (∀ v57 : Int, v57 = (if (mI M (mR M (mR M a0 0) 3) (Int.toNat (mI M a0 2)) = 13) then 1 else 0) → mK M5 a0 = 4 ∧ Ci G y_RR_takeValue d [vr a0, vi 3, vi v57, vi 1] M5 (fun x64 M63 => i32 x64 ∧ mOk M63 ∧ (Q x64 M63)))) ∧ (¬ (mI M (mR M (mR M a0 0) 3) (Int.toNat (mI M a0 2)) = 13 ∨ mI M (mR M (mR M a0 0) 3) (Int.toNat (mI M a0 2)) = 14) → (((mI M (mR M (mR M a0 0) 3) (Int.toNat (mI M a0 2)) = 15 ∨ mI M (mR M (mR M a0 0) 3) (Int.toNat (mI M a0 2)) = 16) → (mK M5 a0 = 4 ∧ i32 ((mI M5 a0 2) + 1) ∧ ∀ M70, M70 = mUI M5 a0 2 ((mI M5 a0 2) + 1) → mK M70 (mR M70 a0 0) = 2 ∧ mK M70 (mR M70 (mR M70 a0 0) 3) = 30 ∧ ((0 : Int) ≤ mI M70 a0 2 ∧ mI M70 a0 2 < (mN M70 (mR M70 (mR M70 a0 0) 3) : Int)) ∧ ((mI M70 (mR M70 (mR M70 a0 0) 3) (Int.toNat (mI M70 a0 2)) = 37) → (Ci G y_RR_takeLevel d [vr a0, vi (mI M (mR M (mR M a0 0) 3) (Int.toNat (mI M a0 2))), vi x6] M70 (fun x78 M77 => i32 x78 ∧ mOk M77 ∧ (h_RR_takeOperand_277 G d x78 M77 Q)))) ∧ (¬ (mI M70 (mR M70 (mR M70 a0 0) 3) (Int.toNat (mI M70 a0 2)) = 37) → (h_RR_takeOperand_277 G d 2 M70 Q)))) ∧ (¬ (mI M (mR M (mR M a0 0) 3) (Int.toNat (mI M a0 2)) = 15 ∨ mI M (mR M (mR M a0 0) 3) (Int.toNat (mI M a0 2)) = 16) → (((mI M (mR M (mR M a0 0) 3) (Int.toNat (mI M a0 2)) = 26) → (mK M5 a0 = 4 ∧ Ci G y_RR_takeLevel d [vr a0, vi 40, vi x6] M5 (fun x83 M82 => i32 x83 ∧ mOk M82 ∧ (Q x83 M82)))) ∧ (¬ (mI M (mR M (mR M a0 0) 3) (Int.toNat (mI M a0 2)) = 26) → (((mI M (mR M (mR M a0 0) 3) (Int.toNat (mI M a0 2)) = 32) → (mK M5 a0 = 4 ∧ Ci G y_RR_mayDeny d [vr a0] M5 (fun x88 M87 => i32 x88 ∧ mOk M87 ∧ (((x88 = 0) → (h_RR_takeOperand_239 G d 2 M87 Q)) ∧ (¬ (x88 = 0) → (mK M87 a0 = 4 ∧ Ci G y_RR_takeLevel d [vr a0, vi 41, vi x6] M87 (fun x94 M93 => i32 x94 ∧ mOk M93 ∧ (h_RR_takeOperand_239 G d x94 M93 Q)))))))) ∧ (¬ (mI M (mR M (mR M a0 0) 3) (Int.toNat (mI M a0 2)) = 32) → (((mI M (mR M (mR M a0 0) 3) (Int.toNat (mI M a0 2)) = 37) → (mK M5 a0 = 4 ∧ Ci G y_RR_takeLevel d [vr a0, vi 37, vi x6] M5 (fun x99 M98 => i32 x99 ∧ mOk M98 ∧ (Q x99 M98)))) ∧ (¬ (mI M (mR M (mR M a0 0) 3) (Int.toNat (mI M a0 2)) = 37) → (Q 2 M5))))))))))))))))) :
    Ci G y_RR_takeOperand (d + 1) [vr a0] M Q := by
  refine wm_open (y := y_RR_takeOperand) rfl (Nat.le_of_ble_eq_true rfl) (L := [vr a0, vd, vd, vd]) rfl ?_
  obtain ⟨h1, h⟩ := h
  obtain ⟨h2, h⟩ := h
  obtain ⟨h3, h⟩ := h
  obtain ⟨h4, h⟩ := h
  refine wm_aload_n d_RR_takeOperand_0 rfl rfl ?_
  refine gf_RR_40 rfl d_RR_takeOperand_1 h1 ?_
  refine gf_RR_69 rfl d_RR_takeOperand_4 h2 ?_
  refine wm_aload_n d_RR_takeOperand_7 rfl rfl ?_
  refine gf_RR_48 rfl d_RR_takeOperand_8 h1 ?_
  refine wm_iald d_RR_takeOperand_11 h3 h4 ?_
  refine wm_istore_n d_RR_takeOperand_12 rfl (by decide) (L' := [vr a0, vi (mI M (mR M (mR M a0 0) 3) (Int.toNat (mI M a0 2))), vd, vd]) rfl ?_
  refine wm_aload_n d_RR_takeOperand_13 rfl rfl ?_
  refine cf_RR_83 rfl d_RR_takeOperand_14 h1 (Nat.le_of_ble_eq_true rfl) (Ci.mono h (fun x6 M5 h => ?_))
  obtain ⟨h7, hOM5, h⟩ := h
  refine wm_istore_n d_RR_takeOperand_17 rfl (by decide) (L' := [vr a0, vi (mI M (mR M (mR M a0 0) 3) (Int.toNat (mI M a0 2))), vi x6, vd]) rfl ?_
  refine wm_iload_n d_RR_takeOperand_18 rfl rfl ?_
  by_cases c8 : mI M (mR M (mR M a0 0) 3) (Int.toNat (mI M a0 2)) = 2
  · replace h := h.1 c8
    refine wm_lookup (tgt := 137) (off := 118) d_RR_takeOperand_19 z_RR_takeOperand_19_s (hO _ _).1 (by rw [c8]; rfl) rfl ?_
    obtain ⟨h9, h⟩ := h
    refine wm_aload_n d_RR_takeOperand_137 rfl rfl ?_
    refine wm_aload_n d_RR_takeOperand_138 rfl rfl ?_
    refine gf_RR_48 rfl d_RR_takeOperand_139 h9 ?_
    refine cf_RR_79 rfl d_RR_takeOperand_142 h9 (Nat.le_of_ble_eq_true rfl) (Ci.mono h (fun x11 M10 h => ?_))
    obtain ⟨h12, hOM10, h⟩ := h
    refine wm_istore_n d_RR_takeOperand_145 rfl (by decide) (L' := [vr a0, vi (mI M (mR M (mR M a0 0) 3) (Int.toNat (mI M a0 2))), vi x6, vi x11]) rfl ?_
    refine wm_iload_n d_RR_takeOperand_146 rfl rfl ?_
    refine wm_iconst d_RR_takeOperand_147 ?_
    obtain ⟨s19, h⟩ := h
    have hE0 : ((x11 = (-1)) ∨ ((¬ (mI M10 a0 6 = 0)) ∧ (¬ (mI M10 (mR M10 a0 16) (Int.toNat x11) = 4)))) → mWm G y_RR_takeOperand (d + 1) 168 [vr a0, vi (mI M (mR M (mR M a0 0) 3) (Int.toNat (mI M a0 2))), vi x6, vi x11] [] M10 (fun r9 M9 => ∃ x9, r9 = some (vi x9) ∧ Q x9 M9) := by
      intro q20
      have h := h.1 q20
      obtain ⟨h21, h⟩ := h
      refine wm_aload_n d_RR_takeOperand_168 rfl rfl ?_
      refine wm_iconst d_RR_takeOperand_169 ?_
      refine wm_iload_n d_RR_takeOperand_170 rfl rfl ?_
      refine cf_RR_114 rfl d_RR_takeOperand_171 h21 (Nat.le_of_ble_eq_true rfl) (Cv.mono h (fun M22 h => ?_))
      obtain ⟨hOM22, h⟩ := h
      obtain ⟨h25, h⟩ := h
      refine wm_aload_n d_RR_takeOperand_174 rfl rfl ?_
      refine wm_iconst d_RR_takeOperand_175 ?_
      refine wm_iconst d_RR_takeOperand_176 ?_
      refine wm_iconst d_RR_takeOperand_177 ?_
      refine cf_RR_118 rfl d_RR_takeOperand_178 h25 (Nat.le_of_ble_eq_true rfl) (Ci.mono h (fun x27 M26 h => ?_))
      obtain ⟨h28, hOM26, h⟩ := h
      refine wm_ireturn d_RR_takeOperand_181 rfl rfl ?_
      exact ⟨_, rfl, h⟩
    have hE1 : ¬ ((x11 = (-1)) ∨ ((¬ (mI M10 a0 6 = 0)) ∧ (¬ (mI M10 (mR M10 a0 16) (Int.toNat x11) = 4)))) → mWm G y_RR_takeOperand (d + 1) 182 [vr a0, vi (mI M (mR M (mR M a0 0) 3) (Int.toNat (mI M a0 2))), vi x6, vi x11] [] M10 (fun r9 M9 => ∃ x9, r9 = some (vi x9) ∧ Q x9 M9) := by
      intro q29
      have h := h.2 q29
      obtain ⟨h30, h⟩ := h
      obtain ⟨h31, h⟩ := h
      obtain ⟨h32, h⟩ := h
      obtain ⟨h33, h⟩ := h
      obtain ⟨h34, h⟩ := h
      obtain ⟨h35, h⟩ := h
      obtain ⟨h36, h⟩ := h
      refine wm_aload_n d_RR_takeOperand_182 rfl rfl ?_
      refine wm_aload_n d_RR_takeOperand_183 rfl rfl ?_
      refine gf_RR_31 rfl d_RR_takeOperand_184 h30 ?_
      refine wm_iload_n d_RR_takeOperand_187 rfl rfl ?_
      refine wm_iald d_RR_takeOperand_188 h31 h32 ?_
      refine wm_aload_n d_RR_takeOperand_189 rfl rfl ?_
      refine gf_RR_34 rfl d_RR_takeOperand_190 h30 ?_
      refine wm_iload_n d_RR_takeOperand_193 rfl rfl ?_
      refine wm_iald d_RR_takeOperand_194 h33 h34 ?_
      refine wm_aload_n d_RR_takeOperand_195 rfl rfl ?_
      refine gf_RR_37 rfl d_RR_takeOperand_196 h30 ?_
      refine wm_iload_n d_RR_takeOperand_199 rfl rfl ?_
      refine wm_zald d_RR_takeOperand_200 h35 h36 ?_
      refine cf_RR_118 rfl d_RR_takeOperand_201 h30 (Nat.le_of_ble_eq_true rfl) (Ci.mono h (fun x38 M37 h => ?_))
      obtain ⟨h39, hOM37, h⟩ := h
      refine wm_ireturn d_RR_takeOperand_204 rfl rfl ?_
      exact ⟨_, rfl, h⟩
    clear h
    have s40 := s19
    refine wm_icmp_eq (tgt := 168) d_RR_takeOperand_148 rfl h12 ⟨by decide, by decide⟩ (fun c18 => ?_) (fun c18 => ?_)
    · exact hE0 (Or.inl c18)
    · have s40 := s40 c18
      obtain ⟨h13, s41⟩ := s40
      refine wm_aload_n d_RR_takeOperand_151 rfl rfl ?_
      refine gf_RR_122 rfl d_RR_takeOperand_152 h13 ?_
      refine wm_if_eq (tgt := 182) d_RR_takeOperand_155 rfl (hOM10 _ _).1 (fun c17 => ?_) (fun c17 => ?_)
      · exact hE1 (fun z42 => Or.elim z42 c18 (fun z43 => z43.1 c17))
      · have s41 := s41 c17
        obtain ⟨h14, h15⟩ := s41
        refine wm_aload_n d_RR_takeOperand_158 rfl rfl ?_
        refine gf_RR_31 rfl d_RR_takeOperand_159 h13 ?_
        refine wm_iload_n d_RR_takeOperand_162 rfl rfl ?_
        refine wm_iald d_RR_takeOperand_163 h14 h15 ?_
        refine wm_iconst d_RR_takeOperand_164 ?_
        refine wm_icmp_eq (tgt := 182) d_RR_takeOperand_165 rfl (hOM10 _ _).1 ⟨by decide, by decide⟩ (fun c16 => ?_) (fun c16 => ?_)
        · exact hE1 (fun z44 => Or.elim z44 c18 (fun z45 => (fun z46 => z46 c16) z45.2))
        · exact hE0 (Or.inr ⟨c17, c16⟩)
  · replace h := h.2 c8
    by_cases c47 : mI M (mR M (mR M a0 0) 3) (Int.toNat (mI M a0 2)) = 3
    · replace h := h.1 c47
      refine wm_lookup (tgt := 100) (off := 81) d_RR_takeOperand_19 z_RR_takeOperand_19_s (hO _ _).1 (by rw [c47]; rfl) rfl ?_
      obtain ⟨h48, h⟩ := h
      obtain ⟨h49, h⟩ := h
      obtain ⟨h50, h⟩ := h
      obtain ⟨h51, h⟩ := h
      refine wm_aload_n d_RR_takeOperand_100 rfl rfl ?_
      refine wm_iconst d_RR_takeOperand_101 ?_
      refine wm_aload_n d_RR_takeOperand_102 rfl rfl ?_
      refine gf_RR_40 rfl d_RR_takeOperand_103 h48 ?_
      refine gf_RR_72 rfl d_RR_takeOperand_106 h49 ?_
      refine wm_aload_n d_RR_takeOperand_109 rfl rfl ?_
      refine gf_RR_48 rfl d_RR_takeOperand_110 h48 ?_
      refine wm_iald d_RR_takeOperand_113 h50 h51 ?_
      refine wm_iconst d_RR_takeOperand_114 ?_
      refine cf_RR_118 rfl d_RR_takeOperand_115 h48 (Nat.le_of_ble_eq_true rfl) (Ci.mono h (fun x53 M52 h => ?_))
      obtain ⟨h54, hOM52, h⟩ := h
      refine wm_ireturn d_RR_takeOperand_118 rfl rfl ?_
      exact ⟨_, rfl, h⟩
    · replace h := h.2 c47
      by_cases c55 : mI M (mR M (mR M a0 0) 3) (Int.toNat (mI M a0 2)) = 13 ∨ mI M (mR M (mR M a0 0) 3) (Int.toNat (mI M a0 2)) = 14
      · replace h := h.1 c55
        refine wm_lookup (tgt := 119) (off := 100) d_RR_takeOperand_19 z_RR_takeOperand_19_s (hO _ _).1 (by rcases c55 with q9 | q9 <;> (rw [q9]; rfl)) rfl ?_
        refine wm_aload_n d_RR_takeOperand_119 rfl rfl ?_
        refine wm_iconst d_RR_takeOperand_120 ?_
        refine wm_iload_n d_RR_takeOperand_121 rfl rfl ?_
        refine wm_bipush d_RR_takeOperand_122 (by decide) ?_
        have hJ : ∀ v57 : Int, v57 = (if (mI M (mR M (mR M a0 0) 3) (Int.toNat (mI M a0 2)) = 13) then 1 else 0) → mWm G y_RR_takeOperand (d + 1) 132 [vd, vd, vd, vd] [vi v57, vi 3, vr a0] M5 (fun r9 M9 => ∃ x9, r9 = some (vi x9) ∧ Q x9 M9) := by
          intro v57 e59
          have h := h v57 e59
          have h60 : i32 v57 := by rw [e59]; (repeat' split) <;> first | exact ⟨by decide, by decide⟩ | exact ⟨by decide, by decide⟩
          have h61 : (v57 = 0 ∨ v57 = 1) := by rw [e59]; (repeat' split) <;> decide
          obtain ⟨h62, h⟩ := h
          refine wm_iconst d_RR_takeOperand_132 ?_
          refine cf_RR_118 rfl d_RR_takeOperand_133 h62 (Nat.le_of_ble_eq_true rfl) (Ci.mono h (fun x64 M63 h => ?_))
          obtain ⟨h65, hOM63, h⟩ := h
          refine wm_ireturn d_RR_takeOperand_136 rfl rfl ?_
          exact ⟨_, rfl, h⟩
        clear h
        refine wm_icmp_ne (tgt := 131) d_RR_takeOperand_124 rfl (hO _ _).1 ⟨by decide, by decide⟩ (fun c56 => ?_) (fun c56 => ?_)
        · refine wm_iconst d_RR_takeOperand_131 ?_
          refine wm_less (L' := [vd, vd, vd, vd]) ⟨Or.inl rfl, Or.inl rfl, Or.inl rfl, Or.inl rfl, trivial⟩ ?_
          exact hJ 0 (if_neg c56).symm
        · replace c56 := Classical.not_not.mp c56
          refine wm_iconst d_RR_takeOperand_127 ?_
          refine wm_goto (tgt := 132) d_RR_takeOperand_128 rfl ?_
          refine wm_less (L' := [vd, vd, vd, vd]) ⟨Or.inl rfl, Or.inl rfl, Or.inl rfl, Or.inl rfl, trivial⟩ ?_
          exact hJ 1 (if_pos c56).symm
      · replace h := h.2 c55
        by_cases c67 : mI M (mR M (mR M a0 0) 3) (Int.toNat (mI M a0 2)) = 15 ∨ mI M (mR M (mR M a0 0) 3) (Int.toNat (mI M a0 2)) = 16
        · replace h := h.1 c67
          refine wm_lookup (tgt := 240) (off := 221) d_RR_takeOperand_19 z_RR_takeOperand_19_s (hO _ _).1 (by rcases c67 with q9 | q9 <;> (rw [q9]; rfl)) rfl ?_
          obtain ⟨h68, h⟩ := h
          obtain ⟨h69, h⟩ := h
          obtain ⟨M70, e71⟩ : ∃ M70, M70 = mUI M5 a0 2 ((mI M5 a0 2) + 1) := ⟨_, rfl⟩
          replace h := h M70 e71
          obtain ⟨h72, h⟩ := h
          obtain ⟨h73, h⟩ := h
          obtain ⟨h74, h⟩ := h
          refine wm_aload_n d_RR_takeOperand_240 rfl rfl ?_
          refine wm_dup d_RR_takeOperand_241 rfl ?_
          refine gf_RR_48 rfl d_RR_takeOperand_242 h68 ?_
          refine wm_iconst d_RR_takeOperand_245 ?_
          refine wm_iadd d_RR_takeOperand_246 ?_
          have hOM70 : mOk M70 := by rw [e71]; exact mOk_UI hOM5 h69
          refine pf_RR_48 rfl d_RR_takeOperand_247 h68 h69 e71 ?_
          refine wm_aload_n d_RR_takeOperand_250 rfl rfl ?_
          refine gf_RR_40 rfl d_RR_takeOperand_251 (by rw [e71]; exact h68) ?_
          refine gf_RR_69 rfl d_RR_takeOperand_254 h72 ?_
          refine wm_aload_n d_RR_takeOperand_257 rfl rfl ?_
          refine gf_RR_48 rfl d_RR_takeOperand_258 (by rw [e71]; exact h68) ?_
          refine wm_iald d_RR_takeOperand_261 h73 h74 ?_
          refine wm_bipush d_RR_takeOperand_262 (by decide) ?_
          refine wm_icmp_ne (tgt := 276) d_RR_takeOperand_264 rfl (hOM70 _ _).1 ⟨by decide, by decide⟩ (fun c76 => ?_) (fun c76 => ?_)
          · replace h := h.2 c76
            refine wm_iconst d_RR_takeOperand_276 ?_
            refine wm_less (L' := [vd, vd, vd, vd]) ⟨Or.inl rfl, Or.inl rfl, Or.inl rfl, Or.inl rfl, trivial⟩ ?_
            exact h
          · replace c76 := Classical.not_not.mp c76
            replace h := h.1 c76
            refine wm_aload_n d_RR_takeOperand_267 rfl rfl ?_
            refine wm_iload_n d_RR_takeOperand_268 rfl rfl ?_
            refine wm_iload_n d_RR_takeOperand_269 rfl rfl ?_
            refine cf_RR_125 rfl d_RR_takeOperand_270 (by rw [e71]; exact h68) (Nat.le_of_ble_eq_true rfl) (Ci.mono h (fun x78 M77 h => ?_))
            obtain ⟨h79, hOM77, h⟩ := h
            refine wm_goto (tgt := 277) d_RR_takeOperand_273 rfl ?_
            refine wm_less (L' := [vd, vd, vd, vd]) ⟨Or.inl rfl, Or.inl rfl, Or.inl rfl, Or.inl rfl, trivial⟩ ?_
            exact h
        · replace h := h.2 c67
          by_cases c80 : mI M (mR M (mR M a0 0) 3) (Int.toNat (mI M a0 2)) = 26
          · replace h := h.1 c80
            refine wm_lookup (tgt := 213) (off := 194) d_RR_takeOperand_19 z_RR_takeOperand_19_s (hO _ _).1 (by rw [c80]; rfl) rfl ?_
            obtain ⟨h81, h⟩ := h
            refine wm_aload_n d_RR_takeOperand_213 rfl rfl ?_
            refine wm_bipush d_RR_takeOperand_214 (by decide) ?_
            refine wm_iload_n d_RR_takeOperand_216 rfl rfl ?_
            refine cf_RR_125 rfl d_RR_takeOperand_217 h81 (Nat.le_of_ble_eq_true rfl) (Ci.mono h (fun x83 M82 h => ?_))
            obtain ⟨h84, hOM82, h⟩ := h
            refine wm_ireturn d_RR_takeOperand_220 rfl rfl ?_
            exact ⟨_, rfl, h⟩
          · replace h := h.2 c80
            by_cases c85 : mI M (mR M (mR M a0 0) 3) (Int.toNat (mI M a0 2)) = 32
            · replace h := h.1 c85
              refine wm_lookup (tgt := 221) (off := 202) d_RR_takeOperand_19 z_RR_takeOperand_19_s (hO _ _).1 (by rw [c85]; rfl) rfl ?_
              obtain ⟨h86, h⟩ := h
              refine wm_aload_n d_RR_takeOperand_221 rfl rfl ?_
              refine cf_RR_129 rfl d_RR_takeOperand_222 h86 (Nat.le_of_ble_eq_true rfl) (Ci.mono h (fun x88 M87 h => ?_))
              obtain ⟨h89, hOM87, h⟩ := h
              refine wm_if_eq (tgt := 238) d_RR_takeOperand_225 rfl h89 (fun c91 => ?_) (fun c91 => ?_)
              · replace h := h.1 c91
                refine wm_iconst d_RR_takeOperand_238 ?_
                refine wm_less (L' := [vd, vd, vd, vd]) ⟨Or.inl rfl, Or.inl rfl, Or.inl rfl, Or.inl rfl, trivial⟩ ?_
                exact h
              · replace h := h.2 c91
                obtain ⟨h92, h⟩ := h
                refine wm_aload_n d_RR_takeOperand_228 rfl rfl ?_
                refine wm_bipush d_RR_takeOperand_229 (by decide) ?_
                refine wm_iload_n d_RR_takeOperand_231 rfl rfl ?_
                refine cf_RR_125 rfl d_RR_takeOperand_232 h92 (Nat.le_of_ble_eq_true rfl) (Ci.mono h (fun x94 M93 h => ?_))
                obtain ⟨h95, hOM93, h⟩ := h
                refine wm_goto (tgt := 239) d_RR_takeOperand_235 rfl ?_
                refine wm_less (L' := [vd, vd, vd, vd]) ⟨Or.inl rfl, Or.inl rfl, Or.inl rfl, Or.inl rfl, trivial⟩ ?_
                exact h
            · replace h := h.2 c85
              by_cases c96 : mI M (mR M (mR M a0 0) 3) (Int.toNat (mI M a0 2)) = 37
              · replace h := h.1 c96
                refine wm_lookup (tgt := 205) (off := 186) d_RR_takeOperand_19 z_RR_takeOperand_19_s (hO _ _).1 (by rw [c96]; rfl) rfl ?_
                obtain ⟨h97, h⟩ := h
                refine wm_aload_n d_RR_takeOperand_205 rfl rfl ?_
                refine wm_bipush d_RR_takeOperand_206 (by decide) ?_
                refine wm_iload_n d_RR_takeOperand_208 rfl rfl ?_
                refine cf_RR_125 rfl d_RR_takeOperand_209 h97 (Nat.le_of_ble_eq_true rfl) (Ci.mono h (fun x99 M98 h => ?_))
                obtain ⟨h100, hOM98, h⟩ := h
                refine wm_ireturn d_RR_takeOperand_212 rfl rfl ?_
                exact ⟨_, rfl, h⟩
              · replace h := h.2 c96
                refine wm_lookup (tgt := 278) (off := 259) d_RR_takeOperand_19 z_RR_takeOperand_19_s (hO _ _).1 (by simp [Op.lookupswitch.offset]; repeat rw [if_neg (by omega)]) rfl ?_
                refine wm_iconst d_RR_takeOperand_278 ?_
                refine wm_ireturn d_RR_takeOperand_279 rfl rfl ?_
                exact ⟨_, rfl, h⟩
theorem k_RR_takeOperand_239 {G : mG} {d : Nat} {k0 : Int} {M : mM} {Q : Int → mM → Prop} (hO : mOk M) (hi_k0 : i32 k0)
    (h : Q k0 M) :
    h_RR_takeOperand_239 G d k0 M Q := by
  unfold h_RR_takeOperand_239
  refine wm_ireturn d_RR_takeOperand_239 rfl rfl ?_
  exact ⟨_, rfl, h⟩
theorem k_RR_takeOperand_277 {G : mG} {d : Nat} {k0 : Int} {M : mM} {Q : Int → mM → Prop} (hO : mOk M) (hi_k0 : i32 k0)
    (h : Q k0 M) :
    h_RR_takeOperand_277 G d k0 M Q := by
  unfold h_RR_takeOperand_277
  refine wm_ireturn d_RR_takeOperand_277 rfl rfl ?_
  exact ⟨_, rfl, h⟩
theorem d_RR_mayDeny_0 : decode y_RR_mayDeny.2.1 0 = .ok (.aload_n 0, 1) := by decide +kernel
theorem d_RR_mayDeny_1 : decode y_RR_mayDeny.2.1 1 = .ok (.getfield 87, 3) := by decide +kernel
theorem d_RR_mayDeny_4 : decode y_RR_mayDeny.2.1 4 = .ok (.ifCond .ne 5, 3) := by decide +kernel
theorem d_RR_mayDeny_7 : decode y_RR_mayDeny.2.1 7 = .ok (.iconst 1, 1) := by decide +kernel
theorem d_RR_mayDeny_8 : decode y_RR_mayDeny.2.1 8 = .ok (.ireturn, 1) := by decide +kernel
theorem d_RR_mayDeny_9 : decode y_RR_mayDeny.2.1 9 = .ok (.aload_n 0, 1) := by decide +kernel
theorem d_RR_mayDeny_10 : decode y_RR_mayDeny.2.1 10 = .ok (.getfield 11, 3) := by decide +kernel
theorem d_RR_mayDeny_13 : decode y_RR_mayDeny.2.1 13 = .ok (.aload_n 0, 1) := by decide +kernel
theorem d_RR_mayDeny_14 : decode y_RR_mayDeny.2.1 14 = .ok (.getfield 87, 3) := by decide +kernel
theorem d_RR_mayDeny_17 : decode y_RR_mayDeny.2.1 17 = .ok (.iconst 1, 1) := by decide +kernel
theorem d_RR_mayDeny_18 : decode y_RR_mayDeny.2.1 18 = .ok (.isub, 1) := by decide +kernel
theorem d_RR_mayDeny_19 : decode y_RR_mayDeny.2.1 19 = .ok (.iaload, 1) := by decide +kernel
theorem d_RR_mayDeny_20 : decode y_RR_mayDeny.2.1 20 = .ok (.istore_n 1, 1) := by decide +kernel
theorem d_RR_mayDeny_21 : decode y_RR_mayDeny.2.1 21 = .ok (.iload_n 1, 1) := by decide +kernel
theorem d_RR_mayDeny_22 : decode y_RR_mayDeny.2.1 22 = .ok (.invokestatic 132, 3) := by decide +kernel
theorem d_RR_mayDeny_25 : decode y_RR_mayDeny.2.1 25 = .ok (.iconst 4, 1) := by decide +kernel
theorem d_RR_mayDeny_26 : decode y_RR_mayDeny.2.1 26 = .ok (.if_icmp .ge 13, 3) := by decide +kernel
theorem d_RR_mayDeny_39 : decode y_RR_mayDeny.2.1 39 = .ok (.iconst 0, 1) := by decide +kernel
theorem d_RR_mayDeny_29 : decode y_RR_mayDeny.2.1 29 = .ok (.iload_n 1, 1) := by decide +kernel
theorem d_RR_mayDeny_30 : decode y_RR_mayDeny.2.1 30 = .ok (.bipush 40, 2) := by decide +kernel
theorem d_RR_mayDeny_32 : decode y_RR_mayDeny.2.1 32 = .ok (.if_icmp .eq 7, 3) := by decide +kernel
theorem d_RR_mayDeny_35 : decode y_RR_mayDeny.2.1 35 = .ok (.iconst 1, 1) := by decide +kernel
theorem d_RR_mayDeny_36 : decode y_RR_mayDeny.2.1 36 = .ok (.goto 4, 3) := by decide +kernel
theorem d_RR_mayDeny_40 : decode y_RR_mayDeny.2.1 40 = .ok (.ireturn, 1) := by decide +kernel
theorem k_RR_mayDeny {G : mG} {d : Nat} {a0 : Nat} {M : mM} {Q : Int → mM → Prop} (hO : mOk M)
    (h : mK M a0 = 4 ∧ ((mI M a0 12 = 0) → (Q 1 M)) ∧ (¬ (mI M a0 12 = 0) → (mK M (mR M a0 8) = 30 ∧ ((0 : Int) ≤ (mI M a0 12) - 1 ∧ (mI M a0 12) - 1 < (mN M (mR M a0 8) : Int)) ∧ Ci G y_RR_level d [vi (mI M (mR M a0 8) (Int.toNat ((mI M a0 12) - 1)))] M (fun x7 M6 => i32 x7 ∧ mOk M6 ∧ (∀ v11 : Int, v11 = (if ((4 ≤ x7) ∨ (mI M (mR M a0 8) (Int.toNat ((mI M a0 12) - 1)) = 40)) then 0 else 1) → Q v11 M6))))) :
    Ci G y_RR_mayDeny (d + 1) [vr a0] M Q := by
  refine wm_open (y := y_RR_mayDeny) rfl (Nat.le_of_ble_eq_true rfl) (L := [vr a0, vd]) rfl ?_
  obtain ⟨h1, h⟩ := h
  refine wm_aload_n d_RR_mayDeny_0 rfl rfl ?_
  refine gf_RR_87 rfl d_RR_mayDeny_1 h1 ?_
  refine wm_if_ne (tgt := 9) d_RR_mayDeny_4 rfl (hO _ _).1 (fun c3 => ?_) (fun c3 => ?_)
  · replace h := h.2 c3
    obtain ⟨h4, h⟩ := h
    obtain ⟨h5, h⟩ := h
    refine wm_aload_n d_RR_mayDeny_9 rfl rfl ?_
    refine gf_RR_11 rfl d_RR_mayDeny_10 h1 ?_
    refine wm_aload_n d_RR_mayDeny_13 rfl rfl ?_
    refine gf_RR_87 rfl d_RR_mayDeny_14 h1 ?_
    refine wm_iconst d_RR_mayDeny_17 ?_
    refine wm_isub d_RR_mayDeny_18 ?_
    refine wm_iald d_RR_mayDeny_19 h4 h5 ?_
    refine wm_istore_n d_RR_mayDeny_20 rfl (by decide) (L' := [vr a0, vi (mI M (mR M a0 8) (Int.toNat ((mI M a0 12) - 1)))]) rfl ?_
    refine wm_iload_n d_RR_mayDeny_21 rfl rfl ?_
    refine cf_RR_132 rfl d_RR_mayDeny_22 (Nat.le_of_ble_eq_true rfl) (Ci.mono h (fun x7 M6 h => ?_))
    obtain ⟨h8, hOM6, h⟩ := h
    refine wm_iconst d_RR_mayDeny_25 ?_
    have hJ : ∀ v11 : Int, v11 = (if ((4 ≤ x7) ∨ (mI M (mR M a0 8) (Int.toNat ((mI M a0 12) - 1)) = 40)) then 0 else 1) → mWm G y_RR_mayDeny (d + 1) 40 [vd, vd] [vi v11] M6 (fun r9 M9 => ∃ x9, r9 = some (vi x9) ∧ Q x9 M9) := by
      intro v11 e13
      have h := h v11 e13
      have h14 : i32 v11 := by rw [e13]; (repeat' split) <;> first | exact ⟨by decide, by decide⟩ | exact ⟨by decide, by decide⟩
      have h15 : (v11 = 0 ∨ v11 = 1) := by rw [e13]; (repeat' split) <;> decide
      refine wm_ireturn d_RR_mayDeny_40 rfl (m_nb h15) ?_
      exact ⟨_, rfl, h⟩
    clear h
    refine wm_icmp_ge (tgt := 39) d_RR_mayDeny_26 rfl h8 ⟨by decide, by decide⟩ (fun c9 => ?_) (fun c9 => ?_)
    · refine wm_iconst d_RR_mayDeny_39 ?_
      refine wm_less (L' := [vd, vd]) ⟨Or.inl rfl, Or.inl rfl, trivial⟩ ?_
      exact hJ 0 (if_pos (Or.inl c9)).symm
    · refine wm_iload_n d_RR_mayDeny_29 rfl rfl ?_
      refine wm_bipush d_RR_mayDeny_30 (by decide) ?_
      refine wm_icmp_eq (tgt := 39) d_RR_mayDeny_32 rfl (hO _ _).1 ⟨by decide, by decide⟩ (fun c10 => ?_) (fun c10 => ?_)
      · refine wm_iconst d_RR_mayDeny_39 ?_
        refine wm_less (L' := [vd, vd]) ⟨Or.inl rfl, Or.inl rfl, trivial⟩ ?_
        exact hJ 0 (if_pos (Or.inr c10)).symm
      · refine wm_iconst d_RR_mayDeny_35 ?_
        refine wm_goto (tgt := 40) d_RR_mayDeny_36 rfl ?_
        refine wm_less (L' := [vd, vd]) ⟨Or.inl rfl, Or.inl rfl, trivial⟩ ?_
        exact hJ 1 (if_neg (fun z16 => Or.elim z16 c9 c10)).symm
  · replace c3 := Classical.not_not.mp c3
    replace h := h.1 c3
    refine wm_iconst d_RR_mayDeny_7 ?_
    refine wm_ireturn d_RR_mayDeny_8 rfl (m_nb (by decide)) ?_
    exact ⟨_, rfl, h⟩
theorem d_RR_takeValue_0 : decode y_RR_takeValue.2.1 0 = .ok (.aload_n 0, 1) := by decide +kernel
theorem d_RR_takeValue_1 : decode y_RR_takeValue.2.1 1 = .ok (.getfield 44, 3) := by decide +kernel
theorem d_RR_takeValue_4 : decode y_RR_takeValue.2.1 4 = .ok (.iload_n 1, 1) := by decide +kernel
theorem d_RR_takeValue_5 : decode y_RR_takeValue.2.1 5 = .ok (.iload_n 2, 1) := by decide +kernel
theorem d_RR_takeValue_6 : decode y_RR_takeValue.2.1 6 = .ok (.invokevirtual 135, 3) := by decide +kernel
theorem d_RR_takeValue_9 : decode y_RR_takeValue.2.1 9 = .ok (.pop, 1) := by decide +kernel
theorem d_RR_takeValue_10 : decode y_RR_takeValue.2.1 10 = .ok (.aload_n 0, 1) := by decide +kernel
theorem d_RR_takeValue_11 : decode y_RR_takeValue.2.1 11 = .ok (.iload_n 3, 1) := by decide +kernel
theorem d_RR_takeValue_12 : decode y_RR_takeValue.2.1 12 = .ok (.invokevirtual 140, 3) := by decide +kernel
theorem d_RR_takeValue_15 : decode y_RR_takeValue.2.1 15 = .ok (.aload_n 0, 1) := by decide +kernel
theorem d_RR_takeValue_16 : decode y_RR_takeValue.2.1 16 = .ok (.iconst 0, 1) := by decide +kernel
theorem d_RR_takeValue_17 : decode y_RR_takeValue.2.1 17 = .ok (.putfield 93, 3) := by decide +kernel
theorem d_RR_takeValue_20 : decode y_RR_takeValue.2.1 20 = .ok (.aload_n 0, 1) := by decide +kernel
theorem d_RR_takeValue_21 : decode y_RR_takeValue.2.1 21 = .ok (.dup, 1) := by decide +kernel
theorem d_RR_takeValue_22 : decode y_RR_takeValue.2.1 22 = .ok (.getfield 48, 3) := by decide +kernel
theorem d_RR_takeValue_25 : decode y_RR_takeValue.2.1 25 = .ok (.iconst 1, 1) := by decide +kernel
theorem d_RR_takeValue_26 : decode y_RR_takeValue.2.1 26 = .ok (.iadd, 1) := by decide +kernel
theorem d_RR_takeValue_27 : decode y_RR_takeValue.2.1 27 = .ok (.putfield 48, 3) := by decide +kernel
theorem d_RR_takeValue_30 : decode y_RR_takeValue.2.1 30 = .ok (.iconst 0, 1) := by decide +kernel
theorem d_RR_takeValue_31 : decode y_RR_takeValue.2.1 31 = .ok (.ireturn, 1) := by decide +kernel
theorem k_RR_takeValue {G : mG} {d : Nat} {a0 : Nat} {l1 : Int} {l2 : Int} {l3 : Int} {M : mM} {Q : Int → mM → Prop} (hO : mOk M) (hi_l1 : i32 l1) (hi_l2 : i32 l2) (hi_l3 : i32 l3)
    (h : mK M a0 = 4 ∧ mK M (mR M a0 1) = 6 ∧ Ci G y_Pr_add d [vr (mR M a0 1), vi l1, vi l2] M (fun x4 M3 => i32 x4 ∧ mOk M3 ∧ (mK M3 a0 = 4 ∧ Cv G y_RR_pushKind d [vr a0, vi l3] M3 (fun M7 => mOk M7 ∧ (mK M7 a0 = 4 ∧ ∀ M11, M11 = mUI M7 a0 7 0 → i32 ((mI M11 a0 2) + 1) ∧ ∀ M14, M14 = mUI M11 a0 2 ((mI M11 a0 2) + 1) → Q 0 M14))))) :
    Ci G y_RR_takeValue (d + 1) [vr a0, vi l1, vi l2, vi l3] M Q := by
  refine wm_open (y := y_RR_takeValue) rfl (Nat.le_of_ble_eq_true rfl) (L := [vr a0, vi l1, vi l2, vi l3]) rfl ?_
  obtain ⟨h1, h⟩ := h
  obtain ⟨h2, h⟩ := h
  refine wm_aload_n d_RR_takeValue_0 rfl rfl ?_
  refine gf_RR_44 rfl d_RR_takeValue_1 h1 ?_
  refine wm_iload_n d_RR_takeValue_4 rfl rfl ?_
  refine wm_iload_n d_RR_takeValue_5 rfl rfl ?_
  refine cf_RR_135 rfl d_RR_takeValue_6 h2 (Nat.le_of_ble_eq_true rfl) (Ci.mono h (fun x4 M3 h => ?_))
  obtain ⟨h5, hOM3, h⟩ := h
  obtain ⟨h6, h⟩ := h
  refine wm_pop d_RR_takeValue_9 rfl ?_
  refine wm_aload_n d_RR_takeValue_10 rfl rfl ?_
  refine wm_iload_n d_RR_takeValue_11 rfl rfl ?_
  refine cf_RR_140 rfl d_RR_takeValue_12 h6 (Nat.le_of_ble_eq_true rfl) (Cv.mono h (fun M7 h => ?_))
  obtain ⟨hOM7, h⟩ := h
  obtain ⟨h10, h⟩ := h
  obtain ⟨M11, e12⟩ : ∃ M11, M11 = mUI M7 a0 7 0 := ⟨_, rfl⟩
  replace h := h M11 e12
  obtain ⟨h13, h⟩ := h
  obtain ⟨M14, e15⟩ : ∃ M14, M14 = mUI M11 a0 2 ((mI M11 a0 2) + 1) := ⟨_, rfl⟩
  replace h := h M14 e15
  refine wm_aload_n d_RR_takeValue_15 rfl rfl ?_
  refine wm_iconst d_RR_takeValue_16 ?_
  have hOM11 : mOk M11 := by rw [e12]; exact mOk_UI hOM7 (m_b32 (by decide))
  refine pf_RR_93 rfl d_RR_takeValue_17 h10 (by decide) e12 ?_
  refine wm_aload_n d_RR_takeValue_20 rfl rfl ?_
  refine wm_dup d_RR_takeValue_21 rfl ?_
  refine gf_RR_48 rfl d_RR_takeValue_22 (by rw [e12]; exact h10) ?_
  refine wm_iconst d_RR_takeValue_25 ?_
  refine wm_iadd d_RR_takeValue_26 ?_
  have hOM14 : mOk M14 := by rw [e15]; exact mOk_UI hOM11 h13
  refine pf_RR_48 rfl d_RR_takeValue_27 (by rw [e12]; exact h10) h13 e15 ?_
  refine wm_iconst d_RR_takeValue_30 ?_
  refine wm_ireturn d_RR_takeValue_31 rfl rfl ?_
  exact ⟨_, rfl, h⟩
theorem d_RR_pushKind_0 : decode y_RR_pushKind.2.1 0 = .ok (.aload_n 0, 1) := by decide +kernel
theorem d_RR_pushKind_1 : decode y_RR_pushKind.2.1 1 = .ok (.getfield 90, 3) := by decide +kernel
theorem d_RR_pushKind_4 : decode y_RR_pushKind.2.1 4 = .ok (.sipush 336, 3) := by decide +kernel
theorem d_RR_pushKind_7 : decode y_RR_pushKind.2.1 7 = .ok (.if_icmp .ge 20, 3) := by decide +kernel
theorem d_RR_pushKind_10 : decode y_RR_pushKind.2.1 10 = .ok (.aload_n 0, 1) := by decide +kernel
theorem d_RR_pushKind_11 : decode y_RR_pushKind.2.1 11 = .ok (.getfield 24, 3) := by decide +kernel
theorem d_RR_pushKind_14 : decode y_RR_pushKind.2.1 14 = .ok (.aload_n 0, 1) := by decide +kernel
theorem d_RR_pushKind_15 : decode y_RR_pushKind.2.1 15 = .ok (.dup, 1) := by decide +kernel
theorem d_RR_pushKind_16 : decode y_RR_pushKind.2.1 16 = .ok (.getfield 90, 3) := by decide +kernel
theorem d_RR_pushKind_19 : decode y_RR_pushKind.2.1 19 = .ok (.dup_x1, 1) := by decide +kernel
theorem d_RR_pushKind_20 : decode y_RR_pushKind.2.1 20 = .ok (.iconst 1, 1) := by decide +kernel
theorem d_RR_pushKind_21 : decode y_RR_pushKind.2.1 21 = .ok (.iadd, 1) := by decide +kernel
theorem d_RR_pushKind_22 : decode y_RR_pushKind.2.1 22 = .ok (.putfield 90, 3) := by decide +kernel
theorem d_RR_pushKind_25 : decode y_RR_pushKind.2.1 25 = .ok (.iload_n 1, 1) := by decide +kernel
theorem d_RR_pushKind_26 : decode y_RR_pushKind.2.1 26 = .ok (.bastore, 1) := by decide +kernel
theorem d_RR_pushKind_27 : decode y_RR_pushKind.2.1 27 = .ok (.return_, 1) := by decide +kernel
theorem k_RR_pushKind {G : mG} {d : Nat} {a0 : Nat} {l1 : Int} {M : mM} {Q : mM → Prop} (hO : mOk M) (hi_l1 : i32 l1)
    (h : mK M a0 = 4 ∧ ((336 ≤ mI M a0 14) → (Q M)) ∧ (¬ (336 ≤ mI M a0 14) → (i32 ((mI M a0 14) + 1) ∧ ∀ M10, M10 = mUI M a0 14 ((mI M a0 14) + 1) → mK M10 (mR M a0 13) = 31 ∧ ((0 : Int) ≤ mI M a0 14 ∧ mI M a0 14 < (mN M10 (mR M a0 13) : Int)) ∧ (l1 = 0 ∨ l1 = 1) ∧ ∀ M15, M15 = mUI M10 (mR M a0 13) (Int.toNat (mI M a0 14)) l1 → Q M15))) :
    Cv G y_RR_pushKind d [vr a0, vi l1] M Q := by
  refine wm_open (y := y_RR_pushKind) rfl (Nat.le_of_ble_eq_true rfl) (L := [vr a0, vi l1]) rfl ?_
  obtain ⟨h1, h⟩ := h
  refine wm_aload_n d_RR_pushKind_0 rfl rfl ?_
  refine gf_RR_90 rfl d_RR_pushKind_1 h1 ?_
  refine wm_sipush d_RR_pushKind_4 (by decide) ?_
  refine wm_icmp_ge (tgt := 27) d_RR_pushKind_7 rfl (hO _ _).1 ⟨by decide, by decide⟩ (fun c8 => ?_) (fun c8 => ?_)
  · replace h := h.1 c8
    refine wm_return d_RR_pushKind_27 rfl ?_
    exact ⟨rfl, h⟩
  · replace h := h.2 c8
    obtain ⟨h9, h⟩ := h
    obtain ⟨M10, e11⟩ : ∃ M10, M10 = mUI M a0 14 ((mI M a0 14) + 1) := ⟨_, rfl⟩
    replace h := h M10 e11
    obtain ⟨h12, h⟩ := h
    obtain ⟨h13, h⟩ := h
    obtain ⟨h14, h⟩ := h
    obtain ⟨M15, e16⟩ : ∃ M15, M15 = mUI M10 (mR M a0 13) (Int.toNat (mI M a0 14)) l1 := ⟨_, rfl⟩
    replace h := h M15 e16
    refine wm_aload_n d_RR_pushKind_10 rfl rfl ?_
    refine gf_RR_24 rfl d_RR_pushKind_11 h1 ?_
    refine wm_aload_n d_RR_pushKind_14 rfl rfl ?_
    refine wm_dup d_RR_pushKind_15 rfl ?_
    refine gf_RR_90 rfl d_RR_pushKind_16 h1 ?_
    refine wm_dup_x1 d_RR_pushKind_19 rfl rfl ?_
    refine wm_iconst d_RR_pushKind_20 ?_
    refine wm_iadd d_RR_pushKind_21 ?_
    have hOM10 : mOk M10 := by rw [e11]; exact mOk_UI hO h9
    refine pf_RR_90 rfl d_RR_pushKind_22 h1 h9 e11 ?_
    refine wm_iload_n d_RR_pushKind_25 rfl rfl ?_
    have hOM15 : mOk M15 := by rw [e16]; exact mOk_UI hOM10 (m_b32 h14)
    refine wm_zastE d_RR_pushKind_26 h12 h13 h14 e16 ?_
    refine wm_return d_RR_pushKind_27 rfl ?_
    exact ⟨rfl, h⟩
theorem d_RR_popKind_0 : decode y_RR_popKind.2.1 0 = .ok (.aload_n 0, 1) := by decide +kernel
theorem d_RR_popKind_1 : decode y_RR_popKind.2.1 1 = .ok (.getfield 90, 3) := by decide +kernel
theorem d_RR_popKind_4 : decode y_RR_popKind.2.1 4 = .ok (.ifCond .le 26, 3) := by decide +kernel
theorem d_RR_popKind_30 : decode y_RR_popKind.2.1 30 = .ok (.iconst 0, 1) := by decide +kernel
theorem d_RR_popKind_7 : decode y_RR_popKind.2.1 7 = .ok (.aload_n 0, 1) := by decide +kernel
theorem d_RR_popKind_8 : decode y_RR_popKind.2.1 8 = .ok (.getfield 24, 3) := by decide +kernel
theorem d_RR_popKind_11 : decode y_RR_popKind.2.1 11 = .ok (.aload_n 0, 1) := by decide +kernel
theorem d_RR_popKind_12 : decode y_RR_popKind.2.1 12 = .ok (.dup, 1) := by decide +kernel
theorem d_RR_popKind_13 : decode y_RR_popKind.2.1 13 = .ok (.getfield 90, 3) := by decide +kernel
theorem d_RR_popKind_16 : decode y_RR_popKind.2.1 16 = .ok (.iconst 1, 1) := by decide +kernel
theorem d_RR_popKind_17 : decode y_RR_popKind.2.1 17 = .ok (.isub, 1) := by decide +kernel
theorem d_RR_popKind_18 : decode y_RR_popKind.2.1 18 = .ok (.dup_x1, 1) := by decide +kernel
theorem d_RR_popKind_19 : decode y_RR_popKind.2.1 19 = .ok (.putfield 90, 3) := by decide +kernel
theorem d_RR_popKind_22 : decode y_RR_popKind.2.1 22 = .ok (.baload, 1) := by decide +kernel
theorem d_RR_popKind_23 : decode y_RR_popKind.2.1 23 = .ok (.ifCond .eq 7, 3) := by decide +kernel
theorem d_RR_popKind_26 : decode y_RR_popKind.2.1 26 = .ok (.iconst 1, 1) := by decide +kernel
theorem d_RR_popKind_27 : decode y_RR_popKind.2.1 27 = .ok (.goto 4, 3) := by decide +kernel
theorem d_RR_popKind_31 : decode y_RR_popKind.2.1 31 = .ok (.ireturn, 1) := by decide +kernel
theorem k_RR_popKind {G : mG} {d : Nat} {a0 : Nat} {M : mM} {Q : Int → mM → Prop} (hO : mOk M)
    (h : mK M a0 = 4 ∧ (¬ (mI M a0 14 ≤ 0) → (i32 ((mI M a0 14) - 1) ∧ mK (mUI M a0 14 ((mI M a0 14) - 1)) (mR M a0 13) = 31 ∧ ((0 : Int) ≤ (mI M a0 14) - 1 ∧ (mI M a0 14) - 1 < (mN (mUI M a0 14 ((mI M a0 14) - 1)) (mR M a0 13) : Int)) ∧ i32 (mI (mUI M a0 14 ((mI M a0 14) - 1)) (mR M a0 13) (Int.toNat ((mI M a0 14) - 1))))) ∧ ∀ v8 : Int, v8 = (if ((mI M a0 14 ≤ 0) ∨ (mI (mUI M a0 14 ((mI M a0 14) - 1)) (mR M a0 13) (Int.toNat ((mI M a0 14) - 1)) = 0)) then 0 else 1) → ∀ M9 : mM, M9 = (if (mI M a0 14 ≤ 0) then M else (mUI M a0 14 ((mI M a0 14) - 1))) → mOk M9 ∧ Q v8 M9) :
    Ci G y_RR_popKind d [vr a0] M Q := by
  refine wm_open (y := y_RR_popKind) rfl (Nat.le_of_ble_eq_true rfl) (L := [vr a0]) rfl ?_
  obtain ⟨h1, h⟩ := h
  refine wm_aload_n d_RR_popKind_0 rfl rfl ?_
  refine gf_RR_90 rfl d_RR_popKind_1 h1 ?_
  obtain ⟨s10, h⟩ := h
  have hJ : ∀ v8 : Int, v8 = (if ((mI M a0 14 ≤ 0) ∨ (mI (mUI M a0 14 ((mI M a0 14) - 1)) (mR M a0 13) (Int.toNat ((mI M a0 14) - 1)) = 0)) then 0 else 1) → ∀ M9 : mM, M9 = (if (mI M a0 14 ≤ 0) then M else (mUI M a0 14 ((mI M a0 14) - 1))) → mWm G y_RR_popKind d 31 [vd] [vi v8] M9 (fun r9 M9 => ∃ x9, r9 = some (vi x9) ∧ Q x9 M9) := by
    intro v8 e11
    intro M9 e12
    have h := h v8 e11 M9 e12
    have h13 : i32 v8 := by rw [e11]; (repeat' split) <;> first | exact ⟨by decide, by decide⟩ | exact ⟨by decide, by decide⟩
    have h14 : (v8 = 0 ∨ v8 = 1) := by rw [e11]; (repeat' split) <;> decide
    have h15 : mK M9 = mK M := by rw [e12]; (repeat' split) <;> rfl
    obtain ⟨hOM9, h⟩ := h
    refine wm_ireturn d_RR_popKind_31 rfl (m_nb h14) ?_
    exact ⟨_, rfl, h⟩
  clear h
  have s16 := s10
  refine wm_if_le (tgt := 30) d_RR_popKind_4 rfl (hO _ _).1 (fun c2 => ?_) (fun c2 => ?_)
  · refine wm_iconst d_RR_popKind_30 ?_
    refine wm_less (L' := [vd]) ⟨Or.inl rfl, trivial⟩ ?_
    exact hJ 0 (if_pos (Or.inl c2)).symm M (if_pos c2).symm
  · have s16 := s16 c2
    obtain ⟨h3, h4, h5, h6⟩ := s16
    refine wm_aload_n d_RR_popKind_7 rfl rfl ?_
    refine gf_RR_24 rfl d_RR_popKind_8 h1 ?_
    refine wm_aload_n d_RR_popKind_11 rfl rfl ?_
    refine wm_dup d_RR_popKind_12 rfl ?_
    refine gf_RR_90 rfl d_RR_popKind_13 h1 ?_
    refine wm_iconst d_RR_popKind_16 ?_
    refine wm_isub d_RR_popKind_17 ?_
    refine wm_dup_x1 d_RR_popKind_18 rfl rfl ?_
    refine pf_RR_90 rfl d_RR_popKind_19 h1 h3 rfl ?_
    refine wm_zald d_RR_popKind_22 h4 h5 ?_
    refine wm_if_eq (tgt := 30) d_RR_popKind_23 rfl h6 (fun c7 => ?_) (fun c7 => ?_)
    · refine wm_iconst d_RR_popKind_30 ?_
      refine wm_less (L' := [vd]) ⟨Or.inl rfl, trivial⟩ ?_
      exact hJ 0 (if_pos (Or.inr c7)).symm (mUI M a0 14 ((mI M a0 14) - 1)) (if_neg c2).symm
    · refine wm_iconst d_RR_popKind_26 ?_
      refine wm_goto (tgt := 31) d_RR_popKind_27 rfl ?_
      refine wm_less (L' := [vd]) ⟨Or.inl rfl, trivial⟩ ?_
      exact hJ 1 (if_neg (fun z18 => Or.elim z18 c2 c7)).symm (mUI M a0 14 ((mI M a0 14) - 1)) (if_neg c2).symm
theorem d_RR_takeLevel_0 : decode y_RR_takeLevel.2.1 0 = .ok (.aload_n 0, 1) := by decide +kernel
theorem d_RR_takeLevel_1 : decode y_RR_takeLevel.2.1 1 = .ok (.getfield 58, 3) := by decide +kernel
theorem d_RR_takeLevel_4 : decode y_RR_takeLevel.2.1 4 = .ok (.bipush 40, 2) := by decide +kernel
theorem d_RR_takeLevel_6 : decode y_RR_takeLevel.2.1 6 = .ok (.if_icmp .lt 5, 3) := by decide +kernel
theorem d_RR_takeLevel_11 : decode y_RR_takeLevel.2.1 11 = .ok (.aload_n 0, 1) := by decide +kernel
theorem d_RR_takeLevel_12 : decode y_RR_takeLevel.2.1 12 = .ok (.dup, 1) := by decide +kernel
theorem d_RR_takeLevel_13 : decode y_RR_takeLevel.2.1 13 = .ok (.getfield 58, 3) := by decide +kernel
theorem d_RR_takeLevel_16 : decode y_RR_takeLevel.2.1 16 = .ok (.iconst 1, 1) := by decide +kernel
theorem d_RR_takeLevel_17 : decode y_RR_takeLevel.2.1 17 = .ok (.iadd, 1) := by decide +kernel
theorem d_RR_takeLevel_18 : decode y_RR_takeLevel.2.1 18 = .ok (.putfield 58, 3) := by decide +kernel
theorem d_RR_takeLevel_21 : decode y_RR_takeLevel.2.1 21 = .ok (.aload_n 0, 1) := by decide +kernel
theorem d_RR_takeLevel_22 : decode y_RR_takeLevel.2.1 22 = .ok (.iload_n 1, 1) := by decide +kernel
theorem d_RR_takeLevel_23 : decode y_RR_takeLevel.2.1 23 = .ok (.iload_n 2, 1) := by decide +kernel
theorem d_RR_takeLevel_24 : decode y_RR_takeLevel.2.1 24 = .ok (.iconst (-1), 1) := by decide +kernel
theorem d_RR_takeLevel_9 : decode y_RR_takeLevel.2.1 9 = .ok (.iconst 2, 1) := by decide +kernel
theorem d_RR_takeLevel_10 : decode y_RR_takeLevel.2.1 10 = .ok (.ireturn, 1) := by decide +kernel
theorem d_RR_takeLevel_25 : decode y_RR_takeLevel.2.1 25 = .ok (.invokevirtual 144, 3) := by decide +kernel
theorem d_RR_takeLevel_28 : decode y_RR_takeLevel.2.1 28 = .ok (.iconst 0, 1) := by decide +kernel
theorem d_RR_takeLevel_29 : decode y_RR_takeLevel.2.1 29 = .ok (.ireturn, 1) := by decide +kernel
theorem k_RR_takeLevel {G : mG} {d : Nat} {a0 : Nat} {l1 : Int} {l2 : Int} {M : mM} {Q : Int → mM → Prop} (hO : mOk M) (hi_l1 : i32 l1) (hi_l2 : i32 l2)
    (h : mK M a0 = 4 ∧ ((mI M a0 5 < 40) → (i32 ((mI M a0 5) + 1) ∧ ∀ M5, M5 = mUI M a0 5 ((mI M a0 5) + 1) → Cv G y_RR_push d [vr a0, vi l1, vi l2, vi (-1)] M5 (fun M7 => mOk M7 ∧ (Q 0 M7)))) ∧ (¬ (mI M a0 5 < 40) → (Q 2 M))) :
    Ci G y_RR_takeLevel (d + 1) [vr a0, vi l1, vi l2] M Q := by
  refine wm_open (y := y_RR_takeLevel) rfl (Nat.le_of_ble_eq_true rfl) (L := [vr a0, vi l1, vi l2]) rfl ?_
  obtain ⟨h1, h⟩ := h
  refine wm_aload_n d_RR_takeLevel_0 rfl rfl ?_
  refine gf_RR_58 rfl d_RR_takeLevel_1 h1 ?_
  refine wm_bipush d_RR_takeLevel_4 (by decide) ?_
  refine wm_icmp_lt (tgt := 11) d_RR_takeLevel_6 rfl (hO _ _).1 ⟨by decide, by decide⟩ (fun c3 => ?_) (fun c3 => ?_)
  · replace h := h.1 c3
    obtain ⟨h4, h⟩ := h
    obtain ⟨M5, e6⟩ : ∃ M5, M5 = mUI M a0 5 ((mI M a0 5) + 1) := ⟨_, rfl⟩
    replace h := h M5 e6
    refine wm_aload_n d_RR_takeLevel_11 rfl rfl ?_
    refine wm_dup d_RR_takeLevel_12 rfl ?_
    refine gf_RR_58 rfl d_RR_takeLevel_13 h1 ?_
    refine wm_iconst d_RR_takeLevel_16 ?_
    refine wm_iadd d_RR_takeLevel_17 ?_
    have hOM5 : mOk M5 := by rw [e6]; exact mOk_UI hO h4
    refine pf_RR_58 rfl d_RR_takeLevel_18 h1 h4 e6 ?_
    refine wm_aload_n d_RR_takeLevel_21 rfl rfl ?_
    refine wm_iload_n d_RR_takeLevel_22 rfl rfl ?_
    refine wm_iload_n d_RR_takeLevel_23 rfl rfl ?_
    refine wm_iconst d_RR_takeLevel_24 ?_
    refine cf_RR_144 rfl d_RR_takeLevel_25 (by rw [e6]; exact h1) (Nat.le_of_ble_eq_true rfl) (Cv.mono h (fun M7 h => ?_))
    obtain ⟨hOM7, h⟩ := h
    refine wm_iconst d_RR_takeLevel_28 ?_
    refine wm_ireturn d_RR_takeLevel_29 rfl rfl ?_
    exact ⟨_, rfl, h⟩
  · replace h := h.2 c3
    refine wm_iconst d_RR_takeLevel_9 ?_
    refine wm_ireturn d_RR_takeLevel_10 rfl rfl ?_
    exact ⟨_, rfl, h⟩
theorem d_RR_push_0 : decode y_RR_push.2.1 0 = .ok (.aload_n 0, 1) := by decide +kernel
theorem d_RR_push_1 : decode y_RR_push.2.1 1 = .ok (.getfield 87, 3) := by decide +kernel
theorem d_RR_push_4 : decode y_RR_push.2.1 4 = .ok (.sipush 336, 3) := by decide +kernel
theorem d_RR_push_7 : decode y_RR_push.2.1 7 = .ok (.if_icmp .ge 53, 3) := by decide +kernel
theorem d_RR_push_10 : decode y_RR_push.2.1 10 = .ok (.aload_n 0, 1) := by decide +kernel
theorem d_RR_push_11 : decode y_RR_push.2.1 11 = .ok (.getfield 11, 3) := by decide +kernel
theorem d_RR_push_14 : decode y_RR_push.2.1 14 = .ok (.aload_n 0, 1) := by decide +kernel
theorem d_RR_push_15 : decode y_RR_push.2.1 15 = .ok (.getfield 87, 3) := by decide +kernel
theorem d_RR_push_18 : decode y_RR_push.2.1 18 = .ok (.iload_n 1, 1) := by decide +kernel
theorem d_RR_push_19 : decode y_RR_push.2.1 19 = .ok (.iastore, 1) := by decide +kernel
theorem d_RR_push_20 : decode y_RR_push.2.1 20 = .ok (.aload_n 0, 1) := by decide +kernel
theorem d_RR_push_21 : decode y_RR_push.2.1 21 = .ok (.getfield 15, 3) := by decide +kernel
theorem d_RR_push_24 : decode y_RR_push.2.1 24 = .ok (.aload_n 0, 1) := by decide +kernel
theorem d_RR_push_25 : decode y_RR_push.2.1 25 = .ok (.getfield 87, 3) := by decide +kernel
theorem d_RR_push_28 : decode y_RR_push.2.1 28 = .ok (.iload_n 2, 1) := by decide +kernel
theorem d_RR_push_29 : decode y_RR_push.2.1 29 = .ok (.iastore, 1) := by decide +kernel
theorem d_RR_push_60 : decode y_RR_push.2.1 60 = .ok (.aload_n 0, 1) := by decide +kernel
theorem d_RR_push_61 : decode y_RR_push.2.1 61 = .ok (.iconst 1, 1) := by decide +kernel
theorem d_RR_push_62 : decode y_RR_push.2.1 62 = .ok (.putfield 93, 3) := by decide +kernel
theorem d_RR_push_65 : decode y_RR_push.2.1 65 = .ok (.aload_n 0, 1) := by decide +kernel
theorem d_RR_push_66 : decode y_RR_push.2.1 66 = .ok (.dup, 1) := by decide +kernel
theorem d_RR_push_67 : decode y_RR_push.2.1 67 = .ok (.getfield 48, 3) := by decide +kernel
theorem d_RR_push_70 : decode y_RR_push.2.1 70 = .ok (.iconst 1, 1) := by decide +kernel
theorem d_RR_push_71 : decode y_RR_push.2.1 71 = .ok (.iadd, 1) := by decide +kernel
theorem d_RR_push_72 : decode y_RR_push.2.1 72 = .ok (.putfield 48, 3) := by decide +kernel
theorem d_RR_push_75 : decode y_RR_push.2.1 75 = .ok (.return_, 1) := by decide +kernel
theorem d_RR_push_30 : decode y_RR_push.2.1 30 = .ok (.aload_n 0, 1) := by decide +kernel
theorem d_RR_push_31 : decode y_RR_push.2.1 31 = .ok (.getfield 18, 3) := by decide +kernel
theorem d_RR_push_34 : decode y_RR_push.2.1 34 = .ok (.aload_n 0, 1) := by decide +kernel
theorem d_RR_push_35 : decode y_RR_push.2.1 35 = .ok (.getfield 87, 3) := by decide +kernel
theorem d_RR_push_38 : decode y_RR_push.2.1 38 = .ok (.iload_n 3, 1) := by decide +kernel
theorem d_RR_push_39 : decode y_RR_push.2.1 39 = .ok (.iastore, 1) := by decide +kernel
theorem d_RR_push_40 : decode y_RR_push.2.1 40 = .ok (.aload_n 0, 1) := by decide +kernel
theorem d_RR_push_41 : decode y_RR_push.2.1 41 = .ok (.getfield 21, 3) := by decide +kernel
theorem d_RR_push_44 : decode y_RR_push.2.1 44 = .ok (.aload_n 0, 1) := by decide +kernel
theorem d_RR_push_45 : decode y_RR_push.2.1 45 = .ok (.getfield 87, 3) := by decide +kernel
theorem d_RR_push_48 : decode y_RR_push.2.1 48 = .ok (.iconst 0, 1) := by decide +kernel
theorem d_RR_push_49 : decode y_RR_push.2.1 49 = .ok (.iastore, 1) := by decide +kernel
theorem d_RR_push_50 : decode y_RR_push.2.1 50 = .ok (.aload_n 0, 1) := by decide +kernel
theorem d_RR_push_51 : decode y_RR_push.2.1 51 = .ok (.dup, 1) := by decide +kernel
theorem d_RR_push_52 : decode y_RR_push.2.1 52 = .ok (.getfield 87, 3) := by decide +kernel
theorem d_RR_push_55 : decode y_RR_push.2.1 55 = .ok (.iconst 1, 1) := by decide +kernel
theorem d_RR_push_56 : decode y_RR_push.2.1 56 = .ok (.iadd, 1) := by decide +kernel
theorem d_RR_push_57 : decode y_RR_push.2.1 57 = .ok (.putfield 87, 3) := by decide +kernel
theorem k_RR_push {G : mG} {d : Nat} {a0 : Nat} {l1 : Int} {l2 : Int} {l3 : Int} {M : mM} {Q : mM → Prop} (hO : mOk M) (hi_l1 : i32 l1) (hi_l2 : i32 l2) (hi_l3 : i32 l3)
    (h : mK M a0 = 4 ∧ ((336 ≤ mI M a0 12) → (∀ M9, M9 = mUI M a0 7 1 → i32 ((mI M9 a0 2) + 1) ∧ ∀ M12, M12 = mUI M9 a0 2 ((mI M9 a0 2) + 1) → Q M12)) ∧ (¬ (336 ≤ mI M a0 12) → (mK M (mR M a0 8) = 30 ∧ ((0 : Int) ≤ mI M a0 12 ∧ mI M a0 12 < (mN M (mR M a0 8) : Int)) ∧ ∀ M16, M16 = mUI M (mR M a0 8) (Int.toNat (mI M a0 12)) l1 → mK M16 (mR M16 a0 9) = 30 ∧ ((0 : Int) ≤ mI M16 a0 12 ∧ mI M16 a0 12 < (mN M16 (mR M16 a0 9) : Int)) ∧ ∀ M20, M20 = mUI M16 (mR M16 a0 9) (Int.toNat (mI M16 a0 12)) l2 → mK M20 (mR M20 a0 10) = 30 ∧ ((0 : Int) ≤ mI M20 a0 12 ∧ mI M20 a0 12 < (mN M20 (mR M20 a0 10) : Int)) ∧ ∀ M24, M24 = mUI M20 (mR M20 a0 10) (Int.toNat (mI M20 a0 12)) l3 → mK M24 (mR M24 a0 11) = 30 ∧ ((0 : Int) ≤ mI M24 a0 12 ∧ mI M24 a0 12 < (mN M24 (mR M24 a0 11) : Int)) ∧ ∀ M28, M28 = mUI M24 (mR M24 a0 11) (Int.toNat (mI M24 a0 12)) 0 → i32 ((mI M28 a0 12) + 1) ∧ ∀ M31, M31 = mUI M28 a0 12 ((mI M28 a0 12) + 1) → ∀ M33, M33 = mUI M31 a0 7 1 → i32 ((mI M33 a0 2) + 1) ∧ ∀ M36, M36 = mUI M33 a0 2 ((mI M33 a0 2) + 1) → Q M36))) :
    Cv G y_RR_push d [vr a0, vi l1, vi l2, vi l3] M Q := by
  refine wm_open (y := y_RR_push) rfl (Nat.le_of_ble_eq_true rfl) (L := [vr a0, vi l1, vi l2, vi l3]) rfl ?_
  obtain ⟨h1, h⟩ := h
  refine wm_aload_n d_RR_push_0 rfl rfl ?_
  refine gf_RR_87 rfl d_RR_push_1 h1 ?_
  refine wm_sipush d_RR_push_4 (by decide) ?_
  refine wm_icmp_ge (tgt := 60) d_RR_push_7 rfl (hO _ _).1 ⟨by decide, by decide⟩ (fun c8 => ?_) (fun c8 => ?_)
  · replace h := h.1 c8
    obtain ⟨M9, e10⟩ : ∃ M9, M9 = mUI M a0 7 1 := ⟨_, rfl⟩
    replace h := h M9 e10
    obtain ⟨h11, h⟩ := h
    obtain ⟨M12, e13⟩ : ∃ M12, M12 = mUI M9 a0 2 ((mI M9 a0 2) + 1) := ⟨_, rfl⟩
    replace h := h M12 e13
    refine wm_aload_n d_RR_push_60 rfl rfl ?_
    refine wm_iconst d_RR_push_61 ?_
    have hOM9 : mOk M9 := by rw [e10]; exact mOk_UI hO (m_b32 (by decide))
    refine pf_RR_93 rfl d_RR_push_62 h1 (by decide) e10 ?_
    refine wm_aload_n d_RR_push_65 rfl rfl ?_
    refine wm_dup d_RR_push_66 rfl ?_
    refine gf_RR_48 rfl d_RR_push_67 (by rw [e10]; exact h1) ?_
    refine wm_iconst d_RR_push_70 ?_
    refine wm_iadd d_RR_push_71 ?_
    have hOM12 : mOk M12 := by rw [e13]; exact mOk_UI hOM9 h11
    refine pf_RR_48 rfl d_RR_push_72 (by rw [e10]; exact h1) h11 e13 ?_
    refine wm_return d_RR_push_75 rfl ?_
    exact ⟨rfl, h⟩
  · replace h := h.2 c8
    obtain ⟨h14, h⟩ := h
    obtain ⟨h15, h⟩ := h
    obtain ⟨M16, e17⟩ : ∃ M16, M16 = mUI M (mR M a0 8) (Int.toNat (mI M a0 12)) l1 := ⟨_, rfl⟩
    replace h := h M16 e17
    obtain ⟨h18, h⟩ := h
    obtain ⟨h19, h⟩ := h
    obtain ⟨M20, e21⟩ : ∃ M20, M20 = mUI M16 (mR M16 a0 9) (Int.toNat (mI M16 a0 12)) l2 := ⟨_, rfl⟩
    replace h := h M20 e21
    obtain ⟨h22, h⟩ := h
    obtain ⟨h23, h⟩ := h
    obtain ⟨M24, e25⟩ : ∃ M24, M24 = mUI M20 (mR M20 a0 10) (Int.toNat (mI M20 a0 12)) l3 := ⟨_, rfl⟩
    replace h := h M24 e25
    obtain ⟨h26, h⟩ := h
    obtain ⟨h27, h⟩ := h
    obtain ⟨M28, e29⟩ : ∃ M28, M28 = mUI M24 (mR M24 a0 11) (Int.toNat (mI M24 a0 12)) 0 := ⟨_, rfl⟩
    replace h := h M28 e29
    obtain ⟨h30, h⟩ := h
    obtain ⟨M31, e32⟩ : ∃ M31, M31 = mUI M28 a0 12 ((mI M28 a0 12) + 1) := ⟨_, rfl⟩
    replace h := h M31 e32
    obtain ⟨M33, e34⟩ : ∃ M33, M33 = mUI M31 a0 7 1 := ⟨_, rfl⟩
    replace h := h M33 e34
    obtain ⟨h35, h⟩ := h
    obtain ⟨M36, e37⟩ : ∃ M36, M36 = mUI M33 a0 2 ((mI M33 a0 2) + 1) := ⟨_, rfl⟩
    replace h := h M36 e37
    refine wm_aload_n d_RR_push_10 rfl rfl ?_
    refine gf_RR_11 rfl d_RR_push_11 h1 ?_
    refine wm_aload_n d_RR_push_14 rfl rfl ?_
    refine gf_RR_87 rfl d_RR_push_15 h1 ?_
    refine wm_iload_n d_RR_push_18 rfl rfl ?_
    have hOM16 : mOk M16 := by rw [e17]; exact mOk_UI hO hi_l1
    refine wm_iastE d_RR_push_19 h14 h15 hi_l1 e17 ?_
    refine wm_aload_n d_RR_push_20 rfl rfl ?_
    refine gf_RR_15 rfl d_RR_push_21 (by rw [e17]; exact h1) ?_
    refine wm_aload_n d_RR_push_24 rfl rfl ?_
    refine gf_RR_87 rfl d_RR_push_25 (by rw [e17]; exact h1) ?_
    refine wm_iload_n d_RR_push_28 rfl rfl ?_
    have hOM20 : mOk M20 := by rw [e21]; exact mOk_UI hOM16 hi_l2
    refine wm_iastE d_RR_push_29 h18 h19 hi_l2 e21 ?_
    refine wm_aload_n d_RR_push_30 rfl rfl ?_
    refine gf_RR_18 rfl d_RR_push_31 (by rw [e21, e17]; exact h1) ?_
    refine wm_aload_n d_RR_push_34 rfl rfl ?_
    refine gf_RR_87 rfl d_RR_push_35 (by rw [e21, e17]; exact h1) ?_
    refine wm_iload_n d_RR_push_38 rfl rfl ?_
    have hOM24 : mOk M24 := by rw [e25]; exact mOk_UI hOM20 hi_l3
    refine wm_iastE d_RR_push_39 h22 h23 hi_l3 e25 ?_
    refine wm_aload_n d_RR_push_40 rfl rfl ?_
    refine gf_RR_21 rfl d_RR_push_41 (by rw [e25, e21, e17]; exact h1) ?_
    refine wm_aload_n d_RR_push_44 rfl rfl ?_
    refine gf_RR_87 rfl d_RR_push_45 (by rw [e25, e21, e17]; exact h1) ?_
    refine wm_iconst d_RR_push_48 ?_
    have hOM28 : mOk M28 := by rw [e29]; exact mOk_UI hOM24 ⟨by decide, by decide⟩
    refine wm_iastE d_RR_push_49 h26 h27 ⟨by decide, by decide⟩ e29 ?_
    refine wm_aload_n d_RR_push_50 rfl rfl ?_
    refine wm_dup d_RR_push_51 rfl ?_
    refine gf_RR_87 rfl d_RR_push_52 (by rw [e29, e25, e21, e17]; exact h1) ?_
    refine wm_iconst d_RR_push_55 ?_
    refine wm_iadd d_RR_push_56 ?_
    have hOM31 : mOk M31 := by rw [e32]; exact mOk_UI hOM28 h30
    refine pf_RR_87 rfl d_RR_push_57 (by rw [e29, e25, e21, e17]; exact h1) h30 e32 ?_
    refine wm_aload_n d_RR_push_60 rfl rfl ?_
    refine wm_iconst d_RR_push_61 ?_
    have hOM33 : mOk M33 := by rw [e34]; exact mOk_UI hOM31 (m_b32 (by decide))
    refine pf_RR_93 rfl d_RR_push_62 (by rw [e32, e29, e25, e21, e17]; exact h1) (by decide) e34 ?_
    refine wm_aload_n d_RR_push_65 rfl rfl ?_
    refine wm_dup d_RR_push_66 rfl ?_
    refine gf_RR_48 rfl d_RR_push_67 (by rw [e34, e32, e29, e25, e21, e17]; exact h1) ?_
    refine wm_iconst d_RR_push_70 ?_
    refine wm_iadd d_RR_push_71 ?_
    have hOM36 : mOk M36 := by rw [e37]; exact mOk_UI hOM33 h35
    refine pf_RR_48 rfl d_RR_push_72 (by rw [e34, e32, e29, e25, e21, e17]; exact h1) h35 e37 ?_
    refine wm_return d_RR_push_75 rfl ?_
    exact ⟨rfl, h⟩
theorem d_RR_level_0 : decode y_RR_level.2.1 0 = .ok (.iload_n 0, 1) := by decide +kernel
theorem d_RR_level_1 : decode y_RR_level.2.1 1 = .ok (.tableswitch 120 19 41 #[113, 113, 113, 113, 113, 113, 115, 115, 117, 117, 117, 109, 107, 120, 120, 120, 120, 120, 120, 120, 120, 120, 111], 107) := by decide +kernel
theorem d_RR_level_114 : decode y_RR_level.2.1 114 = .ok (.iconst 4, 1) := by decide +kernel
theorem d_RR_level_115 : decode y_RR_level.2.1 115 = .ok (.ireturn, 1) := by decide +kernel
theorem d_RR_level_116 : decode y_RR_level.2.1 116 = .ok (.iconst 5, 1) := by decide +kernel
theorem d_RR_level_117 : decode y_RR_level.2.1 117 = .ok (.ireturn, 1) := by decide +kernel
theorem d_RR_level_118 : decode y_RR_level.2.1 118 = .ok (.bipush 6, 2) := by decide +kernel
theorem d_RR_level_120 : decode y_RR_level.2.1 120 = .ok (.ireturn, 1) := by decide +kernel
theorem d_RR_level_110 : decode y_RR_level.2.1 110 = .ok (.iconst 2, 1) := by decide +kernel
theorem d_RR_level_111 : decode y_RR_level.2.1 111 = .ok (.ireturn, 1) := by decide +kernel
theorem d_RR_level_108 : decode y_RR_level.2.1 108 = .ok (.iconst 1, 1) := by decide +kernel
theorem d_RR_level_109 : decode y_RR_level.2.1 109 = .ok (.ireturn, 1) := by decide +kernel
theorem d_RR_level_112 : decode y_RR_level.2.1 112 = .ok (.iconst 3, 1) := by decide +kernel
theorem d_RR_level_113 : decode y_RR_level.2.1 113 = .ok (.ireturn, 1) := by decide +kernel
theorem d_RR_level_121 : decode y_RR_level.2.1 121 = .ok (.iconst 0, 1) := by decide +kernel
theorem d_RR_level_122 : decode y_RR_level.2.1 122 = .ok (.ireturn, 1) := by decide +kernel
theorem k_RR_level {G : mG} {d : Nat} {l0 : Int} {M : mM} {Q : Int → mM → Prop} (hO : mOk M) (hi_l0 : i32 l0)
    (h : ((l0 = 19 ∨ l0 = 20 ∨ l0 = 21 ∨ l0 = 22 ∨ l0 = 23 ∨ l0 = 24) → (Q 4 M)) ∧ (¬ (l0 = 19 ∨ l0 = 20 ∨ l0 = 21 ∨ l0 = 22 ∨ l0 = 23 ∨ l0 = 24) → (((l0 = 25 ∨ l0 = 26) → (Q 5 M)) ∧ (¬ (l0 = 25 ∨ l0 = 26) → (((l0 = 27 ∨ l0 = 28 ∨ l0 = 29) → (Q 6 M)) ∧ (¬ (l0 = 27 ∨ l0 = 28 ∨ l0 = 29) → (((l0 = 30) → (Q 2 M)) ∧ (¬ (l0 = 30) → (((l0 = 31) → (Q 1 M)) ∧ (¬ (l0 = 31) → (((l0 = 41) → (Q 3 M)) ∧ (¬ (l0 = 41) → (Q 0 M))))))))))))) :
    Ci G y_RR_level d [vi l0] M Q := by
  refine wm_open (y := y_RR_level) rfl (Nat.le_of_ble_eq_true rfl) (L := [vi l0]) rfl ?_
  refine wm_iload_n d_RR_level_0 rfl rfl ?_
  by_cases c3 : l0 = 19 ∨ l0 = 20 ∨ l0 = 21 ∨ l0 = 22 ∨ l0 = 23 ∨ l0 = 24
  · replace h := h.1 c3
    refine wm_tableIn (tgt := 114) (off := 113) d_RR_level_1 hi_l0 (by omega) (by omega) (by rcases c3 with q9 | q9 | q9 | q9 | q9 | q9 <;> (rw [q9]; rfl)) rfl ?_
    refine wm_iconst d_RR_level_114 ?_
    refine wm_ireturn d_RR_level_115 rfl rfl ?_
    exact ⟨_, rfl, h⟩
  · replace h := h.2 c3
    by_cases c5 : l0 = 25 ∨ l0 = 26
    · replace h := h.1 c5
      refine wm_tableIn (tgt := 116) (off := 115) d_RR_level_1 hi_l0 (by omega) (by omega) (by rcases c5 with q9 | q9 <;> (rw [q9]; rfl)) rfl ?_
      refine wm_iconst d_RR_level_116 ?_
      refine wm_ireturn d_RR_level_117 rfl rfl ?_
      exact ⟨_, rfl, h⟩
    · replace h := h.2 c5
      by_cases c7 : l0 = 27 ∨ l0 = 28 ∨ l0 = 29
      · replace h := h.1 c7
        refine wm_tableIn (tgt := 118) (off := 117) d_RR_level_1 hi_l0 (by omega) (by omega) (by rcases c7 with q9 | q9 | q9 <;> (rw [q9]; rfl)) rfl ?_
        refine wm_bipush d_RR_level_118 (by decide) ?_
        refine wm_ireturn d_RR_level_120 rfl rfl ?_
        exact ⟨_, rfl, h⟩
      · replace h := h.2 c7
        by_cases c9 : l0 = 30
        · replace h := h.1 c9
          refine wm_tableIn (tgt := 110) (off := 109) d_RR_level_1 hi_l0 (by omega) (by omega) (by rw [c9]; rfl) rfl ?_
          refine wm_iconst d_RR_level_110 ?_
          refine wm_ireturn d_RR_level_111 rfl rfl ?_
          exact ⟨_, rfl, h⟩
        · replace h := h.2 c9
          by_cases c11 : l0 = 31
          · replace h := h.1 c11
            refine wm_tableIn (tgt := 108) (off := 107) d_RR_level_1 hi_l0 (by omega) (by omega) (by rw [c11]; rfl) rfl ?_
            refine wm_iconst d_RR_level_108 ?_
            refine wm_ireturn d_RR_level_109 rfl rfl ?_
            exact ⟨_, rfl, h⟩
          · replace h := h.2 c11
            by_cases c13 : l0 = 41
            · replace h := h.1 c13
              refine wm_tableIn (tgt := 112) (off := 111) d_RR_level_1 hi_l0 (by omega) (by omega) (by rw [c13]; rfl) rfl ?_
              refine wm_iconst d_RR_level_112 ?_
              refine wm_ireturn d_RR_level_113 rfl rfl ?_
              exact ⟨_, rfl, h⟩
            · replace h := h.2 c13
              refine wm_tableD (tgt := 121) (off := 120) d_RR_level_1 hi_l0 (if q8 : 19 ≤ l0 ∧ l0 ≤ 41 then Or.inr ⟨q8.1, q8.2, by
      have q9 : l0 = 32 ∨ l0 = 33 ∨ l0 = 34 ∨ l0 = 35 ∨ l0 = 36 ∨ l0 = 37 ∨ l0 = 38 ∨ l0 = 39 ∨ l0 = 40 := by omega
      rcases q9 with q9 | q9 | q9 | q9 | q9 | q9 | q9 | q9 | q9 <;> (rw [q9]; rfl)⟩ else Or.inl (by omega)) rfl ?_
              refine wm_iconst d_RR_level_121 ?_
              refine wm_ireturn d_RR_level_122 rfl rfl ?_
              exact ⟨_, rfl, h⟩
