theorem d_Fs_reserve_0 : decode y_Fs_reserve.2.1 0 = .ok (.iload_n 1, 1) := by decide +kernel
theorem d_Fs_reserve_1 : decode y_Fs_reserve.2.1 1 = .ok (.aload_n 0, 1) := by decide +kernel
theorem d_Fs_reserve_2 : decode y_Fs_reserve.2.1 2 = .ok (.getfield 11, 3) := by decide +kernel
theorem d_Fs_reserve_5 : decode y_Fs_reserve.2.1 5 = .ok (.arraylength, 1) := by decide +kernel
theorem d_Fs_reserve_6 : decode y_Fs_reserve.2.1 6 = .ok (.if_icmp .le 71, 3) := by decide +kernel
theorem d_Fs_reserve_9 : decode y_Fs_reserve.2.1 9 = .ok (.sipush 512, 3) := by decide +kernel
theorem d_Fs_reserve_12 : decode y_Fs_reserve.2.1 12 = .ok (.iload_n 1, 1) := by decide +kernel
theorem d_Fs_reserve_13 : decode y_Fs_reserve.2.1 13 = .ok (.iconst 2, 1) := by decide +kernel
theorem d_Fs_reserve_14 : decode y_Fs_reserve.2.1 14 = .ok (.aload_n 0, 1) := by decide +kernel
theorem d_Fs_reserve_15 : decode y_Fs_reserve.2.1 15 = .ok (.getfield 11, 3) := by decide +kernel
theorem d_Fs_reserve_18 : decode y_Fs_reserve.2.1 18 = .ok (.arraylength, 1) := by decide +kernel
theorem d_Fs_reserve_19 : decode y_Fs_reserve.2.1 19 = .ok (.imul, 1) := by decide +kernel
theorem d_Fs_reserve_20 : decode y_Fs_reserve.2.1 20 = .ok (.invokestatic 21, 3) := by decide +kernel
theorem d_Fs_reserve_23 : decode y_Fs_reserve.2.1 23 = .ok (.invokestatic 27, 3) := by decide +kernel
theorem d_Fs_reserve_77 : decode y_Fs_reserve.2.1 77 = .ok (.return_, 1) := by decide +kernel
theorem d_Fs_reserve_26 : decode y_Fs_reserve.2.1 26 = .ok (.anewarray 9, 3) := by decide +kernel
theorem d_Fs_reserve_29 : decode y_Fs_reserve.2.1 29 = .ok (.astore_n 2, 1) := by decide +kernel
theorem d_Fs_reserve_30 : decode y_Fs_reserve.2.1 30 = .ok (.iconst 0, 1) := by decide +kernel
theorem d_Fs_reserve_31 : decode y_Fs_reserve.2.1 31 = .ok (.istore_n 3, 1) := by decide +kernel
theorem d_Fs_reserve_32 : decode y_Fs_reserve.2.1 32 = .ok (.iload_n 3, 1) := by decide +kernel
theorem d_Fs_reserve_33 : decode y_Fs_reserve.2.1 33 = .ok (.aload_n 2, 1) := by decide +kernel
theorem d_Fs_reserve_34 : decode y_Fs_reserve.2.1 34 = .ok (.arraylength, 1) := by decide +kernel
theorem d_Fs_reserve_35 : decode y_Fs_reserve.2.1 35 = .ok (.if_icmp .ge 37, 3) := by decide +kernel
theorem d_Fs_reserve_72 : decode y_Fs_reserve.2.1 72 = .ok (.aload_n 0, 1) := by decide +kernel
theorem d_Fs_reserve_73 : decode y_Fs_reserve.2.1 73 = .ok (.aload_n 2, 1) := by decide +kernel
theorem d_Fs_reserve_74 : decode y_Fs_reserve.2.1 74 = .ok (.putfield 11, 3) := by decide +kernel
theorem d_Fs_reserve_38 : decode y_Fs_reserve.2.1 38 = .ok (.aload_n 2, 1) := by decide +kernel
theorem d_Fs_reserve_39 : decode y_Fs_reserve.2.1 39 = .ok (.iload_n 3, 1) := by decide +kernel
theorem d_Fs_reserve_40 : decode y_Fs_reserve.2.1 40 = .ok (.iload_n 3, 1) := by decide +kernel
theorem d_Fs_reserve_41 : decode y_Fs_reserve.2.1 41 = .ok (.aload_n 0, 1) := by decide +kernel
theorem d_Fs_reserve_42 : decode y_Fs_reserve.2.1 42 = .ok (.getfield 11, 3) := by decide +kernel
theorem d_Fs_reserve_45 : decode y_Fs_reserve.2.1 45 = .ok (.arraylength, 1) := by decide +kernel
theorem d_Fs_reserve_46 : decode y_Fs_reserve.2.1 46 = .ok (.if_icmp .ge 12, 3) := by decide +kernel
theorem d_Fs_reserve_49 : decode y_Fs_reserve.2.1 49 = .ok (.aload_n 0, 1) := by decide +kernel
theorem d_Fs_reserve_50 : decode y_Fs_reserve.2.1 50 = .ok (.getfield 11, 3) := by decide +kernel
theorem d_Fs_reserve_53 : decode y_Fs_reserve.2.1 53 = .ok (.iload_n 3, 1) := by decide +kernel
theorem d_Fs_reserve_54 : decode y_Fs_reserve.2.1 54 = .ok (.aaload, 1) := by decide +kernel
theorem d_Fs_reserve_55 : decode y_Fs_reserve.2.1 55 = .ok (.goto 10, 3) := by decide +kernel
theorem d_Fs_reserve_65 : decode y_Fs_reserve.2.1 65 = .ok (.aastore, 1) := by decide +kernel
theorem d_Fs_reserve_66 : decode y_Fs_reserve.2.1 66 = .ok (.iinc 3 1, 3) := by decide +kernel
theorem d_Fs_reserve_69 : decode y_Fs_reserve.2.1 69 = .ok (.goto (-37), 3) := by decide +kernel
theorem d_Fs_reserve_58 : decode y_Fs_reserve.2.1 58 = .ok (.new 9, 3) := by decide +kernel
theorem d_Fs_reserve_61 : decode y_Fs_reserve.2.1 61 = .ok (.dup, 1) := by decide +kernel
theorem d_Fs_reserve_62 : decode y_Fs_reserve.2.1 62 = .ok (.invokespecial 30, 3) := by decide +kernel
def h_Fs_reserve_32 (G : mG) (d : Nat) (a0 : Nat) (a2 : Nat) (l3 : Int) (M : mM) (Q : mM → Prop) : Prop := mWm G y_Fs_reserve (d + 1) 32 [vr a0, vd, vr a2, vi l3] [] M (fun r9 M9 => r9 = none ∧ Q M9)
theorem k_Fs_reserve {G : mG} {d : Nat} {a0 : Nat} {l1 : Int} {M : mM} {Q : mM → Prop} (hO : mOk M) (hi_l1 : i32 l1)
    (h : mK M a0 = 13 ∧ mK M (mR M a0 0) = 35 ∧ i32 (mN M (mR M a0 0) : Int) ∧ ((l1 ≤ (mN M (mR M a0 0) : Int)) → (Q M)) ∧ (¬ (l1 ≤ (mN M (mR M a0 0) : Int)) → (i32 (2 * (mN M (mR M a0 0) : Int)) ∧ ((0 : Int) ≤ (if (if l1 < 2 * (mN M (mR M a0 0) : Int) then 2 * (mN M (mR M a0 0) : Int) else l1) < 512 then (if l1 < 2 * (mN M (mR M a0 0) : Int) then 2 * (mN M (mR M a0 0) : Int) else l1) else 512) ∧ (if (if l1 < 2 * (mN M (mR M a0 0) : Int) then 2 * (mN M (mR M a0 0) : Int) else l1) < 512 then (if l1 < 2 * (mN M (mR M a0 0) : Int) then 2 * (mN M (mR M a0 0) : Int) else l1) else 512) ≤ 16777216) ∧ ∀ M9, M9 = mNew M 35 (Int.toNat (if (if l1 < 2 * (mN M (mR M a0 0) : Int) then 2 * (mN M (mR M a0 0) : Int) else l1) < 512 then (if l1 < 2 * (mN M (mR M a0 0) : Int) then 2 * (mN M (mR M a0 0) : Int) else l1) else 512)) (Int.toNat (if (if l1 < 2 * (mN M (mR M a0 0) : Int) then 2 * (mN M (mR M a0 0) : Int) else l1) < 512 then (if l1 < 2 * (mN M (mR M a0 0) : Int) then 2 * (mN M (mR M a0 0) : Int) else l1) else 512)) → h_Fs_reserve_32 G d a0 (mZ M) 0 M9 Q))) :
    Cv G y_Fs_reserve (d + 1) [vr a0, vi l1] M Q := by
  refine wm_open (y := y_Fs_reserve) rfl (Nat.le_of_ble_eq_true rfl) (L := [vr a0, vi l1, vd, vd]) rfl ?_
  obtain ⟨h1, h⟩ := h
  obtain ⟨h2, h⟩ := h
  obtain ⟨h5, h⟩ := h
  refine wm_iload_n d_Fs_reserve_0 rfl rfl ?_
  refine wm_aload_n d_Fs_reserve_1 rfl rfl ?_
  refine gf_Fs_11 rfl d_Fs_reserve_2 h1 ?_
  refine wm_alen 5 rfl (fun _ => rfl) d_Fs_reserve_5 h2 ?_
  refine wm_icmp_le (tgt := 77) d_Fs_reserve_6 rfl hi_l1 h5 (fun c6 => ?_) (fun c6 => ?_)
  · replace h := h.1 c6
    refine wm_return d_Fs_reserve_77 rfl ?_
    exact ⟨rfl, h⟩
  · replace h := h.2 c6
    obtain ⟨h7, h⟩ := h
    obtain ⟨h8, h⟩ := h
    obtain ⟨M9, e10⟩ : ∃ M9, M9 = mNew M 35 (Int.toNat (if (if l1 < 2 * (mN M (mR M a0 0) : Int) then 2 * (mN M (mR M a0 0) : Int) else l1) < 512 then (if l1 < 2 * (mN M (mR M a0 0) : Int) then 2 * (mN M (mR M a0 0) : Int) else l1) else 512)) (Int.toNat (if (if l1 < 2 * (mN M (mR M a0 0) : Int) then 2 * (mN M (mR M a0 0) : Int) else l1) < 512 then (if l1 < 2 * (mN M (mR M a0 0) : Int) then 2 * (mN M (mR M a0 0) : Int) else l1) else 512)) := ⟨_, rfl⟩
    replace h := h M9 e10
    refine wm_sipush d_Fs_reserve_9 (by decide) ?_
    refine wm_iload_n d_Fs_reserve_12 rfl rfl ?_
    refine wm_iconst d_Fs_reserve_13 ?_
    refine wm_aload_n d_Fs_reserve_14 rfl rfl ?_
    refine gf_Fs_11 rfl d_Fs_reserve_15 h1 ?_
    refine wm_alen 5 rfl (fun _ => rfl) d_Fs_reserve_18 h2 ?_
    refine wm_imul d_Fs_reserve_19 ?_
    refine wm_mmax k8_104 (Nat.le_of_ble_eq_true rfl) hi_l1 h7 d_Fs_reserve_20 ?_
    refine wm_mmin k8_105 (Nat.le_of_ble_eq_true rfl) ⟨by decide, by decide⟩ (m_ite32 h7 hi_l1) d_Fs_reserve_23 ?_
    have hOM9 : mOk M9 := by rw [e10]; exact mOk_New hO
    refine wm_anewE 5 rfl (fun _ => rfl) k3_169 k3_170 h8 d_Fs_reserve_26 e10 ?_
    refine wm_astore_n d_Fs_reserve_29 rfl (by decide) (L' := [vr a0, vi l1, vr (mZ M), vd]) rfl ?_
    refine wm_iconst d_Fs_reserve_30 ?_
    refine wm_istore_n d_Fs_reserve_31 rfl (by decide) (L' := [vr a0, vi l1, vr (mZ M), vi 0]) rfl ?_
    refine wm_less (L' := [vr a0, vd, vr (mZ M), vi 0]) ⟨Or.inr rfl, Or.inl rfl, Or.inr rfl, Or.inr rfl, trivial⟩ ?_
    exact h
theorem k_Fs_reserve_32 {G : mG} {d : Nat} {a0 : Nat} {a2 : Nat} {l3 : Int} {M : mM} {Q : mM → Prop} (hO : mOk M) (hi_l3 : i32 l3)
    (h : mK M a2 = 35 ∧ i32 (mN M a2 : Int) ∧ (((mN M a2 : Int) ≤ l3) → (mK M a0 = 13 ∧ ∀ M20, M20 = mUR M a0 0 a2 → Q M20)) ∧ (¬ ((mN M a2 : Int) ≤ l3) → (mK M a0 = 13 ∧ mK M (mR M a0 0) = 35 ∧ i32 (mN M (mR M a0 0) : Int) ∧ (((mN M (mR M a0 0) : Int) ≤ l3) → (∀ M33, M33 = mNew M 11 0 3 → Cv G y_Fr_init d [vr (mZ M)] M33 (fun M35 => mOk M35 ∧ (mK M35 a2 = 35 ∧ ((0 : Int) ≤ l3 ∧ l3 < (mN M35 a2 : Int)) ∧ mK M35 (mZ M) = 11 ∧ ∀ M41, M41 = mUR M35 a2 (Int.toNat l3) (mZ M) → h_Fs_reserve_32 G d a0 a2 (l3 + 1) M41 Q)))) ∧ (¬ ((mN M (mR M a0 0) : Int) ≤ l3) → (((0 : Int) ≤ l3 ∧ l3 < (mN M (mR M a0 0) : Int)) ∧ ((0 : Int) ≤ l3 ∧ l3 < (mN M a2 : Int)) ∧ mK M (mR M (mR M a0 0) (Int.toNat l3)) = 11 ∧ ∀ M46, M46 = mUR M a2 (Int.toNat l3) (mR M (mR M a0 0) (Int.toNat l3)) → h_Fs_reserve_32 G d a0 a2 (l3 + 1) M46 Q))))) :
    h_Fs_reserve_32 G d a0 a2 l3 M Q := by
  unfold h_Fs_reserve_32
  obtain ⟨h11, h⟩ := h
  obtain ⟨h17, h⟩ := h
  refine wm_iload_n d_Fs_reserve_32 rfl rfl ?_
  refine wm_aload_n d_Fs_reserve_33 rfl rfl ?_
  refine wm_alen 5 rfl (fun _ => rfl) d_Fs_reserve_34 h11 ?_
  refine wm_icmp_ge (tgt := 72) d_Fs_reserve_35 rfl hi_l3 h17 (fun c18 => ?_) (fun c18 => ?_)
  · replace h := h.1 c18
    obtain ⟨h19, h⟩ := h
    obtain ⟨M20, e21⟩ : ∃ M20, M20 = mUR M a0 0 a2 := ⟨_, rfl⟩
    replace h := h M20 e21
    refine wm_aload_n d_Fs_reserve_72 rfl rfl ?_
    refine wm_aload_n d_Fs_reserve_73 rfl rfl ?_
    have hOM20 : mOk M20 := by rw [e21]; exact mOk_UR hO
    refine pf_Fs_11 rfl d_Fs_reserve_74 h19 e21 ?_
    refine wm_return d_Fs_reserve_77 rfl ?_
    exact ⟨rfl, h⟩
  · replace h := h.2 c18
    obtain ⟨h22, h⟩ := h
    obtain ⟨h23, h⟩ := h
    obtain ⟨h31, h⟩ := h
    refine wm_aload_n d_Fs_reserve_38 rfl rfl ?_
    refine wm_iload_n d_Fs_reserve_39 rfl rfl ?_
    refine wm_iload_n d_Fs_reserve_40 rfl rfl ?_
    refine wm_aload_n d_Fs_reserve_41 rfl rfl ?_
    refine gf_Fs_11 rfl d_Fs_reserve_42 h22 ?_
    refine wm_alen 5 rfl (fun _ => rfl) d_Fs_reserve_45 h23 ?_
    refine wm_icmp_ge (tgt := 58) d_Fs_reserve_46 rfl hi_l3 h31 (fun c32 => ?_) (fun c32 => ?_)
    · replace h := h.1 c32
      obtain ⟨M33, e34⟩ : ∃ M33, M33 = mNew M 11 0 3 := ⟨_, rfl⟩
      replace h := h M33 e34
      have hOM33 : mOk M33 := by rw [e34]; exact mOk_New hO
      refine nf_Fs_9 rfl d_Fs_reserve_58 e34 ?_
      refine wm_dup d_Fs_reserve_61 rfl ?_
      refine cf_Fs_30 rfl d_Fs_reserve_62 (by rw [e34]; exact if_pos rfl) (Nat.le_of_ble_eq_true rfl) (Cv.mono h (fun M35 h => ?_))
      obtain ⟨hOM35, h⟩ := h
      obtain ⟨h38, h⟩ := h
      obtain ⟨h39, h⟩ := h
      obtain ⟨h40, h⟩ := h
      obtain ⟨M41, e42⟩ : ∃ M41, M41 = mUR M35 a2 (Int.toNat l3) (mZ M) := ⟨_, rfl⟩
      replace h := h M41 e42
      have hOM41 : mOk M41 := by rw [e42]; exact mOk_UR hOM35
      refine wm_aastE (t := 5) (c := 10) rfl (fun _ => rfl) rfl rfl d_Fs_reserve_65 h38 h39 h40 e42 ?_
      refine wm_iinc d_Fs_reserve_66 (by decide) rfl (L' := [vr a0, vd, vr a2, vi (l3 + 1)]) rfl ?_
      refine wm_goto (tgt := 32) d_Fs_reserve_69 rfl ?_
      exact h
    · replace h := h.2 c32
      obtain ⟨h43, h⟩ := h
      obtain ⟨h44, h⟩ := h
      obtain ⟨h45, h⟩ := h
      obtain ⟨M46, e47⟩ : ∃ M46, M46 = mUR M a2 (Int.toNat l3) (mR M (mR M a0 0) (Int.toNat l3)) := ⟨_, rfl⟩
      replace h := h M46 e47
      refine wm_aload_n d_Fs_reserve_49 rfl rfl ?_
      refine gf_Fs_11 rfl d_Fs_reserve_50 h22 ?_
      refine wm_iload_n d_Fs_reserve_53 rfl rfl ?_
      refine wm_aald5 d_Fs_reserve_54 h23 h43 ?_
      refine wm_goto (tgt := 65) d_Fs_reserve_55 rfl ?_
      have hOM46 : mOk M46 := by rw [e47]; exact mOk_UR hO
      refine wm_aastE (t := 5) (c := 10) rfl (fun _ => rfl) rfl rfl d_Fs_reserve_65 h11 h44 h45 e47 ?_
      refine wm_iinc d_Fs_reserve_66 (by decide) rfl (L' := [vr a0, vd, vr a2, vi (l3 + 1)]) rfl ?_
      refine wm_goto (tgt := 32) d_Fs_reserve_69 rfl ?_
      exact h
theorem d_Fs_begin_0 : decode y_Fs_begin.2.1 0 = .ok (.aload_n 0, 1) := by decide +kernel
theorem d_Fs_begin_1 : decode y_Fs_begin.2.1 1 = .ok (.aload_n 1, 1) := by decide +kernel
theorem d_Fs_begin_2 : decode y_Fs_begin.2.1 2 = .ok (.getfield 31, 3) := by decide +kernel
theorem d_Fs_begin_5 : decode y_Fs_begin.2.1 5 = .ok (.invokevirtual 37, 3) := by decide +kernel
theorem d_Fs_begin_8 : decode y_Fs_begin.2.1 8 = .ok (.iconst 0, 1) := by decide +kernel
theorem d_Fs_begin_9 : decode y_Fs_begin.2.1 9 = .ok (.istore_n 2, 1) := by decide +kernel
theorem d_Fs_begin_10 : decode y_Fs_begin.2.1 10 = .ok (.iload_n 2, 1) := by decide +kernel
theorem d_Fs_begin_11 : decode y_Fs_begin.2.1 11 = .ok (.aload_n 1, 1) := by decide +kernel
theorem d_Fs_begin_12 : decode y_Fs_begin.2.1 12 = .ok (.getfield 31, 3) := by decide +kernel
theorem d_Fs_begin_15 : decode y_Fs_begin.2.1 15 = .ok (.if_icmp .ge 33, 3) := by decide +kernel
theorem d_Fs_begin_48 : decode y_Fs_begin.2.1 48 = .ok (.return_, 1) := by decide +kernel
theorem d_Fs_begin_18 : decode y_Fs_begin.2.1 18 = .ok (.aload_n 0, 1) := by decide +kernel
theorem d_Fs_begin_19 : decode y_Fs_begin.2.1 19 = .ok (.getfield 11, 3) := by decide +kernel
theorem d_Fs_begin_22 : decode y_Fs_begin.2.1 22 = .ok (.iload_n 2, 1) := by decide +kernel
theorem d_Fs_begin_23 : decode y_Fs_begin.2.1 23 = .ok (.aaload, 1) := by decide +kernel
theorem d_Fs_begin_24 : decode y_Fs_begin.2.1 24 = .ok (.aload_n 1, 1) := by decide +kernel
theorem d_Fs_begin_25 : decode y_Fs_begin.2.1 25 = .ok (.getfield 41, 3) := by decide +kernel
theorem d_Fs_begin_28 : decode y_Fs_begin.2.1 28 = .ok (.iload_n 2, 1) := by decide +kernel
theorem d_Fs_begin_29 : decode y_Fs_begin.2.1 29 = .ok (.iaload, 1) := by decide +kernel
theorem d_Fs_begin_30 : decode y_Fs_begin.2.1 30 = .ok (.iconst 3, 1) := by decide +kernel
theorem d_Fs_begin_31 : decode y_Fs_begin.2.1 31 = .ok (.if_icmp .ne 7, 3) := by decide +kernel
theorem d_Fs_begin_34 : decode y_Fs_begin.2.1 34 = .ok (.iconst 1, 1) := by decide +kernel
theorem d_Fs_begin_35 : decode y_Fs_begin.2.1 35 = .ok (.goto 4, 3) := by decide +kernel
theorem d_Fs_begin_38 : decode y_Fs_begin.2.1 38 = .ok (.iconst 0, 1) := by decide +kernel
theorem d_Fs_begin_39 : decode y_Fs_begin.2.1 39 = .ok (.invokevirtual 45, 3) := by decide +kernel
theorem d_Fs_begin_42 : decode y_Fs_begin.2.1 42 = .ok (.iinc 2 1, 3) := by decide +kernel
theorem d_Fs_begin_45 : decode y_Fs_begin.2.1 45 = .ok (.goto (-35), 3) := by decide +kernel
def h_Fs_begin_10 (G : mG) (d : Nat) (a0 : Nat) (a1 : Nat) (l2 : Int) (M : mM) (Q : mM → Prop) : Prop := mWm G y_Fs_begin (d + 1) 10 [vr a0, vr a1, vi l2] [] M (fun r9 M9 => r9 = none ∧ Q M9)
theorem k_Fs_begin {G : mG} {d : Nat} {a0 : Nat} {a1 : Nat} {M : mM} {Q : mM → Prop} (hO : mOk M)
    (h : mK M a1 = 7 ∧ mK M a0 = 13 ∧ Cv G y_Fs_reserve d [vr a0, vi (mI M a1 0)] M (fun M3 => mOk M3 ∧ (h_Fs_begin_10 G d a0 a1 0 M3 Q))) :
    Cv G y_Fs_begin (d + 1) [vr a0, vr a1] M Q := by
  refine wm_open (y := y_Fs_begin) rfl (Nat.le_of_ble_eq_true rfl) (L := [vr a0, vr a1, vd]) rfl ?_
  obtain ⟨h1, h⟩ := h
  obtain ⟨h2, h⟩ := h
  refine wm_aload_n d_Fs_begin_0 rfl rfl ?_
  refine wm_aload_n d_Fs_begin_1 rfl rfl ?_
  refine gf_Fs_31 rfl d_Fs_begin_2 h1 ?_
  refine cf_Fs_37 rfl d_Fs_begin_5 h2 (Nat.le_of_ble_eq_true rfl) (Cv.mono h (fun M3 h => ?_))
  obtain ⟨hOM3, h⟩ := h
  refine wm_iconst d_Fs_begin_8 ?_
  refine wm_istore_n d_Fs_begin_9 rfl (by decide) (L' := [vr a0, vr a1, vi 0]) rfl ?_
  exact h
theorem k_Fs_begin_10 {G : mG} {d : Nat} {a0 : Nat} {a1 : Nat} {l2 : Int} {M : mM} {Q : mM → Prop} (hO : mOk M) (hi_l2 : i32 l2)
    (h : mK M a1 = 7 ∧ ((mI M a1 0 ≤ l2) → (Q M)) ∧ (¬ (mI M a1 0 ≤ l2) → (mK M a0 = 13 ∧ mK M (mR M a0 0) = 35 ∧ ((0 : Int) ≤ l2 ∧ l2 < (mN M (mR M a0 0) : Int)) ∧ mK M (mR M a1 2) = 30 ∧ ((0 : Int) ≤ l2 ∧ l2 < (mN M (mR M a1 2) : Int)) ∧ ∀ v20 : Int, v20 = (if (mI M (mR M a1 2) (Int.toNat l2) = 3) then 1 else 0) → mK M (mR M (mR M a0 0) (Int.toNat l2)) = 11 ∧ Cv G y_Fr_put0 d [vr (mR M (mR M a0 0) (Int.toNat l2)), vi v20] M (fun M26 => mOk M26 ∧ (h_Fs_begin_10 G d a0 a1 (l2 + 1) M26 Q))))) :
    h_Fs_begin_10 G d a0 a1 l2 M Q := by
  unfold h_Fs_begin_10
  obtain ⟨h6, h⟩ := h
  refine wm_iload_n d_Fs_begin_10 rfl rfl ?_
  refine wm_aload_n d_Fs_begin_11 rfl rfl ?_
  refine gf_Fs_31 rfl d_Fs_begin_12 h6 ?_
  refine wm_icmp_ge (tgt := 48) d_Fs_begin_15 rfl hi_l2 (hO _ _).1 (fun c13 => ?_) (fun c13 => ?_)
  · replace h := h.1 c13
    refine wm_return d_Fs_begin_48 rfl ?_
    exact ⟨rfl, h⟩
  · replace h := h.2 c13
    obtain ⟨h14, h⟩ := h
    obtain ⟨h15, h⟩ := h
    obtain ⟨h16, h⟩ := h
    obtain ⟨h17, h⟩ := h
    obtain ⟨h18, h⟩ := h
    refine wm_aload_n d_Fs_begin_18 rfl rfl ?_
    refine gf_Fs_11 rfl d_Fs_begin_19 h14 ?_
    refine wm_iload_n d_Fs_begin_22 rfl rfl ?_
    refine wm_aald5 d_Fs_begin_23 h15 h16 ?_
    refine wm_aload_n d_Fs_begin_24 rfl rfl ?_
    refine gf_Fs_41 rfl d_Fs_begin_25 h6 ?_
    refine wm_iload_n d_Fs_begin_28 rfl rfl ?_
    refine wm_iald d_Fs_begin_29 h17 h18 ?_
    refine wm_iconst d_Fs_begin_30 ?_
    have hJ : ∀ v20 : Int, v20 = (if (mI M (mR M a1 2) (Int.toNat l2) = 3) then 1 else 0) → mWm G y_Fs_begin (d + 1) 39 [vr a0, vr a1, vi l2] [vi v20, vr (mR M (mR M a0 0) (Int.toNat l2))] M (fun r9 M9 => r9 = none ∧ Q M9) := by
      intro v20 e22
      have h := h v20 e22
      have h23 : i32 v20 := by rw [e22]; (repeat' split) <;> first | exact ⟨by decide, by decide⟩ | exact ⟨by decide, by decide⟩
      have h24 : (v20 = 0 ∨ v20 = 1) := by rw [e22]; (repeat' split) <;> decide
      obtain ⟨h25, h⟩ := h
      refine cf_Fs_45 rfl d_Fs_begin_39 h25 (Nat.le_of_ble_eq_true rfl) (Cv.mono h (fun M26 h => ?_))
      obtain ⟨hOM26, h⟩ := h
      refine wm_iinc d_Fs_begin_42 (by decide) rfl (L' := [vr a0, vr a1, vi (l2 + 1)]) rfl ?_
      refine wm_goto (tgt := 10) d_Fs_begin_45 rfl ?_
      exact h
    clear h
    refine wm_icmp_ne (tgt := 38) d_Fs_begin_31 rfl (hO _ _).1 ⟨by decide, by decide⟩ (fun c19 => ?_) (fun c19 => ?_)
    · refine wm_iconst d_Fs_begin_38 ?_
      exact hJ 0 (if_neg c19).symm
    · replace c19 := Classical.not_not.mp c19
      refine wm_iconst d_Fs_begin_34 ?_
      refine wm_goto (tgt := 39) d_Fs_begin_35 rfl ?_
      exact hJ 1 (if_pos c19).symm
theorem d_Ga_init_0 : decode y_Ga_init.2.1 0 = .ok (.aload_n 0, 1) := by decide +kernel
theorem d_Ga_init_1 : decode y_Ga_init.2.1 1 = .ok (.invokespecial 3, 3) := by decide +kernel
theorem d_Ga_init_4 : decode y_Ga_init.2.1 4 = .ok (.aload_n 0, 1) := by decide +kernel
theorem d_Ga_init_5 : decode y_Ga_init.2.1 5 = .ok (.sipush 6144, 3) := by decide +kernel
theorem d_Ga_init_8 : decode y_Ga_init.2.1 8 = .ok (.newarray .int, 2) := by decide +kernel
theorem d_Ga_init_10 : decode y_Ga_init.2.1 10 = .ok (.putfield 9, 3) := by decide +kernel
theorem d_Ga_init_13 : decode y_Ga_init.2.1 13 = .ok (.aload_n 0, 1) := by decide +kernel
theorem d_Ga_init_14 : decode y_Ga_init.2.1 14 = .ok (.sipush 512, 3) := by decide +kernel
theorem d_Ga_init_17 : decode y_Ga_init.2.1 17 = .ok (.newarray .int, 2) := by decide +kernel
theorem d_Ga_init_19 : decode y_Ga_init.2.1 19 = .ok (.putfield 15, 3) := by decide +kernel
theorem d_Ga_init_22 : decode y_Ga_init.2.1 22 = .ok (.aload_n 0, 1) := by decide +kernel
theorem d_Ga_init_23 : decode y_Ga_init.2.1 23 = .ok (.sipush 512, 3) := by decide +kernel
theorem d_Ga_init_26 : decode y_Ga_init.2.1 26 = .ok (.newarray .int, 2) := by decide +kernel
theorem d_Ga_init_28 : decode y_Ga_init.2.1 28 = .ok (.putfield 18, 3) := by decide +kernel
theorem d_Ga_init_31 : decode y_Ga_init.2.1 31 = .ok (.aload_n 0, 1) := by decide +kernel
theorem d_Ga_init_32 : decode y_Ga_init.2.1 32 = .ok (.sipush 513, 3) := by decide +kernel
theorem d_Ga_init_35 : decode y_Ga_init.2.1 35 = .ok (.newarray .int, 2) := by decide +kernel
theorem d_Ga_init_37 : decode y_Ga_init.2.1 37 = .ok (.putfield 21, 3) := by decide +kernel
theorem d_Ga_init_40 : decode y_Ga_init.2.1 40 = .ok (.aload_n 0, 1) := by decide +kernel
theorem d_Ga_init_41 : decode y_Ga_init.2.1 41 = .ok (.sipush 4097, 3) := by decide +kernel
theorem d_Ga_init_44 : decode y_Ga_init.2.1 44 = .ok (.newarray .int, 2) := by decide +kernel
theorem d_Ga_init_46 : decode y_Ga_init.2.1 46 = .ok (.putfield 24, 3) := by decide +kernel
theorem d_Ga_init_49 : decode y_Ga_init.2.1 49 = .ok (.aload_n 0, 1) := by decide +kernel
theorem d_Ga_init_50 : decode y_Ga_init.2.1 50 = .ok (.sipush 4097, 3) := by decide +kernel
theorem d_Ga_init_53 : decode y_Ga_init.2.1 53 = .ok (.newarray .int, 2) := by decide +kernel
theorem d_Ga_init_55 : decode y_Ga_init.2.1 55 = .ok (.putfield 27, 3) := by decide +kernel
theorem d_Ga_init_58 : decode y_Ga_init.2.1 58 = .ok (.aload_n 0, 1) := by decide +kernel
theorem d_Ga_init_59 : decode y_Ga_init.2.1 59 = .ok (.sipush 4098, 3) := by decide +kernel
theorem d_Ga_init_62 : decode y_Ga_init.2.1 62 = .ok (.newarray .int, 2) := by decide +kernel
theorem d_Ga_init_64 : decode y_Ga_init.2.1 64 = .ok (.putfield 30, 3) := by decide +kernel
theorem d_Ga_init_67 : decode y_Ga_init.2.1 67 = .ok (.aload_n 0, 1) := by decide +kernel
theorem d_Ga_init_68 : decode y_Ga_init.2.1 68 = .ok (.sipush 4096, 3) := by decide +kernel
theorem d_Ga_init_71 : decode y_Ga_init.2.1 71 = .ok (.newarray .int, 2) := by decide +kernel
theorem d_Ga_init_73 : decode y_Ga_init.2.1 73 = .ok (.putfield 33, 3) := by decide +kernel
theorem d_Ga_init_76 : decode y_Ga_init.2.1 76 = .ok (.aload_n 0, 1) := by decide +kernel
theorem d_Ga_init_77 : decode y_Ga_init.2.1 77 = .ok (.sipush 4096, 3) := by decide +kernel
theorem d_Ga_init_80 : decode y_Ga_init.2.1 80 = .ok (.newarray .int, 2) := by decide +kernel
theorem d_Ga_init_82 : decode y_Ga_init.2.1 82 = .ok (.putfield 36, 3) := by decide +kernel
theorem d_Ga_init_85 : decode y_Ga_init.2.1 85 = .ok (.aload_n 0, 1) := by decide +kernel
theorem d_Ga_init_86 : decode y_Ga_init.2.1 86 = .ok (.new 39, 3) := by decide +kernel
theorem d_Ga_init_89 : decode y_Ga_init.2.1 89 = .ok (.dup, 1) := by decide +kernel
theorem d_Ga_init_90 : decode y_Ga_init.2.1 90 = .ok (.invokespecial 41, 3) := by decide +kernel
theorem d_Ga_init_93 : decode y_Ga_init.2.1 93 = .ok (.putfield 42, 3) := by decide +kernel
theorem d_Ga_init_96 : decode y_Ga_init.2.1 96 = .ok (.aload_n 0, 1) := by decide +kernel
theorem d_Ga_init_97 : decode y_Ga_init.2.1 97 = .ok (.sipush 1024, 3) := by decide +kernel
theorem d_Ga_init_100 : decode y_Ga_init.2.1 100 = .ok (.newarray .int, 2) := by decide +kernel
theorem d_Ga_init_102 : decode y_Ga_init.2.1 102 = .ok (.putfield 46, 3) := by decide +kernel
theorem d_Ga_init_105 : decode y_Ga_init.2.1 105 = .ok (.aload_n 0, 1) := by decide +kernel
theorem d_Ga_init_106 : decode y_Ga_init.2.1 106 = .ok (.bipush 8, 2) := by decide +kernel
theorem d_Ga_init_108 : decode y_Ga_init.2.1 108 = .ok (.newarray .int, 2) := by decide +kernel
theorem d_Ga_init_110 : decode y_Ga_init.2.1 110 = .ok (.putfield 49, 3) := by decide +kernel
theorem d_Ga_init_113 : decode y_Ga_init.2.1 113 = .ok (.aload_n 0, 1) := by decide +kernel
theorem d_Ga_init_114 : decode y_Ga_init.2.1 114 = .ok (.bipush 8, 2) := by decide +kernel
theorem d_Ga_init_116 : decode y_Ga_init.2.1 116 = .ok (.newarray .int, 2) := by decide +kernel
theorem d_Ga_init_118 : decode y_Ga_init.2.1 118 = .ok (.putfield 52, 3) := by decide +kernel
theorem d_Ga_init_121 : decode y_Ga_init.2.1 121 = .ok (.return_, 1) := by decide +kernel
theorem k_Ga_init {G : mG} {d : Nat} {a0 : Nat} {M : mM} {Q : mM → Prop} (hO : mOk M)
    (h : 0 < a0 ∧ ∀ M2, M2 = mNew M 30 6144 6144 → mK M2 a0 = 7 ∧ ∀ M5, M5 = mUR M2 a0 1 (mZ M) → ∀ M7, M7 = mNew M5 30 512 512 → mK M7 a0 = 7 ∧ ∀ M10, M10 = mUR M7 a0 2 (mZ M5) → ∀ M12, M12 = mNew M10 30 512 512 → mK M12 a0 = 7 ∧ ∀ M15, M15 = mUR M12 a0 3 (mZ M10) → ∀ M17, M17 = mNew M15 30 513 513 → mK M17 a0 = 7 ∧ ∀ M20, M20 = mUR M17 a0 4 (mZ M15) → ∀ M22, M22 = mNew M20 30 4097 4097 → mK M22 a0 = 7 ∧ ∀ M25, M25 = mUR M22 a0 5 (mZ M20) → ∀ M27, M27 = mNew M25 30 4097 4097 → mK M27 a0 = 7 ∧ ∀ M30, M30 = mUR M27 a0 6 (mZ M25) → ∀ M32, M32 = mNew M30 30 4098 4098 → mK M32 a0 = 7 ∧ ∀ M35, M35 = mUR M32 a0 7 (mZ M30) → ∀ M37, M37 = mNew M35 30 4096 4096 → mK M37 a0 = 7 ∧ ∀ M40, M40 = mUR M37 a0 8 (mZ M35) → ∀ M42, M42 = mNew M40 30 4096 4096 → mK M42 a0 = 7 ∧ ∀ M45, M45 = mUR M42 a0 9 (mZ M40) → ∀ M47, M47 = mNew M45 5 0 16 → Cv G y_Ma_init d [vr (mZ M45)] M47 (fun M49 => mOk M49 ∧ (mK M49 a0 = 7 ∧ ∀ M53, M53 = mUR M49 a0 15 (mZ M45) → ∀ M55, M55 = mNew M53 30 1024 1024 → mK M55 a0 = 7 ∧ ∀ M58, M58 = mUR M55 a0 16 (mZ M53) → ∀ M60, M60 = mNew M58 30 8 8 → mK M60 a0 = 7 ∧ ∀ M63, M63 = mUR M60 a0 17 (mZ M58) → ∀ M65, M65 = mNew M63 30 8 8 → mK M65 a0 = 7 ∧ ∀ M68, M68 = mUR M65 a0 18 (mZ M63) → Q M68))) :
    Cv G y_Ga_init (d + 1) [vr a0] M Q := by
  refine wm_open (y := y_Ga_init) rfl (Nat.le_of_ble_eq_true rfl) (L := [vr a0]) rfl ?_
  obtain ⟨h1, h⟩ := h
  obtain ⟨M2, e3⟩ : ∃ M2, M2 = mNew M 30 6144 6144 := ⟨_, rfl⟩
  replace h := h M2 e3
  obtain ⟨h4, h⟩ := h
  obtain ⟨M5, e6⟩ : ∃ M5, M5 = mUR M2 a0 1 (mZ M) := ⟨_, rfl⟩
  replace h := h M5 e6
  obtain ⟨M7, e8⟩ : ∃ M7, M7 = mNew M5 30 512 512 := ⟨_, rfl⟩
  replace h := h M7 e8
  obtain ⟨h9, h⟩ := h
  obtain ⟨M10, e11⟩ : ∃ M10, M10 = mUR M7 a0 2 (mZ M5) := ⟨_, rfl⟩
  replace h := h M10 e11
  obtain ⟨M12, e13⟩ : ∃ M12, M12 = mNew M10 30 512 512 := ⟨_, rfl⟩
  replace h := h M12 e13
  obtain ⟨h14, h⟩ := h
  obtain ⟨M15, e16⟩ : ∃ M15, M15 = mUR M12 a0 3 (mZ M10) := ⟨_, rfl⟩
  replace h := h M15 e16
  obtain ⟨M17, e18⟩ : ∃ M17, M17 = mNew M15 30 513 513 := ⟨_, rfl⟩
  replace h := h M17 e18
  obtain ⟨h19, h⟩ := h
  obtain ⟨M20, e21⟩ : ∃ M20, M20 = mUR M17 a0 4 (mZ M15) := ⟨_, rfl⟩
  replace h := h M20 e21
  obtain ⟨M22, e23⟩ : ∃ M22, M22 = mNew M20 30 4097 4097 := ⟨_, rfl⟩
  replace h := h M22 e23
  obtain ⟨h24, h⟩ := h
  obtain ⟨M25, e26⟩ : ∃ M25, M25 = mUR M22 a0 5 (mZ M20) := ⟨_, rfl⟩
  replace h := h M25 e26
  obtain ⟨M27, e28⟩ : ∃ M27, M27 = mNew M25 30 4097 4097 := ⟨_, rfl⟩
  replace h := h M27 e28
  obtain ⟨h29, h⟩ := h
  obtain ⟨M30, e31⟩ : ∃ M30, M30 = mUR M27 a0 6 (mZ M25) := ⟨_, rfl⟩
  replace h := h M30 e31
  obtain ⟨M32, e33⟩ : ∃ M32, M32 = mNew M30 30 4098 4098 := ⟨_, rfl⟩
  replace h := h M32 e33
  obtain ⟨h34, h⟩ := h
  obtain ⟨M35, e36⟩ : ∃ M35, M35 = mUR M32 a0 7 (mZ M30) := ⟨_, rfl⟩
  replace h := h M35 e36
  obtain ⟨M37, e38⟩ : ∃ M37, M37 = mNew M35 30 4096 4096 := ⟨_, rfl⟩
  replace h := h M37 e38
  obtain ⟨h39, h⟩ := h
  obtain ⟨M40, e41⟩ : ∃ M40, M40 = mUR M37 a0 8 (mZ M35) := ⟨_, rfl⟩
  replace h := h M40 e41
  obtain ⟨M42, e43⟩ : ∃ M42, M42 = mNew M40 30 4096 4096 := ⟨_, rfl⟩
  replace h := h M42 e43
  obtain ⟨h44, h⟩ := h
  obtain ⟨M45, e46⟩ : ∃ M45, M45 = mUR M42 a0 9 (mZ M40) := ⟨_, rfl⟩
  replace h := h M45 e46
  obtain ⟨M47, e48⟩ : ∃ M47, M47 = mNew M45 5 0 16 := ⟨_, rfl⟩
  replace h := h M47 e48
  refine wm_aload_n d_Ga_init_0 rfl rfl ?_
  refine wm_objInit trivial k2_131 kO_inst kO_code (Nat.le_of_ble_eq_true rfl) d_Ga_init_1 h1 ?_
  refine wm_aload_n d_Ga_init_4 rfl rfl ?_
  refine wm_sipush d_Ga_init_5 (by decide) ?_
  have hOM2 : mOk M2 := by rw [e3]; exact mOk_New hO
  refine wm_newarrE 0 (atype := .int) (ty := .int) rfl rfl (fun _ => rfl) rfl rfl (by decide) k1_82 ⟨by decide, by decide⟩ d_Ga_init_8 e3 ?_
  have hOM5 : mOk M5 := by rw [e6]; exact mOk_UR hOM2
  refine pf_Ga_9 rfl rfl d_Ga_init_10 h4 e6 ?_
  refine wm_aload_n d_Ga_init_13 rfl rfl ?_
  refine wm_sipush d_Ga_init_14 (by decide) ?_
  have hOM7 : mOk M7 := by rw [e8]; exact mOk_New hOM5
  refine wm_newarrE 0 (atype := .int) (ty := .int) rfl rfl (fun _ => rfl) rfl rfl (by decide) k1_82 ⟨by decide, by decide⟩ d_Ga_init_17 e8 ?_
  have hOM10 : mOk M10 := by rw [e11]; exact mOk_UR hOM7
  refine pf_Ga_15 rfl rfl d_Ga_init_19 h9 e11 ?_
  refine wm_aload_n d_Ga_init_22 rfl rfl ?_
  refine wm_sipush d_Ga_init_23 (by decide) ?_
  have hOM12 : mOk M12 := by rw [e13]; exact mOk_New hOM10
  refine wm_newarrE 0 (atype := .int) (ty := .int) rfl rfl (fun _ => rfl) rfl rfl (by decide) k1_82 ⟨by decide, by decide⟩ d_Ga_init_26 e13 ?_
  have hOM15 : mOk M15 := by rw [e16]; exact mOk_UR hOM12
  refine pf_Ga_18 rfl rfl d_Ga_init_28 h14 e16 ?_
  refine wm_aload_n d_Ga_init_31 rfl rfl ?_
  refine wm_sipush d_Ga_init_32 (by decide) ?_
  have hOM17 : mOk M17 := by rw [e18]; exact mOk_New hOM15
  refine wm_newarrE 0 (atype := .int) (ty := .int) rfl rfl (fun _ => rfl) rfl rfl (by decide) k1_82 ⟨by decide, by decide⟩ d_Ga_init_35 e18 ?_
  have hOM20 : mOk M20 := by rw [e21]; exact mOk_UR hOM17
  refine pf_Ga_21 rfl rfl d_Ga_init_37 h19 e21 ?_
  refine wm_aload_n d_Ga_init_40 rfl rfl ?_
  refine wm_sipush d_Ga_init_41 (by decide) ?_
  have hOM22 : mOk M22 := by rw [e23]; exact mOk_New hOM20
  refine wm_newarrE 0 (atype := .int) (ty := .int) rfl rfl (fun _ => rfl) rfl rfl (by decide) k1_82 ⟨by decide, by decide⟩ d_Ga_init_44 e23 ?_
  have hOM25 : mOk M25 := by rw [e26]; exact mOk_UR hOM22
  refine pf_Ga_24 rfl rfl d_Ga_init_46 h24 e26 ?_
  refine wm_aload_n d_Ga_init_49 rfl rfl ?_
  refine wm_sipush d_Ga_init_50 (by decide) ?_
  have hOM27 : mOk M27 := by rw [e28]; exact mOk_New hOM25
  refine wm_newarrE 0 (atype := .int) (ty := .int) rfl rfl (fun _ => rfl) rfl rfl (by decide) k1_82 ⟨by decide, by decide⟩ d_Ga_init_53 e28 ?_
  have hOM30 : mOk M30 := by rw [e31]; exact mOk_UR hOM27
  refine pf_Ga_27 rfl rfl d_Ga_init_55 h29 e31 ?_
  refine wm_aload_n d_Ga_init_58 rfl rfl ?_
  refine wm_sipush d_Ga_init_59 (by decide) ?_
  have hOM32 : mOk M32 := by rw [e33]; exact mOk_New hOM30
  refine wm_newarrE 0 (atype := .int) (ty := .int) rfl rfl (fun _ => rfl) rfl rfl (by decide) k1_82 ⟨by decide, by decide⟩ d_Ga_init_62 e33 ?_
  have hOM35 : mOk M35 := by rw [e36]; exact mOk_UR hOM32
  refine pf_Ga_30 rfl rfl d_Ga_init_64 h34 e36 ?_
  refine wm_aload_n d_Ga_init_67 rfl rfl ?_
  refine wm_sipush d_Ga_init_68 (by decide) ?_
  have hOM37 : mOk M37 := by rw [e38]; exact mOk_New hOM35
  refine wm_newarrE 0 (atype := .int) (ty := .int) rfl rfl (fun _ => rfl) rfl rfl (by decide) k1_82 ⟨by decide, by decide⟩ d_Ga_init_71 e38 ?_
  have hOM40 : mOk M40 := by rw [e41]; exact mOk_UR hOM37
  refine pf_Ga_33 rfl rfl d_Ga_init_73 h39 e41 ?_
  refine wm_aload_n d_Ga_init_76 rfl rfl ?_
  refine wm_sipush d_Ga_init_77 (by decide) ?_
  have hOM42 : mOk M42 := by rw [e43]; exact mOk_New hOM40
  refine wm_newarrE 0 (atype := .int) (ty := .int) rfl rfl (fun _ => rfl) rfl rfl (by decide) k1_82 ⟨by decide, by decide⟩ d_Ga_init_80 e43 ?_
  have hOM45 : mOk M45 := by rw [e46]; exact mOk_UR hOM42
  refine pf_Ga_36 rfl rfl d_Ga_init_82 h44 e46 ?_
  refine wm_aload_n d_Ga_init_85 rfl rfl ?_
  have hOM47 : mOk M47 := by rw [e48]; exact mOk_New hOM45
  refine nf_Ga_39 rfl d_Ga_init_86 e48 ?_
  refine wm_dup d_Ga_init_89 rfl ?_
  refine cf_Ga_41 rfl d_Ga_init_90 (by rw [e48]; exact if_pos rfl) (Nat.le_of_ble_eq_true rfl) (Cv.mono h (fun M49 h => ?_))
  obtain ⟨hOM49, h⟩ := h
  obtain ⟨h52, h⟩ := h
  obtain ⟨M53, e54⟩ : ∃ M53, M53 = mUR M49 a0 15 (mZ M45) := ⟨_, rfl⟩
  replace h := h M53 e54
  obtain ⟨M55, e56⟩ : ∃ M55, M55 = mNew M53 30 1024 1024 := ⟨_, rfl⟩
  replace h := h M55 e56
  obtain ⟨h57, h⟩ := h
  obtain ⟨M58, e59⟩ : ∃ M58, M58 = mUR M55 a0 16 (mZ M53) := ⟨_, rfl⟩
  replace h := h M58 e59
  obtain ⟨M60, e61⟩ : ∃ M60, M60 = mNew M58 30 8 8 := ⟨_, rfl⟩
  replace h := h M60 e61
  obtain ⟨h62, h⟩ := h
  obtain ⟨M63, e64⟩ : ∃ M63, M63 = mUR M60 a0 17 (mZ M58) := ⟨_, rfl⟩
  replace h := h M63 e64
  obtain ⟨M65, e66⟩ : ∃ M65, M65 = mNew M63 30 8 8 := ⟨_, rfl⟩
  replace h := h M65 e66
  obtain ⟨h67, h⟩ := h
  obtain ⟨M68, e69⟩ : ∃ M68, M68 = mUR M65 a0 18 (mZ M63) := ⟨_, rfl⟩
  replace h := h M68 e69
  have hOM53 : mOk M53 := by rw [e54]; exact mOk_UR hOM49
  refine pf_Ga_42 rfl rfl d_Ga_init_93 h52 e54 ?_
  refine wm_aload_n d_Ga_init_96 rfl rfl ?_
  refine wm_sipush d_Ga_init_97 (by decide) ?_
  have hOM55 : mOk M55 := by rw [e56]; exact mOk_New hOM53
  refine wm_newarrE 0 (atype := .int) (ty := .int) rfl rfl (fun _ => rfl) rfl rfl (by decide) k1_82 ⟨by decide, by decide⟩ d_Ga_init_100 e56 ?_
  have hOM58 : mOk M58 := by rw [e59]; exact mOk_UR hOM55
  refine pf_Ga_46 rfl rfl d_Ga_init_102 h57 e59 ?_
  refine wm_aload_n d_Ga_init_105 rfl rfl ?_
  refine wm_bipush d_Ga_init_106 (by decide) ?_
  have hOM60 : mOk M60 := by rw [e61]; exact mOk_New hOM58
  refine wm_newarrE 0 (atype := .int) (ty := .int) rfl rfl (fun _ => rfl) rfl rfl (by decide) k1_82 ⟨by decide, by decide⟩ d_Ga_init_108 e61 ?_
  have hOM63 : mOk M63 := by rw [e64]; exact mOk_UR hOM60
  refine pf_Ga_49 rfl rfl d_Ga_init_110 h62 e64 ?_
  refine wm_aload_n d_Ga_init_113 rfl rfl ?_
  refine wm_bipush d_Ga_init_114 (by decide) ?_
  have hOM65 : mOk M65 := by rw [e66]; exact mOk_New hOM63
  refine wm_newarrE 0 (atype := .int) (ty := .int) rfl rfl (fun _ => rfl) rfl rfl (by decide) k1_82 ⟨by decide, by decide⟩ d_Ga_init_116 e66 ?_
  have hOM68 : mOk M68 := by rw [e69]; exact mOk_UR hOM65
  refine pf_Ga_52 rfl rfl d_Ga_init_118 h67 e69 ?_
  refine wm_return d_Ga_init_121 rfl ?_
  exact ⟨rfl, h⟩
theorem d_Ga_clear_0 : decode y_Ga_clear.2.1 0 = .ok (.aload_n 0, 1) := by decide +kernel
theorem d_Ga_clear_1 : decode y_Ga_clear.2.1 1 = .ok (.iconst 0, 1) := by decide +kernel
theorem d_Ga_clear_2 : decode y_Ga_clear.2.1 2 = .ok (.putfield 55, 3) := by decide +kernel
theorem d_Ga_clear_5 : decode y_Ga_clear.2.1 5 = .ok (.aload_n 0, 1) := by decide +kernel
theorem d_Ga_clear_6 : decode y_Ga_clear.2.1 6 = .ok (.iconst 0, 1) := by decide +kernel
theorem d_Ga_clear_7 : decode y_Ga_clear.2.1 7 = .ok (.putfield 59, 3) := by decide +kernel
theorem d_Ga_clear_10 : decode y_Ga_clear.2.1 10 = .ok (.aload_n 0, 1) := by decide +kernel
theorem d_Ga_clear_11 : decode y_Ga_clear.2.1 11 = .ok (.iconst 0, 1) := by decide +kernel
theorem d_Ga_clear_12 : decode y_Ga_clear.2.1 12 = .ok (.putfield 62, 3) := by decide +kernel
theorem d_Ga_clear_15 : decode y_Ga_clear.2.1 15 = .ok (.return_, 1) := by decide +kernel
theorem k_Ga_clear {G : mG} {d : Nat} {a0 : Nat} {M : mM} {Q : mM → Prop} (hO : mOk M)
    (h : mK M a0 = 7 ∧ ∀ M2, M2 = mUI M a0 0 0 → ∀ M4, M4 = mUI M2 a0 12 0 → ∀ M6, M6 = mUI M4 a0 13 0 → Q M6) :
    Cv G y_Ga_clear d [vr a0] M Q := by
  refine wm_open (y := y_Ga_clear) rfl (Nat.le_of_ble_eq_true rfl) (L := [vr a0]) rfl ?_
  obtain ⟨h1, h⟩ := h
  obtain ⟨M2, e3⟩ : ∃ M2, M2 = mUI M a0 0 0 := ⟨_, rfl⟩
  replace h := h M2 e3
  obtain ⟨M4, e5⟩ : ∃ M4, M4 = mUI M2 a0 12 0 := ⟨_, rfl⟩
  replace h := h M4 e5
  obtain ⟨M6, e7⟩ : ∃ M6, M6 = mUI M4 a0 13 0 := ⟨_, rfl⟩
  replace h := h M6 e7
  refine wm_aload_n d_Ga_clear_0 rfl rfl ?_
  refine wm_iconst d_Ga_clear_1 ?_
  have hOM2 : mOk M2 := by rw [e3]; exact mOk_UI hO ⟨by decide, by decide⟩
  refine pf_Ga_55 rfl d_Ga_clear_2 h1 ⟨by decide, by decide⟩ e3 ?_
  refine wm_aload_n d_Ga_clear_5 rfl rfl ?_
  refine wm_iconst d_Ga_clear_6 ?_
  have hOM4 : mOk M4 := by rw [e5]; exact mOk_UI hOM2 ⟨by decide, by decide⟩
  refine pf_Ga_59 rfl d_Ga_clear_7 (by rw [e3]; exact h1) ⟨by decide, by decide⟩ e5 ?_
  refine wm_aload_n d_Ga_clear_10 rfl rfl ?_
  refine wm_iconst d_Ga_clear_11 ?_
  have hOM6 : mOk M6 := by rw [e7]; exact mOk_UI hOM4 ⟨by decide, by decide⟩
  refine pf_Ga_62 rfl d_Ga_clear_12 (by rw [e5, e3]; exact h1) ⟨by decide, by decide⟩ e7 ?_
  refine wm_return d_Ga_clear_15 rfl ?_
  exact ⟨rfl, h⟩
theorem d_Ga_hasState_0 : decode y_Ga_hasState.2.1 0 = .ok (.iload_n 1, 1) := by decide +kernel
theorem d_Ga_hasState_1 : decode y_Ga_hasState.2.1 1 = .ok (.ifCond .lt 15, 3) := by decide +kernel
theorem d_Ga_hasState_16 : decode y_Ga_hasState.2.1 16 = .ok (.iconst 0, 1) := by decide +kernel
theorem d_Ga_hasState_4 : decode y_Ga_hasState.2.1 4 = .ok (.iload_n 1, 1) := by decide +kernel
theorem d_Ga_hasState_5 : decode y_Ga_hasState.2.1 5 = .ok (.aload_n 0, 1) := by decide +kernel
theorem d_Ga_hasState_6 : decode y_Ga_hasState.2.1 6 = .ok (.getfield 55, 3) := by decide +kernel
theorem d_Ga_hasState_9 : decode y_Ga_hasState.2.1 9 = .ok (.if_icmp .ge 7, 3) := by decide +kernel
theorem d_Ga_hasState_12 : decode y_Ga_hasState.2.1 12 = .ok (.iconst 1, 1) := by decide +kernel
theorem d_Ga_hasState_13 : decode y_Ga_hasState.2.1 13 = .ok (.goto 4, 3) := by decide +kernel
theorem d_Ga_hasState_17 : decode y_Ga_hasState.2.1 17 = .ok (.ireturn, 1) := by decide +kernel
theorem k_Ga_hasState {G : mG} {d : Nat} {a0 : Nat} {l1 : Int} {M : mM} {Q : Int → mM → Prop} (hO : mOk M) (hi_l1 : i32 l1)
    (h : (¬ (l1 < 0) → mK M a0 = 7) ∧ ∀ v4 : Int, v4 = (if ((l1 < 0) ∨ (mI M a0 0 ≤ l1)) then 0 else 1) → Q v4 M) :
    Ci G y_Ga_hasState d [vr a0, vi l1] M Q := by
  refine wm_open (y := y_Ga_hasState) rfl (Nat.le_of_ble_eq_true rfl) (L := [vr a0, vi l1]) rfl ?_
  refine wm_iload_n d_Ga_hasState_0 rfl rfl ?_
  obtain ⟨s5, h⟩ := h
  have hJ : ∀ v4 : Int, v4 = (if ((l1 < 0) ∨ (mI M a0 0 ≤ l1)) then 0 else 1) → mWm G y_Ga_hasState d 17 [vd, vd] [vi v4] M (fun r9 M9 => ∃ x9, r9 = some (vi x9) ∧ Q x9 M9) := by
    intro v4 e6
    have h := h v4 e6
    have h7 : i32 v4 := by rw [e6]; (repeat' split) <;> first | exact ⟨by decide, by decide⟩ | exact ⟨by decide, by decide⟩
    have h8 : (v4 = 0 ∨ v4 = 1) := by rw [e6]; (repeat' split) <;> decide
    refine wm_ireturn d_Ga_hasState_17 rfl (m_nb h8) ?_
    exact ⟨_, rfl, h⟩
  clear h
  have s9 := s5
  refine wm_if_lt (tgt := 16) d_Ga_hasState_1 rfl hi_l1 (fun c1 => ?_) (fun c1 => ?_)
  · refine wm_iconst d_Ga_hasState_16 ?_
    refine wm_less (L' := [vd, vd]) ⟨Or.inl rfl, Or.inl rfl, trivial⟩ ?_
    exact hJ 0 (if_pos (Or.inl c1)).symm
  · have s9 := s9 c1
    have h2 := s9
    refine wm_iload_n d_Ga_hasState_4 rfl rfl ?_
    refine wm_aload_n d_Ga_hasState_5 rfl rfl ?_
    refine gf_Ga_55 rfl d_Ga_hasState_6 h2 ?_
    refine wm_icmp_ge (tgt := 16) d_Ga_hasState_9 rfl hi_l1 (hO _ _).1 (fun c3 => ?_) (fun c3 => ?_)
    · refine wm_iconst d_Ga_hasState_16 ?_
      refine wm_less (L' := [vd, vd]) ⟨Or.inl rfl, Or.inl rfl, trivial⟩ ?_
      exact hJ 0 (if_pos (Or.inr c3)).symm
    · refine wm_iconst d_Ga_hasState_12 ?_
      refine wm_goto (tgt := 17) d_Ga_hasState_13 rfl ?_
      refine wm_less (L' := [vd, vd]) ⟨Or.inl rfl, Or.inl rfl, trivial⟩ ?_
      exact hJ 1 (if_neg (fun z10 => Or.elim z10 c1 c3)).symm
theorem d_Ga_commandAt_0 : decode y_Ga_commandAt.2.1 0 = .ok (.aload_n 0, 1) := by decide +kernel
theorem d_Ga_commandAt_1 : decode y_Ga_commandAt.2.1 1 = .ok (.iload_n 1, 1) := by decide +kernel
theorem d_Ga_commandAt_2 : decode y_Ga_commandAt.2.1 2 = .ok (.invokevirtual 65, 3) := by decide +kernel
theorem d_Ga_commandAt_5 : decode y_Ga_commandAt.2.1 5 = .ok (.ifCond .eq 26, 3) := by decide +kernel
theorem d_Ga_commandAt_8 : decode y_Ga_commandAt.2.1 8 = .ok (.iload_n 2, 1) := by decide +kernel
theorem d_Ga_commandAt_9 : decode y_Ga_commandAt.2.1 9 = .ok (.ifCond .lt 22, 3) := by decide +kernel
theorem d_Ga_commandAt_12 : decode y_Ga_commandAt.2.1 12 = .ok (.iload_n 2, 1) := by decide +kernel
theorem d_Ga_commandAt_13 : decode y_Ga_commandAt.2.1 13 = .ok (.aload_n 0, 1) := by decide +kernel
theorem d_Ga_commandAt_14 : decode y_Ga_commandAt.2.1 14 = .ok (.getfield 21, 3) := by decide +kernel
theorem d_Ga_commandAt_17 : decode y_Ga_commandAt.2.1 17 = .ok (.iload_n 1, 1) := by decide +kernel
theorem d_Ga_commandAt_18 : decode y_Ga_commandAt.2.1 18 = .ok (.iconst 1, 1) := by decide +kernel
theorem d_Ga_commandAt_19 : decode y_Ga_commandAt.2.1 19 = .ok (.iadd, 1) := by decide +kernel
theorem d_Ga_commandAt_20 : decode y_Ga_commandAt.2.1 20 = .ok (.iaload, 1) := by decide +kernel
theorem d_Ga_commandAt_21 : decode y_Ga_commandAt.2.1 21 = .ok (.aload_n 0, 1) := by decide +kernel
theorem d_Ga_commandAt_22 : decode y_Ga_commandAt.2.1 22 = .ok (.getfield 21, 3) := by decide +kernel
theorem d_Ga_commandAt_25 : decode y_Ga_commandAt.2.1 25 = .ok (.iload_n 1, 1) := by decide +kernel
theorem d_Ga_commandAt_26 : decode y_Ga_commandAt.2.1 26 = .ok (.iaload, 1) := by decide +kernel
theorem d_Ga_commandAt_27 : decode y_Ga_commandAt.2.1 27 = .ok (.isub, 1) := by decide +kernel
theorem d_Ga_commandAt_28 : decode y_Ga_commandAt.2.1 28 = .ok (.if_icmp .lt 5, 3) := by decide +kernel
theorem d_Ga_commandAt_33 : decode y_Ga_commandAt.2.1 33 = .ok (.aload_n 0, 1) := by decide +kernel
theorem d_Ga_commandAt_34 : decode y_Ga_commandAt.2.1 34 = .ok (.getfield 21, 3) := by decide +kernel
theorem d_Ga_commandAt_37 : decode y_Ga_commandAt.2.1 37 = .ok (.iload_n 1, 1) := by decide +kernel
theorem d_Ga_commandAt_38 : decode y_Ga_commandAt.2.1 38 = .ok (.iaload, 1) := by decide +kernel
theorem d_Ga_commandAt_39 : decode y_Ga_commandAt.2.1 39 = .ok (.iload_n 2, 1) := by decide +kernel
theorem d_Ga_commandAt_40 : decode y_Ga_commandAt.2.1 40 = .ok (.iadd, 1) := by decide +kernel
theorem d_Ga_commandAt_41 : decode y_Ga_commandAt.2.1 41 = .ok (.ireturn, 1) := by decide +kernel
theorem d_Ga_commandAt_31 : decode y_Ga_commandAt.2.1 31 = .ok (.iconst (-1), 1) := by decide +kernel
theorem d_Ga_commandAt_32 : decode y_Ga_commandAt.2.1 32 = .ok (.ireturn, 1) := by decide +kernel
theorem k_Ga_commandAt {G : mG} {d : Nat} {a0 : Nat} {l1 : Int} {l2 : Int} {M : mM} {Q : Int → mM → Prop} (hO : mOk M) (hi_l1 : i32 l1) (hi_l2 : i32 l2)
    (h : mK M a0 = 7 ∧ Ci G y_Ga_hasState d [vr a0, vi l1] M (fun x3 M2 => i32 x3 ∧ mOk M2 ∧ ((¬ (x3 = 0) → (¬ (l2 < 0) → (mK M2 a0 = 7 ∧ mK M2 (mR M2 a0 4) = 30 ∧ ((0 : Int) ≤ l1 + 1 ∧ l1 + 1 < (mN M2 (mR M2 a0 4) : Int)) ∧ ((0 : Int) ≤ l1 ∧ l1 < (mN M2 (mR M2 a0 4) : Int)) ∧ i32 ((mI M2 (mR M2 a0 4) (Int.toNat (l1 + 1))) - (mI M2 (mR M2 a0 4) (Int.toNat l1)))))) ∧ (((x3 = 0) ∨ ((l2 < 0) ∨ (¬ (l2 < (mI M2 (mR M2 a0 4) (Int.toNat (l1 + 1))) - (mI M2 (mR M2 a0 4) (Int.toNat l1)))))) → (Q (-1) M2)) ∧ (¬ ((x3 = 0) ∨ ((l2 < 0) ∨ (¬ (l2 < (mI M2 (mR M2 a0 4) (Int.toNat (l1 + 1))) - (mI M2 (mR M2 a0 4) (Int.toNat l1)))))) → (mK M2 a0 = 7 ∧ mK M2 (mR M2 a0 4) = 30 ∧ ((0 : Int) ≤ l1 ∧ l1 < (mN M2 (mR M2 a0 4) : Int)) ∧ Q ((mI M2 (mR M2 a0 4) (Int.toNat l1)) + l2) M2))))) :
    Ci G y_Ga_commandAt (d + 1) [vr a0, vi l1, vi l2] M Q := by
  refine wm_open (y := y_Ga_commandAt) rfl (Nat.le_of_ble_eq_true rfl) (L := [vr a0, vi l1, vi l2]) rfl ?_
  obtain ⟨h1, h⟩ := h
  refine wm_aload_n d_Ga_commandAt_0 rfl rfl ?_
  refine wm_iload_n d_Ga_commandAt_1 rfl rfl ?_
  refine cf_Ga_65 rfl d_Ga_commandAt_2 h1 (Nat.le_of_ble_eq_true rfl) (Ci.mono h (fun x3 M2 h => ?_))
  obtain ⟨h4, hOM2, h⟩ := h
  obtain ⟨s14, h⟩ := h
  have hE0 : ((x3 = 0) ∨ ((l2 < 0) ∨ (¬ (l2 < (mI M2 (mR M2 a0 4) (Int.toNat (l1 + 1))) - (mI M2 (mR M2 a0 4) (Int.toNat l1)))))) → mWm G y_Ga_commandAt (d + 1) 31 [vr a0, vi l1, vi l2] [] M2 (fun r9 M9 => ∃ x9, r9 = some (vi x9) ∧ Q x9 M9) := by
    intro q15
    have h := h.1 q15
    refine wm_iconst d_Ga_commandAt_31 ?_
    refine wm_ireturn d_Ga_commandAt_32 rfl rfl ?_
    exact ⟨_, rfl, h⟩
  have hE1 : ¬ ((x3 = 0) ∨ ((l2 < 0) ∨ (¬ (l2 < (mI M2 (mR M2 a0 4) (Int.toNat (l1 + 1))) - (mI M2 (mR M2 a0 4) (Int.toNat l1)))))) → mWm G y_Ga_commandAt (d + 1) 33 [vr a0, vi l1, vi l2] [] M2 (fun r9 M9 => ∃ x9, r9 = some (vi x9) ∧ Q x9 M9) := by
    intro q16
    have h := h.2 q16
    obtain ⟨h17, h⟩ := h
    obtain ⟨h18, h⟩ := h
    obtain ⟨h19, h⟩ := h
    refine wm_aload_n d_Ga_commandAt_33 rfl rfl ?_
    refine gf_Ga_21 rfl d_Ga_commandAt_34 h17 ?_
    refine wm_iload_n d_Ga_commandAt_37 rfl rfl ?_
    refine wm_iald d_Ga_commandAt_38 h18 h19 ?_
    refine wm_iload_n d_Ga_commandAt_39 rfl rfl ?_
    refine wm_iadd d_Ga_commandAt_40 ?_
    refine wm_ireturn d_Ga_commandAt_41 rfl rfl ?_
    exact ⟨_, rfl, h⟩
  clear h
  have s20 := s14
  refine wm_if_eq (tgt := 31) d_Ga_commandAt_5 rfl h4 (fun c13 => ?_) (fun c13 => ?_)
  · exact hE0 (Or.inl c13)
  · have s20 := s20 c13
    have s21 := s20
    refine wm_iload_n d_Ga_commandAt_8 rfl rfl ?_
    refine wm_if_lt (tgt := 31) d_Ga_commandAt_9 rfl hi_l2 (fun c12 => ?_) (fun c12 => ?_)
    · exact hE0 (Or.inr (Or.inl c12))
    · have s21 := s21 c12
      obtain ⟨h5, h6, h7, h8, h9⟩ := s21
      refine wm_iload_n d_Ga_commandAt_12 rfl rfl ?_
      refine wm_aload_n d_Ga_commandAt_13 rfl rfl ?_
      refine gf_Ga_21 rfl d_Ga_commandAt_14 h5 ?_
      refine wm_iload_n d_Ga_commandAt_17 rfl rfl ?_
      refine wm_iconst d_Ga_commandAt_18 ?_
      refine wm_iadd d_Ga_commandAt_19 ?_
      refine wm_iald d_Ga_commandAt_20 h6 h7 ?_
      refine wm_aload_n d_Ga_commandAt_21 rfl rfl ?_
      refine gf_Ga_21 rfl d_Ga_commandAt_22 h5 ?_
      refine wm_iload_n d_Ga_commandAt_25 rfl rfl ?_
      refine wm_iald d_Ga_commandAt_26 h6 h8 ?_
      refine wm_isub d_Ga_commandAt_27 ?_
      refine wm_icmp_lt (tgt := 33) d_Ga_commandAt_28 rfl hi_l2 h9 (fun c11 => ?_) (fun c11 => ?_)
      · exact hE1 (fun z22 => Or.elim z22 c13 (fun z23 => Or.elim z23 c12 (fun z24 => z24 c11)))
      · exact hE0 (Or.inr (Or.inr c11))
theorem d_Ga_drawn_0 : decode y_Ga_drawn.2.1 0 = .ok (.iload_n 2, 1) := by decide +kernel
theorem d_Ga_drawn_1 : decode y_Ga_drawn.2.1 1 = .ok (.i2l, 1) := by decide +kernel
theorem d_Ga_drawn_2 : decode y_Ga_drawn.2.1 2 = .ok (.aload_n 0, 1) := by decide +kernel
theorem d_Ga_drawn_3 : decode y_Ga_drawn.2.1 3 = .ok (.getfield 27, 3) := by decide +kernel
theorem d_Ga_drawn_6 : decode y_Ga_drawn.2.1 6 = .ok (.iload_n 1, 1) := by decide +kernel
theorem d_Ga_drawn_7 : decode y_Ga_drawn.2.1 7 = .ok (.iaload, 1) := by decide +kernel
theorem d_Ga_drawn_8 : decode y_Ga_drawn.2.1 8 = .ok (.i2l, 1) := by decide +kernel
theorem d_Ga_drawn_9 : decode y_Ga_drawn.2.1 9 = .ok (.lmul, 1) := by decide +kernel
theorem d_Ga_drawn_10 : decode y_Ga_drawn.2.1 10 = .ok (.lstore_n 3, 1) := by decide +kernel
theorem d_Ga_drawn_11 : decode y_Ga_drawn.2.1 11 = .ok (.lconst 0, 1) := by decide +kernel
theorem d_Ga_drawn_12 : decode y_Ga_drawn.2.1 12 = .ok (.lstore 5, 2) := by decide +kernel
theorem d_Ga_drawn_14 : decode y_Ga_drawn.2.1 14 = .ok (.aload_n 0, 1) := by decide +kernel
theorem d_Ga_drawn_15 : decode y_Ga_drawn.2.1 15 = .ok (.getfield 30, 3) := by decide +kernel
theorem d_Ga_drawn_18 : decode y_Ga_drawn.2.1 18 = .ok (.iload_n 1, 1) := by decide +kernel
theorem d_Ga_drawn_19 : decode y_Ga_drawn.2.1 19 = .ok (.iaload, 1) := by decide +kernel
theorem d_Ga_drawn_20 : decode y_Ga_drawn.2.1 20 = .ok (.istore 7, 2) := by decide +kernel
theorem d_Ga_drawn_22 : decode y_Ga_drawn.2.1 22 = .ok (.iload 7, 2) := by decide +kernel
theorem d_Ga_drawn_24 : decode y_Ga_drawn.2.1 24 = .ok (.aload_n 0, 1) := by decide +kernel
theorem d_Ga_drawn_25 : decode y_Ga_drawn.2.1 25 = .ok (.getfield 30, 3) := by decide +kernel
theorem d_Ga_drawn_28 : decode y_Ga_drawn.2.1 28 = .ok (.iload_n 1, 1) := by decide +kernel
theorem d_Ga_drawn_29 : decode y_Ga_drawn.2.1 29 = .ok (.iconst 1, 1) := by decide +kernel
theorem d_Ga_drawn_30 : decode y_Ga_drawn.2.1 30 = .ok (.iadd, 1) := by decide +kernel
theorem d_Ga_drawn_31 : decode y_Ga_drawn.2.1 31 = .ok (.iaload, 1) := by decide +kernel
theorem d_Ga_drawn_32 : decode y_Ga_drawn.2.1 32 = .ok (.if_icmp .ge 40, 3) := by decide +kernel
theorem d_Ga_drawn_72 : decode y_Ga_drawn.2.1 72 = .ok (.iconst (-1), 1) := by decide +kernel
theorem d_Ga_drawn_73 : decode y_Ga_drawn.2.1 73 = .ok (.ireturn, 1) := by decide +kernel
theorem d_Ga_drawn_35 : decode y_Ga_drawn.2.1 35 = .ok (.lload 5, 2) := by decide +kernel
theorem d_Ga_drawn_37 : decode y_Ga_drawn.2.1 37 = .ok (.aload_n 0, 1) := by decide +kernel
theorem d_Ga_drawn_38 : decode y_Ga_drawn.2.1 38 = .ok (.getfield 36, 3) := by decide +kernel
theorem d_Ga_drawn_41 : decode y_Ga_drawn.2.1 41 = .ok (.iload 7, 2) := by decide +kernel
theorem d_Ga_drawn_43 : decode y_Ga_drawn.2.1 43 = .ok (.iaload, 1) := by decide +kernel
theorem d_Ga_drawn_44 : decode y_Ga_drawn.2.1 44 = .ok (.i2l, 1) := by decide +kernel
theorem d_Ga_drawn_45 : decode y_Ga_drawn.2.1 45 = .ok (.ladd, 1) := by decide +kernel
theorem d_Ga_drawn_46 : decode y_Ga_drawn.2.1 46 = .ok (.lstore 5, 2) := by decide +kernel
theorem d_Ga_drawn_48 : decode y_Ga_drawn.2.1 48 = .ok (.lload 5, 2) := by decide +kernel
theorem d_Ga_drawn_50 : decode y_Ga_drawn.2.1 50 = .ok (.bipush 31, 2) := by decide +kernel
theorem d_Ga_drawn_52 : decode y_Ga_drawn.2.1 52 = .ok (.lshl, 1) := by decide +kernel
theorem d_Ga_drawn_53 : decode y_Ga_drawn.2.1 53 = .ok (.lload_n 3, 1) := by decide +kernel
theorem d_Ga_drawn_54 : decode y_Ga_drawn.2.1 54 = .ok (.lcmp, 1) := by decide +kernel
theorem d_Ga_drawn_55 : decode y_Ga_drawn.2.1 55 = .ok (.ifCond .le 11, 3) := by decide +kernel
theorem d_Ga_drawn_66 : decode y_Ga_drawn.2.1 66 = .ok (.iinc 7 1, 3) := by decide +kernel
theorem d_Ga_drawn_69 : decode y_Ga_drawn.2.1 69 = .ok (.goto (-47), 3) := by decide +kernel
theorem d_Ga_drawn_58 : decode y_Ga_drawn.2.1 58 = .ok (.aload_n 0, 1) := by decide +kernel
theorem d_Ga_drawn_59 : decode y_Ga_drawn.2.1 59 = .ok (.getfield 33, 3) := by decide +kernel
theorem d_Ga_drawn_62 : decode y_Ga_drawn.2.1 62 = .ok (.iload 7, 2) := by decide +kernel
theorem d_Ga_drawn_64 : decode y_Ga_drawn.2.1 64 = .ok (.iaload, 1) := by decide +kernel
theorem d_Ga_drawn_65 : decode y_Ga_drawn.2.1 65 = .ok (.ireturn, 1) := by decide +kernel
def h_Ga_drawn_22 (G : mG) (d : Nat) (a0 : Nat) (l1 : Int) (j3 : Int) (j5 : Int) (l7 : Int) (M : mM) (Q : Int → mM → Prop) : Prop := mWm G y_Ga_drawn d 22 [vr a0, vi l1, vd, vl j3, vd, vl j5, vd, vi l7] [] M (fun r9 M9 => ∃ x9, r9 = some (vi x9) ∧ Q x9 M9)
theorem k_Ga_drawn {G : mG} {d : Nat} {a0 : Nat} {l1 : Int} {l2 : Int} {M : mM} {Q : Int → mM → Prop} (hO : mOk M) (hi_l1 : i32 l1) (hi_l2 : i32 l2)
    (h : mK M a0 = 7 ∧ mK M (mR M a0 6) = 30 ∧ ((0 : Int) ≤ l1 ∧ l1 < (mN M (mR M a0 6) : Int)) ∧ mK M (mR M a0 7) = 30 ∧ ((0 : Int) ≤ l1 ∧ l1 < (mN M (mR M a0 7) : Int)) ∧ h_Ga_drawn_22 G d a0 l1 (l2 * (mI M (mR M a0 6) (Int.toNat l1))) 0 (mI M (mR M a0 7) (Int.toNat l1)) M Q) :
    Ci G y_Ga_drawn d [vr a0, vi l1, vi l2] M Q := by
  refine wm_open (y := y_Ga_drawn) rfl (Nat.le_of_ble_eq_true rfl) (L := [vr a0, vi l1, vi l2, vd, vd, vd, vd, vd]) rfl ?_
  obtain ⟨h1, h⟩ := h
  obtain ⟨h2, h⟩ := h
  obtain ⟨h3, h⟩ := h
  obtain ⟨h4, h⟩ := h
  obtain ⟨h5, h⟩ := h
  refine wm_iload_n d_Ga_drawn_0 rfl rfl ?_
  refine wm_i2l d_Ga_drawn_1 hi_l2 ?_
  refine wm_aload_n d_Ga_drawn_2 rfl rfl ?_
  refine gf_Ga_27 rfl d_Ga_drawn_3 h1 ?_
  refine wm_iload_n d_Ga_drawn_6 rfl rfl ?_
  refine wm_iald d_Ga_drawn_7 h2 h3 ?_
  refine wm_i2l d_Ga_drawn_8 (hO _ _).1 ?_
  refine wm_lmul d_Ga_drawn_9 ?_
  refine wm_lstore_n d_Ga_drawn_10 rfl (by decide) (L' := [vr a0, vi l1, vi l2, vl (l2 * (mI M (mR M a0 6) (Int.toNat l1))), vd, vd, vd, vd]) rfl ?_
  refine wm_lconst (x := 0) d_Ga_drawn_11 rfl ?_
  refine wm_lstore d_Ga_drawn_12 (by decide) (L' := [vr a0, vi l1, vi l2, vl (l2 * (mI M (mR M a0 6) (Int.toNat l1))), vd, vl 0, vd, vd]) rfl ?_
  refine wm_aload_n d_Ga_drawn_14 rfl rfl ?_
  refine gf_Ga_30 rfl d_Ga_drawn_15 h1 ?_
  refine wm_iload_n d_Ga_drawn_18 rfl rfl ?_
  refine wm_iald d_Ga_drawn_19 h4 h5 ?_
  refine wm_istore d_Ga_drawn_20 (by decide) (L' := [vr a0, vi l1, vi l2, vl (l2 * (mI M (mR M a0 6) (Int.toNat l1))), vd, vl 0, vd, vi (mI M (mR M a0 7) (Int.toNat l1))]) rfl ?_
  refine wm_less (L' := [vr a0, vi l1, vd, vl (l2 * (mI M (mR M a0 6) (Int.toNat l1))), vd, vl 0, vd, vi (mI M (mR M a0 7) (Int.toNat l1))]) ⟨Or.inr rfl, Or.inr rfl, Or.inl rfl, Or.inr rfl, Or.inl rfl, Or.inr rfl, Or.inl rfl, Or.inr rfl, trivial⟩ ?_
  exact h
theorem k_Ga_drawn_22 {G : mG} {d : Nat} {a0 : Nat} {l1 : Int} {j3 : Int} {j5 : Int} {l7 : Int} {M : mM} {Q : Int → mM → Prop} (hO : mOk M) (hi_l1 : i32 l1) (hi_j3 : i64 j3) (hi_j5 : i64 j5) (hi_l7 : i32 l7)
    (h : mK M a0 = 7 ∧ mK M (mR M a0 7) = 30 ∧ ((0 : Int) ≤ l1 + 1 ∧ l1 + 1 < (mN M (mR M a0 7) : Int)) ∧ ((mI M (mR M a0 7) (Int.toNat (l1 + 1)) ≤ l7) → (Q (-1) M)) ∧ (¬ (mI M (mR M a0 7) (Int.toNat (l1 + 1)) ≤ l7) → (mK M (mR M a0 9) = 30 ∧ ((0 : Int) ≤ l7 ∧ l7 < (mN M (mR M a0 9) : Int)) ∧ ((cmpL (shlL (j5 + (mI M (mR M a0 9) (Int.toNat l7))) 31) j3 ≤ 0) → (h_Ga_drawn_22 G d a0 l1 j3 (j5 + (mI M (mR M a0 9) (Int.toNat l7))) (l7 + 1) M Q)) ∧ (¬ (cmpL (shlL (j5 + (mI M (mR M a0 9) (Int.toNat l7))) 31) j3 ≤ 0) → (mK M (mR M a0 8) = 30 ∧ ((0 : Int) ≤ l7 ∧ l7 < (mN M (mR M a0 8) : Int)) ∧ Q (mI M (mR M a0 8) (Int.toNat l7)) M))))) :
    h_Ga_drawn_22 G d a0 l1 j3 j5 l7 M Q := by
  unfold h_Ga_drawn_22
  obtain ⟨h6, h⟩ := h
  obtain ⟨h7, h⟩ := h
  obtain ⟨h8, h⟩ := h
  refine wm_iload d_Ga_drawn_22 rfl ?_
  refine wm_aload_n d_Ga_drawn_24 rfl rfl ?_
  refine gf_Ga_30 rfl d_Ga_drawn_25 h6 ?_
  refine wm_iload_n d_Ga_drawn_28 rfl rfl ?_
  refine wm_iconst d_Ga_drawn_29 ?_
  refine wm_iadd d_Ga_drawn_30 ?_
  refine wm_iald d_Ga_drawn_31 h7 h8 ?_
  refine wm_icmp_ge (tgt := 72) d_Ga_drawn_32 rfl hi_l7 (hO _ _).1 (fun c12 => ?_) (fun c12 => ?_)
  · replace h := h.1 c12
    refine wm_iconst d_Ga_drawn_72 ?_
    refine wm_ireturn d_Ga_drawn_73 rfl rfl ?_
    exact ⟨_, rfl, h⟩
  · replace h := h.2 c12
    obtain ⟨h13, h⟩ := h
    obtain ⟨h14, h⟩ := h
    refine wm_lload d_Ga_drawn_35 rfl ?_
    refine wm_aload_n d_Ga_drawn_37 rfl rfl ?_
    refine gf_Ga_36 rfl d_Ga_drawn_38 h6 ?_
    refine wm_iload d_Ga_drawn_41 rfl ?_
    refine wm_iald d_Ga_drawn_43 h13 h14 ?_
    refine wm_i2l d_Ga_drawn_44 (hO _ _).1 ?_
    refine wm_ladd d_Ga_drawn_45 ?_
    refine wm_lstore d_Ga_drawn_46 (by decide) (L' := [vr a0, vi l1, vd, vl j3, vd, vl (j5 + (mI M (mR M a0 9) (Int.toNat l7))), vd, vi l7]) rfl ?_
    refine wm_lload d_Ga_drawn_48 rfl ?_
    refine wm_bipush d_Ga_drawn_50 (by decide) ?_
    refine wm_lshl d_Ga_drawn_52 ?_
    refine wm_lload_n d_Ga_drawn_53 rfl rfl ?_
    refine wm_lcmp d_Ga_drawn_54 (m_i64 _) hi_j3 ?_
    refine wm_if_le (tgt := 66) d_Ga_drawn_55 rfl (m_cmp32 _ _) (fun c18 => ?_) (fun c18 => ?_)
    · replace h := h.1 c18
      refine wm_iinc d_Ga_drawn_66 (by decide) rfl (L' := [vr a0, vi l1, vd, vl j3, vd, vl (j5 + (mI M (mR M a0 9) (Int.toNat l7))), vd, vi (l7 + 1)]) rfl ?_
      refine wm_goto (tgt := 22) d_Ga_drawn_69 rfl ?_
      exact h
    · replace h := h.2 c18
      obtain ⟨h19, h⟩ := h
      obtain ⟨h20, h⟩ := h
      refine wm_aload_n d_Ga_drawn_58 rfl rfl ?_
      refine gf_Ga_33 rfl d_Ga_drawn_59 h6 ?_
      refine wm_iload d_Ga_drawn_62 rfl ?_
      refine wm_iald d_Ga_drawn_64 h19 h20 ?_
      refine wm_ireturn d_Ga_drawn_65 rfl rfl ?_
      exact ⟨_, rfl, h⟩
theorem d_Ga_discover_0 : decode y_Ga_discover.2.1 0 = .ok (.aload_n 0, 1) := by decide +kernel
theorem d_Ga_discover_1 : decode y_Ga_discover.2.1 1 = .ok (.invokevirtual 69, 3) := by decide +kernel
theorem d_Ga_discover_4 : decode y_Ga_discover.2.1 4 = .ok (.aload_n 0, 1) := by decide +kernel
theorem d_Ga_discover_5 : decode y_Ga_discover.2.1 5 = .ok (.aload_n 1, 1) := by decide +kernel
theorem d_Ga_discover_6 : decode y_Ga_discover.2.1 6 = .ok (.putfield 72, 3) := by decide +kernel
theorem d_Ga_discover_9 : decode y_Ga_discover.2.1 9 = .ok (.aload_n 0, 1) := by decide +kernel
theorem d_Ga_discover_10 : decode y_Ga_discover.2.1 10 = .ok (.getfield 42, 3) := by decide +kernel
theorem d_Ga_discover_13 : decode y_Ga_discover.2.1 13 = .ok (.aload_n 0, 1) := by decide +kernel
theorem d_Ga_discover_14 : decode y_Ga_discover.2.1 14 = .ok (.getfield 72, 3) := by decide +kernel
theorem d_Ga_discover_17 : decode y_Ga_discover.2.1 17 = .ok (.putfield 76, 3) := by decide +kernel
theorem d_Ga_discover_20 : decode y_Ga_discover.2.1 20 = .ok (.aload_n 0, 1) := by decide +kernel
theorem d_Ga_discover_21 : decode y_Ga_discover.2.1 21 = .ok (.getfield 46, 3) := by decide +kernel
theorem d_Ga_discover_24 : decode y_Ga_discover.2.1 24 = .ok (.iconst (-1), 1) := by decide +kernel
theorem d_Ga_discover_25 : decode y_Ga_discover.2.1 25 = .ok (.invokestatic 77, 3) := by decide +kernel
theorem d_Ga_discover_28 : decode y_Ga_discover.2.1 28 = .ok (.aload_n 0, 1) := by decide +kernel
theorem d_Ga_discover_29 : decode y_Ga_discover.2.1 29 = .ok (.getfield 42, 3) := by decide +kernel
theorem d_Ga_discover_32 : decode y_Ga_discover.2.1 32 = .ok (.getfield 83, 3) := by decide +kernel
theorem d_Ga_discover_35 : decode y_Ga_discover.2.1 35 = .ok (.iconst 0, 1) := by decide +kernel
theorem d_Ga_discover_36 : decode y_Ga_discover.2.1 36 = .ok (.invokestatic 77, 3) := by decide +kernel
theorem d_Ga_discover_39 : decode y_Ga_discover.2.1 39 = .ok (.aload_n 0, 1) := by decide +kernel
theorem d_Ga_discover_40 : decode y_Ga_discover.2.1 40 = .ok (.getfield 72, 3) := by decide +kernel
theorem d_Ga_discover_43 : decode y_Ga_discover.2.1 43 = .ok (.getfield 86, 3) := by decide +kernel
theorem d_Ga_discover_46 : decode y_Ga_discover.2.1 46 = .ok (.iconst 0, 1) := by decide +kernel
theorem d_Ga_discover_47 : decode y_Ga_discover.2.1 47 = .ok (.aload_n 0, 1) := by decide +kernel
theorem d_Ga_discover_48 : decode y_Ga_discover.2.1 48 = .ok (.getfield 42, 3) := by decide +kernel
theorem d_Ga_discover_51 : decode y_Ga_discover.2.1 51 = .ok (.getfield 83, 3) := by decide +kernel
theorem d_Ga_discover_54 : decode y_Ga_discover.2.1 54 = .ok (.iconst 0, 1) := by decide +kernel
theorem d_Ga_discover_55 : decode y_Ga_discover.2.1 55 = .ok (.aload_n 0, 1) := by decide +kernel
theorem d_Ga_discover_56 : decode y_Ga_discover.2.1 56 = .ok (.getfield 72, 3) := by decide +kernel
theorem d_Ga_discover_59 : decode y_Ga_discover.2.1 59 = .ok (.getfield 91, 3) := by decide +kernel
theorem d_Ga_discover_62 : decode y_Ga_discover.2.1 62 = .ok (.invokestatic 94, 3) := by decide +kernel
theorem d_Ga_discover_65 : decode y_Ga_discover.2.1 65 = .ok (.aload_n 0, 1) := by decide +kernel
theorem d_Ga_discover_66 : decode y_Ga_discover.2.1 66 = .ok (.invokevirtual 100, 3) := by decide +kernel
theorem d_Ga_discover_69 : decode y_Ga_discover.2.1 69 = .ok (.pop, 1) := by decide +kernel
theorem d_Ga_discover_70 : decode y_Ga_discover.2.1 70 = .ok (.iconst 0, 1) := by decide +kernel
theorem d_Ga_discover_71 : decode y_Ga_discover.2.1 71 = .ok (.istore_n 2, 1) := by decide +kernel
theorem d_Ga_discover_72 : decode y_Ga_discover.2.1 72 = .ok (.iload_n 2, 1) := by decide +kernel
theorem d_Ga_discover_73 : decode y_Ga_discover.2.1 73 = .ok (.aload_n 0, 1) := by decide +kernel
theorem d_Ga_discover_74 : decode y_Ga_discover.2.1 74 = .ok (.getfield 55, 3) := by decide +kernel
theorem d_Ga_discover_77 : decode y_Ga_discover.2.1 77 = .ok (.if_icmp .ge 80, 3) := by decide +kernel
theorem d_Ga_discover_80 : decode y_Ga_discover.2.1 80 = .ok (.iload_n 2, 1) := by decide +kernel
theorem d_Ga_discover_81 : decode y_Ga_discover.2.1 81 = .ok (.sipush 512, 3) := by decide +kernel
theorem d_Ga_discover_84 : decode y_Ga_discover.2.1 84 = .ok (.if_icmp .ge 73, 3) := by decide +kernel
theorem d_Ga_discover_87 : decode y_Ga_discover.2.1 87 = .ok (.aload_n 0, 1) := by decide +kernel
theorem d_Ga_discover_88 : decode y_Ga_discover.2.1 88 = .ok (.iload_n 2, 1) := by decide +kernel
theorem d_Ga_discover_157 : decode y_Ga_discover.2.1 157 = .ok (.iconst 0, 1) := by decide +kernel
theorem d_Ga_discover_158 : decode y_Ga_discover.2.1 158 = .ok (.ireturn, 1) := by decide +kernel
theorem d_Ga_discover_89 : decode y_Ga_discover.2.1 89 = .ok (.invokevirtual 104, 3) := by decide +kernel
theorem d_Ga_discover_92 : decode y_Ga_discover.2.1 92 = .ok (.istore_n 3, 1) := by decide +kernel
theorem d_Ga_discover_93 : decode y_Ga_discover.2.1 93 = .ok (.iconst 0, 1) := by decide +kernel
theorem d_Ga_discover_94 : decode y_Ga_discover.2.1 94 = .ok (.istore 4, 2) := by decide +kernel
theorem d_Ga_discover_96 : decode y_Ga_discover.2.1 96 = .ok (.iload 4, 2) := by decide +kernel
theorem d_Ga_discover_98 : decode y_Ga_discover.2.1 98 = .ok (.aload_n 0, 1) := by decide +kernel
theorem d_Ga_discover_99 : decode y_Ga_discover.2.1 99 = .ok (.getfield 72, 3) := by decide +kernel
theorem d_Ga_discover_102 : decode y_Ga_discover.2.1 102 = .ok (.getfield 108, 3) := by decide +kernel
theorem d_Ga_discover_105 : decode y_Ga_discover.2.1 105 = .ok (.if_icmp .ge 31, 3) := by decide +kernel
theorem d_Ga_discover_108 : decode y_Ga_discover.2.1 108 = .ok (.iload_n 3, 1) := by decide +kernel
theorem d_Ga_discover_109 : decode y_Ga_discover.2.1 109 = .ok (.ifCond .ne 27, 3) := by decide +kernel
theorem d_Ga_discover_112 : decode y_Ga_discover.2.1 112 = .ok (.aload_n 0, 1) := by decide +kernel
theorem d_Ga_discover_113 : decode y_Ga_discover.2.1 113 = .ok (.getfield 15, 3) := by decide +kernel
theorem d_Ga_discover_116 : decode y_Ga_discover.2.1 116 = .ok (.iload_n 2, 1) := by decide +kernel
theorem d_Ga_discover_117 : decode y_Ga_discover.2.1 117 = .ok (.iaload, 1) := by decide +kernel
theorem d_Ga_discover_118 : decode y_Ga_discover.2.1 118 = .ok (.iconst 3, 1) := by decide +kernel
theorem d_Ga_discover_119 : decode y_Ga_discover.2.1 119 = .ok (.if_icmp .eq 17, 3) := by decide +kernel
theorem d_Ga_discover_122 : decode y_Ga_discover.2.1 122 = .ok (.aload_n 0, 1) := by decide +kernel
theorem d_Ga_discover_123 : decode y_Ga_discover.2.1 123 = .ok (.iload_n 2, 1) := by decide +kernel
theorem d_Ga_discover_124 : decode y_Ga_discover.2.1 124 = .ok (.iload 4, 2) := by decide +kernel
theorem d_Ga_discover_136 : decode y_Ga_discover.2.1 136 = .ok (.iload_n 3, 1) := by decide +kernel
theorem d_Ga_discover_137 : decode y_Ga_discover.2.1 137 = .ok (.ifCond .eq 14, 3) := by decide +kernel
theorem d_Ga_discover_151 : decode y_Ga_discover.2.1 151 = .ok (.iinc 2 1, 3) := by decide +kernel
theorem d_Ga_discover_154 : decode y_Ga_discover.2.1 154 = .ok (.goto (-82), 3) := by decide +kernel
theorem d_Ga_discover_140 : decode y_Ga_discover.2.1 140 = .ok (.aload_n 0, 1) := by decide +kernel
theorem d_Ga_discover_141 : decode y_Ga_discover.2.1 141 = .ok (.iload_n 2, 1) := by decide +kernel
theorem d_Ga_discover_142 : decode y_Ga_discover.2.1 142 = .ok (.putfield 115, 3) := by decide +kernel
theorem d_Ga_discover_145 : decode y_Ga_discover.2.1 145 = .ok (.aload_n 0, 1) := by decide +kernel
theorem d_Ga_discover_146 : decode y_Ga_discover.2.1 146 = .ok (.invokevirtual 69, 3) := by decide +kernel
theorem d_Ga_discover_149 : decode y_Ga_discover.2.1 149 = .ok (.iload_n 3, 1) := by decide +kernel
theorem d_Ga_discover_150 : decode y_Ga_discover.2.1 150 = .ok (.ireturn, 1) := by decide +kernel
theorem d_Ga_discover_126 : decode y_Ga_discover.2.1 126 = .ok (.invokevirtual 111, 3) := by decide +kernel
theorem d_Ga_discover_129 : decode y_Ga_discover.2.1 129 = .ok (.istore_n 3, 1) := by decide +kernel
theorem d_Ga_discover_130 : decode y_Ga_discover.2.1 130 = .ok (.iinc 4 1, 3) := by decide +kernel
theorem d_Ga_discover_133 : decode y_Ga_discover.2.1 133 = .ok (.goto (-37), 3) := by decide +kernel
def h_Ga_discover_72 (G : mG) (d : Nat) (a0 : Nat) (l2 : Int) (M : mM) (Q : Int → mM → Prop) : Prop := mWm G y_Ga_discover (d + 1) 72 [vr a0, vd, vi l2, vd, vd] [] M (fun r9 M9 => ∃ x9, r9 = some (vi x9) ∧ Q x9 M9)
def h_Ga_discover_96 (G : mG) (d : Nat) (a0 : Nat) (l2 : Int) (l3 : Int) (l4 : Int) (M : mM) (Q : Int → mM → Prop) : Prop := mWm G y_Ga_discover (d + 1) 96 [vr a0, vd, vi l2, vi l3, vi l4] [] M (fun r9 M9 => ∃ x9, r9 = some (vi x9) ∧ Q x9 M9)
theorem k_Ga_discover {G : mG} {d : Nat} {a0 : Nat} {a1 : Nat} {M : mM} {Q : Int → mM → Prop} (hO : mOk M)
    (h : mK M a0 = 7 ∧ Cv G y_Ga_clear d [vr a0] M (fun M2 => mOk M2 ∧ (mK M2 a0 = 7 ∧ ∀ M6, M6 = mUR M2 a0 14 a1 → mK M6 (mR M6 a0 15) = 5 ∧ ∀ M9, M9 = mUR M6 (mR M6 a0 15) 0 (mR M6 a0 14) → Cv G y_JA_fill d [vr (mR M9 a0 16), vi (-1)] M9 (fun M11 => mOk M11 ∧ (mK M11 a0 = 7 ∧ mK M11 (mR M11 a0 15) = 5 ∧ Cv G y_JA_fill d [vr (mR M11 (mR M11 a0 15) 5), vi 0] M11 (fun M16 => mOk M16 ∧ (mK M16 a0 = 7 ∧ mK M16 (mR M16 a0 14) = 6 ∧ mK M16 (mR M16 a0 15) = 5 ∧ mK M16 (mR M16 (mR M16 a0 14) 6) = 30 ∧ mK M16 (mR M16 (mR M16 a0 15) 5) = 30 ∧ ((0 : Int) ≤ 0 ∧ (0 : Int) ≤ 0 ∧ (0 : Int) ≤ mI M16 (mR M16 a0 14) 3 ∧ 0 + (mI M16 (mR M16 a0 14) 3) ≤ (mN M16 (mR M16 (mR M16 a0 14) 6) : Int) ∧ 0 + (mI M16 (mR M16 a0 14) 3) ≤ (mN M16 (mR M16 (mR M16 a0 15) 5) : Int)) ∧ ∀ M25, M25 = mCpy M16 (mR M16 (mR M16 a0 14) 6) (mR M16 (mR M16 a0 15) 5) 0 0 (Int.toNat (mI M16 (mR M16 a0 14) 3)) → Ci G y_Ga_enter d [vr a0] M25 (fun x28 M27 => i32 x28 ∧ mOk M27 ∧ (h_Ga_discover_72 G d a0 0 M27 Q))))))))) :
    Ci G y_Ga_discover (d + 1) [vr a0, vr a1] M Q := by
  refine wm_open (y := y_Ga_discover) rfl (Nat.le_of_ble_eq_true rfl) (L := [vr a0, vr a1, vd, vd, vd]) rfl ?_
  obtain ⟨h1, h⟩ := h
  refine wm_aload_n d_Ga_discover_0 rfl rfl ?_
  refine cf_Ga_69 rfl d_Ga_discover_1 h1 (Nat.le_of_ble_eq_true rfl) (Cv.mono h (fun M2 h => ?_))
  obtain ⟨hOM2, h⟩ := h
  obtain ⟨h5, h⟩ := h
  obtain ⟨M6, e7⟩ : ∃ M6, M6 = mUR M2 a0 14 a1 := ⟨_, rfl⟩
  replace h := h M6 e7
  obtain ⟨h8, h⟩ := h
  obtain ⟨M9, e10⟩ : ∃ M9, M9 = mUR M6 (mR M6 a0 15) 0 (mR M6 a0 14) := ⟨_, rfl⟩
  replace h := h M9 e10
  refine wm_aload_n d_Ga_discover_4 rfl rfl ?_
  refine wm_aload_n d_Ga_discover_5 rfl rfl ?_
  have hOM6 : mOk M6 := by rw [e7]; exact mOk_UR hOM2
  refine pf_Ga_72 rfl d_Ga_discover_6 h5 e7 ?_
  refine wm_aload_n d_Ga_discover_9 rfl rfl ?_
  refine gf_Ga_42 rfl d_Ga_discover_10 (by rw [e7]; exact h5) ?_
  refine wm_aload_n d_Ga_discover_13 rfl rfl ?_
  refine gf_Ga_72 rfl d_Ga_discover_14 (by rw [e7]; exact h5) ?_
  have hOM9 : mOk M9 := by rw [e10]; exact mOk_UR hOM6
  refine pf_Ga_76 rfl d_Ga_discover_17 h8 e10 ?_
  refine wm_aload_n d_Ga_discover_20 rfl rfl ?_
  refine gf_Ga_46 rfl d_Ga_discover_21 (by rw [e10, e7]; exact h5) ?_
  refine wm_iconst d_Ga_discover_24 ?_
  refine cf_Ga_77 rfl d_Ga_discover_25 (Nat.le_of_ble_eq_true rfl) (Cv.mono h (fun M11 h => ?_))
  obtain ⟨hOM11, h⟩ := h
  obtain ⟨h14, h⟩ := h
  obtain ⟨h15, h⟩ := h
  refine wm_aload_n d_Ga_discover_28 rfl rfl ?_
  refine gf_Ga_42 rfl d_Ga_discover_29 h14 ?_
  refine gf_Ga_83 rfl d_Ga_discover_32 h15 ?_
  refine wm_iconst d_Ga_discover_35 ?_
  refine cf_Ga_77 rfl d_Ga_discover_36 (Nat.le_of_ble_eq_true rfl) (Cv.mono h (fun M16 h => ?_))
  obtain ⟨hOM16, h⟩ := h
  obtain ⟨h19, h⟩ := h
  obtain ⟨h20, h⟩ := h
  obtain ⟨h21, h⟩ := h
  obtain ⟨h22, h⟩ := h
  obtain ⟨h23, h⟩ := h
  obtain ⟨h24, h⟩ := h
  obtain ⟨M25, e26⟩ : ∃ M25, M25 = mCpy M16 (mR M16 (mR M16 a0 14) 6) (mR M16 (mR M16 a0 15) 5) 0 0 (Int.toNat (mI M16 (mR M16 a0 14) 3)) := ⟨_, rfl⟩
  replace h := h M25 e26
  refine wm_aload_n d_Ga_discover_39 rfl rfl ?_
  refine gf_Ga_72 rfl d_Ga_discover_40 h19 ?_
  refine gf_Ga_86 rfl d_Ga_discover_43 h20 ?_
  refine wm_iconst d_Ga_discover_46 ?_
  refine wm_aload_n d_Ga_discover_47 rfl rfl ?_
  refine gf_Ga_42 rfl d_Ga_discover_48 h19 ?_
  refine gf_Ga_83 rfl d_Ga_discover_51 h21 ?_
  refine wm_iconst d_Ga_discover_54 ?_
  refine wm_aload_n d_Ga_discover_55 rfl rfl ?_
  refine gf_Ga_72 rfl d_Ga_discover_56 h19 ?_
  refine gf_Ga_91 rfl d_Ga_discover_59 h20 ?_
  have hOM25 : mOk M25 := by rw [e26]; exact mOk_Cpy hOM16
  refine wm_copyi k7_234 (Nat.le_of_ble_eq_true rfl) h22 h23 h24 d_Ga_discover_62 e26 ?_
  refine wm_aload_n d_Ga_discover_65 rfl rfl ?_
  refine cf_Ga_100 rfl d_Ga_discover_66 (by rw [e26]; exact h19) (Nat.le_of_ble_eq_true rfl) (Ci.mono h (fun x28 M27 h => ?_))
  obtain ⟨h29, hOM27, h⟩ := h
  refine wm_pop d_Ga_discover_69 rfl ?_
  refine wm_iconst d_Ga_discover_70 ?_
  refine wm_istore_n d_Ga_discover_71 rfl (by decide) (L' := [vr a0, vr a1, vi 0, vd, vd]) rfl ?_
  refine wm_less (L' := [vr a0, vd, vi 0, vd, vd]) ⟨Or.inr rfl, Or.inl rfl, Or.inr rfl, Or.inl rfl, Or.inl rfl, trivial⟩ ?_
  exact h
theorem k_Ga_discover_72 {G : mG} {d : Nat} {a0 : Nat} {l2 : Int} {M : mM} {Q : Int → mM → Prop} (hO : mOk M) (hi_l2 : i32 l2)
    (h : mK M a0 = 7 ∧ (((mI M a0 0 ≤ l2) ∨ (512 ≤ l2)) → (Q 0 M)) ∧ (¬ ((mI M a0 0 ≤ l2) ∨ (512 ≤ l2)) → (Ci G y_Ga_lookAt d [vr a0, vi l2] M (fun x37 M36 => i32 x37 ∧ mOk M36 ∧ (h_Ga_discover_96 G d a0 l2 x37 0 M36 Q))))) :
    h_Ga_discover_72 G d a0 l2 M Q := by
  unfold h_Ga_discover_72
  obtain ⟨h30, h⟩ := h
  refine wm_iload_n d_Ga_discover_72 rfl rfl ?_
  refine wm_aload_n d_Ga_discover_73 rfl rfl ?_
  refine gf_Ga_55 rfl d_Ga_discover_74 h30 ?_
  have hE0 : ((mI M a0 0 ≤ l2) ∨ (512 ≤ l2)) → mWm G y_Ga_discover (d + 1) 157 [vr a0, vd, vi l2, vd, vd] [] M (fun r9 M9 => ∃ x9, r9 = some (vi x9) ∧ Q x9 M9) := by
    intro q34
    have h := h.1 q34
    refine wm_iconst d_Ga_discover_157 ?_
    refine wm_ireturn d_Ga_discover_158 rfl rfl ?_
    exact ⟨_, rfl, h⟩
  have hE1 : ¬ ((mI M a0 0 ≤ l2) ∨ (512 ≤ l2)) → mWm G y_Ga_discover (d + 1) 87 [vr a0, vd, vi l2, vd, vd] [] M (fun r9 M9 => ∃ x9, r9 = some (vi x9) ∧ Q x9 M9) := by
    intro q35
    have h := h.2 q35
    refine wm_aload_n d_Ga_discover_87 rfl rfl ?_
    refine wm_iload_n d_Ga_discover_88 rfl rfl ?_
    refine cf_Ga_104 rfl d_Ga_discover_89 h30 (Nat.le_of_ble_eq_true rfl) (Ci.mono h (fun x37 M36 h => ?_))
    obtain ⟨h38, hOM36, h⟩ := h
    refine wm_istore_n d_Ga_discover_92 rfl (by decide) (L' := [vr a0, vd, vi l2, vi x37, vd]) rfl ?_
    refine wm_iconst d_Ga_discover_93 ?_
    refine wm_istore d_Ga_discover_94 (by decide) (L' := [vr a0, vd, vi l2, vi x37, vi 0]) rfl ?_
    exact h
  clear h
  refine wm_icmp_ge (tgt := 157) d_Ga_discover_77 rfl hi_l2 (hO _ _).1 (fun c32 => ?_) (fun c32 => ?_)
  · exact hE0 (Or.inl c32)
  · refine wm_iload_n d_Ga_discover_80 rfl rfl ?_
    refine wm_sipush d_Ga_discover_81 (by decide) ?_
    refine wm_icmp_ge (tgt := 157) d_Ga_discover_84 rfl hi_l2 ⟨by decide, by decide⟩ (fun c31 => ?_) (fun c31 => ?_)
    · exact hE0 (Or.inr c31)
    · exact hE1 (fun z39 => Or.elim z39 c32 c31)
theorem k_Ga_discover_96 {G : mG} {d : Nat} {a0 : Nat} {l2 : Int} {l3 : Int} {l4 : Int} {M : mM} {Q : Int → mM → Prop} (hO : mOk M) (hi_l2 : i32 l2) (hi_l3 : i32 l3) (hi_l4 : i32 l4)
    (h : mK M a0 = 7 ∧ mK M (mR M a0 14) = 6 ∧ (¬ (mI M (mR M a0 14) 12 ≤ l4) → ((l3 = 0) → (mK M (mR M a0 2) = 30 ∧ ((0 : Int) ≤ l2 ∧ l2 < (mN M (mR M a0 2) : Int))))) ∧ (((mI M (mR M a0 14) 12 ≤ l4) ∨ ((¬ (l3 = 0)) ∨ (mI M (mR M a0 2) (Int.toNat l2) = 3))) → (((l3 = 0) → (h_Ga_discover_72 G d a0 (l2 + 1) M Q)) ∧ (¬ (l3 = 0) → (∀ M52, M52 = mUI M a0 11 l2 → Cv G y_Ga_clear d [vr a0] M52 (fun M54 => mOk M54 ∧ (Q l3 M54)))))) ∧ (¬ ((mI M (mR M a0 14) 12 ≤ l4) ∨ ((¬ (l3 = 0)) ∨ (mI M (mR M a0 2) (Int.toNat l2) = 3))) → (Ci G y_Ga_tryCommand d [vr a0, vi l2, vi l4] M (fun x59 M58 => i32 x59 ∧ mOk M58 ∧ (h_Ga_discover_96 G d a0 l2 x59 (l4 + 1) M58 Q))))) :
    h_Ga_discover_96 G d a0 l2 l3 l4 M Q := by
  unfold h_Ga_discover_96
  obtain ⟨h41, h⟩ := h
  obtain ⟨h42, h⟩ := h
  refine wm_iload d_Ga_discover_96 rfl ?_
  refine wm_aload_n d_Ga_discover_98 rfl rfl ?_
  refine gf_Ga_72 rfl d_Ga_discover_99 h41 ?_
  refine gf_Ga_108 rfl d_Ga_discover_102 h42 ?_
  obtain ⟨s48, h⟩ := h
  have hE0 : ((mI M (mR M a0 14) 12 ≤ l4) ∨ ((¬ (l3 = 0)) ∨ (mI M (mR M a0 2) (Int.toNat l2) = 3))) → mWm G y_Ga_discover (d + 1) 136 [vr a0, vd, vi l2, vi l3, vi l4] [] M (fun r9 M9 => ∃ x9, r9 = some (vi x9) ∧ Q x9 M9) := by
    intro q49
    have h := h.1 q49
    refine wm_iload_n d_Ga_discover_136 rfl rfl ?_
    refine wm_if_eq (tgt := 151) d_Ga_discover_137 rfl hi_l3 (fun c51 => ?_) (fun c51 => ?_)
    · replace h := h.1 c51
      refine wm_iinc d_Ga_discover_151 (by decide) rfl (L' := [vr a0, vd, vi (l2 + 1), vi l3, vi l4]) rfl ?_
      refine wm_goto (tgt := 72) d_Ga_discover_154 rfl ?_
      refine wm_less (L' := [vr a0, vd, vi (l2 + 1), vd, vd]) ⟨Or.inr rfl, Or.inl rfl, Or.inr rfl, Or.inl rfl, Or.inl rfl, trivial⟩ ?_
      exact h
    · replace h := h.2 c51
      obtain ⟨M52, e53⟩ : ∃ M52, M52 = mUI M a0 11 l2 := ⟨_, rfl⟩
      replace h := h M52 e53
      refine wm_aload_n d_Ga_discover_140 rfl rfl ?_
      refine wm_iload_n d_Ga_discover_141 rfl rfl ?_
      have hOM52 : mOk M52 := by rw [e53]; exact mOk_UI hO hi_l2
      refine pf_Ga_115 rfl d_Ga_discover_142 h41 hi_l2 e53 ?_
      refine wm_aload_n d_Ga_discover_145 rfl rfl ?_
      refine cf_Ga_69 rfl d_Ga_discover_146 (by rw [e53]; exact h41) (Nat.le_of_ble_eq_true rfl) (Cv.mono h (fun M54 h => ?_))
      obtain ⟨hOM54, h⟩ := h
      refine wm_iload_n d_Ga_discover_149 rfl rfl ?_
      refine wm_ireturn d_Ga_discover_150 rfl rfl ?_
      exact ⟨_, rfl, h⟩
  have hE1 : ¬ ((mI M (mR M a0 14) 12 ≤ l4) ∨ ((¬ (l3 = 0)) ∨ (mI M (mR M a0 2) (Int.toNat l2) = 3))) → mWm G y_Ga_discover (d + 1) 122 [vr a0, vd, vi l2, vi l3, vi l4] [] M (fun r9 M9 => ∃ x9, r9 = some (vi x9) ∧ Q x9 M9) := by
    intro q57
    have h := h.2 q57
    refine wm_aload_n d_Ga_discover_122 rfl rfl ?_
    refine wm_iload_n d_Ga_discover_123 rfl rfl ?_
    refine wm_iload d_Ga_discover_124 rfl ?_
    refine cf_Ga_111 rfl d_Ga_discover_126 h41 (Nat.le_of_ble_eq_true rfl) (Ci.mono h (fun x59 M58 h => ?_))
    obtain ⟨h60, hOM58, h⟩ := h
    refine wm_istore_n d_Ga_discover_129 rfl (by decide) (L' := [vr a0, vd, vi l2, vi x59, vi l4]) rfl ?_
    refine wm_iinc d_Ga_discover_130 (by decide) rfl (L' := [vr a0, vd, vi l2, vi x59, vi (l4 + 1)]) rfl ?_
    refine wm_goto (tgt := 96) d_Ga_discover_133 rfl ?_
    exact h
  clear h
  have s61 := s48
  refine wm_icmp_ge (tgt := 136) d_Ga_discover_105 rfl hi_l4 (hO _ _).1 (fun c47 => ?_) (fun c47 => ?_)
  · exact hE0 (Or.inl c47)
  · have s61 := s61 c47
    have s62 := s61
    refine wm_iload_n d_Ga_discover_108 rfl rfl ?_
    refine wm_if_ne (tgt := 136) d_Ga_discover_109 rfl hi_l3 (fun c46 => ?_) (fun c46 => ?_)
    · exact hE0 (Or.inr (Or.inl c46))
    · replace c46 := Classical.not_not.mp c46
      have s62 := s62 c46
      obtain ⟨h43, h44⟩ := s62
      refine wm_aload_n d_Ga_discover_112 rfl rfl ?_
      refine gf_Ga_15 rfl d_Ga_discover_113 h41 ?_
      refine wm_iload_n d_Ga_discover_116 rfl rfl ?_
      refine wm_iald d_Ga_discover_117 h43 h44 ?_
      refine wm_iconst d_Ga_discover_118 ?_
      refine wm_icmp_eq (tgt := 136) d_Ga_discover_119 rfl (hO _ _).1 ⟨by decide, by decide⟩ (fun c45 => ?_) (fun c45 => ?_)
      · exact hE0 (Or.inr (Or.inr c45))
      · exact hE1 (fun z63 => Or.elim z63 c47 (fun z64 => Or.elim z64 (fun w => w c46) c45))
theorem d_Ga_lookAt_0 : decode y_Ga_lookAt.2.1 0 = .ok (.aload_n 0, 1) := by decide +kernel
theorem d_Ga_lookAt_1 : decode y_Ga_lookAt.2.1 1 = .ok (.getfield 21, 3) := by decide +kernel
theorem d_Ga_lookAt_4 : decode y_Ga_lookAt.2.1 4 = .ok (.iload_n 1, 1) := by decide +kernel
theorem d_Ga_lookAt_5 : decode y_Ga_lookAt.2.1 5 = .ok (.aload_n 0, 1) := by decide +kernel
theorem d_Ga_lookAt_6 : decode y_Ga_lookAt.2.1 6 = .ok (.getfield 59, 3) := by decide +kernel
theorem d_Ga_lookAt_9 : decode y_Ga_lookAt.2.1 9 = .ok (.iastore, 1) := by decide +kernel
theorem d_Ga_lookAt_10 : decode y_Ga_lookAt.2.1 10 = .ok (.aload_n 0, 1) := by decide +kernel
theorem d_Ga_lookAt_11 : decode y_Ga_lookAt.2.1 11 = .ok (.getfield 21, 3) := by decide +kernel
theorem d_Ga_lookAt_14 : decode y_Ga_lookAt.2.1 14 = .ok (.iload_n 1, 1) := by decide +kernel
theorem d_Ga_lookAt_15 : decode y_Ga_lookAt.2.1 15 = .ok (.iconst 1, 1) := by decide +kernel
theorem d_Ga_lookAt_16 : decode y_Ga_lookAt.2.1 16 = .ok (.iadd, 1) := by decide +kernel
theorem d_Ga_lookAt_17 : decode y_Ga_lookAt.2.1 17 = .ok (.aload_n 0, 1) := by decide +kernel
theorem d_Ga_lookAt_18 : decode y_Ga_lookAt.2.1 18 = .ok (.getfield 59, 3) := by decide +kernel
theorem d_Ga_lookAt_21 : decode y_Ga_lookAt.2.1 21 = .ok (.iastore, 1) := by decide +kernel
theorem d_Ga_lookAt_22 : decode y_Ga_lookAt.2.1 22 = .ok (.aload_n 0, 1) := by decide +kernel
theorem d_Ga_lookAt_23 : decode y_Ga_lookAt.2.1 23 = .ok (.getfield 18, 3) := by decide +kernel
theorem d_Ga_lookAt_26 : decode y_Ga_lookAt.2.1 26 = .ok (.iload_n 1, 1) := by decide +kernel
theorem d_Ga_lookAt_27 : decode y_Ga_lookAt.2.1 27 = .ok (.iconst 0, 1) := by decide +kernel
theorem d_Ga_lookAt_28 : decode y_Ga_lookAt.2.1 28 = .ok (.iastore, 1) := by decide +kernel
theorem d_Ga_lookAt_29 : decode y_Ga_lookAt.2.1 29 = .ok (.aload_n 0, 1) := by decide +kernel
theorem d_Ga_lookAt_30 : decode y_Ga_lookAt.2.1 30 = .ok (.getfield 42, 3) := by decide +kernel
theorem d_Ga_lookAt_33 : decode y_Ga_lookAt.2.1 33 = .ok (.aload_n 0, 1) := by decide +kernel
theorem d_Ga_lookAt_34 : decode y_Ga_lookAt.2.1 34 = .ok (.getfield 9, 3) := by decide +kernel
theorem d_Ga_lookAt_37 : decode y_Ga_lookAt.2.1 37 = .ok (.iload_n 1, 1) := by decide +kernel
theorem d_Ga_lookAt_38 : decode y_Ga_lookAt.2.1 38 = .ok (.bipush 12, 2) := by decide +kernel
theorem d_Ga_lookAt_40 : decode y_Ga_lookAt.2.1 40 = .ok (.imul, 1) := by decide +kernel
theorem d_Ga_lookAt_41 : decode y_Ga_lookAt.2.1 41 = .ok (.invokevirtual 118, 3) := by decide +kernel
theorem d_Ga_lookAt_44 : decode y_Ga_lookAt.2.1 44 = .ok (.aload_n 0, 1) := by decide +kernel
theorem d_Ga_lookAt_45 : decode y_Ga_lookAt.2.1 45 = .ok (.getfield 42, 3) := by decide +kernel
theorem d_Ga_lookAt_48 : decode y_Ga_lookAt.2.1 48 = .ok (.aload_n 0, 1) := by decide +kernel
theorem d_Ga_lookAt_49 : decode y_Ga_lookAt.2.1 49 = .ok (.getfield 72, 3) := by decide +kernel
theorem d_Ga_lookAt_52 : decode y_Ga_lookAt.2.1 52 = .ok (.getfield 120, 3) := by decide +kernel
theorem d_Ga_lookAt_55 : decode y_Ga_lookAt.2.1 55 = .ok (.invokevirtual 123, 3) := by decide +kernel
theorem d_Ga_lookAt_58 : decode y_Ga_lookAt.2.1 58 = .ok (.ifCond .ne 8, 3) := by decide +kernel
theorem d_Ga_lookAt_61 : decode y_Ga_lookAt.2.1 61 = .ok (.aload_n 0, 1) := by decide +kernel
theorem d_Ga_lookAt_66 : decode y_Ga_lookAt.2.1 66 = .ok (.aload_n 0, 1) := by decide +kernel
theorem d_Ga_lookAt_67 : decode y_Ga_lookAt.2.1 67 = .ok (.getfield 15, 3) := by decide +kernel
theorem d_Ga_lookAt_70 : decode y_Ga_lookAt.2.1 70 = .ok (.iload_n 1, 1) := by decide +kernel
theorem d_Ga_lookAt_71 : decode y_Ga_lookAt.2.1 71 = .ok (.aload_n 0, 1) := by decide +kernel
theorem d_Ga_lookAt_72 : decode y_Ga_lookAt.2.1 72 = .ok (.getfield 42, 3) := by decide +kernel
theorem d_Ga_lookAt_75 : decode y_Ga_lookAt.2.1 75 = .ok (.getfield 129, 3) := by decide +kernel
theorem d_Ga_lookAt_78 : decode y_Ga_lookAt.2.1 78 = .ok (.iconst 0, 1) := by decide +kernel
theorem d_Ga_lookAt_79 : decode y_Ga_lookAt.2.1 79 = .ok (.iaload, 1) := by decide +kernel
theorem d_Ga_lookAt_62 : decode y_Ga_lookAt.2.1 62 = .ok (.invokevirtual 126, 3) := by decide +kernel
theorem d_Ga_lookAt_65 : decode y_Ga_lookAt.2.1 65 = .ok (.ireturn, 1) := by decide +kernel
theorem d_Ga_lookAt_80 : decode y_Ga_lookAt.2.1 80 = .ok (.ifCond .eq 7, 3) := by decide +kernel
theorem d_Ga_lookAt_87 : decode y_Ga_lookAt.2.1 87 = .ok (.iconst 0, 1) := by decide +kernel
theorem d_Ga_lookAt_83 : decode y_Ga_lookAt.2.1 83 = .ok (.iconst 3, 1) := by decide +kernel
theorem d_Ga_lookAt_84 : decode y_Ga_lookAt.2.1 84 = .ok (.goto 4, 3) := by decide +kernel
theorem d_Ga_lookAt_88 : decode y_Ga_lookAt.2.1 88 = .ok (.iastore, 1) := by decide +kernel
theorem d_Ga_lookAt_89 : decode y_Ga_lookAt.2.1 89 = .ok (.iconst 0, 1) := by decide +kernel
theorem d_Ga_lookAt_90 : decode y_Ga_lookAt.2.1 90 = .ok (.ireturn, 1) := by decide +kernel
theorem k_Ga_lookAt {G : mG} {d : Nat} {a0 : Nat} {l1 : Int} {M : mM} {Q : Int → mM → Prop} (hO : mOk M) (hi_l1 : i32 l1)
    (h : mK M a0 = 7 ∧ mK M (mR M a0 4) = 30 ∧ ((0 : Int) ≤ l1 ∧ l1 < (mN M (mR M a0 4) : Int)) ∧ ∀ M4, M4 = mUI M (mR M a0 4) (Int.toNat l1) (mI M a0 12) → mK M4 (mR M4 a0 4) = 30 ∧ ((0 : Int) ≤ l1 + 1 ∧ l1 + 1 < (mN M4 (mR M4 a0 4) : Int)) ∧ ∀ M8, M8 = mUI M4 (mR M4 a0 4) (Int.toNat (l1 + 1)) (mI M4 a0 12) → mK M8 (mR M8 a0 3) = 30 ∧ ((0 : Int) ≤ l1 ∧ l1 < (mN M8 (mR M8 a0 3) : Int)) ∧ ∀ M12, M12 = mUI M8 (mR M8 a0 3) (Int.toNat l1) 0 → mK M12 (mR M12 a0 15) = 5 ∧ Cv G y_Ma_enter d [vr (mR M12 a0 15), vr (mR M12 a0 1), vi (l1 * 12)] M12 (fun M15 => mOk M15 ∧ (mK M15 a0 = 7 ∧ mK M15 (mR M15 a0 14) = 6 ∧ mK M15 (mR M15 a0 15) = 5 ∧ Ci G y_Ma_run d [vr (mR M15 a0 15), vi (mI M15 (mR M15 a0 14) 11)] M15 (fun x22 M21 => i32 x22 ∧ mOk M21 ∧ (((x22 = 0) → (mK M21 a0 = 7 ∧ Ci G y_Ga_machineFault d [vr a0] M21 (fun x32 M31 => i32 x32 ∧ mOk M31 ∧ (Q x32 M31)))) ∧ (¬ (x22 = 0) → (mK M21 a0 = 7 ∧ mK M21 (mR M21 a0 15) = 5 ∧ mK M21 (mR M21 (mR M21 a0 15) 6) = 30 ∧ ((0 : Int) ≤ 0 ∧ 0 < (mN M21 (mR M21 (mR M21 a0 15) 6) : Int)) ∧ ∀ v39 : Int, v39 = (if (mI M21 (mR M21 (mR M21 a0 15) 6) 0 = 0) then 0 else 3) → mK M21 (mR M21 a0 2) = 30 ∧ ((0 : Int) ≤ l1 ∧ l1 < (mN M21 (mR M21 a0 2) : Int)) ∧ ∀ M45, M45 = mUI M21 (mR M21 a0 2) (Int.toNat l1) v39 → Q 0 M45))))))) :
    Ci G y_Ga_lookAt (d + 1) [vr a0, vi l1] M Q := by
  refine wm_open (y := y_Ga_lookAt) rfl (Nat.le_of_ble_eq_true rfl) (L := [vr a0, vi l1]) rfl ?_
  obtain ⟨h1, h⟩ := h
  obtain ⟨h2, h⟩ := h
  obtain ⟨h3, h⟩ := h
  obtain ⟨M4, e5⟩ : ∃ M4, M4 = mUI M (mR M a0 4) (Int.toNat l1) (mI M a0 12) := ⟨_, rfl⟩
  replace h := h M4 e5
  obtain ⟨h6, h⟩ := h
  obtain ⟨h7, h⟩ := h
  obtain ⟨M8, e9⟩ : ∃ M8, M8 = mUI M4 (mR M4 a0 4) (Int.toNat (l1 + 1)) (mI M4 a0 12) := ⟨_, rfl⟩
  replace h := h M8 e9
  obtain ⟨h10, h⟩ := h
  obtain ⟨h11, h⟩ := h
  obtain ⟨M12, e13⟩ : ∃ M12, M12 = mUI M8 (mR M8 a0 3) (Int.toNat l1) 0 := ⟨_, rfl⟩
  replace h := h M12 e13
  obtain ⟨h14, h⟩ := h
  refine wm_aload_n d_Ga_lookAt_0 rfl rfl ?_
  refine gf_Ga_21 rfl d_Ga_lookAt_1 h1 ?_
  refine wm_iload_n d_Ga_lookAt_4 rfl rfl ?_
  refine wm_aload_n d_Ga_lookAt_5 rfl rfl ?_
  refine gf_Ga_59 rfl d_Ga_lookAt_6 h1 ?_
  have hOM4 : mOk M4 := by rw [e5]; exact mOk_UI hO (hO _ _).1
  refine wm_iastE d_Ga_lookAt_9 h2 h3 (hO _ _).1 e5 ?_
  refine wm_aload_n d_Ga_lookAt_10 rfl rfl ?_
  refine gf_Ga_21 rfl d_Ga_lookAt_11 (by rw [e5]; exact h1) ?_
  refine wm_iload_n d_Ga_lookAt_14 rfl rfl ?_
  refine wm_iconst d_Ga_lookAt_15 ?_
  refine wm_iadd d_Ga_lookAt_16 ?_
  refine wm_aload_n d_Ga_lookAt_17 rfl rfl ?_
  refine gf_Ga_59 rfl d_Ga_lookAt_18 (by rw [e5]; exact h1) ?_
  have hOM8 : mOk M8 := by rw [e9]; exact mOk_UI hOM4 (hOM4 _ _).1
  refine wm_iastE d_Ga_lookAt_21 h6 h7 (hOM4 _ _).1 e9 ?_
  refine wm_aload_n d_Ga_lookAt_22 rfl rfl ?_
  refine gf_Ga_18 rfl d_Ga_lookAt_23 (by rw [e9, e5]; exact h1) ?_
  refine wm_iload_n d_Ga_lookAt_26 rfl rfl ?_
  refine wm_iconst d_Ga_lookAt_27 ?_
  have hOM12 : mOk M12 := by rw [e13]; exact mOk_UI hOM8 ⟨by decide, by decide⟩
  refine wm_iastE d_Ga_lookAt_28 h10 h11 ⟨by decide, by decide⟩ e13 ?_
  refine wm_aload_n d_Ga_lookAt_29 rfl rfl ?_
  refine gf_Ga_42 rfl d_Ga_lookAt_30 (by rw [e13, e9, e5]; exact h1) ?_
  refine wm_aload_n d_Ga_lookAt_33 rfl rfl ?_
  refine gf_Ga_9 rfl d_Ga_lookAt_34 (by rw [e13, e9, e5]; exact h1) ?_
  refine wm_iload_n d_Ga_lookAt_37 rfl rfl ?_
  refine wm_bipush d_Ga_lookAt_38 (by decide) ?_
  refine wm_imul d_Ga_lookAt_40 ?_
  refine cf_Ga_118 rfl d_Ga_lookAt_41 h14 (Nat.le_of_ble_eq_true rfl) (Cv.mono h (fun M15 h => ?_))
  obtain ⟨hOM15, h⟩ := h
  obtain ⟨h18, h⟩ := h
  obtain ⟨h19, h⟩ := h
  obtain ⟨h20, h⟩ := h
  refine wm_aload_n d_Ga_lookAt_44 rfl rfl ?_
  refine gf_Ga_42 rfl d_Ga_lookAt_45 h18 ?_
  refine wm_aload_n d_Ga_lookAt_48 rfl rfl ?_
  refine gf_Ga_72 rfl d_Ga_lookAt_49 h18 ?_
  refine gf_Ga_120 rfl d_Ga_lookAt_52 h19 ?_
  refine cf_Ga_123 rfl d_Ga_lookAt_55 h20 (Nat.le_of_ble_eq_true rfl) (Ci.mono h (fun x22 M21 h => ?_))
  obtain ⟨h23, hOM21, h⟩ := h
  refine wm_if_ne (tgt := 66) d_Ga_lookAt_58 rfl h23 (fun c29 => ?_) (fun c29 => ?_)
  · replace h := h.2 c29
    obtain ⟨h34, h⟩ := h
    obtain ⟨h35, h⟩ := h
    obtain ⟨h36, h⟩ := h
    obtain ⟨h37, h⟩ := h
    refine wm_aload_n d_Ga_lookAt_66 rfl rfl ?_
    refine gf_Ga_15 rfl d_Ga_lookAt_67 h34 ?_
    refine wm_iload_n d_Ga_lookAt_70 rfl rfl ?_
    refine wm_aload_n d_Ga_lookAt_71 rfl rfl ?_
    refine gf_Ga_42 rfl d_Ga_lookAt_72 h34 ?_
    refine gf_Ga_129 rfl d_Ga_lookAt_75 h35 ?_
    refine wm_iconst d_Ga_lookAt_78 ?_
    refine wm_iald d_Ga_lookAt_79 h36 h37 ?_
    have hJ : ∀ v39 : Int, v39 = (if (mI M21 (mR M21 (mR M21 a0 15) 6) 0 = 0) then 0 else 3) → mWm G y_Ga_lookAt (d + 1) 88 [vd, vd] [vi v39, vi l1, vr (mR M21 a0 2)] M21 (fun r9 M9 => ∃ x9, r9 = some (vi x9) ∧ Q x9 M9) := by
      intro v39 e41
      have h := h v39 e41
      have h42 : i32 v39 := by rw [e41]; (repeat' split) <;> first | exact ⟨by decide, by decide⟩ | exact ⟨by decide, by decide⟩
      obtain ⟨h43, h⟩ := h
      obtain ⟨h44, h⟩ := h
      obtain ⟨M45, e46⟩ : ∃ M45, M45 = mUI M21 (mR M21 a0 2) (Int.toNat l1) v39 := ⟨_, rfl⟩
      replace h := h M45 e46
      have hOM45 : mOk M45 := by rw [e46]; exact mOk_UI hOM21 h42
      refine wm_iastE d_Ga_lookAt_88 h43 h44 h42 e46 ?_
      refine wm_iconst d_Ga_lookAt_89 ?_
      refine wm_ireturn d_Ga_lookAt_90 rfl rfl ?_
      exact ⟨_, rfl, h⟩
    clear h
    refine wm_if_eq (tgt := 87) d_Ga_lookAt_80 rfl (hOM21 _ _).1 (fun c38 => ?_) (fun c38 => ?_)
    · refine wm_iconst d_Ga_lookAt_87 ?_
      refine wm_less (L' := [vd, vd]) ⟨Or.inl rfl, Or.inl rfl, trivial⟩ ?_
      exact hJ 0 (if_pos c38).symm
    · refine wm_iconst d_Ga_lookAt_83 ?_
      refine wm_goto (tgt := 88) d_Ga_lookAt_84 rfl ?_
      refine wm_less (L' := [vd, vd]) ⟨Or.inl rfl, Or.inl rfl, trivial⟩ ?_
      exact hJ 3 (if_neg c38).symm
  · replace c29 := Classical.not_not.mp c29
    replace h := h.1 c29
    obtain ⟨h30, h⟩ := h
    refine wm_aload_n d_Ga_lookAt_61 rfl rfl ?_
    refine cf_Ga_126 rfl d_Ga_lookAt_62 h30 (Nat.le_of_ble_eq_true rfl) (Ci.mono h (fun x32 M31 h => ?_))
    obtain ⟨h33, hOM31, h⟩ := h
    refine wm_ireturn d_Ga_lookAt_65 rfl rfl ?_
    exact ⟨_, rfl, h⟩
theorem d_Ga_machineFault_0 : decode y_Ga_machineFault.2.1 0 = .ok (.aload_n 0, 1) := by decide +kernel
theorem d_Ga_machineFault_1 : decode y_Ga_machineFault.2.1 1 = .ok (.aload_n 0, 1) := by decide +kernel
theorem d_Ga_machineFault_2 : decode y_Ga_machineFault.2.1 2 = .ok (.getfield 42, 3) := by decide +kernel
theorem d_Ga_machineFault_5 : decode y_Ga_machineFault.2.1 5 = .ok (.getfield 132, 3) := by decide +kernel
theorem d_Ga_machineFault_8 : decode y_Ga_machineFault.2.1 8 = .ok (.putfield 135, 3) := by decide +kernel
theorem d_Ga_machineFault_11 : decode y_Ga_machineFault.2.1 11 = .ok (.aload_n 0, 1) := by decide +kernel
theorem d_Ga_machineFault_12 : decode y_Ga_machineFault.2.1 12 = .ok (.getfield 42, 3) := by decide +kernel
theorem d_Ga_machineFault_15 : decode y_Ga_machineFault.2.1 15 = .ok (.getfield 136, 3) := by decide +kernel
theorem d_Ga_machineFault_18 : decode y_Ga_machineFault.2.1 18 = .ok (.ireturn, 1) := by decide +kernel
theorem k_Ga_machineFault {G : mG} {d : Nat} {a0 : Nat} {M : mM} {Q : Int → mM → Prop} (hO : mOk M)
    (h : mK M a0 = 7 ∧ mK M (mR M a0 15) = 5 ∧ ∀ M3, M3 = mUI M a0 10 (mI M (mR M a0 15) 2) → mK M3 (mR M3 a0 15) = 5 ∧ Q (mI M3 (mR M3 a0 15) 1) M3) :
    Ci G y_Ga_machineFault d [vr a0] M Q := by
  refine wm_open (y := y_Ga_machineFault) rfl (Nat.le_of_ble_eq_true rfl) (L := [vr a0]) rfl ?_
  obtain ⟨h1, h⟩ := h
  obtain ⟨h2, h⟩ := h
  obtain ⟨M3, e4⟩ : ∃ M3, M3 = mUI M a0 10 (mI M (mR M a0 15) 2) := ⟨_, rfl⟩
  replace h := h M3 e4
  obtain ⟨h5, h⟩ := h
  refine wm_aload_n d_Ga_machineFault_0 rfl rfl ?_
  refine wm_aload_n d_Ga_machineFault_1 rfl rfl ?_
  refine gf_Ga_42 rfl d_Ga_machineFault_2 h1 ?_
  refine gf_Ga_132 rfl d_Ga_machineFault_5 h2 ?_
  have hOM3 : mOk M3 := by rw [e4]; exact mOk_UI hO (hO _ _).1
  refine pf_Ga_135 rfl d_Ga_machineFault_8 h1 (hO _ _).1 e4 ?_
  refine wm_aload_n d_Ga_machineFault_11 rfl rfl ?_
  refine gf_Ga_42 rfl d_Ga_machineFault_12 (by rw [e4]; exact h1) ?_
  refine gf_Ga_136 rfl d_Ga_machineFault_15 h5 ?_
  refine wm_ireturn d_Ga_machineFault_18 rfl rfl ?_
  exact ⟨_, rfl, h⟩
theorem d_Ga_fault_0 : decode y_Ga_fault.2.1 0 = .ok (.aload_n 0, 1) := by decide +kernel
theorem d_Ga_fault_1 : decode y_Ga_fault.2.1 1 = .ok (.iload_n 2, 1) := by decide +kernel
theorem d_Ga_fault_2 : decode y_Ga_fault.2.1 2 = .ok (.putfield 135, 3) := by decide +kernel
theorem d_Ga_fault_5 : decode y_Ga_fault.2.1 5 = .ok (.iload_n 1, 1) := by decide +kernel
theorem d_Ga_fault_6 : decode y_Ga_fault.2.1 6 = .ok (.ireturn, 1) := by decide +kernel
theorem k_Ga_fault {G : mG} {d : Nat} {a0 : Nat} {l1 : Int} {l2 : Int} {M : mM} {Q : Int → mM → Prop} (hO : mOk M) (hi_l1 : i32 l1) (hi_l2 : i32 l2)
    (h : mK M a0 = 7 ∧ ∀ M2, M2 = mUI M a0 10 l2 → Q l1 M2) :
    Ci G y_Ga_fault d [vr a0, vi l1, vi l2] M Q := by
  refine wm_open (y := y_Ga_fault) rfl (Nat.le_of_ble_eq_true rfl) (L := [vr a0, vi l1, vi l2]) rfl ?_
  obtain ⟨h1, h⟩ := h
  obtain ⟨M2, e3⟩ : ∃ M2, M2 = mUI M a0 10 l2 := ⟨_, rfl⟩
  replace h := h M2 e3
  refine wm_aload_n d_Ga_fault_0 rfl rfl ?_
  refine wm_iload_n d_Ga_fault_1 rfl rfl ?_
  have hOM2 : mOk M2 := by rw [e3]; exact mOk_UI hO hi_l2
  refine pf_Ga_135 rfl d_Ga_fault_2 h1 hi_l2 e3 ?_
  refine wm_iload_n d_Ga_fault_5 rfl rfl ?_
  refine wm_ireturn d_Ga_fault_6 rfl rfl ?_
  exact ⟨_, rfl, h⟩
theorem d_Ga_tryCommand_0 : decode y_Ga_tryCommand.2.1 0 = .ok (.aload_n 0, 1) := by decide +kernel
theorem d_Ga_tryCommand_1 : decode y_Ga_tryCommand.2.1 1 = .ok (.getfield 42, 3) := by decide +kernel
theorem d_Ga_tryCommand_4 : decode y_Ga_tryCommand.2.1 4 = .ok (.aload_n 0, 1) := by decide +kernel
theorem d_Ga_tryCommand_5 : decode y_Ga_tryCommand.2.1 5 = .ok (.getfield 72, 3) := by decide +kernel
theorem d_Ga_tryCommand_8 : decode y_Ga_tryCommand.2.1 8 = .ok (.getfield 139, 3) := by decide +kernel
theorem d_Ga_tryCommand_11 : decode y_Ga_tryCommand.2.1 11 = .ok (.iload_n 2, 1) := by decide +kernel
theorem d_Ga_tryCommand_12 : decode y_Ga_tryCommand.2.1 12 = .ok (.iaload, 1) := by decide +kernel
theorem d_Ga_tryCommand_13 : decode y_Ga_tryCommand.2.1 13 = .ok (.invokevirtual 123, 3) := by decide +kernel
theorem d_Ga_tryCommand_16 : decode y_Ga_tryCommand.2.1 16 = .ok (.ifCond .ne 8, 3) := by decide +kernel
theorem d_Ga_tryCommand_19 : decode y_Ga_tryCommand.2.1 19 = .ok (.aload_n 0, 1) := by decide +kernel
theorem d_Ga_tryCommand_24 : decode y_Ga_tryCommand.2.1 24 = .ok (.aload_n 0, 1) := by decide +kernel
theorem d_Ga_tryCommand_25 : decode y_Ga_tryCommand.2.1 25 = .ok (.getfield 42, 3) := by decide +kernel
theorem d_Ga_tryCommand_28 : decode y_Ga_tryCommand.2.1 28 = .ok (.getfield 129, 3) := by decide +kernel
theorem d_Ga_tryCommand_31 : decode y_Ga_tryCommand.2.1 31 = .ok (.iconst 0, 1) := by decide +kernel
theorem d_Ga_tryCommand_32 : decode y_Ga_tryCommand.2.1 32 = .ok (.iaload, 1) := by decide +kernel
theorem d_Ga_tryCommand_33 : decode y_Ga_tryCommand.2.1 33 = .ok (.ifCond .ne 5, 3) := by decide +kernel
theorem d_Ga_tryCommand_36 : decode y_Ga_tryCommand.2.1 36 = .ok (.iconst 0, 1) := by decide +kernel
theorem d_Ga_tryCommand_37 : decode y_Ga_tryCommand.2.1 37 = .ok (.ireturn, 1) := by decide +kernel
theorem d_Ga_tryCommand_38 : decode y_Ga_tryCommand.2.1 38 = .ok (.aload_n 0, 1) := by decide +kernel
theorem d_Ga_tryCommand_39 : decode y_Ga_tryCommand.2.1 39 = .ok (.getfield 72, 3) := by decide +kernel
theorem d_Ga_tryCommand_42 : decode y_Ga_tryCommand.2.1 42 = .ok (.getfield 142, 3) := by decide +kernel
theorem d_Ga_tryCommand_45 : decode y_Ga_tryCommand.2.1 45 = .ok (.iload_n 2, 1) := by decide +kernel
theorem d_Ga_tryCommand_46 : decode y_Ga_tryCommand.2.1 46 = .ok (.iaload, 1) := by decide +kernel
theorem d_Ga_tryCommand_47 : decode y_Ga_tryCommand.2.1 47 = .ok (.istore_n 3, 1) := by decide +kernel
theorem d_Ga_tryCommand_48 : decode y_Ga_tryCommand.2.1 48 = .ok (.aload_n 0, 1) := by decide +kernel
theorem d_Ga_tryCommand_49 : decode y_Ga_tryCommand.2.1 49 = .ok (.getfield 15, 3) := by decide +kernel
theorem d_Ga_tryCommand_52 : decode y_Ga_tryCommand.2.1 52 = .ok (.iload_n 1, 1) := by decide +kernel
theorem d_Ga_tryCommand_53 : decode y_Ga_tryCommand.2.1 53 = .ok (.iaload, 1) := by decide +kernel
theorem d_Ga_tryCommand_20 : decode y_Ga_tryCommand.2.1 20 = .ok (.invokevirtual 126, 3) := by decide +kernel
theorem d_Ga_tryCommand_23 : decode y_Ga_tryCommand.2.1 23 = .ok (.ireturn, 1) := by decide +kernel
theorem d_Ga_tryCommand_54 : decode y_Ga_tryCommand.2.1 54 = .ok (.ifCond .eq 29, 3) := by decide +kernel
theorem d_Ga_tryCommand_57 : decode y_Ga_tryCommand.2.1 57 = .ok (.aload_n 0, 1) := by decide +kernel
theorem d_Ga_tryCommand_58 : decode y_Ga_tryCommand.2.1 58 = .ok (.getfield 15, 3) := by decide +kernel
theorem d_Ga_tryCommand_61 : decode y_Ga_tryCommand.2.1 61 = .ok (.iload_n 1, 1) := by decide +kernel
theorem d_Ga_tryCommand_62 : decode y_Ga_tryCommand.2.1 62 = .ok (.iaload, 1) := by decide +kernel
theorem d_Ga_tryCommand_63 : decode y_Ga_tryCommand.2.1 63 = .ok (.iload_n 3, 1) := by decide +kernel
theorem d_Ga_tryCommand_64 : decode y_Ga_tryCommand.2.1 64 = .ok (.if_icmp .eq 19, 3) := by decide +kernel
theorem d_Ga_tryCommand_67 : decode y_Ga_tryCommand.2.1 67 = .ok (.aload_n 0, 1) := by decide +kernel
theorem d_Ga_tryCommand_68 : decode y_Ga_tryCommand.2.1 68 = .ok (.bipush 13, 2) := by decide +kernel
theorem d_Ga_tryCommand_70 : decode y_Ga_tryCommand.2.1 70 = .ok (.aload_n 0, 1) := by decide +kernel
theorem d_Ga_tryCommand_71 : decode y_Ga_tryCommand.2.1 71 = .ok (.getfield 72, 3) := by decide +kernel
theorem d_Ga_tryCommand_74 : decode y_Ga_tryCommand.2.1 74 = .ok (.getfield 145, 3) := by decide +kernel
theorem d_Ga_tryCommand_77 : decode y_Ga_tryCommand.2.1 77 = .ok (.iload_n 2, 1) := by decide +kernel
theorem d_Ga_tryCommand_78 : decode y_Ga_tryCommand.2.1 78 = .ok (.iaload, 1) := by decide +kernel
theorem d_Ga_tryCommand_83 : decode y_Ga_tryCommand.2.1 83 = .ok (.aload_n 0, 1) := by decide +kernel
theorem d_Ga_tryCommand_84 : decode y_Ga_tryCommand.2.1 84 = .ok (.getfield 15, 3) := by decide +kernel
theorem d_Ga_tryCommand_87 : decode y_Ga_tryCommand.2.1 87 = .ok (.iload_n 1, 1) := by decide +kernel
theorem d_Ga_tryCommand_88 : decode y_Ga_tryCommand.2.1 88 = .ok (.iload_n 3, 1) := by decide +kernel
theorem d_Ga_tryCommand_89 : decode y_Ga_tryCommand.2.1 89 = .ok (.iastore, 1) := by decide +kernel
theorem d_Ga_tryCommand_90 : decode y_Ga_tryCommand.2.1 90 = .ok (.aload_n 0, 1) := by decide +kernel
theorem d_Ga_tryCommand_91 : decode y_Ga_tryCommand.2.1 91 = .ok (.getfield 24, 3) := by decide +kernel
theorem d_Ga_tryCommand_94 : decode y_Ga_tryCommand.2.1 94 = .ok (.aload_n 0, 1) := by decide +kernel
theorem d_Ga_tryCommand_95 : decode y_Ga_tryCommand.2.1 95 = .ok (.getfield 59, 3) := by decide +kernel
theorem d_Ga_tryCommand_98 : decode y_Ga_tryCommand.2.1 98 = .ok (.iload_n 2, 1) := by decide +kernel
theorem d_Ga_tryCommand_99 : decode y_Ga_tryCommand.2.1 99 = .ok (.iastore, 1) := by decide +kernel
theorem d_Ga_tryCommand_100 : decode y_Ga_tryCommand.2.1 100 = .ok (.aload_n 0, 1) := by decide +kernel
theorem d_Ga_tryCommand_101 : decode y_Ga_tryCommand.2.1 101 = .ok (.getfield 30, 3) := by decide +kernel
theorem d_Ga_tryCommand_104 : decode y_Ga_tryCommand.2.1 104 = .ok (.aload_n 0, 1) := by decide +kernel
theorem d_Ga_tryCommand_105 : decode y_Ga_tryCommand.2.1 105 = .ok (.getfield 59, 3) := by decide +kernel
theorem d_Ga_tryCommand_108 : decode y_Ga_tryCommand.2.1 108 = .ok (.aload_n 0, 1) := by decide +kernel
theorem d_Ga_tryCommand_109 : decode y_Ga_tryCommand.2.1 109 = .ok (.getfield 62, 3) := by decide +kernel
theorem d_Ga_tryCommand_112 : decode y_Ga_tryCommand.2.1 112 = .ok (.iastore, 1) := by decide +kernel
theorem d_Ga_tryCommand_113 : decode y_Ga_tryCommand.2.1 113 = .ok (.aload_n 0, 1) := by decide +kernel
theorem d_Ga_tryCommand_114 : decode y_Ga_tryCommand.2.1 114 = .ok (.iload_n 2, 1) := by decide +kernel
theorem d_Ga_tryCommand_115 : decode y_Ga_tryCommand.2.1 115 = .ok (.invokevirtual 150, 3) := by decide +kernel
theorem d_Ga_tryCommand_118 : decode y_Ga_tryCommand.2.1 118 = .ok (.istore 4, 2) := by decide +kernel
theorem d_Ga_tryCommand_120 : decode y_Ga_tryCommand.2.1 120 = .ok (.aload_n 0, 1) := by decide +kernel
theorem d_Ga_tryCommand_121 : decode y_Ga_tryCommand.2.1 121 = .ok (.getfield 72, 3) := by decide +kernel
theorem d_Ga_tryCommand_124 : decode y_Ga_tryCommand.2.1 124 = .ok (.getfield 153, 3) := by decide +kernel
theorem d_Ga_tryCommand_127 : decode y_Ga_tryCommand.2.1 127 = .ok (.iload_n 2, 1) := by decide +kernel
theorem d_Ga_tryCommand_128 : decode y_Ga_tryCommand.2.1 128 = .ok (.iconst 1, 1) := by decide +kernel
theorem d_Ga_tryCommand_129 : decode y_Ga_tryCommand.2.1 129 = .ok (.iadd, 1) := by decide +kernel
theorem d_Ga_tryCommand_130 : decode y_Ga_tryCommand.2.1 130 = .ok (.iaload, 1) := by decide +kernel
theorem d_Ga_tryCommand_131 : decode y_Ga_tryCommand.2.1 131 = .ok (.aload_n 0, 1) := by decide +kernel
theorem d_Ga_tryCommand_132 : decode y_Ga_tryCommand.2.1 132 = .ok (.getfield 72, 3) := by decide +kernel
theorem d_Ga_tryCommand_135 : decode y_Ga_tryCommand.2.1 135 = .ok (.getfield 153, 3) := by decide +kernel
theorem d_Ga_tryCommand_138 : decode y_Ga_tryCommand.2.1 138 = .ok (.iload_n 2, 1) := by decide +kernel
theorem d_Ga_tryCommand_139 : decode y_Ga_tryCommand.2.1 139 = .ok (.iaload, 1) := by decide +kernel
theorem d_Ga_tryCommand_140 : decode y_Ga_tryCommand.2.1 140 = .ok (.isub, 1) := by decide +kernel
theorem d_Ga_tryCommand_141 : decode y_Ga_tryCommand.2.1 141 = .ok (.istore 5, 2) := by decide +kernel
theorem d_Ga_tryCommand_143 : decode y_Ga_tryCommand.2.1 143 = .ok (.iconst 0, 1) := by decide +kernel
theorem d_Ga_tryCommand_144 : decode y_Ga_tryCommand.2.1 144 = .ok (.istore 6, 2) := by decide +kernel
theorem d_Ga_tryCommand_79 : decode y_Ga_tryCommand.2.1 79 = .ok (.invokevirtual 148, 3) := by decide +kernel
theorem d_Ga_tryCommand_82 : decode y_Ga_tryCommand.2.1 82 = .ok (.ireturn, 1) := by decide +kernel
theorem d_Ga_tryCommand_146 : decode y_Ga_tryCommand.2.1 146 = .ok (.iload 6, 2) := by decide +kernel
theorem d_Ga_tryCommand_148 : decode y_Ga_tryCommand.2.1 148 = .ok (.iload 5, 2) := by decide +kernel
theorem d_Ga_tryCommand_150 : decode y_Ga_tryCommand.2.1 150 = .ok (.if_icmp .ge 68, 3) := by decide +kernel
theorem d_Ga_tryCommand_153 : decode y_Ga_tryCommand.2.1 153 = .ok (.iload 4, 2) := by decide +kernel
theorem d_Ga_tryCommand_155 : decode y_Ga_tryCommand.2.1 155 = .ok (.ifCond .ne 63, 3) := by decide +kernel
theorem d_Ga_tryCommand_158 : decode y_Ga_tryCommand.2.1 158 = .ok (.aload_n 0, 1) := by decide +kernel
theorem d_Ga_tryCommand_159 : decode y_Ga_tryCommand.2.1 159 = .ok (.getfield 49, 3) := by decide +kernel
theorem d_Ga_tryCommand_162 : decode y_Ga_tryCommand.2.1 162 = .ok (.iload 6, 2) := by decide +kernel
theorem d_Ga_tryCommand_164 : decode y_Ga_tryCommand.2.1 164 = .ok (.iaload, 1) := by decide +kernel
theorem d_Ga_tryCommand_165 : decode y_Ga_tryCommand.2.1 165 = .ok (.ifCond .eq 47, 3) := by decide +kernel
theorem d_Ga_tryCommand_168 : decode y_Ga_tryCommand.2.1 168 = .ok (.aload_n 0, 1) := by decide +kernel
theorem d_Ga_tryCommand_169 : decode y_Ga_tryCommand.2.1 169 = .ok (.iload_n 2, 1) := by decide +kernel
theorem d_Ga_tryCommand_170 : decode y_Ga_tryCommand.2.1 170 = .ok (.aload_n 0, 1) := by decide +kernel
theorem d_Ga_tryCommand_171 : decode y_Ga_tryCommand.2.1 171 = .ok (.getfield 72, 3) := by decide +kernel
theorem d_Ga_tryCommand_174 : decode y_Ga_tryCommand.2.1 174 = .ok (.getfield 153, 3) := by decide +kernel
theorem d_Ga_tryCommand_177 : decode y_Ga_tryCommand.2.1 177 = .ok (.iload_n 2, 1) := by decide +kernel
theorem d_Ga_tryCommand_178 : decode y_Ga_tryCommand.2.1 178 = .ok (.iaload, 1) := by decide +kernel
theorem d_Ga_tryCommand_179 : decode y_Ga_tryCommand.2.1 179 = .ok (.iload 6, 2) := by decide +kernel
theorem d_Ga_tryCommand_181 : decode y_Ga_tryCommand.2.1 181 = .ok (.iadd, 1) := by decide +kernel
theorem d_Ga_tryCommand_182 : decode y_Ga_tryCommand.2.1 182 = .ok (.aload_n 0, 1) := by decide +kernel
theorem d_Ga_tryCommand_183 : decode y_Ga_tryCommand.2.1 183 = .ok (.getfield 27, 3) := by decide +kernel
theorem d_Ga_tryCommand_186 : decode y_Ga_tryCommand.2.1 186 = .ok (.aload_n 0, 1) := by decide +kernel
theorem d_Ga_tryCommand_187 : decode y_Ga_tryCommand.2.1 187 = .ok (.getfield 59, 3) := by decide +kernel
theorem d_Ga_tryCommand_190 : decode y_Ga_tryCommand.2.1 190 = .ok (.iaload, 1) := by decide +kernel
theorem d_Ga_tryCommand_191 : decode y_Ga_tryCommand.2.1 191 = .ok (.aload_n 0, 1) := by decide +kernel
theorem d_Ga_tryCommand_192 : decode y_Ga_tryCommand.2.1 192 = .ok (.getfield 52, 3) := by decide +kernel
theorem d_Ga_tryCommand_195 : decode y_Ga_tryCommand.2.1 195 = .ok (.iload 6, 2) := by decide +kernel
theorem d_Ga_tryCommand_197 : decode y_Ga_tryCommand.2.1 197 = .ok (.iaload, 1) := by decide +kernel
theorem d_Ga_tryCommand_198 : decode y_Ga_tryCommand.2.1 198 = .ok (.idiv, 1) := by decide +kernel
theorem d_Ga_tryCommand_199 : decode y_Ga_tryCommand.2.1 199 = .ok (.aload_n 0, 1) := by decide +kernel
theorem d_Ga_tryCommand_200 : decode y_Ga_tryCommand.2.1 200 = .ok (.getfield 49, 3) := by decide +kernel
theorem d_Ga_tryCommand_203 : decode y_Ga_tryCommand.2.1 203 = .ok (.iload 6, 2) := by decide +kernel
theorem d_Ga_tryCommand_205 : decode y_Ga_tryCommand.2.1 205 = .ok (.iaload, 1) := by decide +kernel
theorem d_Ga_tryCommand_206 : decode y_Ga_tryCommand.2.1 206 = .ok (.imul, 1) := by decide +kernel
theorem d_Ga_tryCommand_218 : decode y_Ga_tryCommand.2.1 218 = .ok (.aload_n 0, 1) := by decide +kernel
theorem d_Ga_tryCommand_219 : decode y_Ga_tryCommand.2.1 219 = .ok (.dup, 1) := by decide +kernel
theorem d_Ga_tryCommand_220 : decode y_Ga_tryCommand.2.1 220 = .ok (.getfield 59, 3) := by decide +kernel
theorem d_Ga_tryCommand_223 : decode y_Ga_tryCommand.2.1 223 = .ok (.iconst 1, 1) := by decide +kernel
theorem d_Ga_tryCommand_224 : decode y_Ga_tryCommand.2.1 224 = .ok (.iadd, 1) := by decide +kernel
theorem d_Ga_tryCommand_225 : decode y_Ga_tryCommand.2.1 225 = .ok (.putfield 59, 3) := by decide +kernel
theorem d_Ga_tryCommand_228 : decode y_Ga_tryCommand.2.1 228 = .ok (.aload_n 0, 1) := by decide +kernel
theorem d_Ga_tryCommand_229 : decode y_Ga_tryCommand.2.1 229 = .ok (.getfield 30, 3) := by decide +kernel
theorem d_Ga_tryCommand_232 : decode y_Ga_tryCommand.2.1 232 = .ok (.aload_n 0, 1) := by decide +kernel
theorem d_Ga_tryCommand_233 : decode y_Ga_tryCommand.2.1 233 = .ok (.getfield 59, 3) := by decide +kernel
theorem d_Ga_tryCommand_236 : decode y_Ga_tryCommand.2.1 236 = .ok (.aload_n 0, 1) := by decide +kernel
theorem d_Ga_tryCommand_237 : decode y_Ga_tryCommand.2.1 237 = .ok (.getfield 62, 3) := by decide +kernel
theorem d_Ga_tryCommand_240 : decode y_Ga_tryCommand.2.1 240 = .ok (.iastore, 1) := by decide +kernel
theorem d_Ga_tryCommand_241 : decode y_Ga_tryCommand.2.1 241 = .ok (.aload_n 0, 1) := by decide +kernel
theorem d_Ga_tryCommand_242 : decode y_Ga_tryCommand.2.1 242 = .ok (.getfield 21, 3) := by decide +kernel
theorem d_Ga_tryCommand_245 : decode y_Ga_tryCommand.2.1 245 = .ok (.iload_n 1, 1) := by decide +kernel
theorem d_Ga_tryCommand_246 : decode y_Ga_tryCommand.2.1 246 = .ok (.iconst 1, 1) := by decide +kernel
theorem d_Ga_tryCommand_247 : decode y_Ga_tryCommand.2.1 247 = .ok (.iadd, 1) := by decide +kernel
theorem d_Ga_tryCommand_248 : decode y_Ga_tryCommand.2.1 248 = .ok (.aload_n 0, 1) := by decide +kernel
theorem d_Ga_tryCommand_249 : decode y_Ga_tryCommand.2.1 249 = .ok (.getfield 59, 3) := by decide +kernel
theorem d_Ga_tryCommand_252 : decode y_Ga_tryCommand.2.1 252 = .ok (.iastore, 1) := by decide +kernel
theorem d_Ga_tryCommand_253 : decode y_Ga_tryCommand.2.1 253 = .ok (.iload 4, 2) := by decide +kernel
theorem d_Ga_tryCommand_255 : decode y_Ga_tryCommand.2.1 255 = .ok (.ireturn, 1) := by decide +kernel
theorem d_Ga_tryCommand_207 : decode y_Ga_tryCommand.2.1 207 = .ok (.invokevirtual 154, 3) := by decide +kernel
theorem d_Ga_tryCommand_210 : decode y_Ga_tryCommand.2.1 210 = .ok (.istore 4, 2) := by decide +kernel
theorem d_Ga_tryCommand_212 : decode y_Ga_tryCommand.2.1 212 = .ok (.iinc 6 1, 3) := by decide +kernel
theorem d_Ga_tryCommand_215 : decode y_Ga_tryCommand.2.1 215 = .ok (.goto (-69), 3) := by decide +kernel
def h_Ga_tryCommand_146 (G : mG) (d : Nat) (a0 : Nat) (l1 : Int) (l2 : Int) (l4 : Int) (l5 : Int) (l6 : Int) (M : mM) (Q : Int → mM → Prop) : Prop := mWm G y_Ga_tryCommand (d + 1) 146 [vr a0, vi l1, vi l2, vd, vi l4, vi l5, vi l6] [] M (fun r9 M9 => ∃ x9, r9 = some (vi x9) ∧ Q x9 M9)
def h_Ga_tryCommand_212 (G : mG) (d : Nat) (a0 : Nat) (l1 : Int) (l2 : Int) (l4 : Int) (l5 : Int) (l6 : Int) (M : mM) (Q : Int → mM → Prop) : Prop := mWm G y_Ga_tryCommand (d + 1) 212 [vr a0, vi l1, vi l2, vd, vi l4, vi l5, vi l6] [] M (fun r9 M9 => ∃ x9, r9 = some (vi x9) ∧ Q x9 M9)
theorem k_Ga_tryCommand {G : mG} {d : Nat} {a0 : Nat} {l1 : Int} {l2 : Int} {M : mM} {Q : Int → mM → Prop} (hO : mOk M) (hi_l1 : i32 l1) (hi_l2 : i32 l2)
    (h : mK M a0 = 7 ∧ mK M (mR M a0 14) = 6 ∧ mK M (mR M (mR M a0 14) 15) = 30 ∧ ((0 : Int) ≤ l2 ∧ l2 < (mN M (mR M (mR M a0 14) 15) : Int)) ∧ mK M (mR M a0 15) = 5 ∧ Ci G y_Ma_run d [vr (mR M a0 15), vi (mI M (mR M (mR M a0 14) 15) (Int.toNat l2))] M (fun x7 M6 => i32 x7 ∧ mOk M6 ∧ (((x7 = 0) → (mK M6 a0 = 7 ∧ Ci G y_Ga_machineFault d [vr a0] M6 (fun x23 M22 => i32 x23 ∧ mOk M22 ∧ (Q x23 M22)))) ∧ (¬ (x7 = 0) → (mK M6 a0 = 7 ∧ mK M6 (mR M6 a0 15) = 5 ∧ mK M6 (mR M6 (mR M6 a0 15) 6) = 30 ∧ ((0 : Int) ≤ 0 ∧ 0 < (mN M6 (mR M6 (mR M6 a0 15) 6) : Int)) ∧ ((mI M6 (mR M6 (mR M6 a0 15) 6) 0 = 0) → (Q 0 M6)) ∧ (¬ (mI M6 (mR M6 (mR M6 a0 15) 6) 0 = 0) → (mK M6 (mR M6 a0 14) = 6 ∧ mK M6 (mR M6 (mR M6 a0 14) 13) = 30 ∧ ((0 : Int) ≤ l2 ∧ l2 < (mN M6 (mR M6 (mR M6 a0 14) 13) : Int)) ∧ mK M6 (mR M6 a0 2) = 30 ∧ ((0 : Int) ≤ l1 ∧ l1 < (mN M6 (mR M6 a0 2) : Int)) ∧ (¬ (mI M6 (mR M6 a0 2) (Int.toNat l1) = 0) → ((0 : Int) ≤ l1 ∧ l1 < (mN M6 (mR M6 a0 2) : Int))) ∧ (((mI M6 (mR M6 a0 2) (Int.toNat l1) = 0) ∨ (mI M6 (mR M6 a0 2) (Int.toNat l1) = mI M6 (mR M6 (mR M6 a0 14) 13) (Int.toNat l2))) → (((0 : Int) ≤ l1 ∧ l1 < (mN M6 (mR M6 a0 2) : Int)) ∧ ∀ M47, M47 = mUI M6 (mR M6 a0 2) (Int.toNat l1) (mI M6 (mR M6 (mR M6 a0 14) 13) (Int.toNat l2)) → mK M47 (mR M47 a0 5) = 30 ∧ ((0 : Int) ≤ mI M47 a0 12 ∧ mI M47 a0 12 < (mN M47 (mR M47 a0 5) : Int)) ∧ ∀ M51, M51 = mUI M47 (mR M47 a0 5) (Int.toNat (mI M47 a0 12)) l2 → mK M51 (mR M51 a0 7) = 30 ∧ ((0 : Int) ≤ mI M51 a0 12 ∧ mI M51 a0 12 < (mN M51 (mR M51 a0 7) : Int)) ∧ ∀ M55, M55 = mUI M51 (mR M51 a0 7) (Int.toNat (mI M51 a0 12)) (mI M51 a0 13) → Ci G y_Ga_weighChances d [vr a0, vi l2] M55 (fun x58 M57 => i32 x58 ∧ mOk M57 ∧ (mK M57 a0 = 7 ∧ mK M57 (mR M57 a0 14) = 6 ∧ mK M57 (mR M57 (mR M57 a0 14) 16) = 30 ∧ ((0 : Int) ≤ l2 + 1 ∧ l2 + 1 < (mN M57 (mR M57 (mR M57 a0 14) 16) : Int)) ∧ ((0 : Int) ≤ l2 ∧ l2 < (mN M57 (mR M57 (mR M57 a0 14) 16) : Int)) ∧ h_Ga_tryCommand_146 G d a0 l1 l2 x58 ((mI M57 (mR M57 (mR M57 a0 14) 16) (Int.toNat (l2 + 1))) - (mI M57 (mR M57 (mR M57 a0 14) 16) (Int.toNat l2))) 0 M57 Q)))) ∧ (¬ ((mI M6 (mR M6 a0 2) (Int.toNat l1) = 0) ∨ (mI M6 (mR M6 a0 2) (Int.toNat l1) = mI M6 (mR M6 (mR M6 a0 14) 13) (Int.toNat l2))) → (mK M6 (mR M6 (mR M6 a0 14) 14) = 30 ∧ ((0 : Int) ≤ l2 ∧ l2 < (mN M6 (mR M6 (mR M6 a0 14) 14) : Int)) ∧ Ci G y_Ga_fault d [vr a0, vi 13, vi (mI M6 (mR M6 (mR M6 a0 14) 14) (Int.toNat l2))] M6 (fun x69 M68 => i32 x69 ∧ mOk M68 ∧ (Q x69 M68))))))))))) :
    Ci G y_Ga_tryCommand (d + 1) [vr a0, vi l1, vi l2] M Q := by
  refine wm_open (y := y_Ga_tryCommand) rfl (Nat.le_of_ble_eq_true rfl) (L := [vr a0, vi l1, vi l2, vd, vd, vd, vd]) rfl ?_
  obtain ⟨h1, h⟩ := h
  obtain ⟨h2, h⟩ := h
  obtain ⟨h3, h⟩ := h
  obtain ⟨h4, h⟩ := h
  obtain ⟨h5, h⟩ := h
  refine wm_aload_n d_Ga_tryCommand_0 rfl rfl ?_
  refine gf_Ga_42 rfl d_Ga_tryCommand_1 h1 ?_
  refine wm_aload_n d_Ga_tryCommand_4 rfl rfl ?_
  refine gf_Ga_72 rfl d_Ga_tryCommand_5 h1 ?_
  refine gf_Ga_139 rfl d_Ga_tryCommand_8 h2 ?_
  refine wm_iload_n d_Ga_tryCommand_11 rfl rfl ?_
  refine wm_iald d_Ga_tryCommand_12 h3 h4 ?_
  refine cf_Ga_123 rfl d_Ga_tryCommand_13 h5 (Nat.le_of_ble_eq_true rfl) (Ci.mono h (fun x7 M6 h => ?_))
  obtain ⟨h8, hOM6, h⟩ := h
  refine wm_if_ne (tgt := 24) d_Ga_tryCommand_16 rfl h8 (fun c20 => ?_) (fun c20 => ?_)
  · replace h := h.2 c20
    obtain ⟨h25, h⟩ := h
    obtain ⟨h26, h⟩ := h
    obtain ⟨h27, h⟩ := h
    obtain ⟨h28, h⟩ := h
    refine wm_aload_n d_Ga_tryCommand_24 rfl rfl ?_
    refine gf_Ga_42 rfl d_Ga_tryCommand_25 h25 ?_
    refine gf_Ga_129 rfl d_Ga_tryCommand_28 h26 ?_
    refine wm_iconst d_Ga_tryCommand_31 ?_
    refine wm_iald d_Ga_tryCommand_32 h27 h28 ?_
    refine wm_if_ne (tgt := 38) d_Ga_tryCommand_33 rfl (hOM6 _ _).1 (fun c35 => ?_) (fun c35 => ?_)
    · replace h := h.2 c35
      obtain ⟨h36, h⟩ := h
      obtain ⟨h37, h⟩ := h
      obtain ⟨h38, h⟩ := h
      obtain ⟨h39, h⟩ := h
      obtain ⟨h40, h⟩ := h
      refine wm_aload_n d_Ga_tryCommand_38 rfl rfl ?_
      refine gf_Ga_72 rfl d_Ga_tryCommand_39 h25 ?_
      refine gf_Ga_142 rfl d_Ga_tryCommand_42 h36 ?_
      refine wm_iload_n d_Ga_tryCommand_45 rfl rfl ?_
      refine wm_iald d_Ga_tryCommand_46 h37 h38 ?_
      refine wm_istore_n d_Ga_tryCommand_47 rfl (by decide) (L' := [vr a0, vi l1, vi l2, vi (mI M6 (mR M6 (mR M6 a0 14) 13) (Int.toNat l2)), vd, vd, vd]) rfl ?_
      refine wm_aload_n d_Ga_tryCommand_48 rfl rfl ?_
      refine gf_Ga_15 rfl d_Ga_tryCommand_49 h25 ?_
      refine wm_iload_n d_Ga_tryCommand_52 rfl rfl ?_
      refine wm_iald d_Ga_tryCommand_53 h39 h40 ?_
      obtain ⟨s44, h⟩ := h
      have hE0 : ((mI M6 (mR M6 a0 2) (Int.toNat l1) = 0) ∨ (mI M6 (mR M6 a0 2) (Int.toNat l1) = mI M6 (mR M6 (mR M6 a0 14) 13) (Int.toNat l2))) → mWm G y_Ga_tryCommand (d + 1) 83 [vr a0, vi l1, vi l2, vi (mI M6 (mR M6 (mR M6 a0 14) 13) (Int.toNat l2)), vd, vd, vd] [] M6 (fun r9 M9 => ∃ x9, r9 = some (vi x9) ∧ Q x9 M9) := by
        intro q45
        have h := h.1 q45
        obtain ⟨h46, h⟩ := h
        obtain ⟨M47, e48⟩ : ∃ M47, M47 = mUI M6 (mR M6 a0 2) (Int.toNat l1) (mI M6 (mR M6 (mR M6 a0 14) 13) (Int.toNat l2)) := ⟨_, rfl⟩
        replace h := h M47 e48
        obtain ⟨h49, h⟩ := h
        obtain ⟨h50, h⟩ := h
        obtain ⟨M51, e52⟩ : ∃ M51, M51 = mUI M47 (mR M47 a0 5) (Int.toNat (mI M47 a0 12)) l2 := ⟨_, rfl⟩
        replace h := h M51 e52
        obtain ⟨h53, h⟩ := h
        obtain ⟨h54, h⟩ := h
        obtain ⟨M55, e56⟩ : ∃ M55, M55 = mUI M51 (mR M51 a0 7) (Int.toNat (mI M51 a0 12)) (mI M51 a0 13) := ⟨_, rfl⟩
        replace h := h M55 e56
        refine wm_aload_n d_Ga_tryCommand_83 rfl rfl ?_
        refine gf_Ga_15 rfl d_Ga_tryCommand_84 h25 ?_
        refine wm_iload_n d_Ga_tryCommand_87 rfl rfl ?_
        refine wm_iload_n d_Ga_tryCommand_88 rfl rfl ?_
        have hOM47 : mOk M47 := by rw [e48]; exact mOk_UI hOM6 (hOM6 _ _).1
        refine wm_iastE d_Ga_tryCommand_89 h39 h46 (hOM6 _ _).1 e48 ?_
        refine wm_aload_n d_Ga_tryCommand_90 rfl rfl ?_
        refine gf_Ga_24 rfl d_Ga_tryCommand_91 (by rw [e48]; exact h25) ?_
        refine wm_aload_n d_Ga_tryCommand_94 rfl rfl ?_
        refine gf_Ga_59 rfl d_Ga_tryCommand_95 (by rw [e48]; exact h25) ?_
        refine wm_iload_n d_Ga_tryCommand_98 rfl rfl ?_
        have hOM51 : mOk M51 := by rw [e52]; exact mOk_UI hOM47 hi_l2
        refine wm_iastE d_Ga_tryCommand_99 h49 h50 hi_l2 e52 ?_
        refine wm_aload_n d_Ga_tryCommand_100 rfl rfl ?_
        refine gf_Ga_30 rfl d_Ga_tryCommand_101 (by rw [e52, e48]; exact h25) ?_
        refine wm_aload_n d_Ga_tryCommand_104 rfl rfl ?_
        refine gf_Ga_59 rfl d_Ga_tryCommand_105 (by rw [e52, e48]; exact h25) ?_
        refine wm_aload_n d_Ga_tryCommand_108 rfl rfl ?_
        refine gf_Ga_62 rfl d_Ga_tryCommand_109 (by rw [e52, e48]; exact h25) ?_
        have hOM55 : mOk M55 := by rw [e56]; exact mOk_UI hOM51 (hOM51 _ _).1
        refine wm_iastE d_Ga_tryCommand_112 h53 h54 (hOM51 _ _).1 e56 ?_
        refine wm_aload_n d_Ga_tryCommand_113 rfl rfl ?_
        refine wm_iload_n d_Ga_tryCommand_114 rfl rfl ?_
        refine cf_Ga_150 rfl d_Ga_tryCommand_115 (by rw [e56, e52, e48]; exact h25) (Nat.le_of_ble_eq_true rfl) (Ci.mono h (fun x58 M57 h => ?_))
        obtain ⟨h59, hOM57, h⟩ := h
        obtain ⟨h60, h⟩ := h
        obtain ⟨h61, h⟩ := h
        obtain ⟨h62, h⟩ := h
        obtain ⟨h63, h⟩ := h
        obtain ⟨h64, h⟩ := h
        refine wm_istore d_Ga_tryCommand_118 (by decide) (L' := [vr a0, vi l1, vi l2, vi (mI M6 (mR M6 (mR M6 a0 14) 13) (Int.toNat l2)), vi x58, vd, vd]) rfl ?_
        refine wm_aload_n d_Ga_tryCommand_120 rfl rfl ?_
        refine gf_Ga_72 rfl d_Ga_tryCommand_121 h60 ?_
        refine gf_Ga_153 rfl d_Ga_tryCommand_124 h61 ?_
        refine wm_iload_n d_Ga_tryCommand_127 rfl rfl ?_
        refine wm_iconst d_Ga_tryCommand_128 ?_
        refine wm_iadd d_Ga_tryCommand_129 ?_
        refine wm_iald d_Ga_tryCommand_130 h62 h63 ?_
        refine wm_aload_n d_Ga_tryCommand_131 rfl rfl ?_
        refine gf_Ga_72 rfl d_Ga_tryCommand_132 h60 ?_
        refine gf_Ga_153 rfl d_Ga_tryCommand_135 h61 ?_
        refine wm_iload_n d_Ga_tryCommand_138 rfl rfl ?_
        refine wm_iald d_Ga_tryCommand_139 h62 h64 ?_
        refine wm_isub d_Ga_tryCommand_140 ?_
        refine wm_istore d_Ga_tryCommand_141 (by decide) (L' := [vr a0, vi l1, vi l2, vi (mI M6 (mR M6 (mR M6 a0 14) 13) (Int.toNat l2)), vi x58, vi ((mI M57 (mR M57 (mR M57 a0 14) 16) (Int.toNat (l2 + 1))) - (mI M57 (mR M57 (mR M57 a0 14) 16) (Int.toNat l2))), vd]) rfl ?_
        refine wm_iconst d_Ga_tryCommand_143 ?_
        refine wm_istore d_Ga_tryCommand_144 (by decide) (L' := [vr a0, vi l1, vi l2, vi (mI M6 (mR M6 (mR M6 a0 14) 13) (Int.toNat l2)), vi x58, vi ((mI M57 (mR M57 (mR M57 a0 14) 16) (Int.toNat (l2 + 1))) - (mI M57 (mR M57 (mR M57 a0 14) 16) (Int.toNat l2))), vi 0]) rfl ?_
        refine wm_less (L' := [vr a0, vi l1, vi l2, vd, vi x58, vi ((mI M57 (mR M57 (mR M57 a0 14) 16) (Int.toNat (l2 + 1))) - (mI M57 (mR M57 (mR M57 a0 14) 16) (Int.toNat l2))), vi 0]) ⟨Or.inr rfl, Or.inr rfl, Or.inr rfl, Or.inl rfl, Or.inr rfl, Or.inr rfl, Or.inr rfl, trivial⟩ ?_
        exact h
      have hE1 : ¬ ((mI M6 (mR M6 a0 2) (Int.toNat l1) = 0) ∨ (mI M6 (mR M6 a0 2) (Int.toNat l1) = mI M6 (mR M6 (mR M6 a0 14) 13) (Int.toNat l2))) → mWm G y_Ga_tryCommand (d + 1) 67 [vr a0, vi l1, vi l2, vi (mI M6 (mR M6 (mR M6 a0 14) 13) (Int.toNat l2)), vd, vd, vd] [] M6 (fun r9 M9 => ∃ x9, r9 = some (vi x9) ∧ Q x9 M9) := by
        intro q65
        have h := h.2 q65
        obtain ⟨h66, h⟩ := h
        obtain ⟨h67, h⟩ := h
        refine wm_aload_n d_Ga_tryCommand_67 rfl rfl ?_
        refine wm_bipush d_Ga_tryCommand_68 (by decide) ?_
        refine wm_aload_n d_Ga_tryCommand_70 rfl rfl ?_
        refine gf_Ga_72 rfl d_Ga_tryCommand_71 h25 ?_
        refine gf_Ga_145 rfl d_Ga_tryCommand_74 h36 ?_
        refine wm_iload_n d_Ga_tryCommand_77 rfl rfl ?_
        refine wm_iald d_Ga_tryCommand_78 h66 h67 ?_
        refine cf_Ga_148 rfl d_Ga_tryCommand_79 h25 (Nat.le_of_ble_eq_true rfl) (Ci.mono h (fun x69 M68 h => ?_))
        obtain ⟨h70, hOM68, h⟩ := h
        refine wm_ireturn d_Ga_tryCommand_82 rfl rfl ?_
        exact ⟨_, rfl, h⟩
      clear h
      have s71 := s44
      refine wm_if_eq (tgt := 83) d_Ga_tryCommand_54 rfl (hOM6 _ _).1 (fun c43 => ?_) (fun c43 => ?_)
      · exact hE0 (Or.inl c43)
      · have s71 := s71 c43
        have h41 := s71
        refine wm_aload_n d_Ga_tryCommand_57 rfl rfl ?_
        refine gf_Ga_15 rfl d_Ga_tryCommand_58 h25 ?_
        refine wm_iload_n d_Ga_tryCommand_61 rfl rfl ?_
        refine wm_iald d_Ga_tryCommand_62 h39 h41 ?_
        refine wm_iload_n d_Ga_tryCommand_63 rfl rfl ?_
        refine wm_icmp_eq (tgt := 83) d_Ga_tryCommand_64 rfl (hOM6 _ _).1 (hOM6 _ _).1 (fun c42 => ?_) (fun c42 => ?_)
        · exact hE0 (Or.inr c42)
        · exact hE1 (fun z72 => Or.elim z72 c43 c42)
    · replace c35 := Classical.not_not.mp c35
      replace h := h.1 c35
      refine wm_iconst d_Ga_tryCommand_36 ?_
      refine wm_ireturn d_Ga_tryCommand_37 rfl rfl ?_
      exact ⟨_, rfl, h⟩
  · replace c20 := Classical.not_not.mp c20
    replace h := h.1 c20
    obtain ⟨h21, h⟩ := h
    refine wm_aload_n d_Ga_tryCommand_19 rfl rfl ?_
    refine cf_Ga_126 rfl d_Ga_tryCommand_20 h21 (Nat.le_of_ble_eq_true rfl) (Ci.mono h (fun x23 M22 h => ?_))
    obtain ⟨h24, hOM22, h⟩ := h
    refine wm_ireturn d_Ga_tryCommand_23 rfl rfl ?_
    exact ⟨_, rfl, h⟩
theorem k_Ga_tryCommand_146 {G : mG} {d : Nat} {a0 : Nat} {l1 : Int} {l2 : Int} {l4 : Int} {l5 : Int} {l6 : Int} {M : mM} {Q : Int → mM → Prop} (hO : mOk M) (hi_l1 : i32 l1) (hi_l2 : i32 l2) (hi_l4 : i32 l4) (hi_l5 : i32 l5) (hi_l6 : i32 l6)
    (h : (((l5 ≤ l6) ∨ (¬ (l4 = 0))) → (mK M a0 = 7 ∧ i32 ((mI M a0 12) + 1) ∧ ∀ M84, M84 = mUI M a0 12 ((mI M a0 12) + 1) → mK M84 (mR M84 a0 7) = 30 ∧ ((0 : Int) ≤ mI M84 a0 12 ∧ mI M84 a0 12 < (mN M84 (mR M84 a0 7) : Int)) ∧ ∀ M88, M88 = mUI M84 (mR M84 a0 7) (Int.toNat (mI M84 a0 12)) (mI M84 a0 13) → mK M88 (mR M88 a0 4) = 30 ∧ ((0 : Int) ≤ l1 + 1 ∧ l1 + 1 < (mN M88 (mR M88 a0 4) : Int)) ∧ ∀ M92, M92 = mUI M88 (mR M88 a0 4) (Int.toNat (l1 + 1)) (mI M88 a0 12) → Q l4 M92)) ∧ (¬ ((l5 ≤ l6) ∨ (¬ (l4 = 0))) → (mK M a0 = 7 ∧ mK M (mR M a0 17) = 30 ∧ ((0 : Int) ≤ l6 ∧ l6 < (mN M (mR M a0 17) : Int)) ∧ ((mI M (mR M a0 17) (Int.toNat l6) = 0) → (h_Ga_tryCommand_212 G d a0 l1 l2 l4 l5 l6 M Q)) ∧ (¬ (mI M (mR M a0 17) (Int.toNat l6) = 0) → (mK M (mR M a0 14) = 6 ∧ mK M (mR M (mR M a0 14) 16) = 30 ∧ ((0 : Int) ≤ l2 ∧ l2 < (mN M (mR M (mR M a0 14) 16) : Int)) ∧ mK M (mR M a0 6) = 30 ∧ ((0 : Int) ≤ mI M a0 12 ∧ mI M a0 12 < (mN M (mR M a0 6) : Int)) ∧ mK M (mR M a0 18) = 30 ∧ ((0 : Int) ≤ l6 ∧ l6 < (mN M (mR M a0 18) : Int)) ∧ (mI M (mR M a0 18) (Int.toNat l6)) ≠ 0 ∧ ((0 : Int) ≤ l6 ∧ l6 < (mN M (mR M a0 17) : Int)) ∧ Ci G y_Ga_follow d [vr a0, vi l2, vi ((mI M (mR M (mR M a0 14) 16) (Int.toNat l2)) + l6), vi ((Int.tdiv (mI M (mR M a0 6) (Int.toNat (mI M a0 12))) (mI M (mR M a0 18) (Int.toNat l6))) * (mI M (mR M a0 17) (Int.toNat l6)))] M (fun x110 M109 => i32 x110 ∧ mOk M109 ∧ (h_Ga_tryCommand_212 G d a0 l1 l2 x110 l5 l6 M109 Q))))))) :
    h_Ga_tryCommand_146 G d a0 l1 l2 l4 l5 l6 M Q := by
  unfold h_Ga_tryCommand_146
  refine wm_iload d_Ga_tryCommand_146 rfl ?_
  refine wm_iload d_Ga_tryCommand_148 rfl ?_
  have hE0 : ((l5 ≤ l6) ∨ (¬ (l4 = 0))) → mWm G y_Ga_tryCommand (d + 1) 218 [vr a0, vi l1, vi l2, vd, vi l4, vi l5, vi l6] [] M (fun r9 M9 => ∃ x9, r9 = some (vi x9) ∧ Q x9 M9) := by
    intro q81
    have h := h.1 q81
    obtain ⟨h82, h⟩ := h
    obtain ⟨h83, h⟩ := h
    obtain ⟨M84, e85⟩ : ∃ M84, M84 = mUI M a0 12 ((mI M a0 12) + 1) := ⟨_, rfl⟩
    replace h := h M84 e85
    obtain ⟨h86, h⟩ := h
    obtain ⟨h87, h⟩ := h
    obtain ⟨M88, e89⟩ : ∃ M88, M88 = mUI M84 (mR M84 a0 7) (Int.toNat (mI M84 a0 12)) (mI M84 a0 13) := ⟨_, rfl⟩
    replace h := h M88 e89
    obtain ⟨h90, h⟩ := h
    obtain ⟨h91, h⟩ := h
    obtain ⟨M92, e93⟩ : ∃ M92, M92 = mUI M88 (mR M88 a0 4) (Int.toNat (l1 + 1)) (mI M88 a0 12) := ⟨_, rfl⟩
    replace h := h M92 e93
    refine wm_aload_n d_Ga_tryCommand_218 rfl rfl ?_
    refine wm_dup d_Ga_tryCommand_219 rfl ?_
    refine gf_Ga_59 rfl d_Ga_tryCommand_220 h82 ?_
    refine wm_iconst d_Ga_tryCommand_223 ?_
    refine wm_iadd d_Ga_tryCommand_224 ?_
    have hOM84 : mOk M84 := by rw [e85]; exact mOk_UI hO h83
    refine pf_Ga_59 rfl d_Ga_tryCommand_225 h82 h83 e85 ?_
    refine wm_aload_n d_Ga_tryCommand_228 rfl rfl ?_
    refine gf_Ga_30 rfl d_Ga_tryCommand_229 (by rw [e85]; exact h82) ?_
    refine wm_aload_n d_Ga_tryCommand_232 rfl rfl ?_
    refine gf_Ga_59 rfl d_Ga_tryCommand_233 (by rw [e85]; exact h82) ?_
    refine wm_aload_n d_Ga_tryCommand_236 rfl rfl ?_
    refine gf_Ga_62 rfl d_Ga_tryCommand_237 (by rw [e85]; exact h82) ?_
    have hOM88 : mOk M88 := by rw [e89]; exact mOk_UI hOM84 (hOM84 _ _).1
    refine wm_iastE d_Ga_tryCommand_240 h86 h87 (hOM84 _ _).1 e89 ?_
    refine wm_aload_n d_Ga_tryCommand_241 rfl rfl ?_
    refine gf_Ga_21 rfl d_Ga_tryCommand_242 (by rw [e89, e85]; exact h82) ?_
    refine wm_iload_n d_Ga_tryCommand_245 rfl rfl ?_
    refine wm_iconst d_Ga_tryCommand_246 ?_
    refine wm_iadd d_Ga_tryCommand_247 ?_
    refine wm_aload_n d_Ga_tryCommand_248 rfl rfl ?_
    refine gf_Ga_59 rfl d_Ga_tryCommand_249 (by rw [e89, e85]; exact h82) ?_
    have hOM92 : mOk M92 := by rw [e93]; exact mOk_UI hOM88 (hOM88 _ _).1
    refine wm_iastE d_Ga_tryCommand_252 h90 h91 (hOM88 _ _).1 e93 ?_
    refine wm_iload d_Ga_tryCommand_253 rfl ?_
    refine wm_ireturn d_Ga_tryCommand_255 rfl rfl ?_
    exact ⟨_, rfl, h⟩
  have hE1 : ¬ ((l5 ≤ l6) ∨ (¬ (l4 = 0))) → mWm G y_Ga_tryCommand (d + 1) 158 [vr a0, vi l1, vi l2, vd, vi l4, vi l5, vi l6] [] M (fun r9 M9 => ∃ x9, r9 = some (vi x9) ∧ Q x9 M9) := by
    intro q94
    have h := h.2 q94
    obtain ⟨h95, h⟩ := h
    obtain ⟨h96, h⟩ := h
    obtain ⟨h97, h⟩ := h
    refine wm_aload_n d_Ga_tryCommand_158 rfl rfl ?_
    refine gf_Ga_49 rfl d_Ga_tryCommand_159 h95 ?_
    refine wm_iload d_Ga_tryCommand_162 rfl ?_
    refine wm_iald d_Ga_tryCommand_164 h96 h97 ?_
    refine wm_if_eq (tgt := 212) d_Ga_tryCommand_165 rfl (hO _ _).1 (fun c99 => ?_) (fun c99 => ?_)
    · replace h := h.1 c99
      exact h
    · replace h := h.2 c99
      obtain ⟨h100, h⟩ := h
      obtain ⟨h101, h⟩ := h
      obtain ⟨h102, h⟩ := h
      obtain ⟨h103, h⟩ := h
      obtain ⟨h104, h⟩ := h
      obtain ⟨h105, h⟩ := h
      obtain ⟨h106, h⟩ := h
      obtain ⟨h107, h⟩ := h
      obtain ⟨h108, h⟩ := h
      refine wm_aload_n d_Ga_tryCommand_168 rfl rfl ?_
      refine wm_iload_n d_Ga_tryCommand_169 rfl rfl ?_
      refine wm_aload_n d_Ga_tryCommand_170 rfl rfl ?_
      refine gf_Ga_72 rfl d_Ga_tryCommand_171 h95 ?_
      refine gf_Ga_153 rfl d_Ga_tryCommand_174 h100 ?_
      refine wm_iload_n d_Ga_tryCommand_177 rfl rfl ?_
      refine wm_iald d_Ga_tryCommand_178 h101 h102 ?_
      refine wm_iload d_Ga_tryCommand_179 rfl ?_
      refine wm_iadd d_Ga_tryCommand_181 ?_
      refine wm_aload_n d_Ga_tryCommand_182 rfl rfl ?_
      refine gf_Ga_27 rfl d_Ga_tryCommand_183 h95 ?_
      refine wm_aload_n d_Ga_tryCommand_186 rfl rfl ?_
      refine gf_Ga_59 rfl d_Ga_tryCommand_187 h95 ?_
      refine wm_iald d_Ga_tryCommand_190 h103 h104 ?_
      refine wm_aload_n d_Ga_tryCommand_191 rfl rfl ?_
      refine gf_Ga_52 rfl d_Ga_tryCommand_192 h95 ?_
      refine wm_iload d_Ga_tryCommand_195 rfl ?_
      refine wm_iald d_Ga_tryCommand_197 h105 h106 ?_
      refine wm_idiv d_Ga_tryCommand_198 (hO _ _).1 (hO _ _).1 h107 ?_
      refine wm_aload_n d_Ga_tryCommand_199 rfl rfl ?_
      refine gf_Ga_49 rfl d_Ga_tryCommand_200 h95 ?_
      refine wm_iload d_Ga_tryCommand_203 rfl ?_
      refine wm_iald d_Ga_tryCommand_205 h96 h108 ?_
      refine wm_imul d_Ga_tryCommand_206 ?_
      refine cf_Ga_154 rfl d_Ga_tryCommand_207 h95 (Nat.le_of_ble_eq_true rfl) (Ci.mono h (fun x110 M109 h => ?_))
      obtain ⟨h111, hOM109, h⟩ := h
      refine wm_istore d_Ga_tryCommand_210 (by decide) (L' := [vr a0, vi l1, vi l2, vd, vi x110, vi l5, vi l6]) rfl ?_
      exact h
  clear h
  refine wm_icmp_ge (tgt := 218) d_Ga_tryCommand_150 rfl hi_l6 hi_l5 (fun c79 => ?_) (fun c79 => ?_)
  · exact hE0 (Or.inl c79)
  · refine wm_iload d_Ga_tryCommand_153 rfl ?_
    refine wm_if_ne (tgt := 218) d_Ga_tryCommand_155 rfl hi_l4 (fun c78 => ?_) (fun c78 => ?_)
    · exact hE0 (Or.inr c78)
    · replace c78 := Classical.not_not.mp c78
      exact hE1 (fun z112 => Or.elim z112 c79 (fun z113 => z113 c78))
theorem k_Ga_tryCommand_212 {G : mG} {d : Nat} {a0 : Nat} {l1 : Int} {l2 : Int} {l4 : Int} {l5 : Int} {l6 : Int} {M : mM} {Q : Int → mM → Prop} (hO : mOk M) (hi_l1 : i32 l1) (hi_l2 : i32 l2) (hi_l4 : i32 l4) (hi_l5 : i32 l5) (hi_l6 : i32 l6)
    (h : h_Ga_tryCommand_146 G d a0 l1 l2 l4 l5 (l6 + 1) M Q) :
    h_Ga_tryCommand_212 G d a0 l1 l2 l4 l5 l6 M Q := by
  unfold h_Ga_tryCommand_212
  refine wm_iinc d_Ga_tryCommand_212 (by decide) rfl (L' := [vr a0, vi l1, vi l2, vd, vi l4, vi l5, vi (l6 + 1)]) rfl ?_
  refine wm_goto (tgt := 146) d_Ga_tryCommand_215 rfl ?_
  exact h
