section
theorem d_MS_within_0 : decode y_MS_within.2.1 0 = .ok (.aload_n 0, 1) := dc9_42 (by decide +kernel)
theorem d_MS_within_1 : decode y_MS_within.2.1 1 = .ok (.getfield 44, 3) := dc9_180 (by decide +kernel)
theorem d_MS_within_4 : decode y_MS_within.2.1 4 = .ok (.iconst 1, 1) := dc9_4 (by decide +kernel)
theorem d_MS_within_5 : decode y_MS_within.2.1 5 = .ok (.iconst 0, 1) := dc9_3 (by decide +kernel)
theorem d_MS_within_6 : decode y_MS_within.2.1 6 = .ok (.bastore, 1) := dc9_84 (by decide +kernel)
theorem d_MS_within_7 : decode y_MS_within.2.1 7 = .ok (.iconst 0, 1) := dc9_3 (by decide +kernel)
theorem d_MS_within_8 : decode y_MS_within.2.1 8 = .ok (.istore_n 2, 1) := dc9_61 (by decide +kernel)
theorem d_MS_within_9 : decode y_MS_within.2.1 9 = .ok (.iload_n 2, 1) := dc9_28 (by decide +kernel)
theorem d_MS_within_10 : decode y_MS_within.2.1 10 = .ok (.aload_n 0, 1) := dc9_42 (by decide +kernel)
theorem d_MS_within_11 : decode y_MS_within.2.1 11 = .ok (.getfield 103, 3) := dc9_180 (by decide +kernel)
theorem d_MS_within_14 : decode y_MS_within.2.1 14 = .ok (.if_icmp .ge 34, 3) := dc9_162 (by decide +kernel)
theorem d_MS_within_48 : decode y_MS_within.2.1 48 = .ok (.iconst 0, 1) := dc9_3 (by decide +kernel)
theorem d_MS_within_49 : decode y_MS_within.2.1 49 = .ok (.istore_n 2, 1) := dc9_61 (by decide +kernel)
theorem d_MS_within_17 : decode y_MS_within.2.1 17 = .ok (.aload_n 0, 1) := dc9_42 (by decide +kernel)
theorem d_MS_within_18 : decode y_MS_within.2.1 18 = .ok (.getfield 69, 3) := dc9_180 (by decide +kernel)
theorem d_MS_within_21 : decode y_MS_within.2.1 21 = .ok (.iload_n 2, 1) := dc9_28 (by decide +kernel)
theorem d_MS_within_22 : decode y_MS_within.2.1 22 = .ok (.aaload, 1) := dc9_50 (by decide +kernel)
theorem d_MS_within_23 : decode y_MS_within.2.1 23 = .ok (.aload_n 0, 1) := dc9_42 (by decide +kernel)
theorem d_MS_within_24 : decode y_MS_within.2.1 24 = .ok (.getfield 16, 3) := dc9_180 (by decide +kernel)
theorem d_MS_within_27 : decode y_MS_within.2.1 27 = .ok (.iload_n 2, 1) := dc9_28 (by decide +kernel)
theorem d_MS_within_28 : decode y_MS_within.2.1 28 = .ok (.iaload, 1) := dc9_46 (by decide +kernel)
theorem d_MS_within_29 : decode y_MS_within.2.1 29 = .ok (.iconst 3, 1) := dc9_6 (by decide +kernel)
theorem d_MS_within_30 : decode y_MS_within.2.1 30 = .ok (.if_icmp .ne 7, 3) := dc9_160 (by decide +kernel)
theorem d_MS_within_33 : decode y_MS_within.2.1 33 = .ok (.lconst 1, 1) := dc9_10 (by decide +kernel)
theorem d_MS_within_34 : decode y_MS_within.2.1 34 = .ok (.goto 4, 3) := dc9_167 (by decide +kernel)
theorem d_MS_within_37 : decode y_MS_within.2.1 37 = .ok (.lconst 0, 1) := dc9_9 (by decide +kernel)
theorem d_MS_within_38 : decode y_MS_within.2.1 38 = .ok (.lconst 1, 1) := dc9_10 (by decide +kernel)
theorem d_MS_within_39 : decode y_MS_within.2.1 39 = .ok (.invokevirtual 141, 3) := dc9_182 (by decide +kernel)
theorem d_MS_within_42 : decode y_MS_within.2.1 42 = .ok (.iinc 2 1, 3) := by decide +kernel
theorem d_MS_within_45 : decode y_MS_within.2.1 45 = .ok (.goto (-36), 3) := dc9_167 (by decide +kernel)
theorem d_MS_within_50 : decode y_MS_within.2.1 50 = .ok (.iload_n 2, 1) := dc9_28 (by decide +kernel)
theorem d_MS_within_51 : decode y_MS_within.2.1 51 = .ok (.iload_n 1, 1) := dc9_27 (by decide +kernel)
theorem d_MS_within_52 : decode y_MS_within.2.1 52 = .ok (.if_icmp .ge 67, 3) := dc9_162 (by decide +kernel)
theorem d_MS_within_119 : decode y_MS_within.2.1 119 = .ok (.iconst 0, 1) := dc9_3 (by decide +kernel)
theorem d_MS_within_120 : decode y_MS_within.2.1 120 = .ok (.istore_n 2, 1) := dc9_61 (by decide +kernel)
theorem d_MS_within_55 : decode y_MS_within.2.1 55 = .ok (.iconst 0, 1) := dc9_3 (by decide +kernel)
theorem d_MS_within_56 : decode y_MS_within.2.1 56 = .ok (.istore_n 3, 1) := dc9_62 (by decide +kernel)
theorem d_MS_within_57 : decode y_MS_within.2.1 57 = .ok (.iload_n 3, 1) := dc9_29 (by decide +kernel)
theorem d_MS_within_58 : decode y_MS_within.2.1 58 = .ok (.aload_n 0, 1) := dc9_42 (by decide +kernel)
theorem d_MS_within_59 : decode y_MS_within.2.1 59 = .ok (.getfield 103, 3) := dc9_180 (by decide +kernel)
theorem d_MS_within_62 : decode y_MS_within.2.1 62 = .ok (.if_icmp .ge 20, 3) := dc9_162 (by decide +kernel)
theorem d_MS_within_82 : decode y_MS_within.2.1 82 = .ok (.iconst 0, 1) := dc9_3 (by decide +kernel)
theorem d_MS_within_83 : decode y_MS_within.2.1 83 = .ok (.istore_n 3, 1) := dc9_62 (by decide +kernel)
theorem d_MS_within_65 : decode y_MS_within.2.1 65 = .ok (.aload_n 0, 1) := dc9_42 (by decide +kernel)
theorem d_MS_within_66 : decode y_MS_within.2.1 66 = .ok (.iload_n 3, 1) := dc9_29 (by decide +kernel)
theorem d_MS_within_67 : decode y_MS_within.2.1 67 = .ok (.invokevirtual 244, 3) := dc9_182 (by decide +kernel)
theorem d_MS_within_70 : decode y_MS_within.2.1 70 = .ok (.ifCond .ne 6, 3) := dc9_154 (by decide +kernel)
theorem d_MS_within_73 : decode y_MS_within.2.1 73 = .ok (.bipush 6, 2) := dc9_16 (by decide +kernel)
theorem d_MS_within_75 : decode y_MS_within.2.1 75 = .ok (.ireturn, 1) := dc9_172 (by decide +kernel)
theorem d_MS_within_76 : decode y_MS_within.2.1 76 = .ok (.iinc 3 1, 3) := by decide +kernel
theorem d_MS_within_79 : decode y_MS_within.2.1 79 = .ok (.goto (-22), 3) := dc9_167 (by decide +kernel)
theorem d_MS_within_84 : decode y_MS_within.2.1 84 = .ok (.iload_n 3, 1) := dc9_29 (by decide +kernel)
theorem d_MS_within_85 : decode y_MS_within.2.1 85 = .ok (.aload_n 0, 1) := dc9_42 (by decide +kernel)
theorem d_MS_within_86 : decode y_MS_within.2.1 86 = .ok (.getfield 103, 3) := dc9_180 (by decide +kernel)
theorem d_MS_within_89 : decode y_MS_within.2.1 89 = .ok (.if_icmp .ge 24, 3) := dc9_162 (by decide +kernel)
theorem d_MS_within_113 : decode y_MS_within.2.1 113 = .ok (.iinc 2 1, 3) := by decide +kernel
theorem d_MS_within_116 : decode y_MS_within.2.1 116 = .ok (.goto (-66), 3) := dc9_167 (by decide +kernel)
theorem d_MS_within_92 : decode y_MS_within.2.1 92 = .ok (.aload_n 0, 1) := dc9_42 (by decide +kernel)
theorem d_MS_within_93 : decode y_MS_within.2.1 93 = .ok (.getfield 69, 3) := dc9_180 (by decide +kernel)
theorem d_MS_within_96 : decode y_MS_within.2.1 96 = .ok (.iload_n 3, 1) := dc9_29 (by decide +kernel)
theorem d_MS_within_97 : decode y_MS_within.2.1 97 = .ok (.aaload, 1) := dc9_50 (by decide +kernel)
theorem d_MS_within_98 : decode y_MS_within.2.1 98 = .ok (.aload_n 0, 1) := dc9_42 (by decide +kernel)
theorem d_MS_within_99 : decode y_MS_within.2.1 99 = .ok (.getfield 48, 3) := dc9_180 (by decide +kernel)
theorem d_MS_within_102 : decode y_MS_within.2.1 102 = .ok (.iload_n 3, 1) := dc9_29 (by decide +kernel)
theorem d_MS_within_103 : decode y_MS_within.2.1 103 = .ok (.aaload, 1) := dc9_50 (by decide +kernel)
theorem d_MS_within_104 : decode y_MS_within.2.1 104 = .ok (.invokevirtual 152, 3) := dc9_182 (by decide +kernel)
theorem d_MS_within_107 : decode y_MS_within.2.1 107 = .ok (.iinc 3 1, 3) := by decide +kernel
theorem d_MS_within_110 : decode y_MS_within.2.1 110 = .ok (.goto (-26), 3) := dc9_167 (by decide +kernel)
theorem d_MS_within_121 : decode y_MS_within.2.1 121 = .ok (.iload_n 2, 1) := dc9_28 (by decide +kernel)
theorem d_MS_within_122 : decode y_MS_within.2.1 122 = .ok (.aload_n 0, 1) := dc9_42 (by decide +kernel)
theorem d_MS_within_123 : decode y_MS_within.2.1 123 = .ok (.getfield 103, 3) := dc9_180 (by decide +kernel)
theorem d_MS_within_126 : decode y_MS_within.2.1 126 = .ok (.if_icmp .ge 28, 3) := dc9_162 (by decide +kernel)
theorem d_MS_within_154 : decode y_MS_within.2.1 154 = .ok (.aload_n 0, 1) := dc9_42 (by decide +kernel)
theorem d_MS_within_155 : decode y_MS_within.2.1 155 = .ok (.getfield 44, 3) := dc9_180 (by decide +kernel)
theorem d_MS_within_158 : decode y_MS_within.2.1 158 = .ok (.iconst 1, 1) := dc9_4 (by decide +kernel)
theorem d_MS_within_159 : decode y_MS_within.2.1 159 = .ok (.iconst 1, 1) := dc9_4 (by decide +kernel)
theorem d_MS_within_160 : decode y_MS_within.2.1 160 = .ok (.bastore, 1) := dc9_84 (by decide +kernel)
theorem d_MS_within_161 : decode y_MS_within.2.1 161 = .ok (.iconst 0, 1) := dc9_3 (by decide +kernel)
theorem d_MS_within_162 : decode y_MS_within.2.1 162 = .ok (.ireturn, 1) := dc9_172 (by decide +kernel)
theorem d_MS_within_129 : decode y_MS_within.2.1 129 = .ok (.aload_n 0, 1) := dc9_42 (by decide +kernel)
theorem d_MS_within_130 : decode y_MS_within.2.1 130 = .ok (.getfield 40, 3) := dc9_180 (by decide +kernel)
theorem d_MS_within_133 : decode y_MS_within.2.1 133 = .ok (.iconst 3, 1) := dc9_6 (by decide +kernel)
theorem d_MS_within_134 : decode y_MS_within.2.1 134 = .ok (.iload_n 2, 1) := dc9_28 (by decide +kernel)
theorem d_MS_within_135 : decode y_MS_within.2.1 135 = .ok (.imul, 1) := dc9_104 (by decide +kernel)
theorem d_MS_within_136 : decode y_MS_within.2.1 136 = .ok (.iconst 1, 1) := dc9_4 (by decide +kernel)
theorem d_MS_within_137 : decode y_MS_within.2.1 137 = .ok (.iadd, 1) := dc9_96 (by decide +kernel)
theorem d_MS_within_138 : decode y_MS_within.2.1 138 = .ok (.aaload, 1) := dc9_50 (by decide +kernel)
theorem d_MS_within_139 : decode y_MS_within.2.1 139 = .ok (.aload_n 0, 1) := dc9_42 (by decide +kernel)
theorem d_MS_within_140 : decode y_MS_within.2.1 140 = .ok (.getfield 69, 3) := dc9_180 (by decide +kernel)
theorem d_MS_within_143 : decode y_MS_within.2.1 143 = .ok (.iload_n 2, 1) := dc9_28 (by decide +kernel)
theorem d_MS_within_144 : decode y_MS_within.2.1 144 = .ok (.aaload, 1) := dc9_50 (by decide +kernel)
theorem d_MS_within_145 : decode y_MS_within.2.1 145 = .ok (.invokevirtual 152, 3) := dc9_182 (by decide +kernel)
theorem d_MS_within_148 : decode y_MS_within.2.1 148 = .ok (.iinc 2 1, 3) := by decide +kernel
theorem d_MS_within_151 : decode y_MS_within.2.1 151 = .ok (.goto (-30), 3) := dc9_167 (by decide +kernel)
def h_MS_within_9 (G : mG) (d : Nat) (a0 : Nat) (l1 : Int) (l2 : Int) (M : mM) (Q : Int → mM → Prop) : Prop := mWm G y_MS_within (d + 1) 9 [vr a0, vi l1, vi l2, vd] [] M (fun r9 M9 => ∃ x9, r9 = some (vi x9) ∧ Q x9 M9)
def h_MS_within_50 (G : mG) (d : Nat) (a0 : Nat) (l1 : Int) (l2 : Int) (M : mM) (Q : Int → mM → Prop) : Prop := mWm G y_MS_within (d + 1) 50 [vr a0, vi l1, vi l2, vd] [] M (fun r9 M9 => ∃ x9, r9 = some (vi x9) ∧ Q x9 M9)
def h_MS_within_57 (G : mG) (d : Nat) (a0 : Nat) (l1 : Int) (l2 : Int) (l3 : Int) (M : mM) (Q : Int → mM → Prop) : Prop := mWm G y_MS_within (d + 1) 57 [vr a0, vi l1, vi l2, vi l3] [] M (fun r9 M9 => ∃ x9, r9 = some (vi x9) ∧ Q x9 M9)
def h_MS_within_84 (G : mG) (d : Nat) (a0 : Nat) (l1 : Int) (l2 : Int) (l3 : Int) (M : mM) (Q : Int → mM → Prop) : Prop := mWm G y_MS_within (d + 1) 84 [vr a0, vi l1, vi l2, vi l3] [] M (fun r9 M9 => ∃ x9, r9 = some (vi x9) ∧ Q x9 M9)
def h_MS_within_121 (G : mG) (d : Nat) (a0 : Nat) (l2 : Int) (M : mM) (Q : Int → mM → Prop) : Prop := mWm G y_MS_within (d + 1) 121 [vr a0, vd, vi l2, vd] [] M (fun r9 M9 => ∃ x9, r9 = some (vi x9) ∧ Q x9 M9)
theorem k_MS_within {G : mG} {d : Nat} {a0 : Nat} {l1 : Int} {M : mM} {Q : Int → mM → Prop} (hO : mOk M) (hi_l1 : i32 l1)
    (h : mK M a0 = 17 ∧ mK M (mR M a0 12) = 31 ∧ ((0 : Int) ≤ 1 ∧ 1 < (mN M (mR M a0 12) : Int)) ∧ ∀ M4, M4 = mUI M (mR M a0 12) 1 0 → h_MS_within_9 G d a0 l1 0 M4 Q) :
    Ci G y_MS_within (d + 1) [vr a0, vi l1] M Q := by
  refine wm_open (y := y_MS_within) rfl (Nat.le_of_ble_eq_true rfl) (L := [vr a0, vi l1, vd, vd]) rfl ?_
  obtain ⟨h1, h⟩ := h
  obtain ⟨h2, h⟩ := h
  obtain ⟨h3, h⟩ := h
  obtain ⟨M4, e5⟩ : ∃ M4, M4 = mUI M (mR M a0 12) 1 0 := ⟨_, rfl⟩
  replace h := h M4 e5
  refine wm_aload_n d_MS_within_0 rfl rfl ?_
  refine gf_MS_44 rfl d_MS_within_1 h1 ?_
  refine wm_iconst d_MS_within_4 ?_
  refine wm_iconst d_MS_within_5 ?_
  have hOM4 : mOk M4 := by rw [e5]; exact mOk_UI hO (m_b32 (by decide))
  refine wm_zastE d_MS_within_6 h2 h3 (by decide) e5 ?_
  refine wm_iconst d_MS_within_7 ?_
  refine wm_istore_n d_MS_within_8 rfl (by decide) (L' := [vr a0, vi l1, vi 0, vd]) rfl ?_
  exact h
theorem k_MS_within_9 {G : mG} {d : Nat} {a0 : Nat} {l1 : Int} {l2 : Int} {M : mM} {Q : Int → mM → Prop} (hO : mOk M) (hi_l1 : i32 l1) (hi_l2 : i32 l2)
    (h : mK M a0 = 17 ∧ ((mI M a0 1 ≤ l2) → (h_MS_within_50 G d a0 l1 0 M Q)) ∧ (¬ (mI M a0 1 ≤ l2) → (mK M (mR M a0 21) = 36 ∧ ((0 : Int) ≤ l2 ∧ l2 < (mN M (mR M a0 21) : Int)) ∧ mK M (mR M a0 4) = 30 ∧ ((0 : Int) ≤ l2 ∧ l2 < (mN M (mR M a0 4) : Int)) ∧ ∀ v18 : Int, v18 = (if (mI M (mR M a0 4) (Int.toNat l2) = 3) then 1 else 0) → mK M (mR M (mR M a0 21) (Int.toNat l2)) = 19 ∧ Cv G y_MF_set d [vr (mR M (mR M a0 21) (Int.toNat l2)), vl v18, vl 1] M (fun M23 => mOk M23 ∧ (h_MS_within_9 G d a0 l1 (l2 + 1) M23 Q))))) :
    h_MS_within_9 G d a0 l1 l2 M Q := by
  unfold h_MS_within_9
  obtain ⟨h6, h⟩ := h
  refine wm_iload_n d_MS_within_9 rfl rfl ?_
  refine wm_aload_n d_MS_within_10 rfl rfl ?_
  refine gf_MS_103 rfl d_MS_within_11 h6 ?_
  refine wm_icmp_ge (tgt := 48) d_MS_within_14 rfl hi_l2 (hO _ _).1 (fun c12 => ?_) (fun c12 => ?_)
  · replace h := h.1 c12
    refine wm_iconst d_MS_within_48 ?_
    refine wm_istore_n d_MS_within_49 rfl (by decide) (L' := [vr a0, vi l1, vi 0, vd]) rfl ?_
    exact h
  · replace h := h.2 c12
    obtain ⟨h13, h⟩ := h
    obtain ⟨h14, h⟩ := h
    obtain ⟨h15, h⟩ := h
    obtain ⟨h16, h⟩ := h
    refine wm_aload_n d_MS_within_17 rfl rfl ?_
    refine gf_MS_69 rfl d_MS_within_18 h6 ?_
    refine wm_iload_n d_MS_within_21 rfl rfl ?_
    refine wm_aald6 d_MS_within_22 h13 h14 ?_
    refine wm_aload_n d_MS_within_23 rfl rfl ?_
    refine gf_MS_16 rfl d_MS_within_24 h6 ?_
    refine wm_iload_n d_MS_within_27 rfl rfl ?_
    refine wm_iald d_MS_within_28 h15 h16 ?_
    refine wm_iconst d_MS_within_29 ?_
    have hJ : ∀ v18 : Int, v18 = (if (mI M (mR M a0 4) (Int.toNat l2) = 3) then 1 else 0) → mWm G y_MS_within (d + 1) 38 [vr a0, vi l1, vi l2, vd] [vl v18, vr (mR M (mR M a0 21) (Int.toNat l2))] M (fun r9 M9 => ∃ x9, r9 = some (vi x9) ∧ Q x9 M9) := by
      intro v18 e20
      have h := h v18 e20
      have h21 : (v18 = 0 ∨ v18 = 1) := by rw [e20]; (repeat' split) <;> decide
      obtain ⟨h22, h⟩ := h
      refine wm_lconst (x := 1) d_MS_within_38 rfl ?_
      refine cf_MS_141 rfl d_MS_within_39 h22 (Nat.le_of_ble_eq_true rfl) (Cv.mono h (fun M23 h => ?_))
      obtain ⟨hOM23, h⟩ := h
      refine wm_iinc d_MS_within_42 (by decide) rfl (L' := [vr a0, vi l1, vi (l2 + 1), vd]) rfl ?_
      refine wm_goto (tgt := 9) d_MS_within_45 rfl ?_
      exact h
    clear h
    refine wm_icmp_ne (tgt := 37) d_MS_within_30 rfl (hO _ _).1 ⟨by decide, by decide⟩ (fun c17 => ?_) (fun c17 => ?_)
    · refine wm_lconst (x := 0) d_MS_within_37 rfl ?_
      exact hJ 0 (if_neg c17).symm
    · replace c17 := Classical.not_not.mp c17
      refine wm_lconst (x := 1) d_MS_within_33 rfl ?_
      refine wm_goto (tgt := 38) d_MS_within_34 rfl ?_
      exact hJ 1 (if_pos c17).symm
theorem k_MS_within_50 {G : mG} {d : Nat} {a0 : Nat} {l1 : Int} {l2 : Int} {M : mM} {Q : Int → mM → Prop} (hO : mOk M) (hi_l1 : i32 l1) (hi_l2 : i32 l2)
    (h : ((l1 ≤ l2) → (h_MS_within_121 G d a0 0 M Q)) ∧ (¬ (l1 ≤ l2) → (h_MS_within_57 G d a0 l1 l2 0 M Q))) :
    h_MS_within_50 G d a0 l1 l2 M Q := by
  unfold h_MS_within_50
  refine wm_iload_n d_MS_within_50 rfl rfl ?_
  refine wm_iload_n d_MS_within_51 rfl rfl ?_
  refine wm_icmp_ge (tgt := 119) d_MS_within_52 rfl hi_l2 hi_l1 (fun c28 => ?_) (fun c28 => ?_)
  · replace h := h.1 c28
    refine wm_iconst d_MS_within_119 ?_
    refine wm_istore_n d_MS_within_120 rfl (by decide) (L' := [vr a0, vi l1, vi 0, vd]) rfl ?_
    refine wm_less (L' := [vr a0, vd, vi 0, vd]) ⟨Or.inr rfl, Or.inl rfl, Or.inr rfl, Or.inl rfl, trivial⟩ ?_
    exact h
  · replace h := h.2 c28
    refine wm_iconst d_MS_within_55 ?_
    refine wm_istore_n d_MS_within_56 rfl (by decide) (L' := [vr a0, vi l1, vi l2, vi 0]) rfl ?_
    exact h
theorem k_MS_within_57 {G : mG} {d : Nat} {a0 : Nat} {l1 : Int} {l2 : Int} {l3 : Int} {M : mM} {Q : Int → mM → Prop} (hO : mOk M) (hi_l1 : i32 l1) (hi_l2 : i32 l2) (hi_l3 : i32 l3)
    (h : mK M a0 = 17 ∧ ((mI M a0 1 ≤ l3) → (h_MS_within_84 G d a0 l1 l2 0 M Q)) ∧ (¬ (mI M a0 1 ≤ l3) → (Ci G y_MS_move d [vr a0, vi l3] M (fun x33 M32 => i32 x33 ∧ mOk M32 ∧ (((x33 = 0) → (Q 6 M32)) ∧ (¬ (x33 = 0) → (h_MS_within_57 G d a0 l1 l2 (l3 + 1) M32 Q))))))) :
    h_MS_within_57 G d a0 l1 l2 l3 M Q := by
  unfold h_MS_within_57
  obtain ⟨h29, h⟩ := h
  refine wm_iload_n d_MS_within_57 rfl rfl ?_
  refine wm_aload_n d_MS_within_58 rfl rfl ?_
  refine gf_MS_103 rfl d_MS_within_59 h29 ?_
  refine wm_icmp_ge (tgt := 82) d_MS_within_62 rfl hi_l3 (hO _ _).1 (fun c31 => ?_) (fun c31 => ?_)
  · replace h := h.1 c31
    refine wm_iconst d_MS_within_82 ?_
    refine wm_istore_n d_MS_within_83 rfl (by decide) (L' := [vr a0, vi l1, vi l2, vi 0]) rfl ?_
    exact h
  · replace h := h.2 c31
    refine wm_aload_n d_MS_within_65 rfl rfl ?_
    refine wm_iload_n d_MS_within_66 rfl rfl ?_
    refine cf_MS_244 rfl d_MS_within_67 h29 (Nat.le_of_ble_eq_true rfl) (Ci.mono h (fun x33 M32 h => ?_))
    obtain ⟨h34, hOM32, h⟩ := h
    refine wm_if_ne (tgt := 76) d_MS_within_70 rfl h34 (fun c36 => ?_) (fun c36 => ?_)
    · replace h := h.2 c36
      refine wm_iinc d_MS_within_76 (by decide) rfl (L' := [vr a0, vi l1, vi l2, vi (l3 + 1)]) rfl ?_
      refine wm_goto (tgt := 57) d_MS_within_79 rfl ?_
      exact h
    · replace c36 := Classical.not_not.mp c36
      replace h := h.1 c36
      refine wm_bipush d_MS_within_73 (by decide) ?_
      refine wm_ireturn d_MS_within_75 rfl rfl ?_
      exact ⟨_, rfl, h⟩
theorem k_MS_within_84 {G : mG} {d : Nat} {a0 : Nat} {l1 : Int} {l2 : Int} {l3 : Int} {M : mM} {Q : Int → mM → Prop} (hO : mOk M) (hi_l1 : i32 l1) (hi_l2 : i32 l2) (hi_l3 : i32 l3)
    (h : mK M a0 = 17 ∧ ((mI M a0 1 ≤ l3) → (h_MS_within_50 G d a0 l1 (l2 + 1) M Q)) ∧ (¬ (mI M a0 1 ≤ l3) → (mK M (mR M a0 21) = 36 ∧ ((0 : Int) ≤ l3 ∧ l3 < (mN M (mR M a0 21) : Int)) ∧ mK M (mR M a0 13) = 36 ∧ ((0 : Int) ≤ l3 ∧ l3 < (mN M (mR M a0 13) : Int)) ∧ mK M (mR M (mR M a0 21) (Int.toNat l3)) = 19 ∧ Cv G y_MF_copy d [vr (mR M (mR M a0 21) (Int.toNat l3)), vr (mR M (mR M a0 13) (Int.toNat l3))] M (fun M45 => mOk M45 ∧ (h_MS_within_84 G d a0 l1 l2 (l3 + 1) M45 Q))))) :
    h_MS_within_84 G d a0 l1 l2 l3 M Q := by
  unfold h_MS_within_84
  obtain ⟨h37, h⟩ := h
  refine wm_iload_n d_MS_within_84 rfl rfl ?_
  refine wm_aload_n d_MS_within_85 rfl rfl ?_
  refine gf_MS_103 rfl d_MS_within_86 h37 ?_
  refine wm_icmp_ge (tgt := 113) d_MS_within_89 rfl hi_l3 (hO _ _).1 (fun c39 => ?_) (fun c39 => ?_)
  · replace h := h.1 c39
    refine wm_iinc d_MS_within_113 (by decide) rfl (L' := [vr a0, vi l1, vi (l2 + 1), vi l3]) rfl ?_
    refine wm_goto (tgt := 50) d_MS_within_116 rfl ?_
    refine wm_less (L' := [vr a0, vi l1, vi (l2 + 1), vd]) ⟨Or.inr rfl, Or.inr rfl, Or.inr rfl, Or.inl rfl, trivial⟩ ?_
    exact h
  · replace h := h.2 c39
    obtain ⟨h40, h⟩ := h
    obtain ⟨h41, h⟩ := h
    obtain ⟨h42, h⟩ := h
    obtain ⟨h43, h⟩ := h
    obtain ⟨h44, h⟩ := h
    refine wm_aload_n d_MS_within_92 rfl rfl ?_
    refine gf_MS_69 rfl d_MS_within_93 h37 ?_
    refine wm_iload_n d_MS_within_96 rfl rfl ?_
    refine wm_aald6 d_MS_within_97 h40 h41 ?_
    refine wm_aload_n d_MS_within_98 rfl rfl ?_
    refine gf_MS_48 rfl d_MS_within_99 h37 ?_
    refine wm_iload_n d_MS_within_102 rfl rfl ?_
    refine wm_aald6 d_MS_within_103 h42 h43 ?_
    refine cf_MS_152 rfl d_MS_within_104 h44 (Nat.le_of_ble_eq_true rfl) (Cv.mono h (fun M45 h => ?_))
    obtain ⟨hOM45, h⟩ := h
    refine wm_iinc d_MS_within_107 (by decide) rfl (L' := [vr a0, vi l1, vi l2, vi (l3 + 1)]) rfl ?_
    refine wm_goto (tgt := 84) d_MS_within_110 rfl ?_
    exact h
theorem k_MS_within_121 {G : mG} {d : Nat} {a0 : Nat} {l2 : Int} {M : mM} {Q : Int → mM → Prop} (hO : mOk M) (hi_l2 : i32 l2)
    (h : mK M a0 = 17 ∧ ((mI M a0 1 ≤ l2) → (mK M (mR M a0 12) = 31 ∧ ((0 : Int) ≤ 1 ∧ 1 < (mN M (mR M a0 12) : Int)) ∧ ∀ M55, M55 = mUI M (mR M a0 12) 1 1 → Q 0 M55)) ∧ (¬ (mI M a0 1 ≤ l2) → (mK M (mR M a0 11) = 36 ∧ ((0 : Int) ≤ (3 * l2) + 1 ∧ (3 * l2) + 1 < (mN M (mR M a0 11) : Int)) ∧ mK M (mR M a0 21) = 36 ∧ ((0 : Int) ≤ l2 ∧ l2 < (mN M (mR M a0 21) : Int)) ∧ mK M (mR M (mR M a0 11) (Int.toNat ((3 * l2) + 1))) = 19 ∧ Cv G y_MF_copy d [vr (mR M (mR M a0 11) (Int.toNat ((3 * l2) + 1))), vr (mR M (mR M a0 21) (Int.toNat l2))] M (fun M62 => mOk M62 ∧ (h_MS_within_121 G d a0 (l2 + 1) M62 Q))))) :
    h_MS_within_121 G d a0 l2 M Q := by
  unfold h_MS_within_121
  obtain ⟨h48, h⟩ := h
  refine wm_iload_n d_MS_within_121 rfl rfl ?_
  refine wm_aload_n d_MS_within_122 rfl rfl ?_
  refine gf_MS_103 rfl d_MS_within_123 h48 ?_
  refine wm_icmp_ge (tgt := 154) d_MS_within_126 rfl hi_l2 (hO _ _).1 (fun c52 => ?_) (fun c52 => ?_)
  · replace h := h.1 c52
    obtain ⟨h53, h⟩ := h
    obtain ⟨h54, h⟩ := h
    obtain ⟨M55, e56⟩ : ∃ M55, M55 = mUI M (mR M a0 12) 1 1 := ⟨_, rfl⟩
    replace h := h M55 e56
    refine wm_aload_n d_MS_within_154 rfl rfl ?_
    refine gf_MS_44 rfl d_MS_within_155 h48 ?_
    refine wm_iconst d_MS_within_158 ?_
    refine wm_iconst d_MS_within_159 ?_
    have hOM55 : mOk M55 := by rw [e56]; exact mOk_UI hO (m_b32 (by decide))
    refine wm_zastE d_MS_within_160 h53 h54 (by decide) e56 ?_
    refine wm_iconst d_MS_within_161 ?_
    refine wm_ireturn d_MS_within_162 rfl rfl ?_
    exact ⟨_, rfl, h⟩
  · replace h := h.2 c52
    obtain ⟨h57, h⟩ := h
    obtain ⟨h58, h⟩ := h
    obtain ⟨h59, h⟩ := h
    obtain ⟨h60, h⟩ := h
    obtain ⟨h61, h⟩ := h
    refine wm_aload_n d_MS_within_129 rfl rfl ?_
    refine gf_MS_40 rfl d_MS_within_130 h48 ?_
    refine wm_iconst d_MS_within_133 ?_
    refine wm_iload_n d_MS_within_134 rfl rfl ?_
    refine wm_imul d_MS_within_135 ?_
    refine wm_iconst d_MS_within_136 ?_
    refine wm_iadd d_MS_within_137 ?_
    refine wm_aald6 d_MS_within_138 h57 h58 ?_
    refine wm_aload_n d_MS_within_139 rfl rfl ?_
    refine gf_MS_69 rfl d_MS_within_140 h48 ?_
    refine wm_iload_n d_MS_within_143 rfl rfl ?_
    refine wm_aald6 d_MS_within_144 h59 h60 ?_
    refine cf_MS_152 rfl d_MS_within_145 h61 (Nat.le_of_ble_eq_true rfl) (Cv.mono h (fun M62 h => ?_))
    obtain ⟨hOM62, h⟩ := h
    refine wm_iinc d_MS_within_148 (by decide) rfl (L' := [vr a0, vd, vi (l2 + 1), vd]) rfl ?_
    refine wm_goto (tgt := 121) d_MS_within_151 rfl ?_
    exact h
theorem d_MS_isThere_0 : decode y_MS_isThere.2.1 0 = .ok (.iload_n 1, 1) := dc9_27 (by decide +kernel)
theorem d_MS_isThere_1 : decode y_MS_isThere.2.1 1 = .ok (.ifCond .lt 33, 3) := dc9_155 (by decide +kernel)
theorem d_MS_isThere_34 : decode y_MS_isThere.2.1 34 = .ok (.iconst 0, 1) := dc9_3 (by decide +kernel)
theorem d_MS_isThere_4 : decode y_MS_isThere.2.1 4 = .ok (.iload_n 1, 1) := dc9_27 (by decide +kernel)
theorem d_MS_isThere_5 : decode y_MS_isThere.2.1 5 = .ok (.aload_n 0, 1) := dc9_42 (by decide +kernel)
theorem d_MS_isThere_6 : decode y_MS_isThere.2.1 6 = .ok (.getfield 103, 3) := dc9_180 (by decide +kernel)
theorem d_MS_isThere_9 : decode y_MS_isThere.2.1 9 = .ok (.if_icmp .ge 25, 3) := dc9_162 (by decide +kernel)
theorem d_MS_isThere_12 : decode y_MS_isThere.2.1 12 = .ok (.iload_n 2, 1) := dc9_28 (by decide +kernel)
theorem d_MS_isThere_13 : decode y_MS_isThere.2.1 13 = .ok (.ifCond .lt 21, 3) := dc9_155 (by decide +kernel)
theorem d_MS_isThere_16 : decode y_MS_isThere.2.1 16 = .ok (.iload_n 2, 1) := dc9_28 (by decide +kernel)
theorem d_MS_isThere_17 : decode y_MS_isThere.2.1 17 = .ok (.iconst 2, 1) := dc9_5 (by decide +kernel)
theorem d_MS_isThere_18 : decode y_MS_isThere.2.1 18 = .ok (.if_icmp .gt 16, 3) := dc9_163 (by decide +kernel)
theorem d_MS_isThere_21 : decode y_MS_isThere.2.1 21 = .ok (.aload_n 0, 1) := dc9_42 (by decide +kernel)
theorem d_MS_isThere_22 : decode y_MS_isThere.2.1 22 = .ok (.getfield 44, 3) := dc9_180 (by decide +kernel)
theorem d_MS_isThere_25 : decode y_MS_isThere.2.1 25 = .ok (.iload_n 2, 1) := dc9_28 (by decide +kernel)
theorem d_MS_isThere_26 : decode y_MS_isThere.2.1 26 = .ok (.baload, 1) := dc9_51 (by decide +kernel)
theorem d_MS_isThere_27 : decode y_MS_isThere.2.1 27 = .ok (.ifCond .eq 7, 3) := dc9_153 (by decide +kernel)
theorem d_MS_isThere_30 : decode y_MS_isThere.2.1 30 = .ok (.iconst 1, 1) := dc9_4 (by decide +kernel)
theorem d_MS_isThere_31 : decode y_MS_isThere.2.1 31 = .ok (.goto 4, 3) := dc9_167 (by decide +kernel)
theorem d_MS_isThere_35 : decode y_MS_isThere.2.1 35 = .ok (.ireturn, 1) := dc9_172 (by decide +kernel)
theorem k_MS_isThere {G : mG} {d : Nat} {a0 : Nat} {l1 : Int} {l2 : Int} {M : mM} {Q : Int → mM → Prop} (hO : mOk M) (hi_l1 : i32 l1) (hi_l2 : i32 l2)
    (h : (¬ (l1 < 0) → (mK M a0 = 17 ∧ (¬ (mI M a0 1 ≤ l1) → (¬ (l2 < 0) → (¬ (2 < l2) → (mK M (mR M a0 12) = 31 ∧ ((0 : Int) ≤ l2 ∧ l2 < (mN M (mR M a0 12) : Int)))))))) ∧ ∀ v9 : Int, v9 = (if ((l1 < 0) ∨ ((mI M a0 1 ≤ l1) ∨ ((l2 < 0) ∨ ((2 < l2) ∨ (mI M (mR M a0 12) (Int.toNat l2) = 0))))) then 0 else 1) → Q v9 M) :
    Ci G y_MS_isThere d [vr a0, vi l1, vi l2] M Q := by
  refine wm_open (y := y_MS_isThere) rfl (Nat.le_of_ble_eq_true rfl) (L := [vr a0, vi l1, vi l2]) rfl ?_
  refine wm_iload_n d_MS_isThere_0 rfl rfl ?_
  obtain ⟨s10, h⟩ := h
  have hJ : ∀ v9 : Int, v9 = (if ((l1 < 0) ∨ ((mI M a0 1 ≤ l1) ∨ ((l2 < 0) ∨ ((2 < l2) ∨ (mI M (mR M a0 12) (Int.toNat l2) = 0))))) then 0 else 1) → mWm G y_MS_isThere d 35 [vd, vd, vd] [vi v9] M (fun r9 M9 => ∃ x9, r9 = some (vi x9) ∧ Q x9 M9) := by
    intro v9 e11
    have h := h v9 e11
    have h12 : i32 v9 := by rw [e11]; (repeat' split) <;> first | exact ⟨by decide, by decide⟩ | exact ⟨by decide, by decide⟩
    have h13 : (v9 = 0 ∨ v9 = 1) := by rw [e11]; (repeat' split) <;> decide
    refine wm_ireturn d_MS_isThere_35 rfl (m_nb h13) ?_
    exact ⟨_, rfl, h⟩
  clear h
  have s14 := s10
  refine wm_if_lt (tgt := 34) d_MS_isThere_1 rfl hi_l1 (fun c1 => ?_) (fun c1 => ?_)
  · refine wm_iconst d_MS_isThere_34 ?_
    refine wm_less (L' := [vd, vd, vd]) ⟨Or.inl rfl, Or.inl rfl, Or.inl rfl, trivial⟩ ?_
    exact hJ 0 (if_pos (Or.inl c1)).symm
  · have s14 := s14 c1
    obtain ⟨h2, s15⟩ := s14
    refine wm_iload_n d_MS_isThere_4 rfl rfl ?_
    refine wm_aload_n d_MS_isThere_5 rfl rfl ?_
    refine gf_MS_103 rfl d_MS_isThere_6 h2 ?_
    refine wm_icmp_ge (tgt := 34) d_MS_isThere_9 rfl hi_l1 (hO _ _).1 (fun c3 => ?_) (fun c3 => ?_)
    · refine wm_iconst d_MS_isThere_34 ?_
      refine wm_less (L' := [vd, vd, vd]) ⟨Or.inl rfl, Or.inl rfl, Or.inl rfl, trivial⟩ ?_
      exact hJ 0 (if_pos (Or.inr (Or.inl c3))).symm
    · have s15 := s15 c3
      have s16 := s15
      refine wm_iload_n d_MS_isThere_12 rfl rfl ?_
      refine wm_if_lt (tgt := 34) d_MS_isThere_13 rfl hi_l2 (fun c4 => ?_) (fun c4 => ?_)
      · refine wm_iconst d_MS_isThere_34 ?_
        refine wm_less (L' := [vd, vd, vd]) ⟨Or.inl rfl, Or.inl rfl, Or.inl rfl, trivial⟩ ?_
        exact hJ 0 (if_pos (Or.inr (Or.inr (Or.inl c4)))).symm
      · have s16 := s16 c4
        have s17 := s16
        refine wm_iload_n d_MS_isThere_16 rfl rfl ?_
        refine wm_iconst d_MS_isThere_17 ?_
        refine wm_icmp_gt (tgt := 34) d_MS_isThere_18 rfl hi_l2 ⟨by decide, by decide⟩ (fun c5 => ?_) (fun c5 => ?_)
        · refine wm_iconst d_MS_isThere_34 ?_
          refine wm_less (L' := [vd, vd, vd]) ⟨Or.inl rfl, Or.inl rfl, Or.inl rfl, trivial⟩ ?_
          exact hJ 0 (if_pos (Or.inr (Or.inr (Or.inr (Or.inl c5))))).symm
        · have s17 := s17 c5
          obtain ⟨h6, h7⟩ := s17
          refine wm_aload_n d_MS_isThere_21 rfl rfl ?_
          refine gf_MS_44 rfl d_MS_isThere_22 h2 ?_
          refine wm_iload_n d_MS_isThere_25 rfl rfl ?_
          refine wm_zald d_MS_isThere_26 h6 h7 ?_
          refine wm_if_eq (tgt := 34) d_MS_isThere_27 rfl (hO _ _).1 (fun c8 => ?_) (fun c8 => ?_)
          · refine wm_iconst d_MS_isThere_34 ?_
            refine wm_less (L' := [vd, vd, vd]) ⟨Or.inl rfl, Or.inl rfl, Or.inl rfl, trivial⟩ ?_
            exact hJ 0 (if_pos (Or.inr (Or.inr (Or.inr (Or.inr c8))))).symm
          · refine wm_iconst d_MS_isThere_30 ?_
            refine wm_goto (tgt := 35) d_MS_isThere_31 rfl ?_
            refine wm_less (L' := [vd, vd, vd]) ⟨Or.inl rfl, Or.inl rfl, Or.inl rfl, trivial⟩ ?_
            exact hJ 1 (if_neg (fun z18 => Or.elim z18 c1 (fun z19 => Or.elim z19 c3 (fun z20 => Or.elim z20 c4 (fun z21 => Or.elim z21 c5 c8))))).symm
theorem d_MS_compare_0 : decode y_MS_compare.2.1 0 = .ok (.aload_n 0, 1) := dc9_42 (by decide +kernel)
theorem d_MS_compare_1 : decode y_MS_compare.2.1 1 = .ok (.getfield 10, 3) := dc9_180 (by decide +kernel)
theorem d_MS_compare_4 : decode y_MS_compare.2.1 4 = .ok (.aload_n 0, 1) := dc9_42 (by decide +kernel)
theorem d_MS_compare_5 : decode y_MS_compare.2.1 5 = .ok (.getfield 40, 3) := dc9_180 (by decide +kernel)
theorem d_MS_compare_8 : decode y_MS_compare.2.1 8 = .ok (.iconst 3, 1) := dc9_6 (by decide +kernel)
theorem d_MS_compare_9 : decode y_MS_compare.2.1 9 = .ok (.iload_n 1, 1) := dc9_27 (by decide +kernel)
theorem d_MS_compare_10 : decode y_MS_compare.2.1 10 = .ok (.imul, 1) := dc9_104 (by decide +kernel)
theorem d_MS_compare_11 : decode y_MS_compare.2.1 11 = .ok (.iload_n 2, 1) := dc9_28 (by decide +kernel)
theorem d_MS_compare_12 : decode y_MS_compare.2.1 12 = .ok (.iadd, 1) := dc9_96 (by decide +kernel)
theorem d_MS_compare_13 : decode y_MS_compare.2.1 13 = .ok (.aaload, 1) := dc9_50 (by decide +kernel)
theorem d_MS_compare_14 : decode y_MS_compare.2.1 14 = .ok (.aload_n 0, 1) := dc9_42 (by decide +kernel)
theorem d_MS_compare_15 : decode y_MS_compare.2.1 15 = .ok (.getfield 40, 3) := dc9_180 (by decide +kernel)
theorem d_MS_compare_18 : decode y_MS_compare.2.1 18 = .ok (.iconst 3, 1) := dc9_6 (by decide +kernel)
theorem d_MS_compare_19 : decode y_MS_compare.2.1 19 = .ok (.iload_n 3, 1) := dc9_29 (by decide +kernel)
theorem d_MS_compare_20 : decode y_MS_compare.2.1 20 = .ok (.imul, 1) := dc9_104 (by decide +kernel)
theorem d_MS_compare_21 : decode y_MS_compare.2.1 21 = .ok (.iload 4, 2) := dc9_21 (by decide +kernel)
theorem d_MS_compare_23 : decode y_MS_compare.2.1 23 = .ok (.iadd, 1) := dc9_96 (by decide +kernel)
theorem d_MS_compare_24 : decode y_MS_compare.2.1 24 = .ok (.aaload, 1) := dc9_50 (by decide +kernel)
theorem d_MS_compare_25 : decode y_MS_compare.2.1 25 = .ok (.invokevirtual 194, 3) := dc9_182 (by decide +kernel)
theorem d_MS_compare_28 : decode y_MS_compare.2.1 28 = .ok (.ireturn, 1) := dc9_172 (by decide +kernel)
theorem k_MS_compare {G : mG} {d : Nat} {a0 : Nat} {l1 : Int} {l2 : Int} {l3 : Int} {l4 : Int} {M : mM} {Q : Int → mM → Prop} (hO : mOk M) (hi_l1 : i32 l1) (hi_l2 : i32 l2) (hi_l3 : i32 l3) (hi_l4 : i32 l4)
    (h : mK M a0 = 17 ∧ mK M (mR M a0 11) = 36 ∧ ((0 : Int) ≤ (3 * l1) + l2 ∧ (3 * l1) + l2 < (mN M (mR M a0 11) : Int)) ∧ ((0 : Int) ≤ (3 * l3) + l4 ∧ (3 * l3) + l4 < (mN M (mR M a0 11) : Int)) ∧ mK M (mR M a0 0) = 18 ∧ Ci G y_MU_compare d [vr (mR M a0 0), vr (mR M (mR M a0 11) (Int.toNat ((3 * l1) + l2))), vr (mR M (mR M a0 11) (Int.toNat ((3 * l3) + l4)))] M (fun x7 M6 => i32 x7 ∧ mOk M6 ∧ (Q x7 M6))) :
    Ci G y_MS_compare (d + 1) [vr a0, vi l1, vi l2, vi l3, vi l4] M Q := by
  refine wm_open (y := y_MS_compare) rfl (Nat.le_of_ble_eq_true rfl) (L := [vr a0, vi l1, vi l2, vi l3, vi l4]) rfl ?_
  obtain ⟨h1, h⟩ := h
  obtain ⟨h2, h⟩ := h
  obtain ⟨h3, h⟩ := h
  obtain ⟨h4, h⟩ := h
  obtain ⟨h5, h⟩ := h
  refine wm_aload_n d_MS_compare_0 rfl rfl ?_
  refine gf_MS_10 rfl d_MS_compare_1 h1 ?_
  refine wm_aload_n d_MS_compare_4 rfl rfl ?_
  refine gf_MS_40 rfl d_MS_compare_5 h1 ?_
  refine wm_iconst d_MS_compare_8 ?_
  refine wm_iload_n d_MS_compare_9 rfl rfl ?_
  refine wm_imul d_MS_compare_10 ?_
  refine wm_iload_n d_MS_compare_11 rfl rfl ?_
  refine wm_iadd d_MS_compare_12 ?_
  refine wm_aald6 d_MS_compare_13 h2 h3 ?_
  refine wm_aload_n d_MS_compare_14 rfl rfl ?_
  refine gf_MS_40 rfl d_MS_compare_15 h1 ?_
  refine wm_iconst d_MS_compare_18 ?_
  refine wm_iload_n d_MS_compare_19 rfl rfl ?_
  refine wm_imul d_MS_compare_20 ?_
  refine wm_iload d_MS_compare_21 rfl ?_
  refine wm_iadd d_MS_compare_23 ?_
  refine wm_aald6 d_MS_compare_24 h2 h4 ?_
  refine cf_MS_194 rfl d_MS_compare_25 h5 (Nat.le_of_ble_eq_true rfl) (Ci.mono h (fun x7 M6 h => ?_))
  obtain ⟨h8, hOM6, h⟩ := h
  refine wm_ireturn d_MS_compare_28 rfl rfl ?_
  exact ⟨_, rfl, h⟩
theorem d_MS_billionths_0 : decode y_MS_billionths.2.1 0 = .ok (.aload_n 0, 1) := dc9_42 (by decide +kernel)
theorem d_MS_billionths_1 : decode y_MS_billionths.2.1 1 = .ok (.getfield 10, 3) := dc9_180 (by decide +kernel)
theorem d_MS_billionths_4 : decode y_MS_billionths.2.1 4 = .ok (.aload_n 0, 1) := dc9_42 (by decide +kernel)
theorem d_MS_billionths_5 : decode y_MS_billionths.2.1 5 = .ok (.getfield 40, 3) := dc9_180 (by decide +kernel)
theorem d_MS_billionths_8 : decode y_MS_billionths.2.1 8 = .ok (.iconst 3, 1) := dc9_6 (by decide +kernel)
theorem d_MS_billionths_9 : decode y_MS_billionths.2.1 9 = .ok (.iload_n 1, 1) := dc9_27 (by decide +kernel)
theorem d_MS_billionths_10 : decode y_MS_billionths.2.1 10 = .ok (.imul, 1) := dc9_104 (by decide +kernel)
theorem d_MS_billionths_11 : decode y_MS_billionths.2.1 11 = .ok (.iload_n 2, 1) := dc9_28 (by decide +kernel)
theorem d_MS_billionths_12 : decode y_MS_billionths.2.1 12 = .ok (.iadd, 1) := dc9_96 (by decide +kernel)
theorem d_MS_billionths_13 : decode y_MS_billionths.2.1 13 = .ok (.aaload, 1) := dc9_50 (by decide +kernel)
theorem d_MS_billionths_14 : decode y_MS_billionths.2.1 14 = .ok (.invokevirtual 247, 3) := dc9_182 (by decide +kernel)
theorem d_MS_billionths_17 : decode y_MS_billionths.2.1 17 = .ok (.ireturn, 1) := dc9_172 (by decide +kernel)
theorem k_MS_billionths {G : mG} {d : Nat} {a0 : Nat} {l1 : Int} {l2 : Int} {M : mM} {Q : Int → mM → Prop} (hO : mOk M) (hi_l1 : i32 l1) (hi_l2 : i32 l2)
    (h : mK M a0 = 17 ∧ mK M (mR M a0 11) = 36 ∧ ((0 : Int) ≤ (3 * l1) + l2 ∧ (3 * l1) + l2 < (mN M (mR M a0 11) : Int)) ∧ mK M (mR M a0 0) = 18 ∧ Ci G y_MU_billionths d [vr (mR M a0 0), vr (mR M (mR M a0 11) (Int.toNat ((3 * l1) + l2)))] M (fun x6 M5 => i32 x6 ∧ mOk M5 ∧ (Q x6 M5))) :
    Ci G y_MS_billionths (d + 1) [vr a0, vi l1, vi l2] M Q := by
  refine wm_open (y := y_MS_billionths) rfl (Nat.le_of_ble_eq_true rfl) (L := [vr a0, vi l1, vi l2]) rfl ?_
  obtain ⟨h1, h⟩ := h
  obtain ⟨h2, h⟩ := h
  obtain ⟨h3, h⟩ := h
  obtain ⟨h4, h⟩ := h
  refine wm_aload_n d_MS_billionths_0 rfl rfl ?_
  refine gf_MS_10 rfl d_MS_billionths_1 h1 ?_
  refine wm_aload_n d_MS_billionths_4 rfl rfl ?_
  refine gf_MS_40 rfl d_MS_billionths_5 h1 ?_
  refine wm_iconst d_MS_billionths_8 ?_
  refine wm_iload_n d_MS_billionths_9 rfl rfl ?_
  refine wm_imul d_MS_billionths_10 ?_
  refine wm_iload_n d_MS_billionths_11 rfl rfl ?_
  refine wm_iadd d_MS_billionths_12 ?_
  refine wm_aald6 d_MS_billionths_13 h2 h3 ?_
  refine cf_MS_247 rfl d_MS_billionths_14 h4 (Nat.le_of_ble_eq_true rfl) (Ci.mono h (fun x6 M5 h => ?_))
  obtain ⟨h7, hOM5, h⟩ := h
  refine wm_ireturn d_MS_billionths_17 rfl rfl ?_
  exact ⟨_, rfl, h⟩
theorem d_MS_say_0 : decode y_MS_say.2.1 0 = .ok (.aload_n 0, 1) := dc9_42 (by decide +kernel)
theorem d_MS_say_1 : decode y_MS_say.2.1 1 = .ok (.getfield 10, 3) := dc9_180 (by decide +kernel)
theorem d_MS_say_4 : decode y_MS_say.2.1 4 = .ok (.aload_n 1, 1) := dc9_43 (by decide +kernel)
theorem d_MS_say_5 : decode y_MS_say.2.1 5 = .ok (.aload_n 0, 1) := dc9_42 (by decide +kernel)
theorem d_MS_say_6 : decode y_MS_say.2.1 6 = .ok (.getfield 100, 3) := dc9_180 (by decide +kernel)
theorem d_MS_say_9 : decode y_MS_say.2.1 9 = .ok (.invokevirtual 251, 3) := dc9_182 (by decide +kernel)
theorem d_MS_say_12 : decode y_MS_say.2.1 12 = .ok (.istore 4, 2) := dc9_54 (by decide +kernel)
theorem d_MS_say_14 : decode y_MS_say.2.1 14 = .ok (.iconst 0, 1) := dc9_3 (by decide +kernel)
theorem d_MS_say_15 : decode y_MS_say.2.1 15 = .ok (.istore 5, 2) := dc9_54 (by decide +kernel)
theorem d_MS_say_17 : decode y_MS_say.2.1 17 = .ok (.iload 5, 2) := dc9_21 (by decide +kernel)
theorem d_MS_say_19 : decode y_MS_say.2.1 19 = .ok (.iload 4, 2) := dc9_21 (by decide +kernel)
theorem d_MS_say_21 : decode y_MS_say.2.1 21 = .ok (.if_icmp .ge 30, 3) := dc9_162 (by decide +kernel)
theorem d_MS_say_51 : decode y_MS_say.2.1 51 = .ok (.iload_n 3, 1) := dc9_29 (by decide +kernel)
theorem d_MS_say_52 : decode y_MS_say.2.1 52 = .ok (.iload 4, 2) := dc9_21 (by decide +kernel)
theorem d_MS_say_54 : decode y_MS_say.2.1 54 = .ok (.iadd, 1) := dc9_96 (by decide +kernel)
theorem d_MS_say_55 : decode y_MS_say.2.1 55 = .ok (.ireturn, 1) := dc9_172 (by decide +kernel)
theorem d_MS_say_24 : decode y_MS_say.2.1 24 = .ok (.aload_n 2, 1) := dc9_44 (by decide +kernel)
theorem d_MS_say_25 : decode y_MS_say.2.1 25 = .ok (.iload_n 3, 1) := dc9_29 (by decide +kernel)
theorem d_MS_say_26 : decode y_MS_say.2.1 26 = .ok (.iload 5, 2) := dc9_21 (by decide +kernel)
theorem d_MS_say_28 : decode y_MS_say.2.1 28 = .ok (.iadd, 1) := dc9_96 (by decide +kernel)
theorem d_MS_say_29 : decode y_MS_say.2.1 29 = .ok (.bipush 48, 2) := dc9_16 (by decide +kernel)
theorem d_MS_say_31 : decode y_MS_say.2.1 31 = .ok (.aload_n 0, 1) := dc9_42 (by decide +kernel)
theorem d_MS_say_32 : decode y_MS_say.2.1 32 = .ok (.getfield 100, 3) := dc9_180 (by decide +kernel)
theorem d_MS_say_35 : decode y_MS_say.2.1 35 = .ok (.iload 4, 2) := dc9_21 (by decide +kernel)
theorem d_MS_say_37 : decode y_MS_say.2.1 37 = .ok (.iconst 1, 1) := dc9_4 (by decide +kernel)
theorem d_MS_say_38 : decode y_MS_say.2.1 38 = .ok (.isub, 1) := dc9_100 (by decide +kernel)
theorem d_MS_say_39 : decode y_MS_say.2.1 39 = .ok (.iload 5, 2) := dc9_21 (by decide +kernel)
theorem d_MS_say_41 : decode y_MS_say.2.1 41 = .ok (.isub, 1) := dc9_100 (by decide +kernel)
theorem d_MS_say_42 : decode y_MS_say.2.1 42 = .ok (.iaload, 1) := dc9_46 (by decide +kernel)
theorem d_MS_say_43 : decode y_MS_say.2.1 43 = .ok (.iadd, 1) := dc9_96 (by decide +kernel)
theorem d_MS_say_44 : decode y_MS_say.2.1 44 = .ok (.iastore, 1) := dc9_79 (by decide +kernel)
theorem d_MS_say_45 : decode y_MS_say.2.1 45 = .ok (.iinc 5 1, 3) := by decide +kernel
theorem d_MS_say_48 : decode y_MS_say.2.1 48 = .ok (.goto (-31), 3) := dc9_167 (by decide +kernel)
def h_MS_say_17 (G : mG) (d : Nat) (a0 : Nat) (a2 : Nat) (l3 : Int) (l4 : Int) (l5 : Int) (M : mM) (Q : Int → mM → Prop) : Prop := mWm G y_MS_say (d + 1) 17 [vr a0, vd, vr a2, vi l3, vi l4, vi l5] [] M (fun r9 M9 => ∃ x9, r9 = some (vi x9) ∧ Q x9 M9)
theorem k_MS_say {G : mG} {d : Nat} {a0 : Nat} {a1 : Nat} {a2 : Nat} {l3 : Int} {M : mM} {Q : Int → mM → Prop} (hO : mOk M) (hi_l3 : i32 l3)
    (h : mK M a0 = 17 ∧ mK M (mR M a0 0) = 18 ∧ Ci G y_MU_digits d [vr (mR M a0 0), vr a1, vr (mR M a0 31)] M (fun x4 M3 => i32 x4 ∧ mOk M3 ∧ (h_MS_say_17 G d a0 a2 l3 x4 0 M3 Q))) :
    Ci G y_MS_say (d + 1) [vr a0, vr a1, vr a2, vi l3] M Q := by
  refine wm_open (y := y_MS_say) rfl (Nat.le_of_ble_eq_true rfl) (L := [vr a0, vr a1, vr a2, vi l3, vd, vd]) rfl ?_
  obtain ⟨h1, h⟩ := h
  obtain ⟨h2, h⟩ := h
  refine wm_aload_n d_MS_say_0 rfl rfl ?_
  refine gf_MS_10 rfl d_MS_say_1 h1 ?_
  refine wm_aload_n d_MS_say_4 rfl rfl ?_
  refine wm_aload_n d_MS_say_5 rfl rfl ?_
  refine gf_MS_100 rfl d_MS_say_6 h1 ?_
  refine cf_MS_251 rfl d_MS_say_9 h2 (Nat.le_of_ble_eq_true rfl) (Ci.mono h (fun x4 M3 h => ?_))
  obtain ⟨h5, hOM3, h⟩ := h
  refine wm_istore d_MS_say_12 (by decide) (L' := [vr a0, vr a1, vr a2, vi l3, vi x4, vd]) rfl ?_
  refine wm_iconst d_MS_say_14 ?_
  refine wm_istore d_MS_say_15 (by decide) (L' := [vr a0, vr a1, vr a2, vi l3, vi x4, vi 0]) rfl ?_
  refine wm_less (L' := [vr a0, vd, vr a2, vi l3, vi x4, vi 0]) ⟨Or.inr rfl, Or.inl rfl, Or.inr rfl, Or.inr rfl, Or.inr rfl, Or.inr rfl, trivial⟩ ?_
  exact h
theorem k_MS_say_17 {G : mG} {d : Nat} {a0 : Nat} {a2 : Nat} {l3 : Int} {l4 : Int} {l5 : Int} {M : mM} {Q : Int → mM → Prop} (hO : mOk M) (hi_l3 : i32 l3) (hi_l4 : i32 l4) (hi_l5 : i32 l5)
    (h : ((l4 ≤ l5) → (Q (l3 + l4) M)) ∧ (¬ (l4 ≤ l5) → (mK M a0 = 17 ∧ mK M (mR M a0 31) = 30 ∧ ((0 : Int) ≤ (l4 - 1) - l5 ∧ (l4 - 1) - l5 < (mN M (mR M a0 31) : Int)) ∧ mK M a2 = 30 ∧ ((0 : Int) ≤ l3 + l5 ∧ l3 + l5 < (mN M a2 : Int)) ∧ i32 (48 + (mI M (mR M a0 31) (Int.toNat ((l4 - 1) - l5)))) ∧ ∀ M20, M20 = mUI M a2 (Int.toNat (l3 + l5)) (48 + (mI M (mR M a0 31) (Int.toNat ((l4 - 1) - l5)))) → h_MS_say_17 G d a0 a2 l3 l4 (l5 + 1) M20 Q))) :
    h_MS_say_17 G d a0 a2 l3 l4 l5 M Q := by
  unfold h_MS_say_17
  refine wm_iload d_MS_say_17 rfl ?_
  refine wm_iload d_MS_say_19 rfl ?_
  refine wm_icmp_ge (tgt := 51) d_MS_say_21 rfl hi_l5 hi_l4 (fun c13 => ?_) (fun c13 => ?_)
  · replace h := h.1 c13
    refine wm_iload_n d_MS_say_51 rfl rfl ?_
    refine wm_iload d_MS_say_52 rfl ?_
    refine wm_iadd d_MS_say_54 ?_
    refine wm_ireturn d_MS_say_55 rfl rfl ?_
    exact ⟨_, rfl, h⟩
  · replace h := h.2 c13
    obtain ⟨h14, h⟩ := h
    obtain ⟨h15, h⟩ := h
    obtain ⟨h16, h⟩ := h
    obtain ⟨h17, h⟩ := h
    obtain ⟨h18, h⟩ := h
    obtain ⟨h19, h⟩ := h
    obtain ⟨M20, e21⟩ : ∃ M20, M20 = mUI M a2 (Int.toNat (l3 + l5)) (48 + (mI M (mR M a0 31) (Int.toNat ((l4 - 1) - l5)))) := ⟨_, rfl⟩
    replace h := h M20 e21
    refine wm_aload_n d_MS_say_24 rfl rfl ?_
    refine wm_iload_n d_MS_say_25 rfl rfl ?_
    refine wm_iload d_MS_say_26 rfl ?_
    refine wm_iadd d_MS_say_28 ?_
    refine wm_bipush d_MS_say_29 (by decide) ?_
    refine wm_aload_n d_MS_say_31 rfl rfl ?_
    refine gf_MS_100 rfl d_MS_say_32 h14 ?_
    refine wm_iload d_MS_say_35 rfl ?_
    refine wm_iconst d_MS_say_37 ?_
    refine wm_isub d_MS_say_38 ?_
    refine wm_iload d_MS_say_39 rfl ?_
    refine wm_isub d_MS_say_41 ?_
    refine wm_iald d_MS_say_42 h15 h16 ?_
    refine wm_iadd d_MS_say_43 ?_
    have hOM20 : mOk M20 := by rw [e21]; exact mOk_UI hO h19
    refine wm_iastE d_MS_say_44 h17 h18 h19 e21 ?_
    refine wm_iinc d_MS_say_45 (by decide) rfl (L' := [vr a0, vd, vr a2, vi l3, vi l4, vi (l5 + 1)]) rfl ?_
    refine wm_goto (tgt := 17) d_MS_say_48 rfl ?_
    exact h
theorem d_MS_print_0 : decode y_MS_print.2.1 0 = .ok (.aload_n 0, 1) := dc9_42 (by decide +kernel)
theorem d_MS_print_1 : decode y_MS_print.2.1 1 = .ok (.getfield 40, 3) := dc9_180 (by decide +kernel)
theorem d_MS_print_4 : decode y_MS_print.2.1 4 = .ok (.iconst 3, 1) := dc9_6 (by decide +kernel)
theorem d_MS_print_5 : decode y_MS_print.2.1 5 = .ok (.iload_n 1, 1) := dc9_27 (by decide +kernel)
theorem d_MS_print_6 : decode y_MS_print.2.1 6 = .ok (.imul, 1) := dc9_104 (by decide +kernel)
theorem d_MS_print_7 : decode y_MS_print.2.1 7 = .ok (.iload_n 2, 1) := dc9_28 (by decide +kernel)
theorem d_MS_print_8 : decode y_MS_print.2.1 8 = .ok (.iadd, 1) := dc9_96 (by decide +kernel)
theorem d_MS_print_9 : decode y_MS_print.2.1 9 = .ok (.aaload, 1) := dc9_50 (by decide +kernel)
theorem d_MS_print_10 : decode y_MS_print.2.1 10 = .ok (.astore 4, 2) := dc9_58 (by decide +kernel)
theorem d_MS_print_12 : decode y_MS_print.2.1 12 = .ok (.aload_n 0, 1) := dc9_42 (by decide +kernel)
theorem d_MS_print_13 : decode y_MS_print.2.1 13 = .ok (.aload 4, 2) := dc9_25 (by decide +kernel)
theorem d_MS_print_15 : decode y_MS_print.2.1 15 = .ok (.getfield 232, 3) := dc9_180 (by decide +kernel)
theorem d_MS_print_18 : decode y_MS_print.2.1 18 = .ok (.aload_n 3, 1) := dc9_45 (by decide +kernel)
theorem d_MS_print_19 : decode y_MS_print.2.1 19 = .ok (.iconst 0, 1) := dc9_3 (by decide +kernel)
theorem d_MS_print_20 : decode y_MS_print.2.1 20 = .ok (.invokevirtual 254, 3) := dc9_182 (by decide +kernel)
theorem d_MS_print_23 : decode y_MS_print.2.1 23 = .ok (.istore 5, 2) := dc9_54 (by decide +kernel)
theorem d_MS_print_25 : decode y_MS_print.2.1 25 = .ok (.aload 4, 2) := dc9_25 (by decide +kernel)
theorem d_MS_print_27 : decode y_MS_print.2.1 27 = .ok (.getfield 241, 3) := dc9_180 (by decide +kernel)
theorem d_MS_print_30 : decode y_MS_print.2.1 30 = .ok (.invokevirtual 258, 3) := dc9_182 (by decide +kernel)
theorem d_MS_print_33 : decode y_MS_print.2.1 33 = .ok (.ifCond .ne 25, 3) := dc9_154 (by decide +kernel)
theorem d_MS_print_36 : decode y_MS_print.2.1 36 = .ok (.aload_n 3, 1) := dc9_45 (by decide +kernel)
theorem d_MS_print_37 : decode y_MS_print.2.1 37 = .ok (.iload 5, 2) := dc9_21 (by decide +kernel)
theorem d_MS_print_39 : decode y_MS_print.2.1 39 = .ok (.bipush 47, 2) := dc9_16 (by decide +kernel)
theorem d_MS_print_41 : decode y_MS_print.2.1 41 = .ok (.iastore, 1) := dc9_79 (by decide +kernel)
theorem d_MS_print_42 : decode y_MS_print.2.1 42 = .ok (.aload_n 0, 1) := dc9_42 (by decide +kernel)
theorem d_MS_print_43 : decode y_MS_print.2.1 43 = .ok (.aload 4, 2) := dc9_25 (by decide +kernel)
theorem d_MS_print_45 : decode y_MS_print.2.1 45 = .ok (.getfield 241, 3) := dc9_180 (by decide +kernel)
theorem d_MS_print_48 : decode y_MS_print.2.1 48 = .ok (.aload_n 3, 1) := dc9_45 (by decide +kernel)
theorem d_MS_print_49 : decode y_MS_print.2.1 49 = .ok (.iload 5, 2) := dc9_21 (by decide +kernel)
theorem d_MS_print_51 : decode y_MS_print.2.1 51 = .ok (.iconst 1, 1) := dc9_4 (by decide +kernel)
theorem d_MS_print_52 : decode y_MS_print.2.1 52 = .ok (.iadd, 1) := dc9_96 (by decide +kernel)
theorem d_MS_print_53 : decode y_MS_print.2.1 53 = .ok (.invokevirtual 254, 3) := dc9_182 (by decide +kernel)
theorem d_MS_print_56 : decode y_MS_print.2.1 56 = .ok (.istore 5, 2) := dc9_54 (by decide +kernel)
theorem d_MS_print_58 : decode y_MS_print.2.1 58 = .ok (.iload 5, 2) := dc9_21 (by decide +kernel)
theorem d_MS_print_60 : decode y_MS_print.2.1 60 = .ok (.ireturn, 1) := dc9_172 (by decide +kernel)
theorem k_MS_print {G : mG} {d : Nat} {a0 : Nat} {l1 : Int} {l2 : Int} {a3 : Nat} {M : mM} {Q : Int → mM → Prop} (hO : mOk M) (hi_l1 : i32 l1) (hi_l2 : i32 l2)
    (h : mK M a0 = 17 ∧ mK M (mR M a0 11) = 36 ∧ ((0 : Int) ≤ (3 * l1) + l2 ∧ (3 * l1) + l2 < (mN M (mR M a0 11) : Int)) ∧ mK M (mR M (mR M a0 11) (Int.toNat ((3 * l1) + l2))) = 19 ∧ Ci G y_MS_say d [vr a0, vr (mR M (mR M (mR M a0 11) (Int.toNat ((3 * l1) + l2))) 0), vr a3, vi 0] M (fun x6 M5 => i32 x6 ∧ mOk M5 ∧ (mK M5 (mR M (mR M a0 11) (Int.toNat ((3 * l1) + l2))) = 19 ∧ mK M5 (mR M5 (mR M (mR M a0 11) (Int.toNat ((3 * l1) + l2))) 1) = 20 ∧ Ci G y_MW_isOne d [vr (mR M5 (mR M (mR M a0 11) (Int.toNat ((3 * l1) + l2))) 1)] M5 (fun x11 M10 => i32 x11 ∧ mOk M10 ∧ (((x11 = 0) → (mK M10 a3 = 30 ∧ ((0 : Int) ≤ x6 ∧ x6 < (mN M10 a3 : Int)) ∧ ∀ M21, M21 = mUI M10 a3 (Int.toNat x6) 47 → mK M21 (mR M (mR M a0 11) (Int.toNat ((3 * l1) + l2))) = 19 ∧ mK M21 a0 = 17 ∧ Ci G y_MS_say d [vr a0, vr (mR M21 (mR M (mR M a0 11) (Int.toNat ((3 * l1) + l2))) 1), vr a3, vi (x6 + 1)] M21 (fun x26 M25 => i32 x26 ∧ mOk M25 ∧ (Q x26 M25)))) ∧ (¬ (x11 = 0) → (Q x6 M10))))))) :
    Ci G y_MS_print (d + 1) [vr a0, vi l1, vi l2, vr a3] M Q := by
  refine wm_open (y := y_MS_print) rfl (Nat.le_of_ble_eq_true rfl) (L := [vr a0, vi l1, vi l2, vr a3, vd, vd]) rfl ?_
  obtain ⟨h1, h⟩ := h
  obtain ⟨h2, h⟩ := h
  obtain ⟨h3, h⟩ := h
  obtain ⟨h4, h⟩ := h
  refine wm_aload_n d_MS_print_0 rfl rfl ?_
  refine gf_MS_40 rfl d_MS_print_1 h1 ?_
  refine wm_iconst d_MS_print_4 ?_
  refine wm_iload_n d_MS_print_5 rfl rfl ?_
  refine wm_imul d_MS_print_6 ?_
  refine wm_iload_n d_MS_print_7 rfl rfl ?_
  refine wm_iadd d_MS_print_8 ?_
  refine wm_aald6 d_MS_print_9 h2 h3 ?_
  refine wm_astore d_MS_print_10 (by decide) (L' := [vr a0, vi l1, vi l2, vr a3, vr (mR M (mR M a0 11) (Int.toNat ((3 * l1) + l2))), vd]) rfl ?_
  refine wm_aload_n d_MS_print_12 rfl rfl ?_
  refine wm_aload d_MS_print_13 rfl ?_
  refine gf_MS_232 rfl d_MS_print_15 h4 ?_
  refine wm_aload_n d_MS_print_18 rfl rfl ?_
  refine wm_iconst d_MS_print_19 ?_
  refine cf_MS_254 rfl d_MS_print_20 h1 (Nat.le_of_ble_eq_true rfl) (Ci.mono h (fun x6 M5 h => ?_))
  obtain ⟨h7, hOM5, h⟩ := h
  obtain ⟨h8, h⟩ := h
  obtain ⟨h9, h⟩ := h
  refine wm_istore d_MS_print_23 (by decide) (L' := [vr a0, vi l1, vi l2, vr a3, vr (mR M (mR M a0 11) (Int.toNat ((3 * l1) + l2))), vi x6]) rfl ?_
  refine wm_aload d_MS_print_25 rfl ?_
  refine gf_MS_241 rfl d_MS_print_27 h8 ?_
  refine cf_MS_258 rfl d_MS_print_30 h9 (Nat.le_of_ble_eq_true rfl) (Ci.mono h (fun x11 M10 h => ?_))
  obtain ⟨h12, hOM10, h⟩ := h
  refine wm_if_ne (tgt := 58) d_MS_print_33 rfl h12 (fun c18 => ?_) (fun c18 => ?_)
  · replace h := h.2 c18
    refine wm_iload d_MS_print_58 rfl ?_
    refine wm_ireturn d_MS_print_60 rfl rfl ?_
    exact ⟨_, rfl, h⟩
  · replace c18 := Classical.not_not.mp c18
    replace h := h.1 c18
    obtain ⟨h19, h⟩ := h
    obtain ⟨h20, h⟩ := h
    obtain ⟨M21, e22⟩ : ∃ M21, M21 = mUI M10 a3 (Int.toNat x6) 47 := ⟨_, rfl⟩
    replace h := h M21 e22
    obtain ⟨h23, h⟩ := h
    obtain ⟨h24, h⟩ := h
    refine wm_aload_n d_MS_print_36 rfl rfl ?_
    refine wm_iload d_MS_print_37 rfl ?_
    refine wm_bipush d_MS_print_39 (by decide) ?_
    have hOM21 : mOk M21 := by rw [e22]; exact mOk_UI hOM10 ⟨by decide, by decide⟩
    refine wm_iastE d_MS_print_41 h19 h20 ⟨by decide, by decide⟩ e22 ?_
    refine wm_aload_n d_MS_print_42 rfl rfl ?_
    refine wm_aload d_MS_print_43 rfl ?_
    refine gf_MS_241 rfl d_MS_print_45 h23 ?_
    refine wm_aload_n d_MS_print_48 rfl rfl ?_
    refine wm_iload d_MS_print_49 rfl ?_
    refine wm_iconst d_MS_print_51 ?_
    refine wm_iadd d_MS_print_52 ?_
    refine cf_MS_254 rfl d_MS_print_53 h24 (Nat.le_of_ble_eq_true rfl) (Ci.mono h (fun x26 M25 h => ?_))
    obtain ⟨h27, hOM25, h⟩ := h
    refine wm_istore d_MS_print_56 (by decide) (L' := [vr a0, vi l1, vi l2, vr a3, vr (mR M (mR M a0 11) (Int.toNat ((3 * l1) + l2))), vi x26]) rfl ?_
    refine wm_iload d_MS_print_58 rfl ?_
    refine wm_ireturn d_MS_print_60 rfl rfl ?_
    exact ⟨_, rfl, h⟩
theorem d_MS_tell_0 : decode y_MS_tell.2.1 0 = .ok (.aload_n 0, 1) := dc9_42 (by decide +kernel)
theorem d_MS_tell_1 : decode y_MS_tell.2.1 1 = .ok (.getfield 51, 3) := dc9_180 (by decide +kernel)
theorem d_MS_tell_4 : decode y_MS_tell.2.1 4 = .ok (.iload_n 1, 1) := dc9_27 (by decide +kernel)
theorem d_MS_tell_5 : decode y_MS_tell.2.1 5 = .ok (.iload_n 2, 1) := dc9_28 (by decide +kernel)
theorem d_MS_tell_6 : decode y_MS_tell.2.1 6 = .ok (.iastore, 1) := dc9_79 (by decide +kernel)
theorem d_MS_tell_7 : decode y_MS_tell.2.1 7 = .ok (.return_, 1) := dc9_177 (by decide +kernel)
theorem k_MS_tell {G : mG} {d : Nat} {a0 : Nat} {l1 : Int} {l2 : Int} {M : mM} {Q : mM → Prop} (hO : mOk M) (hi_l1 : i32 l1) (hi_l2 : i32 l2)
    (h : mK M a0 = 17 ∧ mK M (mR M a0 14) = 30 ∧ ((0 : Int) ≤ l1 ∧ l1 < (mN M (mR M a0 14) : Int)) ∧ ∀ M4, M4 = mUI M (mR M a0 14) (Int.toNat l1) l2 → Q M4) :
    Cv G y_MS_tell d [vr a0, vi l1, vi l2] M Q := by
  refine wm_open (y := y_MS_tell) rfl (Nat.le_of_ble_eq_true rfl) (L := [vr a0, vi l1, vi l2]) rfl ?_
  obtain ⟨h1, h⟩ := h
  obtain ⟨h2, h⟩ := h
  obtain ⟨h3, h⟩ := h
  obtain ⟨M4, e5⟩ : ∃ M4, M4 = mUI M (mR M a0 14) (Int.toNat l1) l2 := ⟨_, rfl⟩
  replace h := h M4 e5
  refine wm_aload_n d_MS_tell_0 rfl rfl ?_
  refine gf_MS_51 rfl d_MS_tell_1 h1 ?_
  refine wm_iload_n d_MS_tell_4 rfl rfl ?_
  refine wm_iload_n d_MS_tell_5 rfl rfl ?_
  have hOM4 : mOk M4 := by rw [e5]; exact mOk_UI hO hi_l2
  refine wm_iastE d_MS_tell_6 h2 h3 hi_l2 e5 ?_
  refine wm_return d_MS_tell_7 rfl ?_
  exact ⟨rfl, h⟩
theorem d_MS_adopt_0 : decode y_MS_adopt.2.1 0 = .ok (.iconst 0, 1) := dc9_3 (by decide +kernel)
theorem d_MS_adopt_1 : decode y_MS_adopt.2.1 1 = .ok (.istore_n 1, 1) := dc9_60 (by decide +kernel)
theorem d_MS_adopt_2 : decode y_MS_adopt.2.1 2 = .ok (.iload_n 1, 1) := dc9_27 (by decide +kernel)
theorem d_MS_adopt_3 : decode y_MS_adopt.2.1 3 = .ok (.aload_n 0, 1) := dc9_42 (by decide +kernel)
theorem d_MS_adopt_4 : decode y_MS_adopt.2.1 4 = .ok (.getfield 103, 3) := dc9_180 (by decide +kernel)
theorem d_MS_adopt_7 : decode y_MS_adopt.2.1 7 = .ok (.if_icmp .ge 33, 3) := dc9_162 (by decide +kernel)
theorem d_MS_adopt_40 : decode y_MS_adopt.2.1 40 = .ok (.return_, 1) := dc9_177 (by decide +kernel)
theorem d_MS_adopt_10 : decode y_MS_adopt.2.1 10 = .ok (.aload_n 0, 1) := dc9_42 (by decide +kernel)
theorem d_MS_adopt_11 : decode y_MS_adopt.2.1 11 = .ok (.getfield 51, 3) := dc9_180 (by decide +kernel)
theorem d_MS_adopt_14 : decode y_MS_adopt.2.1 14 = .ok (.iload_n 1, 1) := dc9_27 (by decide +kernel)
theorem d_MS_adopt_15 : decode y_MS_adopt.2.1 15 = .ok (.aload_n 0, 1) := dc9_42 (by decide +kernel)
theorem d_MS_adopt_16 : decode y_MS_adopt.2.1 16 = .ok (.iload_n 1, 1) := dc9_27 (by decide +kernel)
theorem d_MS_adopt_17 : decode y_MS_adopt.2.1 17 = .ok (.invokevirtual 116, 3) := dc9_182 (by decide +kernel)
theorem d_MS_adopt_20 : decode y_MS_adopt.2.1 20 = .ok (.ifCond .ne 7, 3) := dc9_154 (by decide +kernel)
theorem d_MS_adopt_23 : decode y_MS_adopt.2.1 23 = .ok (.iconst 0, 1) := dc9_3 (by decide +kernel)
theorem d_MS_adopt_24 : decode y_MS_adopt.2.1 24 = .ok (.goto 9, 3) := dc9_167 (by decide +kernel)
theorem d_MS_adopt_27 : decode y_MS_adopt.2.1 27 = .ok (.aload_n 0, 1) := dc9_42 (by decide +kernel)
theorem d_MS_adopt_28 : decode y_MS_adopt.2.1 28 = .ok (.getfield 54, 3) := dc9_180 (by decide +kernel)
theorem d_MS_adopt_31 : decode y_MS_adopt.2.1 31 = .ok (.iload_n 1, 1) := dc9_27 (by decide +kernel)
theorem d_MS_adopt_32 : decode y_MS_adopt.2.1 32 = .ok (.iaload, 1) := dc9_46 (by decide +kernel)
theorem d_MS_adopt_33 : decode y_MS_adopt.2.1 33 = .ok (.iastore, 1) := dc9_79 (by decide +kernel)
theorem d_MS_adopt_34 : decode y_MS_adopt.2.1 34 = .ok (.iinc 1 1, 3) := by decide +kernel
theorem d_MS_adopt_37 : decode y_MS_adopt.2.1 37 = .ok (.goto (-35), 3) := dc9_167 (by decide +kernel)
def h_MS_adopt_2 (G : mG) (d : Nat) (a0 : Nat) (l1 : Int) (M : mM) (Q : mM → Prop) : Prop := mWm G y_MS_adopt (d + 1) 2 [vr a0, vi l1] [] M (fun r9 M9 => r9 = none ∧ Q M9)
theorem k_MS_adopt {G : mG} {d : Nat} {a0 : Nat} {M : mM} {Q : mM → Prop} (hO : mOk M)
    (h : h_MS_adopt_2 G d a0 0 M Q) :
    Cv G y_MS_adopt (d + 1) [vr a0] M Q := by
  refine wm_open (y := y_MS_adopt) rfl (Nat.le_of_ble_eq_true rfl) (L := [vr a0, vd]) rfl ?_
  refine wm_iconst d_MS_adopt_0 ?_
  refine wm_istore_n d_MS_adopt_1 rfl (by decide) (L' := [vr a0, vi 0]) rfl ?_
  exact h
theorem k_MS_adopt_2 {G : mG} {d : Nat} {a0 : Nat} {l1 : Int} {M : mM} {Q : mM → Prop} (hO : mOk M) (hi_l1 : i32 l1)
    (h : mK M a0 = 17 ∧ ((mI M a0 1 ≤ l1) → (Q M)) ∧ (¬ (mI M a0 1 ≤ l1) → (Ci G y_MS_many d [vr a0, vi l1] M (fun x5 M4 => i32 x5 ∧ mOk M4 ∧ ((¬ (x5 = 0) → (mK M4 a0 = 17 ∧ mK M4 (mR M4 a0 15) = 30 ∧ ((0 : Int) ≤ l1 ∧ l1 < (mN M4 (mR M4 a0 15) : Int)))) ∧ ∀ v11 : Int, v11 = (if (x5 = 0) then 0 else mI M4 (mR M4 a0 15) (Int.toNat l1)) → mK M4 (mR M a0 14) = 30 ∧ ((0 : Int) ≤ l1 ∧ l1 < (mN M4 (mR M a0 14) : Int)) ∧ i32 v11 ∧ ∀ M17, M17 = mUI M4 (mR M a0 14) (Int.toNat l1) v11 → h_MS_adopt_2 G d a0 (l1 + 1) M17 Q))))) :
    h_MS_adopt_2 G d a0 l1 M Q := by
  unfold h_MS_adopt_2
  obtain ⟨h1, h⟩ := h
  refine wm_iload_n d_MS_adopt_2 rfl rfl ?_
  refine wm_aload_n d_MS_adopt_3 rfl rfl ?_
  refine gf_MS_103 rfl d_MS_adopt_4 h1 ?_
  refine wm_icmp_ge (tgt := 40) d_MS_adopt_7 rfl hi_l1 (hO _ _).1 (fun c3 => ?_) (fun c3 => ?_)
  · replace h := h.1 c3
    refine wm_return d_MS_adopt_40 rfl ?_
    exact ⟨rfl, h⟩
  · replace h := h.2 c3
    refine wm_aload_n d_MS_adopt_10 rfl rfl ?_
    refine gf_MS_51 rfl d_MS_adopt_11 h1 ?_
    refine wm_iload_n d_MS_adopt_14 rfl rfl ?_
    refine wm_aload_n d_MS_adopt_15 rfl rfl ?_
    refine wm_iload_n d_MS_adopt_16 rfl rfl ?_
    refine cf_MS_116 rfl d_MS_adopt_17 h1 (Nat.le_of_ble_eq_true rfl) (Ci.mono h (fun x5 M4 h => ?_))
    obtain ⟨h6, hOM4, h⟩ := h
    obtain ⟨s12, h⟩ := h
    have hJ : ∀ v11 : Int, v11 = (if (x5 = 0) then 0 else mI M4 (mR M4 a0 15) (Int.toNat l1)) → mWm G y_MS_adopt (d + 1) 33 [vr a0, vi l1] [vi v11, vi l1, vr (mR M a0 14)] M4 (fun r9 M9 => r9 = none ∧ Q M9) := by
      intro v11 e13
      have h := h v11 e13
      obtain ⟨h14, h⟩ := h
      obtain ⟨h15, h⟩ := h
      obtain ⟨h16, h⟩ := h
      obtain ⟨M17, e18⟩ : ∃ M17, M17 = mUI M4 (mR M a0 14) (Int.toNat l1) v11 := ⟨_, rfl⟩
      replace h := h M17 e18
      have hOM17 : mOk M17 := by rw [e18]; exact mOk_UI hOM4 h16
      refine wm_iastE d_MS_adopt_33 h14 h15 h16 e18 ?_
      refine wm_iinc d_MS_adopt_34 (by decide) rfl (L' := [vr a0, vi (l1 + 1)]) rfl ?_
      refine wm_goto (tgt := 2) d_MS_adopt_37 rfl ?_
      exact h
    clear h
    have s19 := s12
    refine wm_if_ne (tgt := 27) d_MS_adopt_20 rfl h6 (fun c7 => ?_) (fun c7 => ?_)
    · have s19 := s19 c7
      obtain ⟨h8, h9, h10⟩ := s19
      refine wm_aload_n d_MS_adopt_27 rfl rfl ?_
      refine gf_MS_54 rfl d_MS_adopt_28 h8 ?_
      refine wm_iload_n d_MS_adopt_31 rfl rfl ?_
      refine wm_iald d_MS_adopt_32 h9 h10 ?_
      exact hJ (mI M4 (mR M4 a0 15) (Int.toNat l1)) (if_neg c7).symm
    · replace c7 := Classical.not_not.mp c7
      refine wm_iconst d_MS_adopt_23 ?_
      refine wm_goto (tgt := 33) d_MS_adopt_24 rfl ?_
      exact hJ 0 (if_pos c7).symm
theorem d_MS_hasValues_0 : decode y_MS_hasValues.2.1 0 = .ok (.aload_n 0, 1) := dc9_42 (by decide +kernel)
theorem d_MS_hasValues_1 : decode y_MS_hasValues.2.1 1 = .ok (.getfield 44, 3) := dc9_180 (by decide +kernel)
theorem d_MS_hasValues_4 : decode y_MS_hasValues.2.1 4 = .ok (.iconst 0, 1) := dc9_3 (by decide +kernel)
theorem d_MS_hasValues_5 : decode y_MS_hasValues.2.1 5 = .ok (.baload, 1) := dc9_51 (by decide +kernel)
theorem d_MS_hasValues_6 : decode y_MS_hasValues.2.1 6 = .ok (.ireturn, 1) := dc9_172 (by decide +kernel)
theorem k_MS_hasValues {G : mG} {d : Nat} {a0 : Nat} {M : mM} {Q : Int → mM → Prop} (hO : mOk M)
    (h : mK M a0 = 17 ∧ mK M (mR M a0 12) = 31 ∧ ((0 : Int) ≤ 0 ∧ 0 < (mN M (mR M a0 12) : Int)) ∧ ((mI M (mR M a0 12) 0) = 0 ∨ (mI M (mR M a0 12) 0) = 1) ∧ Q (mI M (mR M a0 12) 0) M) :
    Ci G y_MS_hasValues d [vr a0] M Q := by
  refine wm_open (y := y_MS_hasValues) rfl (Nat.le_of_ble_eq_true rfl) (L := [vr a0]) rfl ?_
  obtain ⟨h1, h⟩ := h
  obtain ⟨h2, h⟩ := h
  obtain ⟨h3, h⟩ := h
  obtain ⟨h4, h⟩ := h
  refine wm_aload_n d_MS_hasValues_0 rfl rfl ?_
  refine gf_MS_44 rfl d_MS_hasValues_1 h1 ?_
  refine wm_iconst d_MS_hasValues_4 ?_
  refine wm_zald d_MS_hasValues_5 h2 h3 ?_
  refine wm_ireturn d_MS_hasValues_6 rfl (m_nb h4) ?_
  exact ⟨_, rfl, h⟩
theorem d_MS_choiceOf_0 : decode y_MS_choiceOf.2.1 0 = .ok (.aload_n 0, 1) := dc9_42 (by decide +kernel)
theorem d_MS_choiceOf_1 : decode y_MS_choiceOf.2.1 1 = .ok (.getfield 54, 3) := dc9_180 (by decide +kernel)
theorem d_MS_choiceOf_4 : decode y_MS_choiceOf.2.1 4 = .ok (.iload_n 1, 1) := dc9_27 (by decide +kernel)
theorem d_MS_choiceOf_5 : decode y_MS_choiceOf.2.1 5 = .ok (.iaload, 1) := dc9_46 (by decide +kernel)
theorem d_MS_choiceOf_6 : decode y_MS_choiceOf.2.1 6 = .ok (.ireturn, 1) := dc9_172 (by decide +kernel)
theorem k_MS_choiceOf {G : mG} {d : Nat} {a0 : Nat} {l1 : Int} {M : mM} {Q : Int → mM → Prop} (hO : mOk M) (hi_l1 : i32 l1)
    (h : mK M a0 = 17 ∧ mK M (mR M a0 15) = 30 ∧ ((0 : Int) ≤ l1 ∧ l1 < (mN M (mR M a0 15) : Int)) ∧ Q (mI M (mR M a0 15) (Int.toNat l1)) M) :
    Ci G y_MS_choiceOf d [vr a0, vi l1] M Q := by
  refine wm_open (y := y_MS_choiceOf) rfl (Nat.le_of_ble_eq_true rfl) (L := [vr a0, vi l1]) rfl ?_
  obtain ⟨h1, h⟩ := h
  obtain ⟨h2, h⟩ := h
  obtain ⟨h3, h⟩ := h
  refine wm_aload_n d_MS_choiceOf_0 rfl rfl ?_
  refine gf_MS_54 rfl d_MS_choiceOf_1 h1 ?_
  refine wm_iload_n d_MS_choiceOf_4 rfl rfl ?_
  refine wm_iald d_MS_choiceOf_5 h2 h3 ?_
  refine wm_ireturn d_MS_choiceOf_6 rfl rfl ?_
  exact ⟨_, rfl, h⟩
theorem d_MS_rankOf_0 : decode y_MS_rankOf.2.1 0 = .ok (.aload_n 0, 1) := dc9_42 (by decide +kernel)
theorem d_MS_rankOf_1 : decode y_MS_rankOf.2.1 1 = .ok (.getfield 57, 3) := dc9_180 (by decide +kernel)
theorem d_MS_rankOf_4 : decode y_MS_rankOf.2.1 4 = .ok (.iload_n 1, 1) := dc9_27 (by decide +kernel)
theorem d_MS_rankOf_5 : decode y_MS_rankOf.2.1 5 = .ok (.iaload, 1) := dc9_46 (by decide +kernel)
theorem d_MS_rankOf_6 : decode y_MS_rankOf.2.1 6 = .ok (.ireturn, 1) := dc9_172 (by decide +kernel)
theorem k_MS_rankOf {G : mG} {d : Nat} {a0 : Nat} {l1 : Int} {M : mM} {Q : Int → mM → Prop} (hO : mOk M) (hi_l1 : i32 l1)
    (h : mK M a0 = 17 ∧ mK M (mR M a0 16) = 30 ∧ ((0 : Int) ≤ l1 ∧ l1 < (mN M (mR M a0 16) : Int)) ∧ Q (mI M (mR M a0 16) (Int.toNat l1)) M) :
    Ci G y_MS_rankOf d [vr a0, vi l1] M Q := by
  refine wm_open (y := y_MS_rankOf) rfl (Nat.le_of_ble_eq_true rfl) (L := [vr a0, vi l1]) rfl ?_
  obtain ⟨h1, h⟩ := h
  obtain ⟨h2, h⟩ := h
  obtain ⟨h3, h⟩ := h
  refine wm_aload_n d_MS_rankOf_0 rfl rfl ?_
  refine gf_MS_57 rfl d_MS_rankOf_1 h1 ?_
  refine wm_iload_n d_MS_rankOf_4 rfl rfl ?_
  refine wm_iald d_MS_rankOf_5 h2 h3 ?_
  refine wm_ireturn d_MS_rankOf_6 rfl rfl ?_
  exact ⟨_, rfl, h⟩
theorem d_MS_nextOf_0 : decode y_MS_nextOf.2.1 0 = .ok (.aload_n 0, 1) := dc9_42 (by decide +kernel)
theorem d_MS_nextOf_1 : decode y_MS_nextOf.2.1 1 = .ok (.iload_n 1, 1) := dc9_27 (by decide +kernel)
theorem d_MS_nextOf_2 : decode y_MS_nextOf.2.1 2 = .ok (.invokevirtual 116, 3) := dc9_182 (by decide +kernel)
theorem d_MS_nextOf_5 : decode y_MS_nextOf.2.1 5 = .ok (.ifCond .ne 5, 3) := dc9_154 (by decide +kernel)
theorem d_MS_nextOf_8 : decode y_MS_nextOf.2.1 8 = .ok (.iload_n 1, 1) := dc9_27 (by decide +kernel)
theorem d_MS_nextOf_9 : decode y_MS_nextOf.2.1 9 = .ok (.ireturn, 1) := dc9_172 (by decide +kernel)
theorem d_MS_nextOf_10 : decode y_MS_nextOf.2.1 10 = .ok (.aload_n 0, 1) := dc9_42 (by decide +kernel)
theorem d_MS_nextOf_11 : decode y_MS_nextOf.2.1 11 = .ok (.getfield 20, 3) := dc9_180 (by decide +kernel)
theorem d_MS_nextOf_14 : decode y_MS_nextOf.2.1 14 = .ok (.iload_n 1, 1) := dc9_27 (by decide +kernel)
theorem d_MS_nextOf_15 : decode y_MS_nextOf.2.1 15 = .ok (.iaload, 1) := dc9_46 (by decide +kernel)
theorem d_MS_nextOf_16 : decode y_MS_nextOf.2.1 16 = .ok (.aload_n 0, 1) := dc9_42 (by decide +kernel)
theorem d_MS_nextOf_17 : decode y_MS_nextOf.2.1 17 = .ok (.getfield 51, 3) := dc9_180 (by decide +kernel)
theorem d_MS_nextOf_20 : decode y_MS_nextOf.2.1 20 = .ok (.iload_n 1, 1) := dc9_27 (by decide +kernel)
theorem d_MS_nextOf_21 : decode y_MS_nextOf.2.1 21 = .ok (.iaload, 1) := dc9_46 (by decide +kernel)
theorem d_MS_nextOf_22 : decode y_MS_nextOf.2.1 22 = .ok (.iadd, 1) := dc9_96 (by decide +kernel)
theorem d_MS_nextOf_23 : decode y_MS_nextOf.2.1 23 = .ok (.istore_n 3, 1) := dc9_62 (by decide +kernel)
theorem d_MS_nextOf_24 : decode y_MS_nextOf.2.1 24 = .ok (.aload_n 0, 1) := dc9_42 (by decide +kernel)
theorem d_MS_nextOf_25 : decode y_MS_nextOf.2.1 25 = .ok (.getfield 23, 3) := dc9_180 (by decide +kernel)
theorem d_MS_nextOf_28 : decode y_MS_nextOf.2.1 28 = .ok (.iload_n 3, 1) := dc9_29 (by decide +kernel)
theorem d_MS_nextOf_29 : decode y_MS_nextOf.2.1 29 = .ok (.iaload, 1) := dc9_46 (by decide +kernel)
theorem d_MS_nextOf_30 : decode y_MS_nextOf.2.1 30 = .ok (.i2l, 1) := dc9_133 (by decide +kernel)
theorem d_MS_nextOf_31 : decode y_MS_nextOf.2.1 31 = .ok (.lstore 4, 2) := dc9_55 (by decide +kernel)
theorem d_MS_nextOf_33 : decode y_MS_nextOf.2.1 33 = .ok (.lconst 0, 1) := dc9_9 (by decide +kernel)
theorem d_MS_nextOf_34 : decode y_MS_nextOf.2.1 34 = .ok (.lstore 6, 2) := dc9_55 (by decide +kernel)
theorem d_MS_nextOf_36 : decode y_MS_nextOf.2.1 36 = .ok (.aload_n 0, 1) := dc9_42 (by decide +kernel)
theorem d_MS_nextOf_37 : decode y_MS_nextOf.2.1 37 = .ok (.getfield 26, 3) := dc9_180 (by decide +kernel)
theorem d_MS_nextOf_40 : decode y_MS_nextOf.2.1 40 = .ok (.iload_n 3, 1) := dc9_29 (by decide +kernel)
theorem d_MS_nextOf_41 : decode y_MS_nextOf.2.1 41 = .ok (.iaload, 1) := dc9_46 (by decide +kernel)
theorem d_MS_nextOf_42 : decode y_MS_nextOf.2.1 42 = .ok (.iconst 1, 1) := dc9_4 (by decide +kernel)
theorem d_MS_nextOf_43 : decode y_MS_nextOf.2.1 43 = .ok (.isub, 1) := dc9_100 (by decide +kernel)
theorem d_MS_nextOf_44 : decode y_MS_nextOf.2.1 44 = .ok (.istore 8, 2) := dc9_54 (by decide +kernel)
theorem d_MS_nextOf_46 : decode y_MS_nextOf.2.1 46 = .ok (.iinc 8 1, 3) := by decide +kernel
theorem d_MS_nextOf_49 : decode y_MS_nextOf.2.1 49 = .ok (.lload 6, 2) := dc9_22 (by decide +kernel)
theorem d_MS_nextOf_51 : decode y_MS_nextOf.2.1 51 = .ok (.aload_n 0, 1) := dc9_42 (by decide +kernel)
theorem d_MS_nextOf_52 : decode y_MS_nextOf.2.1 52 = .ok (.getfield 32, 3) := dc9_180 (by decide +kernel)
theorem d_MS_nextOf_55 : decode y_MS_nextOf.2.1 55 = .ok (.iload 8, 2) := dc9_21 (by decide +kernel)
theorem d_MS_nextOf_57 : decode y_MS_nextOf.2.1 57 = .ok (.iaload, 1) := dc9_46 (by decide +kernel)
theorem d_MS_nextOf_58 : decode y_MS_nextOf.2.1 58 = .ok (.i2l, 1) := dc9_133 (by decide +kernel)
theorem d_MS_nextOf_59 : decode y_MS_nextOf.2.1 59 = .ok (.lload 4, 2) := dc9_22 (by decide +kernel)
theorem d_MS_nextOf_61 : decode y_MS_nextOf.2.1 61 = .ok (.aload_n 0, 1) := dc9_42 (by decide +kernel)
theorem d_MS_nextOf_62 : decode y_MS_nextOf.2.1 62 = .ok (.getfield 35, 3) := dc9_180 (by decide +kernel)
theorem d_MS_nextOf_65 : decode y_MS_nextOf.2.1 65 = .ok (.iload 8, 2) := dc9_21 (by decide +kernel)
theorem d_MS_nextOf_67 : decode y_MS_nextOf.2.1 67 = .ok (.iaload, 1) := dc9_46 (by decide +kernel)
theorem d_MS_nextOf_68 : decode y_MS_nextOf.2.1 68 = .ok (.i2l, 1) := dc9_133 (by decide +kernel)
theorem d_MS_nextOf_69 : decode y_MS_nextOf.2.1 69 = .ok (.ldiv, 1) := dc9_109 (by decide +kernel)
theorem d_MS_nextOf_70 : decode y_MS_nextOf.2.1 70 = .ok (.lmul, 1) := dc9_105 (by decide +kernel)
theorem d_MS_nextOf_71 : decode y_MS_nextOf.2.1 71 = .ok (.ladd, 1) := dc9_97 (by decide +kernel)
theorem d_MS_nextOf_72 : decode y_MS_nextOf.2.1 72 = .ok (.lstore 6, 2) := dc9_55 (by decide +kernel)
theorem d_MS_nextOf_74 : decode y_MS_nextOf.2.1 74 = .ok (.lload 6, 2) := dc9_22 (by decide +kernel)
theorem d_MS_nextOf_76 : decode y_MS_nextOf.2.1 76 = .ok (.ldc2_w 261, 3) := dc9_20 (by decide +kernel)
theorem d_MS_nextOf_79 : decode y_MS_nextOf.2.1 79 = .ok (.lmul, 1) := dc9_105 (by decide +kernel)
theorem d_MS_nextOf_80 : decode y_MS_nextOf.2.1 80 = .ok (.iload_n 2, 1) := dc9_28 (by decide +kernel)
theorem d_MS_nextOf_81 : decode y_MS_nextOf.2.1 81 = .ok (.i2l, 1) := dc9_133 (by decide +kernel)
theorem d_MS_nextOf_82 : decode y_MS_nextOf.2.1 82 = .ok (.lload 4, 2) := dc9_22 (by decide +kernel)
theorem d_MS_nextOf_84 : decode y_MS_nextOf.2.1 84 = .ok (.lmul, 1) := dc9_105 (by decide +kernel)
theorem d_MS_nextOf_85 : decode y_MS_nextOf.2.1 85 = .ok (.lcmp, 1) := dc9_148 (by decide +kernel)
theorem d_MS_nextOf_86 : decode y_MS_nextOf.2.1 86 = .ok (.ifCond .le (-40), 3) := dc9_158 (by decide +kernel)
theorem d_MS_nextOf_89 : decode y_MS_nextOf.2.1 89 = .ok (.aload_n 0, 1) := dc9_42 (by decide +kernel)
theorem d_MS_nextOf_90 : decode y_MS_nextOf.2.1 90 = .ok (.getfield 29, 3) := dc9_180 (by decide +kernel)
theorem d_MS_nextOf_93 : decode y_MS_nextOf.2.1 93 = .ok (.iload 8, 2) := dc9_21 (by decide +kernel)
theorem d_MS_nextOf_95 : decode y_MS_nextOf.2.1 95 = .ok (.iaload, 1) := dc9_46 (by decide +kernel)
theorem d_MS_nextOf_96 : decode y_MS_nextOf.2.1 96 = .ok (.ireturn, 1) := dc9_172 (by decide +kernel)
def h_MS_nextOf_46 (G : mG) (d : Nat) (a0 : Nat) (l2 : Int) (j4 : Int) (j6 : Int) (l8 : Int) (M : mM) (Q : Int → mM → Prop) : Prop := mWm G y_MS_nextOf (d + 1) 46 [vr a0, vd, vi l2, vd, vl j4, vd, vl j6, vd, vi l8] [] M (fun r9 M9 => ∃ x9, r9 = some (vi x9) ∧ Q x9 M9)
theorem k_MS_nextOf {G : mG} {d : Nat} {a0 : Nat} {l1 : Int} {l2 : Int} {M : mM} {Q : Int → mM → Prop} (hO : mOk M) (hi_l1 : i32 l1) (hi_l2 : i32 l2)
    (h : mK M a0 = 17 ∧ Ci G y_MS_many d [vr a0, vi l1] M (fun x3 M2 => i32 x3 ∧ mOk M2 ∧ (((x3 = 0) → (Q l1 M2)) ∧ (¬ (x3 = 0) → (mK M2 a0 = 17 ∧ mK M2 (mR M2 a0 5) = 30 ∧ ((0 : Int) ≤ l1 ∧ l1 < (mN M2 (mR M2 a0 5) : Int)) ∧ mK M2 (mR M2 a0 14) = 30 ∧ ((0 : Int) ≤ l1 ∧ l1 < (mN M2 (mR M2 a0 14) : Int)) ∧ mK M2 (mR M2 a0 6) = 30 ∧ ((0 : Int) ≤ (mI M2 (mR M2 a0 5) (Int.toNat l1)) + (mI M2 (mR M2 a0 14) (Int.toNat l1)) ∧ (mI M2 (mR M2 a0 5) (Int.toNat l1)) + (mI M2 (mR M2 a0 14) (Int.toNat l1)) < (mN M2 (mR M2 a0 6) : Int)) ∧ mK M2 (mR M2 a0 7) = 30 ∧ ((0 : Int) ≤ (mI M2 (mR M2 a0 5) (Int.toNat l1)) + (mI M2 (mR M2 a0 14) (Int.toNat l1)) ∧ (mI M2 (mR M2 a0 5) (Int.toNat l1)) + (mI M2 (mR M2 a0 14) (Int.toNat l1)) < (mN M2 (mR M2 a0 7) : Int)) ∧ h_MS_nextOf_46 G d a0 l2 (mI M2 (mR M2 a0 6) (Int.toNat ((mI M2 (mR M2 a0 5) (Int.toNat l1)) + (mI M2 (mR M2 a0 14) (Int.toNat l1))))) 0 ((mI M2 (mR M2 a0 7) (Int.toNat ((mI M2 (mR M2 a0 5) (Int.toNat l1)) + (mI M2 (mR M2 a0 14) (Int.toNat l1))))) - 1) M2 Q))))) :
    Ci G y_MS_nextOf (d + 1) [vr a0, vi l1, vi l2] M Q := by
  refine wm_open (y := y_MS_nextOf) rfl (Nat.le_of_ble_eq_true rfl) (L := [vr a0, vi l1, vi l2, vd, vd, vd, vd, vd, vd]) rfl ?_
  obtain ⟨h1, h⟩ := h
  refine wm_aload_n d_MS_nextOf_0 rfl rfl ?_
  refine wm_iload_n d_MS_nextOf_1 rfl rfl ?_
  refine cf_MS_116 rfl d_MS_nextOf_2 h1 (Nat.le_of_ble_eq_true rfl) (Ci.mono h (fun x3 M2 h => ?_))
  obtain ⟨h4, hOM2, h⟩ := h
  refine wm_if_ne (tgt := 10) d_MS_nextOf_5 rfl h4 (fun c15 => ?_) (fun c15 => ?_)
  · replace h := h.2 c15
    obtain ⟨h16, h⟩ := h
    obtain ⟨h17, h⟩ := h
    obtain ⟨h18, h⟩ := h
    obtain ⟨h19, h⟩ := h
    obtain ⟨h20, h⟩ := h
    obtain ⟨h21, h⟩ := h
    obtain ⟨h22, h⟩ := h
    obtain ⟨h23, h⟩ := h
    obtain ⟨h24, h⟩ := h
    refine wm_aload_n d_MS_nextOf_10 rfl rfl ?_
    refine gf_MS_20 rfl d_MS_nextOf_11 h16 ?_
    refine wm_iload_n d_MS_nextOf_14 rfl rfl ?_
    refine wm_iald d_MS_nextOf_15 h17 h18 ?_
    refine wm_aload_n d_MS_nextOf_16 rfl rfl ?_
    refine gf_MS_51 rfl d_MS_nextOf_17 h16 ?_
    refine wm_iload_n d_MS_nextOf_20 rfl rfl ?_
    refine wm_iald d_MS_nextOf_21 h19 h20 ?_
    refine wm_iadd d_MS_nextOf_22 ?_
    refine wm_istore_n d_MS_nextOf_23 rfl (by decide) (L' := [vr a0, vi l1, vi l2, vi ((mI M2 (mR M2 a0 5) (Int.toNat l1)) + (mI M2 (mR M2 a0 14) (Int.toNat l1))), vd, vd, vd, vd, vd]) rfl ?_
    refine wm_aload_n d_MS_nextOf_24 rfl rfl ?_
    refine gf_MS_23 rfl d_MS_nextOf_25 h16 ?_
    refine wm_iload_n d_MS_nextOf_28 rfl rfl ?_
    refine wm_iald d_MS_nextOf_29 h21 h22 ?_
    refine wm_i2l d_MS_nextOf_30 (hOM2 _ _).1 ?_
    refine wm_lstore d_MS_nextOf_31 (by decide) (L' := [vr a0, vi l1, vi l2, vi ((mI M2 (mR M2 a0 5) (Int.toNat l1)) + (mI M2 (mR M2 a0 14) (Int.toNat l1))), vl (mI M2 (mR M2 a0 6) (Int.toNat ((mI M2 (mR M2 a0 5) (Int.toNat l1)) + (mI M2 (mR M2 a0 14) (Int.toNat l1))))), vd, vd, vd, vd]) rfl ?_
    refine wm_lconst (x := 0) d_MS_nextOf_33 rfl ?_
    refine wm_lstore d_MS_nextOf_34 (by decide) (L' := [vr a0, vi l1, vi l2, vi ((mI M2 (mR M2 a0 5) (Int.toNat l1)) + (mI M2 (mR M2 a0 14) (Int.toNat l1))), vl (mI M2 (mR M2 a0 6) (Int.toNat ((mI M2 (mR M2 a0 5) (Int.toNat l1)) + (mI M2 (mR M2 a0 14) (Int.toNat l1))))), vd, vl 0, vd, vd]) rfl ?_
    refine wm_aload_n d_MS_nextOf_36 rfl rfl ?_
    refine gf_MS_26 rfl d_MS_nextOf_37 h16 ?_
    refine wm_iload_n d_MS_nextOf_40 rfl rfl ?_
    refine wm_iald d_MS_nextOf_41 h23 h24 ?_
    refine wm_iconst d_MS_nextOf_42 ?_
    refine wm_isub d_MS_nextOf_43 ?_
    refine wm_istore d_MS_nextOf_44 (by decide) (L' := [vr a0, vi l1, vi l2, vi ((mI M2 (mR M2 a0 5) (Int.toNat l1)) + (mI M2 (mR M2 a0 14) (Int.toNat l1))), vl (mI M2 (mR M2 a0 6) (Int.toNat ((mI M2 (mR M2 a0 5) (Int.toNat l1)) + (mI M2 (mR M2 a0 14) (Int.toNat l1))))), vd, vl 0, vd, vi ((mI M2 (mR M2 a0 7) (Int.toNat ((mI M2 (mR M2 a0 5) (Int.toNat l1)) + (mI M2 (mR M2 a0 14) (Int.toNat l1))))) - 1)]) rfl ?_
    refine wm_less (L' := [vr a0, vd, vi l2, vd, vl (mI M2 (mR M2 a0 6) (Int.toNat ((mI M2 (mR M2 a0 5) (Int.toNat l1)) + (mI M2 (mR M2 a0 14) (Int.toNat l1))))), vd, vl 0, vd, vi ((mI M2 (mR M2 a0 7) (Int.toNat ((mI M2 (mR M2 a0 5) (Int.toNat l1)) + (mI M2 (mR M2 a0 14) (Int.toNat l1))))) - 1)]) ⟨Or.inr rfl, Or.inl rfl, Or.inr rfl, Or.inl rfl, Or.inr rfl, Or.inl rfl, Or.inr rfl, Or.inl rfl, Or.inr rfl, trivial⟩ ?_
    exact h
  · replace c15 := Classical.not_not.mp c15
    replace h := h.1 c15
    refine wm_iload_n d_MS_nextOf_8 rfl rfl ?_
    refine wm_ireturn d_MS_nextOf_9 rfl rfl ?_
    exact ⟨_, rfl, h⟩
theorem k_MS_nextOf_46 {G : mG} {d : Nat} {a0 : Nat} {l2 : Int} {j4 : Int} {j6 : Int} {l8 : Int} {M : mM} {Q : Int → mM → Prop} (hO : mOk M) (hi_l2 : i32 l2) (hi_j4 : i64 j4) (hi_j6 : i64 j6) (hi_l8 : i32 l8)
    (h : mK M a0 = 17 ∧ mK M (mR M a0 9) = 30 ∧ ((0 : Int) ≤ l8 + 1 ∧ l8 + 1 < (mN M (mR M a0 9) : Int)) ∧ mK M (mR M a0 10) = 30 ∧ ((0 : Int) ≤ l8 + 1 ∧ l8 + 1 < (mN M (mR M a0 10) : Int)) ∧ (mI M (mR M a0 10) (Int.toNat (l8 + 1))) ≠ 0 ∧ i64 ((j6 + ((mI M (mR M a0 9) (Int.toNat (l8 + 1))) * (Int.tdiv j4 (mI M (mR M a0 10) (Int.toNat (l8 + 1)))))) * 2147483648) ∧ i64 (l2 * j4) ∧ ((cmpL ((j6 + ((mI M (mR M a0 9) (Int.toNat (l8 + 1))) * (Int.tdiv j4 (mI M (mR M a0 10) (Int.toNat (l8 + 1)))))) * 2147483648) (l2 * j4) ≤ 0) → (h_MS_nextOf_46 G d a0 l2 j4 (j6 + ((mI M (mR M a0 9) (Int.toNat (l8 + 1))) * (Int.tdiv j4 (mI M (mR M a0 10) (Int.toNat (l8 + 1)))))) (l8 + 1) M Q)) ∧ (¬ (cmpL ((j6 + ((mI M (mR M a0 9) (Int.toNat (l8 + 1))) * (Int.tdiv j4 (mI M (mR M a0 10) (Int.toNat (l8 + 1)))))) * 2147483648) (l2 * j4) ≤ 0) → (mK M (mR M a0 8) = 30 ∧ ((0 : Int) ≤ l8 + 1 ∧ l8 + 1 < (mN M (mR M a0 8) : Int)) ∧ Q (mI M (mR M a0 8) (Int.toNat (l8 + 1))) M))) :
    h_MS_nextOf_46 G d a0 l2 j4 j6 l8 M Q := by
  unfold h_MS_nextOf_46
  obtain ⟨h25, h⟩ := h
  obtain ⟨h26, h⟩ := h
  obtain ⟨h27, h⟩ := h
  obtain ⟨h28, h⟩ := h
  obtain ⟨h29, h⟩ := h
  obtain ⟨h30, h⟩ := h
  obtain ⟨h31, h⟩ := h
  obtain ⟨h32, h⟩ := h
  refine wm_iinc d_MS_nextOf_46 (by decide) rfl (L' := [vr a0, vd, vi l2, vd, vl j4, vd, vl j6, vd, vi (l8 + 1)]) rfl ?_
  refine wm_lload d_MS_nextOf_49 rfl ?_
  refine wm_aload_n d_MS_nextOf_51 rfl rfl ?_
  refine gf_MS_32 rfl d_MS_nextOf_52 h25 ?_
  refine wm_iload d_MS_nextOf_55 rfl ?_
  refine wm_iald d_MS_nextOf_57 h26 h27 ?_
  refine wm_i2l d_MS_nextOf_58 (hO _ _).1 ?_
  refine wm_lload d_MS_nextOf_59 rfl ?_
  refine wm_aload_n d_MS_nextOf_61 rfl rfl ?_
  refine gf_MS_35 rfl d_MS_nextOf_62 h25 ?_
  refine wm_iload d_MS_nextOf_65 rfl ?_
  refine wm_iald d_MS_nextOf_67 h28 h29 ?_
  refine wm_i2l d_MS_nextOf_68 (hO _ _).1 ?_
  refine wm_ldiv d_MS_nextOf_69 hi_j4 (i64_of32 (hO _ _).1) h30 ?_
  refine wm_lmul d_MS_nextOf_70 ?_
  refine wm_ladd d_MS_nextOf_71 ?_
  refine wm_lstore d_MS_nextOf_72 (by decide) (L' := [vr a0, vd, vi l2, vd, vl j4, vd, vl (j6 + ((mI M (mR M a0 9) (Int.toNat (l8 + 1))) * (Int.tdiv j4 (mI M (mR M a0 10) (Int.toNat (l8 + 1)))))), vd, vi (l8 + 1)]) rfl ?_
  refine wm_lload d_MS_nextOf_74 rfl ?_
  refine wm_ldc2 (x := 2147483648) d_MS_nextOf_76 k14_22 (by decide) ?_
  refine wm_lmul d_MS_nextOf_79 ?_
  refine wm_iload_n d_MS_nextOf_80 rfl rfl ?_
  refine wm_i2l d_MS_nextOf_81 hi_l2 ?_
  refine wm_lload d_MS_nextOf_82 rfl ?_
  refine wm_lmul d_MS_nextOf_84 ?_
  refine wm_lcmp d_MS_nextOf_85 h31 h32 ?_
  refine wm_if_le (tgt := 46) d_MS_nextOf_86 rfl (m_cmp32 _ _) (fun c36 => ?_) (fun c36 => ?_)
  · replace h := h.1 c36
    exact h
  · replace h := h.2 c36
    obtain ⟨h37, h⟩ := h
    obtain ⟨h38, h⟩ := h
    refine wm_aload_n d_MS_nextOf_89 rfl rfl ?_
    refine gf_MS_29 rfl d_MS_nextOf_90 h25 ?_
    refine wm_iload d_MS_nextOf_93 rfl ?_
    refine wm_iald d_MS_nextOf_95 h37 h38 ?_
    refine wm_ireturn d_MS_nextOf_96 rfl rfl ?_
    exact ⟨_, rfl, h⟩
theorem d_MU_init_0 : decode y_MU_init.2.1 0 = .ok (.aload_n 0, 1) := dc9_42 (by decide +kernel)
theorem d_MU_init_1 : decode y_MU_init.2.1 1 = .ok (.invokespecial 1, 3) := dc9_183 (by decide +kernel)
theorem d_MU_init_4 : decode y_MU_init.2.1 4 = .ok (.aload_n 0, 1) := dc9_42 (by decide +kernel)
theorem d_MU_init_5 : decode y_MU_init.2.1 5 = .ok (.new 7, 3) := dc9_187 (by decide +kernel)
theorem d_MU_init_8 : decode y_MU_init.2.1 8 = .ok (.dup, 1) := dc9_89 (by decide +kernel)
theorem d_MU_init_9 : decode y_MU_init.2.1 9 = .ok (.sipush 900, 3) := dc9_17 (by decide +kernel)
theorem d_MU_init_12 : decode y_MU_init.2.1 12 = .ok (.invokespecial 11, 3) := dc9_183 (by decide +kernel)
theorem d_MU_init_15 : decode y_MU_init.2.1 15 = .ok (.putfield 14, 3) := dc9_181 (by decide +kernel)
theorem d_MU_init_18 : decode y_MU_init.2.1 18 = .ok (.aload_n 0, 1) := dc9_42 (by decide +kernel)
theorem d_MU_init_19 : decode y_MU_init.2.1 19 = .ok (.new 7, 3) := dc9_187 (by decide +kernel)
theorem d_MU_init_22 : decode y_MU_init.2.1 22 = .ok (.dup, 1) := dc9_89 (by decide +kernel)
theorem d_MU_init_23 : decode y_MU_init.2.1 23 = .ok (.sipush 900, 3) := dc9_17 (by decide +kernel)
theorem d_MU_init_26 : decode y_MU_init.2.1 26 = .ok (.invokespecial 11, 3) := dc9_183 (by decide +kernel)
theorem d_MU_init_29 : decode y_MU_init.2.1 29 = .ok (.putfield 18, 3) := dc9_181 (by decide +kernel)
theorem d_MU_init_32 : decode y_MU_init.2.1 32 = .ok (.aload_n 0, 1) := dc9_42 (by decide +kernel)
theorem d_MU_init_33 : decode y_MU_init.2.1 33 = .ok (.new 21, 3) := dc9_187 (by decide +kernel)
theorem d_MU_init_36 : decode y_MU_init.2.1 36 = .ok (.dup, 1) := dc9_89 (by decide +kernel)
theorem d_MU_init_37 : decode y_MU_init.2.1 37 = .ok (.sipush 900, 3) := dc9_17 (by decide +kernel)
theorem d_MU_init_40 : decode y_MU_init.2.1 40 = .ok (.invokespecial 23, 3) := dc9_183 (by decide +kernel)
theorem d_MU_init_43 : decode y_MU_init.2.1 43 = .ok (.putfield 24, 3) := dc9_181 (by decide +kernel)
theorem d_MU_init_46 : decode y_MU_init.2.1 46 = .ok (.aload_n 0, 1) := dc9_42 (by decide +kernel)
theorem d_MU_init_47 : decode y_MU_init.2.1 47 = .ok (.new 21, 3) := dc9_187 (by decide +kernel)
theorem d_MU_init_50 : decode y_MU_init.2.1 50 = .ok (.dup, 1) := dc9_89 (by decide +kernel)
theorem d_MU_init_51 : decode y_MU_init.2.1 51 = .ok (.sipush 900, 3) := dc9_17 (by decide +kernel)
theorem d_MU_init_54 : decode y_MU_init.2.1 54 = .ok (.invokespecial 23, 3) := dc9_183 (by decide +kernel)
theorem d_MU_init_57 : decode y_MU_init.2.1 57 = .ok (.putfield 28, 3) := dc9_181 (by decide +kernel)
theorem d_MU_init_60 : decode y_MU_init.2.1 60 = .ok (.aload_n 0, 1) := dc9_42 (by decide +kernel)
theorem d_MU_init_61 : decode y_MU_init.2.1 61 = .ok (.new 21, 3) := dc9_187 (by decide +kernel)
theorem d_MU_init_64 : decode y_MU_init.2.1 64 = .ok (.dup, 1) := dc9_89 (by decide +kernel)
theorem d_MU_init_65 : decode y_MU_init.2.1 65 = .ok (.sipush 900, 3) := dc9_17 (by decide +kernel)
theorem d_MU_init_68 : decode y_MU_init.2.1 68 = .ok (.invokespecial 23, 3) := dc9_183 (by decide +kernel)
theorem d_MU_init_71 : decode y_MU_init.2.1 71 = .ok (.putfield 31, 3) := dc9_181 (by decide +kernel)
theorem d_MU_init_74 : decode y_MU_init.2.1 74 = .ok (.aload_n 0, 1) := dc9_42 (by decide +kernel)
theorem d_MU_init_75 : decode y_MU_init.2.1 75 = .ok (.new 21, 3) := dc9_187 (by decide +kernel)
theorem d_MU_init_78 : decode y_MU_init.2.1 78 = .ok (.dup, 1) := dc9_89 (by decide +kernel)
theorem d_MU_init_79 : decode y_MU_init.2.1 79 = .ok (.sipush 900, 3) := dc9_17 (by decide +kernel)
theorem d_MU_init_82 : decode y_MU_init.2.1 82 = .ok (.invokespecial 23, 3) := dc9_183 (by decide +kernel)
theorem d_MU_init_85 : decode y_MU_init.2.1 85 = .ok (.putfield 34, 3) := dc9_181 (by decide +kernel)
theorem d_MU_init_88 : decode y_MU_init.2.1 88 = .ok (.aload_n 0, 1) := dc9_42 (by decide +kernel)
theorem d_MU_init_89 : decode y_MU_init.2.1 89 = .ok (.new 21, 3) := dc9_187 (by decide +kernel)
theorem d_MU_init_92 : decode y_MU_init.2.1 92 = .ok (.dup, 1) := dc9_89 (by decide +kernel)
theorem d_MU_init_93 : decode y_MU_init.2.1 93 = .ok (.sipush 900, 3) := dc9_17 (by decide +kernel)
theorem d_MU_init_96 : decode y_MU_init.2.1 96 = .ok (.invokespecial 23, 3) := dc9_183 (by decide +kernel)
theorem d_MU_init_99 : decode y_MU_init.2.1 99 = .ok (.putfield 37, 3) := dc9_181 (by decide +kernel)
theorem d_MU_init_102 : decode y_MU_init.2.1 102 = .ok (.return_, 1) := dc9_177 (by decide +kernel)
theorem k_MU_init {G : mG} {d : Nat} {a0 : Nat} {M : mM} {Q : mM → Prop} (hO : mOk M)
    (h : 0 < a0 ∧ ∀ M2, M2 = mNew M 19 0 3 → Cv G y_MF_init d [vr (mZ M), vi 900] M2 (fun M4 => mOk M4 ∧ (mK M4 a0 = 18 ∧ ∀ M8, M8 = mUR M4 a0 0 (mZ M) → ∀ M10, M10 = mNew M8 19 0 3 → Cv G y_MF_init d [vr (mZ M8), vi 900] M10 (fun M12 => mOk M12 ∧ (mK M12 a0 = 18 ∧ ∀ M16, M16 = mUR M12 a0 1 (mZ M8) → ∀ M18, M18 = mNew M16 20 0 2 → Cv G y_MW_init d [vr (mZ M16), vi 900] M18 (fun M20 => mOk M20 ∧ (mK M20 a0 = 18 ∧ ∀ M24, M24 = mUR M20 a0 2 (mZ M16) → ∀ M26, M26 = mNew M24 20 0 2 → Cv G y_MW_init d [vr (mZ M24), vi 900] M26 (fun M28 => mOk M28 ∧ (mK M28 a0 = 18 ∧ ∀ M32, M32 = mUR M28 a0 3 (mZ M24) → ∀ M34, M34 = mNew M32 20 0 2 → Cv G y_MW_init d [vr (mZ M32), vi 900] M34 (fun M36 => mOk M36 ∧ (mK M36 a0 = 18 ∧ ∀ M40, M40 = mUR M36 a0 4 (mZ M32) → ∀ M42, M42 = mNew M40 20 0 2 → Cv G y_MW_init d [vr (mZ M40), vi 900] M42 (fun M44 => mOk M44 ∧ (mK M44 a0 = 18 ∧ ∀ M48, M48 = mUR M44 a0 5 (mZ M40) → ∀ M50, M50 = mNew M48 20 0 2 → Cv G y_MW_init d [vr (mZ M48), vi 900] M50 (fun M52 => mOk M52 ∧ (mK M52 a0 = 18 ∧ ∀ M56, M56 = mUR M52 a0 6 (mZ M48) → Q M56))))))))))))))) :
    Cv G y_MU_init (d + 1) [vr a0] M Q := by
  refine wm_open (y := y_MU_init) rfl (Nat.le_of_ble_eq_true rfl) (L := [vr a0]) rfl ?_
  obtain ⟨h1, h⟩ := h
  obtain ⟨M2, e3⟩ : ∃ M2, M2 = mNew M 19 0 3 := ⟨_, rfl⟩
  replace h := h M2 e3
  refine wm_aload_n d_MU_init_0 rfl rfl ?_
  refine wm_objInit trivial k9_156 kO_inst kO_code (Nat.le_of_ble_eq_true rfl) d_MU_init_1 h1 ?_
  refine wm_aload_n d_MU_init_4 rfl rfl ?_
  have hOM2 : mOk M2 := by rw [e3]; exact mOk_New hO
  refine nf_MU_7 rfl d_MU_init_5 e3 ?_
  refine wm_dup d_MU_init_8 rfl ?_
  refine wm_sipush d_MU_init_9 (by decide) ?_
  refine cf_MU_11 rfl d_MU_init_12 (by rw [e3]; exact if_pos rfl) (Nat.le_of_ble_eq_true rfl) (Cv.mono h (fun M4 h => ?_))
  obtain ⟨hOM4, h⟩ := h
  obtain ⟨h7, h⟩ := h
  obtain ⟨M8, e9⟩ : ∃ M8, M8 = mUR M4 a0 0 (mZ M) := ⟨_, rfl⟩
  replace h := h M8 e9
  obtain ⟨M10, e11⟩ : ∃ M10, M10 = mNew M8 19 0 3 := ⟨_, rfl⟩
  replace h := h M10 e11
  have hOM8 : mOk M8 := by rw [e9]; exact mOk_UR hOM4
  refine pf_MU_14 rfl rfl d_MU_init_15 h7 e9 ?_
  refine wm_aload_n d_MU_init_18 rfl rfl ?_
  have hOM10 : mOk M10 := by rw [e11]; exact mOk_New hOM8
  refine nf_MU_7 rfl d_MU_init_19 e11 ?_
  refine wm_dup d_MU_init_22 rfl ?_
  refine wm_sipush d_MU_init_23 (by decide) ?_
  refine cf_MU_11 rfl d_MU_init_26 (by rw [e11]; exact if_pos rfl) (Nat.le_of_ble_eq_true rfl) (Cv.mono h (fun M12 h => ?_))
  obtain ⟨hOM12, h⟩ := h
  obtain ⟨h15, h⟩ := h
  obtain ⟨M16, e17⟩ : ∃ M16, M16 = mUR M12 a0 1 (mZ M8) := ⟨_, rfl⟩
  replace h := h M16 e17
  obtain ⟨M18, e19⟩ : ∃ M18, M18 = mNew M16 20 0 2 := ⟨_, rfl⟩
  replace h := h M18 e19
  have hOM16 : mOk M16 := by rw [e17]; exact mOk_UR hOM12
  refine pf_MU_18 rfl rfl d_MU_init_29 h15 e17 ?_
  refine wm_aload_n d_MU_init_32 rfl rfl ?_
  have hOM18 : mOk M18 := by rw [e19]; exact mOk_New hOM16
  refine nf_MU_21 rfl d_MU_init_33 e19 ?_
  refine wm_dup d_MU_init_36 rfl ?_
  refine wm_sipush d_MU_init_37 (by decide) ?_
  refine cf_MU_23 rfl d_MU_init_40 (by rw [e19]; exact if_pos rfl) (Nat.le_of_ble_eq_true rfl) (Cv.mono h (fun M20 h => ?_))
  obtain ⟨hOM20, h⟩ := h
  obtain ⟨h23, h⟩ := h
  obtain ⟨M24, e25⟩ : ∃ M24, M24 = mUR M20 a0 2 (mZ M16) := ⟨_, rfl⟩
  replace h := h M24 e25
  obtain ⟨M26, e27⟩ : ∃ M26, M26 = mNew M24 20 0 2 := ⟨_, rfl⟩
  replace h := h M26 e27
  have hOM24 : mOk M24 := by rw [e25]; exact mOk_UR hOM20
  refine pf_MU_24 rfl rfl d_MU_init_43 h23 e25 ?_
  refine wm_aload_n d_MU_init_46 rfl rfl ?_
  have hOM26 : mOk M26 := by rw [e27]; exact mOk_New hOM24
  refine nf_MU_21 rfl d_MU_init_47 e27 ?_
  refine wm_dup d_MU_init_50 rfl ?_
  refine wm_sipush d_MU_init_51 (by decide) ?_
  refine cf_MU_23 rfl d_MU_init_54 (by rw [e27]; exact if_pos rfl) (Nat.le_of_ble_eq_true rfl) (Cv.mono h (fun M28 h => ?_))
  obtain ⟨hOM28, h⟩ := h
  obtain ⟨h31, h⟩ := h
  obtain ⟨M32, e33⟩ : ∃ M32, M32 = mUR M28 a0 3 (mZ M24) := ⟨_, rfl⟩
  replace h := h M32 e33
  obtain ⟨M34, e35⟩ : ∃ M34, M34 = mNew M32 20 0 2 := ⟨_, rfl⟩
  replace h := h M34 e35
  have hOM32 : mOk M32 := by rw [e33]; exact mOk_UR hOM28
  refine pf_MU_28 rfl rfl d_MU_init_57 h31 e33 ?_
  refine wm_aload_n d_MU_init_60 rfl rfl ?_
  have hOM34 : mOk M34 := by rw [e35]; exact mOk_New hOM32
  refine nf_MU_21 rfl d_MU_init_61 e35 ?_
  refine wm_dup d_MU_init_64 rfl ?_
  refine wm_sipush d_MU_init_65 (by decide) ?_
  refine cf_MU_23 rfl d_MU_init_68 (by rw [e35]; exact if_pos rfl) (Nat.le_of_ble_eq_true rfl) (Cv.mono h (fun M36 h => ?_))
  obtain ⟨hOM36, h⟩ := h
  obtain ⟨h39, h⟩ := h
  obtain ⟨M40, e41⟩ : ∃ M40, M40 = mUR M36 a0 4 (mZ M32) := ⟨_, rfl⟩
  replace h := h M40 e41
  obtain ⟨M42, e43⟩ : ∃ M42, M42 = mNew M40 20 0 2 := ⟨_, rfl⟩
  replace h := h M42 e43
  have hOM40 : mOk M40 := by rw [e41]; exact mOk_UR hOM36
  refine pf_MU_31 rfl rfl d_MU_init_71 h39 e41 ?_
  refine wm_aload_n d_MU_init_74 rfl rfl ?_
  have hOM42 : mOk M42 := by rw [e43]; exact mOk_New hOM40
  refine nf_MU_21 rfl d_MU_init_75 e43 ?_
  refine wm_dup d_MU_init_78 rfl ?_
  refine wm_sipush d_MU_init_79 (by decide) ?_
  refine cf_MU_23 rfl d_MU_init_82 (by rw [e43]; exact if_pos rfl) (Nat.le_of_ble_eq_true rfl) (Cv.mono h (fun M44 h => ?_))
  obtain ⟨hOM44, h⟩ := h
  obtain ⟨h47, h⟩ := h
  obtain ⟨M48, e49⟩ : ∃ M48, M48 = mUR M44 a0 5 (mZ M40) := ⟨_, rfl⟩
  replace h := h M48 e49
  obtain ⟨M50, e51⟩ : ∃ M50, M50 = mNew M48 20 0 2 := ⟨_, rfl⟩
  replace h := h M50 e51
  have hOM48 : mOk M48 := by rw [e49]; exact mOk_UR hOM44
  refine pf_MU_34 rfl rfl d_MU_init_85 h47 e49 ?_
  refine wm_aload_n d_MU_init_88 rfl rfl ?_
  have hOM50 : mOk M50 := by rw [e51]; exact mOk_New hOM48
  refine nf_MU_21 rfl d_MU_init_89 e51 ?_
  refine wm_dup d_MU_init_92 rfl ?_
  refine wm_sipush d_MU_init_93 (by decide) ?_
  refine cf_MU_23 rfl d_MU_init_96 (by rw [e51]; exact if_pos rfl) (Nat.le_of_ble_eq_true rfl) (Cv.mono h (fun M52 h => ?_))
  obtain ⟨hOM52, h⟩ := h
  obtain ⟨h55, h⟩ := h
  obtain ⟨M56, e57⟩ : ∃ M56, M56 = mUR M52 a0 6 (mZ M48) := ⟨_, rfl⟩
  replace h := h M56 e57
  have hOM56 : mOk M56 := by rw [e57]; exact mOk_UR hOM52
  refine pf_MU_37 rfl rfl d_MU_init_99 h55 e57 ?_
  refine wm_return d_MU_init_102 rfl ?_
  exact ⟨rfl, h⟩
theorem d_MU_bring_0 : decode y_MU_bring.2.1 0 = .ok (.aload_n 0, 1) := dc9_42 (by decide +kernel)
theorem d_MU_bring_1 : decode y_MU_bring.2.1 1 = .ok (.invokevirtual 40, 3) := dc9_182 (by decide +kernel)
theorem d_MU_bring_4 : decode y_MU_bring.2.1 4 = .ok (.ifCond .eq 19, 3) := dc9_153 (by decide +kernel)
theorem d_MU_bring_23 : decode y_MU_bring.2.1 23 = .ok (.aload_n 0, 1) := dc9_42 (by decide +kernel)
theorem d_MU_bring_24 : decode y_MU_bring.2.1 24 = .ok (.iload_n 1, 1) := dc9_27 (by decide +kernel)
theorem d_MU_bring_7 : decode y_MU_bring.2.1 7 = .ok (.aload_n 0, 1) := dc9_42 (by decide +kernel)
theorem d_MU_bring_8 : decode y_MU_bring.2.1 8 = .ok (.iload_n 1, 1) := dc9_27 (by decide +kernel)
theorem d_MU_bring_25 : decode y_MU_bring.2.1 25 = .ok (.invokevirtual 48, 3) := dc9_182 (by decide +kernel)
theorem d_MU_bring_28 : decode y_MU_bring.2.1 28 = .ok (.return_, 1) := dc9_177 (by decide +kernel)
theorem d_MU_bring_9 : decode y_MU_bring.2.1 9 = .ok (.ifCond .eq 7, 3) := dc9_153 (by decide +kernel)
theorem d_MU_bring_16 : decode y_MU_bring.2.1 16 = .ok (.lconst 0, 1) := dc9_9 (by decide +kernel)
theorem d_MU_bring_12 : decode y_MU_bring.2.1 12 = .ok (.lconst 1, 1) := dc9_10 (by decide +kernel)
theorem d_MU_bring_13 : decode y_MU_bring.2.1 13 = .ok (.goto 4, 3) := dc9_167 (by decide +kernel)
theorem d_MU_bring_17 : decode y_MU_bring.2.1 17 = .ok (.invokevirtual 44, 3) := dc9_182 (by decide +kernel)
theorem d_MU_bring_20 : decode y_MU_bring.2.1 20 = .ok (.goto 8, 3) := dc9_167 (by decide +kernel)
theorem k_MU_bring {G : mG} {d : Nat} {a0 : Nat} {l1 : Int} {M : mM} {Q : mM → Prop} (hO : mOk M) (hi_l1 : i32 l1)
    (h : mK M a0 = 20 ∧ Ci G y_MW_isZero d [vr a0] M (fun x3 M2 => i32 x3 ∧ mOk M2 ∧ (((x3 = 0) → (mK M2 a0 = 20 ∧ Cv G y_MW_twice d [vr a0, vi l1] M2 (fun M9 => mOk M9 ∧ (Q M9)))) ∧ (¬ (x3 = 0) → (∀ v13 : Int, v13 = (if (l1 = 0) then 0 else 1) → mK M2 a0 = 20 ∧ Cv G y_MW_set d [vr a0, vl v13] M2 (fun M18 => mOk M18 ∧ (Q M18))))))) :
    Cv G y_MU_bring (d + 1) [vr a0, vi l1] M Q := by
  refine wm_open (y := y_MU_bring) rfl (Nat.le_of_ble_eq_true rfl) (L := [vr a0, vi l1]) rfl ?_
  obtain ⟨h1, h⟩ := h
  refine wm_aload_n d_MU_bring_0 rfl rfl ?_
  refine cf_MU_40 rfl d_MU_bring_1 h1 (Nat.le_of_ble_eq_true rfl) (Ci.mono h (fun x3 M2 h => ?_))
  obtain ⟨h4, hOM2, h⟩ := h
  refine wm_if_eq (tgt := 23) d_MU_bring_4 rfl h4 (fun c7 => ?_) (fun c7 => ?_)
  · replace h := h.1 c7
    obtain ⟨h8, h⟩ := h
    refine wm_aload_n d_MU_bring_23 rfl rfl ?_
    refine wm_iload_n d_MU_bring_24 rfl rfl ?_
    refine cf_MU_48 rfl d_MU_bring_25 h8 (Nat.le_of_ble_eq_true rfl) (Cv.mono h (fun M9 h => ?_))
    obtain ⟨hOM9, h⟩ := h
    refine wm_return d_MU_bring_28 rfl ?_
    exact ⟨rfl, h⟩
  · replace h := h.2 c7
    refine wm_aload_n d_MU_bring_7 rfl rfl ?_
    refine wm_iload_n d_MU_bring_8 rfl rfl ?_
    have hJ : ∀ v13 : Int, v13 = (if (l1 = 0) then 0 else 1) → mWm G y_MU_bring (d + 1) 17 [vd, vd] [vl v13, vr a0] M2 (fun r9 M9 => r9 = none ∧ Q M9) := by
      intro v13 e15
      have h := h v13 e15
      have h16 : (v13 = 0 ∨ v13 = 1) := by rw [e15]; (repeat' split) <;> decide
      obtain ⟨h17, h⟩ := h
      refine cf_MU_44 rfl d_MU_bring_17 h17 (Nat.le_of_ble_eq_true rfl) (Cv.mono h (fun M18 h => ?_))
      obtain ⟨hOM18, h⟩ := h
      refine wm_goto (tgt := 28) d_MU_bring_20 rfl ?_
      refine wm_return d_MU_bring_28 rfl ?_
      exact ⟨rfl, h⟩
    clear h
    refine wm_if_eq (tgt := 16) d_MU_bring_9 rfl hi_l1 (fun c12 => ?_) (fun c12 => ?_)
    · refine wm_lconst (x := 0) d_MU_bring_16 rfl ?_
      refine wm_less (L' := [vd, vd]) ⟨Or.inl rfl, Or.inl rfl, trivial⟩ ?_
      exact hJ 0 (if_pos c12).symm
    · refine wm_lconst (x := 1) d_MU_bring_12 rfl ?_
      refine wm_goto (tgt := 17) d_MU_bring_13 rfl ?_
      refine wm_less (L' := [vd, vd]) ⟨Or.inl rfl, Or.inl rfl, trivial⟩ ?_
      exact hJ 1 (if_neg c12).symm
theorem d_MU_divide0_0 : decode y_MU_divide0.2.1 0 = .ok (.aload_n 0, 1) := dc9_42 (by decide +kernel)
theorem d_MU_divide0_1 : decode y_MU_divide0.2.1 1 = .ok (.getfield 34, 3) := dc9_180 (by decide +kernel)
theorem d_MU_divide0_4 : decode y_MU_divide0.2.1 4 = .ok (.lconst 0, 1) := dc9_9 (by decide +kernel)
theorem d_MU_divide0_5 : decode y_MU_divide0.2.1 5 = .ok (.invokevirtual 44, 3) := dc9_182 (by decide +kernel)
theorem d_MU_divide0_8 : decode y_MU_divide0.2.1 8 = .ok (.aload_n 0, 1) := dc9_42 (by decide +kernel)
theorem d_MU_divide0_9 : decode y_MU_divide0.2.1 9 = .ok (.getfield 37, 3) := dc9_180 (by decide +kernel)
theorem d_MU_divide0_12 : decode y_MU_divide0.2.1 12 = .ok (.lconst 0, 1) := dc9_9 (by decide +kernel)
theorem d_MU_divide0_13 : decode y_MU_divide0.2.1 13 = .ok (.invokevirtual 44, 3) := dc9_182 (by decide +kernel)
theorem d_MU_divide0_16 : decode y_MU_divide0.2.1 16 = .ok (.aload_n 1, 1) := dc9_43 (by decide +kernel)
theorem d_MU_divide0_17 : decode y_MU_divide0.2.1 17 = .ok (.invokevirtual 52, 3) := dc9_182 (by decide +kernel)
theorem d_MU_divide0_20 : decode y_MU_divide0.2.1 20 = .ok (.iconst 1, 1) := dc9_4 (by decide +kernel)
theorem d_MU_divide0_21 : decode y_MU_divide0.2.1 21 = .ok (.isub, 1) := dc9_100 (by decide +kernel)
theorem d_MU_divide0_22 : decode y_MU_divide0.2.1 22 = .ok (.istore_n 3, 1) := dc9_62 (by decide +kernel)
theorem d_MU_divide0_23 : decode y_MU_divide0.2.1 23 = .ok (.iload_n 3, 1) := dc9_29 (by decide +kernel)
theorem d_MU_divide0_24 : decode y_MU_divide0.2.1 24 = .ok (.ifCond .lt 61, 3) := dc9_155 (by decide +kernel)
theorem d_MU_divide0_85 : decode y_MU_divide0.2.1 85 = .ok (.return_, 1) := dc9_177 (by decide +kernel)
theorem d_MU_divide0_27 : decode y_MU_divide0.2.1 27 = .ok (.aload_n 0, 1) := dc9_42 (by decide +kernel)
theorem d_MU_divide0_28 : decode y_MU_divide0.2.1 28 = .ok (.getfield 37, 3) := dc9_180 (by decide +kernel)
theorem d_MU_divide0_31 : decode y_MU_divide0.2.1 31 = .ok (.aload_n 1, 1) := dc9_43 (by decide +kernel)
theorem d_MU_divide0_32 : decode y_MU_divide0.2.1 32 = .ok (.iload_n 3, 1) := dc9_29 (by decide +kernel)
theorem d_MU_divide0_33 : decode y_MU_divide0.2.1 33 = .ok (.invokevirtual 56, 3) := dc9_182 (by decide +kernel)
theorem d_MU_divide0_36 : decode y_MU_divide0.2.1 36 = .ok (.invokestatic 60, 3) := dc9_184 (by decide +kernel)
theorem d_MU_divide0_39 : decode y_MU_divide0.2.1 39 = .ok (.aload_n 0, 1) := dc9_42 (by decide +kernel)
theorem d_MU_divide0_40 : decode y_MU_divide0.2.1 40 = .ok (.getfield 37, 3) := dc9_180 (by decide +kernel)
theorem d_MU_divide0_43 : decode y_MU_divide0.2.1 43 = .ok (.aload_n 2, 1) := dc9_44 (by decide +kernel)
theorem d_MU_divide0_44 : decode y_MU_divide0.2.1 44 = .ok (.invokevirtual 64, 3) := dc9_182 (by decide +kernel)
theorem d_MU_divide0_47 : decode y_MU_divide0.2.1 47 = .ok (.ifCond .lt 7, 3) := dc9_155 (by decide +kernel)
theorem d_MU_divide0_54 : decode y_MU_divide0.2.1 54 = .ok (.iconst 0, 1) := dc9_3 (by decide +kernel)
theorem d_MU_divide0_50 : decode y_MU_divide0.2.1 50 = .ok (.iconst 1, 1) := dc9_4 (by decide +kernel)
theorem d_MU_divide0_51 : decode y_MU_divide0.2.1 51 = .ok (.goto 4, 3) := dc9_167 (by decide +kernel)
theorem d_MU_divide0_55 : decode y_MU_divide0.2.1 55 = .ok (.istore 4, 2) := dc9_54 (by decide +kernel)
theorem d_MU_divide0_57 : decode y_MU_divide0.2.1 57 = .ok (.iload 4, 2) := dc9_21 (by decide +kernel)
theorem d_MU_divide0_59 : decode y_MU_divide0.2.1 59 = .ok (.ifCond .eq 11, 3) := dc9_153 (by decide +kernel)
theorem d_MU_divide0_62 : decode y_MU_divide0.2.1 62 = .ok (.aload_n 0, 1) := dc9_42 (by decide +kernel)
theorem d_MU_divide0_63 : decode y_MU_divide0.2.1 63 = .ok (.getfield 37, 3) := dc9_180 (by decide +kernel)
theorem d_MU_divide0_66 : decode y_MU_divide0.2.1 66 = .ok (.aload_n 2, 1) := dc9_44 (by decide +kernel)
theorem d_MU_divide0_70 : decode y_MU_divide0.2.1 70 = .ok (.aload_n 0, 1) := dc9_42 (by decide +kernel)
theorem d_MU_divide0_71 : decode y_MU_divide0.2.1 71 = .ok (.getfield 34, 3) := dc9_180 (by decide +kernel)
theorem d_MU_divide0_74 : decode y_MU_divide0.2.1 74 = .ok (.iload 4, 2) := dc9_21 (by decide +kernel)
theorem d_MU_divide0_76 : decode y_MU_divide0.2.1 76 = .ok (.invokestatic 60, 3) := dc9_184 (by decide +kernel)
theorem d_MU_divide0_79 : decode y_MU_divide0.2.1 79 = .ok (.iinc 3 (-1), 3) := by decide +kernel
theorem d_MU_divide0_82 : decode y_MU_divide0.2.1 82 = .ok (.goto (-59), 3) := dc9_167 (by decide +kernel)
theorem d_MU_divide0_67 : decode y_MU_divide0.2.1 67 = .ok (.invokevirtual 68, 3) := dc9_182 (by decide +kernel)
def h_MU_divide0_23 (G : mG) (d : Nat) (a0 : Nat) (a1 : Nat) (a2 : Nat) (l3 : Int) (M : mM) (Q : mM → Prop) : Prop := mWm G y_MU_divide0 (d + 1) 23 [vr a0, vr a1, vr a2, vi l3, vd] [] M (fun r9 M9 => r9 = none ∧ Q M9)
theorem k_MU_divide0 {G : mG} {d : Nat} {a0 : Nat} {a1 : Nat} {a2 : Nat} {M : mM} {Q : mM → Prop} (hO : mOk M)
    (h : mK M a0 = 18 ∧ mK M (mR M a0 5) = 20 ∧ Cv G y_MW_set d [vr (mR M a0 5), vl 0] M (fun M3 => mOk M3 ∧ (mK M3 a0 = 18 ∧ mK M3 (mR M3 a0 6) = 20 ∧ Cv G y_MW_set d [vr (mR M3 a0 6), vl 0] M3 (fun M8 => mOk M8 ∧ (mK M8 a1 = 20 ∧ Ci G y_MW_places d [vr a1] M8 (fun x13 M12 => i32 x13 ∧ mOk M12 ∧ (h_MU_divide0_23 G d a0 a1 a2 (x13 - 1) M12 Q))))))) :
    Cv G y_MU_divide0 (d + 1) [vr a0, vr a1, vr a2] M Q := by
  refine wm_open (y := y_MU_divide0) rfl (Nat.le_of_ble_eq_true rfl) (L := [vr a0, vr a1, vr a2, vd, vd]) rfl ?_
  obtain ⟨h1, h⟩ := h
  obtain ⟨h2, h⟩ := h
  refine wm_aload_n d_MU_divide0_0 rfl rfl ?_
  refine gf_MU_34 rfl d_MU_divide0_1 h1 ?_
  refine wm_lconst (x := 0) d_MU_divide0_4 rfl ?_
  refine cf_MU_44 rfl d_MU_divide0_5 h2 (Nat.le_of_ble_eq_true rfl) (Cv.mono h (fun M3 h => ?_))
  obtain ⟨hOM3, h⟩ := h
  obtain ⟨h6, h⟩ := h
  obtain ⟨h7, h⟩ := h
  refine wm_aload_n d_MU_divide0_8 rfl rfl ?_
  refine gf_MU_37 rfl d_MU_divide0_9 h6 ?_
  refine wm_lconst (x := 0) d_MU_divide0_12 rfl ?_
  refine cf_MU_44 rfl d_MU_divide0_13 h7 (Nat.le_of_ble_eq_true rfl) (Cv.mono h (fun M8 h => ?_))
  obtain ⟨hOM8, h⟩ := h
  obtain ⟨h11, h⟩ := h
  refine wm_aload_n d_MU_divide0_16 rfl rfl ?_
  refine cf_MU_52 rfl d_MU_divide0_17 h11 (Nat.le_of_ble_eq_true rfl) (Ci.mono h (fun x13 M12 h => ?_))
  obtain ⟨h14, hOM12, h⟩ := h
  refine wm_iconst d_MU_divide0_20 ?_
  refine wm_isub d_MU_divide0_21 ?_
  refine wm_istore_n d_MU_divide0_22 rfl (by decide) (L' := [vr a0, vr a1, vr a2, vi (x13 - 1), vd]) rfl ?_
  exact h
theorem k_MU_divide0_23 {G : mG} {d : Nat} {a0 : Nat} {a1 : Nat} {a2 : Nat} {l3 : Int} {M : mM} {Q : mM → Prop} (hO : mOk M) (hi_l3 : i32 l3)
    (h : ((l3 < 0) → (Q M)) ∧ (¬ (l3 < 0) → (mK M a0 = 18 ∧ mK M a1 = 20 ∧ Ci G y_MW_bit d [vr a1, vi l3] M (fun x20 M19 => i32 x20 ∧ mOk M19 ∧ (Cv G y_MU_bring d [vr (mR M a0 6), vi x20] M19 (fun M22 => mOk M22 ∧ (mK M22 a0 = 18 ∧ mK M22 (mR M22 a0 6) = 20 ∧ Ci G y_MW_compare d [vr (mR M22 a0 6), vr a2] M22 (fun x28 M27 => i32 x28 ∧ mOk M27 ∧ (∀ v31 : Int, v31 = (if (x28 < 0) then 0 else 1) → ((v31 = 0) → (mK M27 a0 = 18 ∧ Cv G y_MU_bring d [vr (mR M27 a0 5), vi v31] M27 (fun M41 => mOk M41 ∧ (h_MU_divide0_23 G d a0 a1 a2 (l3 + (-1)) M41 Q)))) ∧ (¬ (v31 = 0) → (mK M27 a0 = 18 ∧ mK M27 (mR M27 a0 6) = 20 ∧ Cv G y_MW_less d [vr (mR M27 a0 6), vr a2] M27 (fun M46 => mOk M46 ∧ (mK M46 a0 = 18 ∧ Cv G y_MU_bring d [vr (mR M46 a0 5), vi v31] M46 (fun M50 => mOk M50 ∧ (h_MU_divide0_23 G d a0 a1 a2 (l3 + (-1)) M50 Q))))))))))))))) :
    h_MU_divide0_23 G d a0 a1 a2 l3 M Q := by
  unfold h_MU_divide0_23
  refine wm_iload_n d_MU_divide0_23 rfl rfl ?_
  refine wm_if_lt (tgt := 85) d_MU_divide0_24 rfl hi_l3 (fun c16 => ?_) (fun c16 => ?_)
  · replace h := h.1 c16
    refine wm_return d_MU_divide0_85 rfl ?_
    exact ⟨rfl, h⟩
  · replace h := h.2 c16
    obtain ⟨h17, h⟩ := h
    obtain ⟨h18, h⟩ := h
    refine wm_aload_n d_MU_divide0_27 rfl rfl ?_
    refine gf_MU_37 rfl d_MU_divide0_28 h17 ?_
    refine wm_aload_n d_MU_divide0_31 rfl rfl ?_
    refine wm_iload_n d_MU_divide0_32 rfl rfl ?_
    refine cf_MU_56 rfl d_MU_divide0_33 h18 (Nat.le_of_ble_eq_true rfl) (Ci.mono h (fun x20 M19 h => ?_))
    obtain ⟨h21, hOM19, h⟩ := h
    refine cf_MU_60 rfl d_MU_divide0_36 (Nat.le_of_ble_eq_true rfl) (Cv.mono h (fun M22 h => ?_))
    obtain ⟨hOM22, h⟩ := h
    obtain ⟨h25, h⟩ := h
    obtain ⟨h26, h⟩ := h
    refine wm_aload_n d_MU_divide0_39 rfl rfl ?_
    refine gf_MU_37 rfl d_MU_divide0_40 h25 ?_
    refine wm_aload_n d_MU_divide0_43 rfl rfl ?_
    refine cf_MU_64 rfl d_MU_divide0_44 h26 (Nat.le_of_ble_eq_true rfl) (Ci.mono h (fun x28 M27 h => ?_))
    obtain ⟨h29, hOM27, h⟩ := h
    have hJ : ∀ v31 : Int, v31 = (if (x28 < 0) then 0 else 1) → mWm G y_MU_divide0 (d + 1) 55 [vr a0, vr a1, vr a2, vi l3, vd] [vi v31] M27 (fun r9 M9 => r9 = none ∧ Q M9) := by
      intro v31 e33
      have h := h v31 e33
      have h34 : i32 v31 := by rw [e33]; (repeat' split) <;> first | exact ⟨by decide, by decide⟩ | exact ⟨by decide, by decide⟩
      have h35 : (v31 = 0 ∨ v31 = 1) := by rw [e33]; (repeat' split) <;> decide
      refine wm_istore d_MU_divide0_55 (by decide) (L' := [vr a0, vr a1, vr a2, vi l3, vi v31]) rfl ?_
      refine wm_iload d_MU_divide0_57 rfl ?_
      refine wm_if_eq (tgt := 70) d_MU_divide0_59 rfl h34 (fun c39 => ?_) (fun c39 => ?_)
      · replace h := h.1 c39
        obtain ⟨h40, h⟩ := h
        refine wm_aload_n d_MU_divide0_70 rfl rfl ?_
        refine gf_MU_34 rfl d_MU_divide0_71 h40 ?_
        refine wm_iload d_MU_divide0_74 rfl ?_
        refine cf_MU_60 rfl d_MU_divide0_76 (Nat.le_of_ble_eq_true rfl) (Cv.mono h (fun M41 h => ?_))
        obtain ⟨hOM41, h⟩ := h
        refine wm_iinc d_MU_divide0_79 (by decide) rfl (L' := [vr a0, vr a1, vr a2, vi (l3 + (-1)), vi v31]) rfl ?_
        refine wm_goto (tgt := 23) d_MU_divide0_82 rfl ?_
        refine wm_less (L' := [vr a0, vr a1, vr a2, vi (l3 + (-1)), vd]) ⟨Or.inr rfl, Or.inr rfl, Or.inr rfl, Or.inr rfl, Or.inl rfl, trivial⟩ ?_
        exact h
      · replace h := h.2 c39
        obtain ⟨h44, h⟩ := h
        obtain ⟨h45, h⟩ := h
        refine wm_aload_n d_MU_divide0_62 rfl rfl ?_
        refine gf_MU_37 rfl d_MU_divide0_63 h44 ?_
        refine wm_aload_n d_MU_divide0_66 rfl rfl ?_
        refine cf_MU_68 rfl d_MU_divide0_67 h45 (Nat.le_of_ble_eq_true rfl) (Cv.mono h (fun M46 h => ?_))
        obtain ⟨hOM46, h⟩ := h
        obtain ⟨h49, h⟩ := h
        refine wm_aload_n d_MU_divide0_70 rfl rfl ?_
        refine gf_MU_34 rfl d_MU_divide0_71 h49 ?_
        refine wm_iload d_MU_divide0_74 rfl ?_
        refine cf_MU_60 rfl d_MU_divide0_76 (Nat.le_of_ble_eq_true rfl) (Cv.mono h (fun M50 h => ?_))
        obtain ⟨hOM50, h⟩ := h
        refine wm_iinc d_MU_divide0_79 (by decide) rfl (L' := [vr a0, vr a1, vr a2, vi (l3 + (-1)), vi v31]) rfl ?_
        refine wm_goto (tgt := 23) d_MU_divide0_82 rfl ?_
        refine wm_less (L' := [vr a0, vr a1, vr a2, vi (l3 + (-1)), vd]) ⟨Or.inr rfl, Or.inr rfl, Or.inr rfl, Or.inr rfl, Or.inl rfl, trivial⟩ ?_
        exact h
    clear h
    refine wm_if_lt (tgt := 54) d_MU_divide0_47 rfl h29 (fun c30 => ?_) (fun c30 => ?_)
    · refine wm_iconst d_MU_divide0_54 ?_
      exact hJ 0 (if_pos c30).symm
    · refine wm_iconst d_MU_divide0_50 ?_
      refine wm_goto (tgt := 55) d_MU_divide0_51 rfl ?_
      exact hJ 1 (if_neg c30).symm
theorem d_MU_common_0 : decode y_MU_common.2.1 0 = .ok (.iconst 0, 1) := dc9_3 (by decide +kernel)
theorem d_MU_common_1 : decode y_MU_common.2.1 1 = .ok (.istore_n 1, 1) := dc9_60 (by decide +kernel)
theorem d_MU_common_2 : decode y_MU_common.2.1 2 = .ok (.aload_n 0, 1) := dc9_42 (by decide +kernel)
theorem d_MU_common_3 : decode y_MU_common.2.1 3 = .ok (.getfield 24, 3) := dc9_180 (by decide +kernel)
theorem d_MU_common_6 : decode y_MU_common.2.1 6 = .ok (.invokevirtual 72, 3) := dc9_182 (by decide +kernel)
theorem d_MU_common_9 : decode y_MU_common.2.1 9 = .ok (.ifCond .ne 33, 3) := dc9_154 (by decide +kernel)
theorem d_MU_common_12 : decode y_MU_common.2.1 12 = .ok (.aload_n 0, 1) := dc9_42 (by decide +kernel)
theorem d_MU_common_13 : decode y_MU_common.2.1 13 = .ok (.getfield 28, 3) := dc9_180 (by decide +kernel)
theorem d_MU_common_16 : decode y_MU_common.2.1 16 = .ok (.invokevirtual 72, 3) := dc9_182 (by decide +kernel)
theorem d_MU_common_19 : decode y_MU_common.2.1 19 = .ok (.ifCond .ne 23, 3) := dc9_154 (by decide +kernel)
theorem d_MU_common_22 : decode y_MU_common.2.1 22 = .ok (.aload_n 0, 1) := dc9_42 (by decide +kernel)
theorem d_MU_common_23 : decode y_MU_common.2.1 23 = .ok (.getfield 24, 3) := dc9_180 (by decide +kernel)
theorem d_MU_common_26 : decode y_MU_common.2.1 26 = .ok (.invokevirtual 75, 3) := dc9_182 (by decide +kernel)
theorem d_MU_common_29 : decode y_MU_common.2.1 29 = .ok (.aload_n 0, 1) := dc9_42 (by decide +kernel)
theorem d_MU_common_30 : decode y_MU_common.2.1 30 = .ok (.getfield 28, 3) := dc9_180 (by decide +kernel)
theorem d_MU_common_33 : decode y_MU_common.2.1 33 = .ok (.invokevirtual 75, 3) := dc9_182 (by decide +kernel)
theorem d_MU_common_36 : decode y_MU_common.2.1 36 = .ok (.iinc 1 1, 3) := by decide +kernel
theorem d_MU_common_39 : decode y_MU_common.2.1 39 = .ok (.goto (-37), 3) := dc9_167 (by decide +kernel)
theorem d_MU_common_42 : decode y_MU_common.2.1 42 = .ok (.aload_n 0, 1) := dc9_42 (by decide +kernel)
theorem d_MU_common_43 : decode y_MU_common.2.1 43 = .ok (.getfield 24, 3) := dc9_180 (by decide +kernel)
theorem d_MU_common_46 : decode y_MU_common.2.1 46 = .ok (.invokevirtual 72, 3) := dc9_182 (by decide +kernel)
theorem d_MU_common_49 : decode y_MU_common.2.1 49 = .ok (.ifCond .ne 13, 3) := dc9_154 (by decide +kernel)
theorem d_MU_common_52 : decode y_MU_common.2.1 52 = .ok (.aload_n 0, 1) := dc9_42 (by decide +kernel)
theorem d_MU_common_53 : decode y_MU_common.2.1 53 = .ok (.getfield 24, 3) := dc9_180 (by decide +kernel)
theorem d_MU_common_56 : decode y_MU_common.2.1 56 = .ok (.invokevirtual 75, 3) := dc9_182 (by decide +kernel)
theorem d_MU_common_59 : decode y_MU_common.2.1 59 = .ok (.goto (-17), 3) := dc9_167 (by decide +kernel)
theorem d_MU_common_62 : decode y_MU_common.2.1 62 = .ok (.aload_n 0, 1) := dc9_42 (by decide +kernel)
theorem d_MU_common_63 : decode y_MU_common.2.1 63 = .ok (.getfield 28, 3) := dc9_180 (by decide +kernel)
theorem d_MU_common_66 : decode y_MU_common.2.1 66 = .ok (.invokevirtual 40, 3) := dc9_182 (by decide +kernel)
theorem d_MU_common_69 : decode y_MU_common.2.1 69 = .ok (.ifCond .ne 84, 3) := dc9_154 (by decide +kernel)
theorem d_MU_common_153 : decode y_MU_common.2.1 153 = .ok (.iconst 0, 1) := dc9_3 (by decide +kernel)
theorem d_MU_common_154 : decode y_MU_common.2.1 154 = .ok (.istore_n 2, 1) := dc9_61 (by decide +kernel)
theorem d_MU_common_72 : decode y_MU_common.2.1 72 = .ok (.aload_n 0, 1) := dc9_42 (by decide +kernel)
theorem d_MU_common_73 : decode y_MU_common.2.1 73 = .ok (.getfield 28, 3) := dc9_180 (by decide +kernel)
theorem d_MU_common_76 : decode y_MU_common.2.1 76 = .ok (.invokevirtual 72, 3) := dc9_182 (by decide +kernel)
theorem d_MU_common_79 : decode y_MU_common.2.1 79 = .ok (.ifCond .ne 13, 3) := dc9_154 (by decide +kernel)
theorem d_MU_common_82 : decode y_MU_common.2.1 82 = .ok (.aload_n 0, 1) := dc9_42 (by decide +kernel)
theorem d_MU_common_83 : decode y_MU_common.2.1 83 = .ok (.getfield 28, 3) := dc9_180 (by decide +kernel)
theorem d_MU_common_92 : decode y_MU_common.2.1 92 = .ok (.aload_n 0, 1) := dc9_42 (by decide +kernel)
theorem d_MU_common_93 : decode y_MU_common.2.1 93 = .ok (.getfield 24, 3) := dc9_180 (by decide +kernel)
theorem d_MU_common_96 : decode y_MU_common.2.1 96 = .ok (.aload_n 0, 1) := dc9_42 (by decide +kernel)
theorem d_MU_common_97 : decode y_MU_common.2.1 97 = .ok (.getfield 28, 3) := dc9_180 (by decide +kernel)
theorem d_MU_common_86 : decode y_MU_common.2.1 86 = .ok (.invokevirtual 75, 3) := dc9_182 (by decide +kernel)
theorem d_MU_common_89 : decode y_MU_common.2.1 89 = .ok (.goto (-17), 3) := dc9_167 (by decide +kernel)
theorem d_MU_common_100 : decode y_MU_common.2.1 100 = .ok (.invokevirtual 64, 3) := dc9_182 (by decide +kernel)
theorem d_MU_common_103 : decode y_MU_common.2.1 103 = .ok (.ifCond .le 36, 3) := dc9_158 (by decide +kernel)
theorem d_MU_common_106 : decode y_MU_common.2.1 106 = .ok (.aload_n 0, 1) := dc9_42 (by decide +kernel)
theorem d_MU_common_107 : decode y_MU_common.2.1 107 = .ok (.getfield 31, 3) := dc9_180 (by decide +kernel)
theorem d_MU_common_110 : decode y_MU_common.2.1 110 = .ok (.aload_n 0, 1) := dc9_42 (by decide +kernel)
theorem d_MU_common_111 : decode y_MU_common.2.1 111 = .ok (.getfield 24, 3) := dc9_180 (by decide +kernel)
theorem d_MU_common_139 : decode y_MU_common.2.1 139 = .ok (.aload_n 0, 1) := dc9_42 (by decide +kernel)
theorem d_MU_common_140 : decode y_MU_common.2.1 140 = .ok (.getfield 28, 3) := dc9_180 (by decide +kernel)
theorem d_MU_common_143 : decode y_MU_common.2.1 143 = .ok (.aload_n 0, 1) := dc9_42 (by decide +kernel)
theorem d_MU_common_144 : decode y_MU_common.2.1 144 = .ok (.getfield 24, 3) := dc9_180 (by decide +kernel)
theorem d_MU_common_147 : decode y_MU_common.2.1 147 = .ok (.invokevirtual 68, 3) := dc9_182 (by decide +kernel)
theorem d_MU_common_150 : decode y_MU_common.2.1 150 = .ok (.goto (-88), 3) := dc9_167 (by decide +kernel)
theorem d_MU_common_114 : decode y_MU_common.2.1 114 = .ok (.invokevirtual 78, 3) := dc9_182 (by decide +kernel)
theorem d_MU_common_117 : decode y_MU_common.2.1 117 = .ok (.aload_n 0, 1) := dc9_42 (by decide +kernel)
theorem d_MU_common_118 : decode y_MU_common.2.1 118 = .ok (.getfield 24, 3) := dc9_180 (by decide +kernel)
theorem d_MU_common_121 : decode y_MU_common.2.1 121 = .ok (.aload_n 0, 1) := dc9_42 (by decide +kernel)
theorem d_MU_common_122 : decode y_MU_common.2.1 122 = .ok (.getfield 28, 3) := dc9_180 (by decide +kernel)
theorem d_MU_common_125 : decode y_MU_common.2.1 125 = .ok (.invokevirtual 78, 3) := dc9_182 (by decide +kernel)
theorem d_MU_common_128 : decode y_MU_common.2.1 128 = .ok (.aload_n 0, 1) := dc9_42 (by decide +kernel)
theorem d_MU_common_129 : decode y_MU_common.2.1 129 = .ok (.getfield 28, 3) := dc9_180 (by decide +kernel)
theorem d_MU_common_132 : decode y_MU_common.2.1 132 = .ok (.aload_n 0, 1) := dc9_42 (by decide +kernel)
theorem d_MU_common_133 : decode y_MU_common.2.1 133 = .ok (.getfield 31, 3) := dc9_180 (by decide +kernel)
theorem d_MU_common_136 : decode y_MU_common.2.1 136 = .ok (.invokevirtual 78, 3) := dc9_182 (by decide +kernel)
theorem d_MU_common_155 : decode y_MU_common.2.1 155 = .ok (.iload_n 2, 1) := dc9_28 (by decide +kernel)
theorem d_MU_common_156 : decode y_MU_common.2.1 156 = .ok (.iload_n 1, 1) := dc9_27 (by decide +kernel)
theorem d_MU_common_157 : decode y_MU_common.2.1 157 = .ok (.if_icmp .ge 17, 3) := dc9_162 (by decide +kernel)
theorem d_MU_common_174 : decode y_MU_common.2.1 174 = .ok (.return_, 1) := dc9_177 (by decide +kernel)
theorem d_MU_common_160 : decode y_MU_common.2.1 160 = .ok (.aload_n 0, 1) := dc9_42 (by decide +kernel)
theorem d_MU_common_161 : decode y_MU_common.2.1 161 = .ok (.getfield 24, 3) := dc9_180 (by decide +kernel)
theorem d_MU_common_164 : decode y_MU_common.2.1 164 = .ok (.iconst 0, 1) := dc9_3 (by decide +kernel)
theorem d_MU_common_165 : decode y_MU_common.2.1 165 = .ok (.invokevirtual 48, 3) := dc9_182 (by decide +kernel)
theorem d_MU_common_168 : decode y_MU_common.2.1 168 = .ok (.iinc 2 1, 3) := by decide +kernel
theorem d_MU_common_171 : decode y_MU_common.2.1 171 = .ok (.goto (-16), 3) := dc9_167 (by decide +kernel)
def h_MU_common_2 (G : mG) (d : Nat) (a0 : Nat) (l1 : Int) (M : mM) (Q : mM → Prop) : Prop := mWm G y_MU_common (d + 1) 2 [vr a0, vi l1, vd] [] M (fun r9 M9 => r9 = none ∧ Q M9)
def h_MU_common_42 (G : mG) (d : Nat) (a0 : Nat) (l1 : Int) (M : mM) (Q : mM → Prop) : Prop := mWm G y_MU_common (d + 1) 42 [vr a0, vi l1, vd] [] M (fun r9 M9 => r9 = none ∧ Q M9)
def h_MU_common_62 (G : mG) (d : Nat) (a0 : Nat) (l1 : Int) (M : mM) (Q : mM → Prop) : Prop := mWm G y_MU_common (d + 1) 62 [vr a0, vi l1, vd] [] M (fun r9 M9 => r9 = none ∧ Q M9)
def h_MU_common_72 (G : mG) (d : Nat) (a0 : Nat) (l1 : Int) (M : mM) (Q : mM → Prop) : Prop := mWm G y_MU_common (d + 1) 72 [vr a0, vi l1, vd] [] M (fun r9 M9 => r9 = none ∧ Q M9)
def h_MU_common_155 (G : mG) (d : Nat) (a0 : Nat) (l1 : Int) (l2 : Int) (M : mM) (Q : mM → Prop) : Prop := mWm G y_MU_common (d + 1) 155 [vr a0, vi l1, vi l2] [] M (fun r9 M9 => r9 = none ∧ Q M9)
theorem k_MU_common {G : mG} {d : Nat} {a0 : Nat} {M : mM} {Q : mM → Prop} (hO : mOk M)
    (h : h_MU_common_2 G d a0 0 M Q) :
    Cv G y_MU_common (d + 1) [vr a0] M Q := by
  refine wm_open (y := y_MU_common) rfl (Nat.le_of_ble_eq_true rfl) (L := [vr a0, vd, vd]) rfl ?_
  refine wm_iconst d_MU_common_0 ?_
  refine wm_istore_n d_MU_common_1 rfl (by decide) (L' := [vr a0, vi 0, vd]) rfl ?_
  exact h
theorem k_MU_common_2 {G : mG} {d : Nat} {a0 : Nat} {l1 : Int} {M : mM} {Q : mM → Prop} (hO : mOk M) (hi_l1 : i32 l1)
    (h : mK M a0 = 18 ∧ mK M (mR M a0 2) = 20 ∧ Ci G y_MW_isOdd d [vr (mR M a0 2)] M (fun x4 M3 => i32 x4 ∧ mOk M3 ∧ (((x4 = 0) → (mK M3 a0 = 18 ∧ mK M3 (mR M3 a0 3) = 20 ∧ Ci G y_MW_isOdd d [vr (mR M3 a0 3)] M3 (fun x11 M10 => i32 x11 ∧ mOk M10 ∧ (((x11 = 0) → (mK M10 a0 = 18 ∧ mK M10 (mR M10 a0 2) = 20 ∧ Cv G y_MW_halve d [vr (mR M10 a0 2)] M10 (fun M17 => mOk M17 ∧ (mK M17 a0 = 18 ∧ mK M17 (mR M17 a0 3) = 20 ∧ Cv G y_MW_halve d [vr (mR M17 a0 3)] M17 (fun M22 => mOk M22 ∧ (h_MU_common_2 G d a0 (l1 + 1) M22 Q)))))) ∧ (¬ (x11 = 0) → (h_MU_common_42 G d a0 l1 M10 Q)))))) ∧ (¬ (x4 = 0) → (h_MU_common_42 G d a0 l1 M3 Q))))) :
    h_MU_common_2 G d a0 l1 M Q := by
  unfold h_MU_common_2
  obtain ⟨h1, h⟩ := h
  obtain ⟨h2, h⟩ := h
  refine wm_aload_n d_MU_common_2 rfl rfl ?_
  refine gf_MU_24 rfl d_MU_common_3 h1 ?_
  refine cf_MU_72 rfl d_MU_common_6 h2 (Nat.le_of_ble_eq_true rfl) (Ci.mono h (fun x4 M3 h => ?_))
  obtain ⟨h5, hOM3, h⟩ := h
  refine wm_if_ne (tgt := 42) d_MU_common_9 rfl h5 (fun c7 => ?_) (fun c7 => ?_)
  · replace h := h.2 c7
    exact h
  · replace c7 := Classical.not_not.mp c7
    replace h := h.1 c7
    obtain ⟨h8, h⟩ := h
    obtain ⟨h9, h⟩ := h
    refine wm_aload_n d_MU_common_12 rfl rfl ?_
    refine gf_MU_28 rfl d_MU_common_13 h8 ?_
    refine cf_MU_72 rfl d_MU_common_16 h9 (Nat.le_of_ble_eq_true rfl) (Ci.mono h (fun x11 M10 h => ?_))
    obtain ⟨h12, hOM10, h⟩ := h
    refine wm_if_ne (tgt := 42) d_MU_common_19 rfl h12 (fun c14 => ?_) (fun c14 => ?_)
    · replace h := h.2 c14
      exact h
    · replace c14 := Classical.not_not.mp c14
      replace h := h.1 c14
      obtain ⟨h15, h⟩ := h
      obtain ⟨h16, h⟩ := h
      refine wm_aload_n d_MU_common_22 rfl rfl ?_
      refine gf_MU_24 rfl d_MU_common_23 h15 ?_
      refine cf_MU_75 rfl d_MU_common_26 h16 (Nat.le_of_ble_eq_true rfl) (Cv.mono h (fun M17 h => ?_))
      obtain ⟨hOM17, h⟩ := h
      obtain ⟨h20, h⟩ := h
      obtain ⟨h21, h⟩ := h
      refine wm_aload_n d_MU_common_29 rfl rfl ?_
      refine gf_MU_28 rfl d_MU_common_30 h20 ?_
      refine cf_MU_75 rfl d_MU_common_33 h21 (Nat.le_of_ble_eq_true rfl) (Cv.mono h (fun M22 h => ?_))
      obtain ⟨hOM22, h⟩ := h
      refine wm_iinc d_MU_common_36 (by decide) rfl (L' := [vr a0, vi (l1 + 1), vd]) rfl ?_
      refine wm_goto (tgt := 2) d_MU_common_39 rfl ?_
      exact h
theorem k_MU_common_42 {G : mG} {d : Nat} {a0 : Nat} {l1 : Int} {M : mM} {Q : mM → Prop} (hO : mOk M) (hi_l1 : i32 l1)
    (h : mK M a0 = 18 ∧ mK M (mR M a0 2) = 20 ∧ Ci G y_MW_isOdd d [vr (mR M a0 2)] M (fun x28 M27 => i32 x28 ∧ mOk M27 ∧ (((x28 = 0) → (mK M27 a0 = 18 ∧ mK M27 (mR M27 a0 2) = 20 ∧ Cv G y_MW_halve d [vr (mR M27 a0 2)] M27 (fun M34 => mOk M34 ∧ (h_MU_common_42 G d a0 l1 M34 Q)))) ∧ (¬ (x28 = 0) → (h_MU_common_62 G d a0 l1 M27 Q))))) :
    h_MU_common_42 G d a0 l1 M Q := by
  unfold h_MU_common_42
  obtain ⟨h25, h⟩ := h
  obtain ⟨h26, h⟩ := h
  refine wm_aload_n d_MU_common_42 rfl rfl ?_
  refine gf_MU_24 rfl d_MU_common_43 h25 ?_
  refine cf_MU_72 rfl d_MU_common_46 h26 (Nat.le_of_ble_eq_true rfl) (Ci.mono h (fun x28 M27 h => ?_))
  obtain ⟨h29, hOM27, h⟩ := h
  refine wm_if_ne (tgt := 62) d_MU_common_49 rfl h29 (fun c31 => ?_) (fun c31 => ?_)
  · replace h := h.2 c31
    exact h
  · replace c31 := Classical.not_not.mp c31
    replace h := h.1 c31
    obtain ⟨h32, h⟩ := h
    obtain ⟨h33, h⟩ := h
    refine wm_aload_n d_MU_common_52 rfl rfl ?_
    refine gf_MU_24 rfl d_MU_common_53 h32 ?_
    refine cf_MU_75 rfl d_MU_common_56 h33 (Nat.le_of_ble_eq_true rfl) (Cv.mono h (fun M34 h => ?_))
    obtain ⟨hOM34, h⟩ := h
    refine wm_goto (tgt := 42) d_MU_common_59 rfl ?_
    exact h
theorem k_MU_common_62 {G : mG} {d : Nat} {a0 : Nat} {l1 : Int} {M : mM} {Q : mM → Prop} (hO : mOk M) (hi_l1 : i32 l1)
    (h : mK M a0 = 18 ∧ mK M (mR M a0 3) = 20 ∧ Ci G y_MW_isZero d [vr (mR M a0 3)] M (fun x40 M39 => i32 x40 ∧ mOk M39 ∧ (((x40 = 0) → (h_MU_common_72 G d a0 l1 M39 Q)) ∧ (¬ (x40 = 0) → (h_MU_common_155 G d a0 l1 0 M39 Q))))) :
    h_MU_common_62 G d a0 l1 M Q := by
  unfold h_MU_common_62
  obtain ⟨h37, h⟩ := h
  obtain ⟨h38, h⟩ := h
  refine wm_aload_n d_MU_common_62 rfl rfl ?_
  refine gf_MU_28 rfl d_MU_common_63 h37 ?_
  refine cf_MU_40 rfl d_MU_common_66 h38 (Nat.le_of_ble_eq_true rfl) (Ci.mono h (fun x40 M39 h => ?_))
  obtain ⟨h41, hOM39, h⟩ := h
  refine wm_if_ne (tgt := 153) d_MU_common_69 rfl h41 (fun c43 => ?_) (fun c43 => ?_)
  · replace h := h.2 c43
    refine wm_iconst d_MU_common_153 ?_
    refine wm_istore_n d_MU_common_154 rfl (by decide) (L' := [vr a0, vi l1, vi 0]) rfl ?_
    exact h
  · replace c43 := Classical.not_not.mp c43
    replace h := h.1 c43
    exact h
theorem k_MU_common_72 {G : mG} {d : Nat} {a0 : Nat} {l1 : Int} {M : mM} {Q : mM → Prop} (hO : mOk M) (hi_l1 : i32 l1)
    (h : mK M a0 = 18 ∧ mK M (mR M a0 3) = 20 ∧ Ci G y_MW_isOdd d [vr (mR M a0 3)] M (fun x47 M46 => i32 x47 ∧ mOk M46 ∧ (((x47 = 0) → (mK M46 a0 = 18 ∧ mK M46 (mR M46 a0 3) = 20 ∧ Cv G y_MW_halve d [vr (mR M46 a0 3)] M46 (fun M53 => mOk M53 ∧ (h_MU_common_72 G d a0 l1 M53 Q)))) ∧ (¬ (x47 = 0) → (mK M46 a0 = 18 ∧ mK M46 (mR M46 a0 2) = 20 ∧ Ci G y_MW_compare d [vr (mR M46 a0 2), vr (mR M46 a0 3)] M46 (fun x59 M58 => i32 x59 ∧ mOk M58 ∧ (((x59 ≤ 0) → (mK M58 a0 = 18 ∧ mK M58 (mR M58 a0 3) = 20 ∧ Cv G y_MW_less d [vr (mR M58 a0 3), vr (mR M58 a0 2)] M58 (fun M67 => mOk M67 ∧ (h_MU_common_62 G d a0 l1 M67 Q)))) ∧ (¬ (x59 ≤ 0) → (mK M58 a0 = 18 ∧ mK M58 (mR M58 a0 4) = 20 ∧ Cv G y_MW_copy d [vr (mR M58 a0 4), vr (mR M58 a0 2)] M58 (fun M72 => mOk M72 ∧ (mK M72 a0 = 18 ∧ mK M72 (mR M72 a0 2) = 20 ∧ Cv G y_MW_copy d [vr (mR M72 a0 2), vr (mR M72 a0 3)] M72 (fun M77 => mOk M77 ∧ (mK M77 a0 = 18 ∧ mK M77 (mR M77 a0 3) = 20 ∧ Cv G y_MW_copy d [vr (mR M77 a0 3), vr (mR M77 a0 4)] M77 (fun M82 => mOk M82 ∧ (mK M82 a0 = 18 ∧ mK M82 (mR M82 a0 3) = 20 ∧ Cv G y_MW_less d [vr (mR M82 a0 3), vr (mR M82 a0 2)] M82 (fun M87 => mOk M87 ∧ (h_MU_common_62 G d a0 l1 M87 Q))))))))))))))))) :
    h_MU_common_72 G d a0 l1 M Q := by
  unfold h_MU_common_72
  obtain ⟨h44, h⟩ := h
  obtain ⟨h45, h⟩ := h
  refine wm_aload_n d_MU_common_72 rfl rfl ?_
  refine gf_MU_28 rfl d_MU_common_73 h44 ?_
  refine cf_MU_72 rfl d_MU_common_76 h45 (Nat.le_of_ble_eq_true rfl) (Ci.mono h (fun x47 M46 h => ?_))
  obtain ⟨h48, hOM46, h⟩ := h
  refine wm_if_ne (tgt := 92) d_MU_common_79 rfl h48 (fun c50 => ?_) (fun c50 => ?_)
  · replace h := h.2 c50
    obtain ⟨h56, h⟩ := h
    obtain ⟨h57, h⟩ := h
    refine wm_aload_n d_MU_common_92 rfl rfl ?_
    refine gf_MU_24 rfl d_MU_common_93 h56 ?_
    refine wm_aload_n d_MU_common_96 rfl rfl ?_
    refine gf_MU_28 rfl d_MU_common_97 h56 ?_
    refine cf_MU_64 rfl d_MU_common_100 h57 (Nat.le_of_ble_eq_true rfl) (Ci.mono h (fun x59 M58 h => ?_))
    obtain ⟨h60, hOM58, h⟩ := h
    refine wm_if_le (tgt := 139) d_MU_common_103 rfl h60 (fun c64 => ?_) (fun c64 => ?_)
    · replace h := h.1 c64
      obtain ⟨h65, h⟩ := h
      obtain ⟨h66, h⟩ := h
      refine wm_aload_n d_MU_common_139 rfl rfl ?_
      refine gf_MU_28 rfl d_MU_common_140 h65 ?_
      refine wm_aload_n d_MU_common_143 rfl rfl ?_
      refine gf_MU_24 rfl d_MU_common_144 h65 ?_
      refine cf_MU_68 rfl d_MU_common_147 h66 (Nat.le_of_ble_eq_true rfl) (Cv.mono h (fun M67 h => ?_))
      obtain ⟨hOM67, h⟩ := h
      refine wm_goto (tgt := 62) d_MU_common_150 rfl ?_
      exact h
    · replace h := h.2 c64
      obtain ⟨h70, h⟩ := h
      obtain ⟨h71, h⟩ := h
      refine wm_aload_n d_MU_common_106 rfl rfl ?_
      refine gf_MU_31 rfl d_MU_common_107 h70 ?_
      refine wm_aload_n d_MU_common_110 rfl rfl ?_
      refine gf_MU_24 rfl d_MU_common_111 h70 ?_
      refine cf_MU_78 rfl d_MU_common_114 h71 (Nat.le_of_ble_eq_true rfl) (Cv.mono h (fun M72 h => ?_))
      obtain ⟨hOM72, h⟩ := h
      obtain ⟨h75, h⟩ := h
      obtain ⟨h76, h⟩ := h
      refine wm_aload_n d_MU_common_117 rfl rfl ?_
      refine gf_MU_24 rfl d_MU_common_118 h75 ?_
      refine wm_aload_n d_MU_common_121 rfl rfl ?_
      refine gf_MU_28 rfl d_MU_common_122 h75 ?_
      refine cf_MU_78 rfl d_MU_common_125 h76 (Nat.le_of_ble_eq_true rfl) (Cv.mono h (fun M77 h => ?_))
      obtain ⟨hOM77, h⟩ := h
      obtain ⟨h80, h⟩ := h
      obtain ⟨h81, h⟩ := h
      refine wm_aload_n d_MU_common_128 rfl rfl ?_
      refine gf_MU_28 rfl d_MU_common_129 h80 ?_
      refine wm_aload_n d_MU_common_132 rfl rfl ?_
      refine gf_MU_31 rfl d_MU_common_133 h80 ?_
      refine cf_MU_78 rfl d_MU_common_136 h81 (Nat.le_of_ble_eq_true rfl) (Cv.mono h (fun M82 h => ?_))
      obtain ⟨hOM82, h⟩ := h
      obtain ⟨h85, h⟩ := h
      obtain ⟨h86, h⟩ := h
      refine wm_aload_n d_MU_common_139 rfl rfl ?_
      refine gf_MU_28 rfl d_MU_common_140 h85 ?_
      refine wm_aload_n d_MU_common_143 rfl rfl ?_
      refine gf_MU_24 rfl d_MU_common_144 h85 ?_
      refine cf_MU_68 rfl d_MU_common_147 h86 (Nat.le_of_ble_eq_true rfl) (Cv.mono h (fun M87 h => ?_))
      obtain ⟨hOM87, h⟩ := h
      refine wm_goto (tgt := 62) d_MU_common_150 rfl ?_
      exact h
  · replace c50 := Classical.not_not.mp c50
    replace h := h.1 c50
    obtain ⟨h51, h⟩ := h
    obtain ⟨h52, h⟩ := h
    refine wm_aload_n d_MU_common_82 rfl rfl ?_
    refine gf_MU_28 rfl d_MU_common_83 h51 ?_
    refine cf_MU_75 rfl d_MU_common_86 h52 (Nat.le_of_ble_eq_true rfl) (Cv.mono h (fun M53 h => ?_))
    obtain ⟨hOM53, h⟩ := h
    refine wm_goto (tgt := 72) d_MU_common_89 rfl ?_
    exact h
theorem k_MU_common_155 {G : mG} {d : Nat} {a0 : Nat} {l1 : Int} {l2 : Int} {M : mM} {Q : mM → Prop} (hO : mOk M) (hi_l1 : i32 l1) (hi_l2 : i32 l2)
    (h : ((l1 ≤ l2) → (Q M)) ∧ (¬ (l1 ≤ l2) → (mK M a0 = 18 ∧ mK M (mR M a0 2) = 20 ∧ Cv G y_MW_twice d [vr (mR M a0 2), vi 0] M (fun M94 => mOk M94 ∧ (h_MU_common_155 G d a0 l1 (l2 + 1) M94 Q))))) :
    h_MU_common_155 G d a0 l1 l2 M Q := by
  unfold h_MU_common_155
  refine wm_iload_n d_MU_common_155 rfl rfl ?_
  refine wm_iload_n d_MU_common_156 rfl rfl ?_
  refine wm_icmp_ge (tgt := 174) d_MU_common_157 rfl hi_l2 hi_l1 (fun c91 => ?_) (fun c91 => ?_)
  · replace h := h.1 c91
    refine wm_return d_MU_common_174 rfl ?_
    exact ⟨rfl, h⟩
  · replace h := h.2 c91
    obtain ⟨h92, h⟩ := h
    obtain ⟨h93, h⟩ := h
    refine wm_aload_n d_MU_common_160 rfl rfl ?_
    refine gf_MU_24 rfl d_MU_common_161 h92 ?_
    refine wm_iconst d_MU_common_164 ?_
    refine cf_MU_48 rfl d_MU_common_165 h93 (Nat.le_of_ble_eq_true rfl) (Cv.mono h (fun M94 h => ?_))
    obtain ⟨hOM94, h⟩ := h
    refine wm_iinc d_MU_common_168 (by decide) rfl (L' := [vr a0, vi l1, vi (l2 + 1)]) rfl ?_
    refine wm_goto (tgt := 155) d_MU_common_171 rfl ?_
    exact h
theorem d_MU_settle_0 : decode y_MU_settle.2.1 0 = .ok (.aload_n 0, 1) := dc9_42 (by decide +kernel)
theorem d_MU_settle_1 : decode y_MU_settle.2.1 1 = .ok (.getfield 14, 3) := dc9_180 (by decide +kernel)
theorem d_MU_settle_4 : decode y_MU_settle.2.1 4 = .ok (.getfield 81, 3) := dc9_180 (by decide +kernel)
theorem d_MU_settle_7 : decode y_MU_settle.2.1 7 = .ok (.invokevirtual 40, 3) := dc9_182 (by decide +kernel)
theorem d_MU_settle_10 : decode y_MU_settle.2.1 10 = .ok (.ifCond .eq 23, 3) := dc9_153 (by decide +kernel)
theorem d_MU_settle_33 : decode y_MU_settle.2.1 33 = .ok (.aload_n 0, 1) := dc9_42 (by decide +kernel)
theorem d_MU_settle_34 : decode y_MU_settle.2.1 34 = .ok (.getfield 24, 3) := dc9_180 (by decide +kernel)
theorem d_MU_settle_37 : decode y_MU_settle.2.1 37 = .ok (.aload_n 0, 1) := dc9_42 (by decide +kernel)
theorem d_MU_settle_38 : decode y_MU_settle.2.1 38 = .ok (.getfield 14, 3) := dc9_180 (by decide +kernel)
theorem d_MU_settle_41 : decode y_MU_settle.2.1 41 = .ok (.getfield 81, 3) := dc9_180 (by decide +kernel)
theorem d_MU_settle_13 : decode y_MU_settle.2.1 13 = .ok (.aload_n 0, 1) := dc9_42 (by decide +kernel)
theorem d_MU_settle_14 : decode y_MU_settle.2.1 14 = .ok (.getfield 14, 3) := dc9_180 (by decide +kernel)
theorem d_MU_settle_17 : decode y_MU_settle.2.1 17 = .ok (.iconst 0, 1) := dc9_3 (by decide +kernel)
theorem d_MU_settle_18 : decode y_MU_settle.2.1 18 = .ok (.putfield 84, 3) := dc9_181 (by decide +kernel)
theorem d_MU_settle_21 : decode y_MU_settle.2.1 21 = .ok (.aload_n 0, 1) := dc9_42 (by decide +kernel)
theorem d_MU_settle_22 : decode y_MU_settle.2.1 22 = .ok (.getfield 14, 3) := dc9_180 (by decide +kernel)
theorem d_MU_settle_25 : decode y_MU_settle.2.1 25 = .ok (.getfield 88, 3) := dc9_180 (by decide +kernel)
theorem d_MU_settle_28 : decode y_MU_settle.2.1 28 = .ok (.lconst 1, 1) := dc9_10 (by decide +kernel)
theorem d_MU_settle_44 : decode y_MU_settle.2.1 44 = .ok (.invokevirtual 78, 3) := dc9_182 (by decide +kernel)
theorem d_MU_settle_47 : decode y_MU_settle.2.1 47 = .ok (.aload_n 0, 1) := dc9_42 (by decide +kernel)
theorem d_MU_settle_48 : decode y_MU_settle.2.1 48 = .ok (.getfield 28, 3) := dc9_180 (by decide +kernel)
theorem d_MU_settle_51 : decode y_MU_settle.2.1 51 = .ok (.aload_n 0, 1) := dc9_42 (by decide +kernel)
theorem d_MU_settle_52 : decode y_MU_settle.2.1 52 = .ok (.getfield 14, 3) := dc9_180 (by decide +kernel)
theorem d_MU_settle_55 : decode y_MU_settle.2.1 55 = .ok (.getfield 88, 3) := dc9_180 (by decide +kernel)
theorem d_MU_settle_58 : decode y_MU_settle.2.1 58 = .ok (.invokevirtual 78, 3) := dc9_182 (by decide +kernel)
theorem d_MU_settle_61 : decode y_MU_settle.2.1 61 = .ok (.aload_n 0, 1) := dc9_42 (by decide +kernel)
theorem d_MU_settle_62 : decode y_MU_settle.2.1 62 = .ok (.invokevirtual 91, 3) := dc9_182 (by decide +kernel)
theorem d_MU_settle_65 : decode y_MU_settle.2.1 65 = .ok (.aload_n 0, 1) := dc9_42 (by decide +kernel)
theorem d_MU_settle_66 : decode y_MU_settle.2.1 66 = .ok (.getfield 24, 3) := dc9_180 (by decide +kernel)
theorem d_MU_settle_69 : decode y_MU_settle.2.1 69 = .ok (.invokevirtual 94, 3) := dc9_182 (by decide +kernel)
theorem d_MU_settle_72 : decode y_MU_settle.2.1 72 = .ok (.ifCond .ne 72, 3) := dc9_154 (by decide +kernel)
theorem d_MU_settle_75 : decode y_MU_settle.2.1 75 = .ok (.aload_n 0, 1) := dc9_42 (by decide +kernel)
theorem d_MU_settle_76 : decode y_MU_settle.2.1 76 = .ok (.getfield 31, 3) := dc9_180 (by decide +kernel)
theorem d_MU_settle_79 : decode y_MU_settle.2.1 79 = .ok (.aload_n 0, 1) := dc9_42 (by decide +kernel)
theorem d_MU_settle_80 : decode y_MU_settle.2.1 80 = .ok (.getfield 24, 3) := dc9_180 (by decide +kernel)
theorem d_MU_settle_83 : decode y_MU_settle.2.1 83 = .ok (.invokevirtual 78, 3) := dc9_182 (by decide +kernel)
theorem d_MU_settle_86 : decode y_MU_settle.2.1 86 = .ok (.aload_n 0, 1) := dc9_42 (by decide +kernel)
theorem d_MU_settle_87 : decode y_MU_settle.2.1 87 = .ok (.aload_n 0, 1) := dc9_42 (by decide +kernel)
theorem d_MU_settle_88 : decode y_MU_settle.2.1 88 = .ok (.getfield 14, 3) := dc9_180 (by decide +kernel)
theorem d_MU_settle_91 : decode y_MU_settle.2.1 91 = .ok (.getfield 81, 3) := dc9_180 (by decide +kernel)
theorem d_MU_settle_94 : decode y_MU_settle.2.1 94 = .ok (.aload_n 0, 1) := dc9_42 (by decide +kernel)
theorem d_MU_settle_95 : decode y_MU_settle.2.1 95 = .ok (.getfield 31, 3) := dc9_180 (by decide +kernel)
theorem d_MU_settle_98 : decode y_MU_settle.2.1 98 = .ok (.invokevirtual 97, 3) := dc9_182 (by decide +kernel)
theorem d_MU_settle_101 : decode y_MU_settle.2.1 101 = .ok (.aload_n 0, 1) := dc9_42 (by decide +kernel)
theorem d_MU_settle_102 : decode y_MU_settle.2.1 102 = .ok (.getfield 14, 3) := dc9_180 (by decide +kernel)
theorem d_MU_settle_105 : decode y_MU_settle.2.1 105 = .ok (.getfield 81, 3) := dc9_180 (by decide +kernel)
theorem d_MU_settle_108 : decode y_MU_settle.2.1 108 = .ok (.aload_n 0, 1) := dc9_42 (by decide +kernel)
theorem d_MU_settle_109 : decode y_MU_settle.2.1 109 = .ok (.getfield 34, 3) := dc9_180 (by decide +kernel)
theorem d_MU_settle_112 : decode y_MU_settle.2.1 112 = .ok (.invokevirtual 78, 3) := dc9_182 (by decide +kernel)
theorem d_MU_settle_115 : decode y_MU_settle.2.1 115 = .ok (.aload_n 0, 1) := dc9_42 (by decide +kernel)
theorem d_MU_settle_116 : decode y_MU_settle.2.1 116 = .ok (.aload_n 0, 1) := dc9_42 (by decide +kernel)
theorem d_MU_settle_117 : decode y_MU_settle.2.1 117 = .ok (.getfield 14, 3) := dc9_180 (by decide +kernel)
theorem d_MU_settle_120 : decode y_MU_settle.2.1 120 = .ok (.getfield 88, 3) := dc9_180 (by decide +kernel)
theorem d_MU_settle_123 : decode y_MU_settle.2.1 123 = .ok (.aload_n 0, 1) := dc9_42 (by decide +kernel)
theorem d_MU_settle_124 : decode y_MU_settle.2.1 124 = .ok (.getfield 31, 3) := dc9_180 (by decide +kernel)
theorem d_MU_settle_127 : decode y_MU_settle.2.1 127 = .ok (.invokevirtual 97, 3) := dc9_182 (by decide +kernel)
theorem d_MU_settle_130 : decode y_MU_settle.2.1 130 = .ok (.aload_n 0, 1) := dc9_42 (by decide +kernel)
theorem d_MU_settle_131 : decode y_MU_settle.2.1 131 = .ok (.getfield 14, 3) := dc9_180 (by decide +kernel)
theorem d_MU_settle_134 : decode y_MU_settle.2.1 134 = .ok (.getfield 88, 3) := dc9_180 (by decide +kernel)
theorem d_MU_settle_137 : decode y_MU_settle.2.1 137 = .ok (.aload_n 0, 1) := dc9_42 (by decide +kernel)
theorem d_MU_settle_138 : decode y_MU_settle.2.1 138 = .ok (.getfield 34, 3) := dc9_180 (by decide +kernel)
theorem d_MU_settle_141 : decode y_MU_settle.2.1 141 = .ok (.invokevirtual 78, 3) := dc9_182 (by decide +kernel)
theorem d_MU_settle_144 : decode y_MU_settle.2.1 144 = .ok (.return_, 1) := dc9_177 (by decide +kernel)
theorem d_MU_settle_29 : decode y_MU_settle.2.1 29 = .ok (.invokevirtual 44, 3) := dc9_182 (by decide +kernel)
theorem d_MU_settle_32 : decode y_MU_settle.2.1 32 = .ok (.return_, 1) := dc9_177 (by decide +kernel)
theorem k_MU_settle {G : mG} {d : Nat} {a0 : Nat} {M : mM} {Q : mM → Prop} (hO : mOk M)
    (h : mK M a0 = 18 ∧ mK M (mR M a0 0) = 19 ∧ mK M (mR M (mR M a0 0) 0) = 20 ∧ Ci G y_MW_isZero d [vr (mR M (mR M a0 0) 0)] M (fun x5 M4 => i32 x5 ∧ mOk M4 ∧ (((x5 = 0) → (mK M4 a0 = 18 ∧ mK M4 (mR M4 a0 0) = 19 ∧ mK M4 (mR M4 a0 2) = 20 ∧ Cv G y_MW_copy d [vr (mR M4 a0 2), vr (mR M4 (mR M4 a0 0) 0)] M4 (fun M12 => mOk M12 ∧ (mK M12 a0 = 18 ∧ mK M12 (mR M12 a0 0) = 19 ∧ mK M12 (mR M12 a0 3) = 20 ∧ Cv G y_MW_copy d [vr (mR M12 a0 3), vr (mR M12 (mR M12 a0 0) 1)] M12 (fun M18 => mOk M18 ∧ (mK M18 a0 = 18 ∧ Cv G y_MU_common d [vr a0] M18 (fun M22 => mOk M22 ∧ (mK M22 a0 = 18 ∧ mK M22 (mR M22 a0 2) = 20 ∧ Ci G y_MW_isOne d [vr (mR M22 a0 2)] M22 (fun x28 M27 => i32 x28 ∧ mOk M27 ∧ (((x28 = 0) → (mK M27 a0 = 18 ∧ mK M27 (mR M27 a0 4) = 20 ∧ Cv G y_MW_copy d [vr (mR M27 a0 4), vr (mR M27 a0 2)] M27 (fun M36 => mOk M36 ∧ (mK M36 a0 = 18 ∧ mK M36 (mR M36 a0 0) = 19 ∧ Cv G y_MU_divide0 d [vr a0, vr (mR M36 (mR M36 a0 0) 0), vr (mR M36 a0 4)] M36 (fun M41 => mOk M41 ∧ (mK M41 a0 = 18 ∧ mK M41 (mR M41 a0 0) = 19 ∧ mK M41 (mR M41 (mR M41 a0 0) 0) = 20 ∧ Cv G y_MW_copy d [vr (mR M41 (mR M41 a0 0) 0), vr (mR M41 a0 5)] M41 (fun M47 => mOk M47 ∧ (mK M47 a0 = 18 ∧ mK M47 (mR M47 a0 0) = 19 ∧ Cv G y_MU_divide0 d [vr a0, vr (mR M47 (mR M47 a0 0) 1), vr (mR M47 a0 4)] M47 (fun M52 => mOk M52 ∧ (mK M52 a0 = 18 ∧ mK M52 (mR M52 a0 0) = 19 ∧ mK M52 (mR M52 (mR M52 a0 0) 1) = 20 ∧ Cv G y_MW_copy d [vr (mR M52 (mR M52 a0 0) 1), vr (mR M52 a0 5)] M52 (fun M58 => mOk M58 ∧ (Q M58)))))))))))) ∧ (¬ (x28 = 0) → (Q M27)))))))))))) ∧ (¬ (x5 = 0) → (mK M4 a0 = 18 ∧ mK M4 (mR M4 a0 0) = 19 ∧ ∀ M63, M63 = mUI M4 (mR M4 a0 0) 2 0 → mK M63 (mR M63 a0 0) = 19 ∧ mK M63 (mR M63 (mR M63 a0 0) 1) = 20 ∧ Cv G y_MW_set d [vr (mR M63 (mR M63 a0 0) 1), vl 1] M63 (fun M67 => mOk M67 ∧ (Q M67))))))) :
    Cv G y_MU_settle (d + 1) [vr a0] M Q := by
  refine wm_open (y := y_MU_settle) rfl (Nat.le_of_ble_eq_true rfl) (L := [vr a0]) rfl ?_
  obtain ⟨h1, h⟩ := h
  obtain ⟨h2, h⟩ := h
  obtain ⟨h3, h⟩ := h
  refine wm_aload_n d_MU_settle_0 rfl rfl ?_
  refine gf_MU_14 rfl d_MU_settle_1 h1 ?_
  refine gf_MU_81 rfl d_MU_settle_4 h2 ?_
  refine cf_MU_40 rfl d_MU_settle_7 h3 (Nat.le_of_ble_eq_true rfl) (Ci.mono h (fun x5 M4 h => ?_))
  obtain ⟨h6, hOM4, h⟩ := h
  refine wm_if_eq (tgt := 33) d_MU_settle_10 rfl h6 (fun c8 => ?_) (fun c8 => ?_)
  · replace h := h.1 c8
    obtain ⟨h9, h⟩ := h
    obtain ⟨h10, h⟩ := h
    obtain ⟨h11, h⟩ := h
    refine wm_aload_n d_MU_settle_33 rfl rfl ?_
    refine gf_MU_24 rfl d_MU_settle_34 h9 ?_
    refine wm_aload_n d_MU_settle_37 rfl rfl ?_
    refine gf_MU_14 rfl d_MU_settle_38 h9 ?_
    refine gf_MU_81 rfl d_MU_settle_41 h10 ?_
    refine cf_MU_78 rfl d_MU_settle_44 h11 (Nat.le_of_ble_eq_true rfl) (Cv.mono h (fun M12 h => ?_))
    obtain ⟨hOM12, h⟩ := h
    obtain ⟨h15, h⟩ := h
    obtain ⟨h16, h⟩ := h
    obtain ⟨h17, h⟩ := h
    refine wm_aload_n d_MU_settle_47 rfl rfl ?_
    refine gf_MU_28 rfl d_MU_settle_48 h15 ?_
    refine wm_aload_n d_MU_settle_51 rfl rfl ?_
    refine gf_MU_14 rfl d_MU_settle_52 h15 ?_
    refine gf_MU_88 rfl d_MU_settle_55 h16 ?_
    refine cf_MU_78 rfl d_MU_settle_58 h17 (Nat.le_of_ble_eq_true rfl) (Cv.mono h (fun M18 h => ?_))
    obtain ⟨hOM18, h⟩ := h
    obtain ⟨h21, h⟩ := h
    refine wm_aload_n d_MU_settle_61 rfl rfl ?_
    refine cf_MU_91 rfl d_MU_settle_62 h21 (Nat.le_of_ble_eq_true rfl) (Cv.mono h (fun M22 h => ?_))
    obtain ⟨hOM22, h⟩ := h
    obtain ⟨h25, h⟩ := h
    obtain ⟨h26, h⟩ := h
    refine wm_aload_n d_MU_settle_65 rfl rfl ?_
    refine gf_MU_24 rfl d_MU_settle_66 h25 ?_
    refine cf_MU_94 rfl d_MU_settle_69 h26 (Nat.le_of_ble_eq_true rfl) (Ci.mono h (fun x28 M27 h => ?_))
    obtain ⟨h29, hOM27, h⟩ := h
    refine wm_if_ne (tgt := 144) d_MU_settle_72 rfl h29 (fun c33 => ?_) (fun c33 => ?_)
    · replace h := h.2 c33
      refine wm_return d_MU_settle_144 rfl ?_
      exact ⟨rfl, h⟩
    · replace c33 := Classical.not_not.mp c33
      replace h := h.1 c33
      obtain ⟨h34, h⟩ := h
      obtain ⟨h35, h⟩ := h
      refine wm_aload_n d_MU_settle_75 rfl rfl ?_
      refine gf_MU_31 rfl d_MU_settle_76 h34 ?_
      refine wm_aload_n d_MU_settle_79 rfl rfl ?_
      refine gf_MU_24 rfl d_MU_settle_80 h34 ?_
      refine cf_MU_78 rfl d_MU_settle_83 h35 (Nat.le_of_ble_eq_true rfl) (Cv.mono h (fun M36 h => ?_))
      obtain ⟨hOM36, h⟩ := h
      obtain ⟨h39, h⟩ := h
      obtain ⟨h40, h⟩ := h
      refine wm_aload_n d_MU_settle_86 rfl rfl ?_
      refine wm_aload_n d_MU_settle_87 rfl rfl ?_
      refine gf_MU_14 rfl d_MU_settle_88 h39 ?_
      refine gf_MU_81 rfl d_MU_settle_91 h40 ?_
      refine wm_aload_n d_MU_settle_94 rfl rfl ?_
      refine gf_MU_31 rfl d_MU_settle_95 h39 ?_
      refine cf_MU_97 rfl d_MU_settle_98 h39 (Nat.le_of_ble_eq_true rfl) (Cv.mono h (fun M41 h => ?_))
      obtain ⟨hOM41, h⟩ := h
      obtain ⟨h44, h⟩ := h
      obtain ⟨h45, h⟩ := h
      obtain ⟨h46, h⟩ := h
      refine wm_aload_n d_MU_settle_101 rfl rfl ?_
      refine gf_MU_14 rfl d_MU_settle_102 h44 ?_
      refine gf_MU_81 rfl d_MU_settle_105 h45 ?_
      refine wm_aload_n d_MU_settle_108 rfl rfl ?_
      refine gf_MU_34 rfl d_MU_settle_109 h44 ?_
      refine cf_MU_78 rfl d_MU_settle_112 h46 (Nat.le_of_ble_eq_true rfl) (Cv.mono h (fun M47 h => ?_))
      obtain ⟨hOM47, h⟩ := h
      obtain ⟨h50, h⟩ := h
      obtain ⟨h51, h⟩ := h
      refine wm_aload_n d_MU_settle_115 rfl rfl ?_
      refine wm_aload_n d_MU_settle_116 rfl rfl ?_
      refine gf_MU_14 rfl d_MU_settle_117 h50 ?_
      refine gf_MU_88 rfl d_MU_settle_120 h51 ?_
      refine wm_aload_n d_MU_settle_123 rfl rfl ?_
      refine gf_MU_31 rfl d_MU_settle_124 h50 ?_
      refine cf_MU_97 rfl d_MU_settle_127 h50 (Nat.le_of_ble_eq_true rfl) (Cv.mono h (fun M52 h => ?_))
      obtain ⟨hOM52, h⟩ := h
      obtain ⟨h55, h⟩ := h
      obtain ⟨h56, h⟩ := h
      obtain ⟨h57, h⟩ := h
      refine wm_aload_n d_MU_settle_130 rfl rfl ?_
      refine gf_MU_14 rfl d_MU_settle_131 h55 ?_
      refine gf_MU_88 rfl d_MU_settle_134 h56 ?_
      refine wm_aload_n d_MU_settle_137 rfl rfl ?_
      refine gf_MU_34 rfl d_MU_settle_138 h55 ?_
      refine cf_MU_78 rfl d_MU_settle_141 h57 (Nat.le_of_ble_eq_true rfl) (Cv.mono h (fun M58 h => ?_))
      obtain ⟨hOM58, h⟩ := h
      refine wm_return d_MU_settle_144 rfl ?_
      exact ⟨rfl, h⟩
  · replace h := h.2 c8
    obtain ⟨h61, h⟩ := h
    obtain ⟨h62, h⟩ := h
    obtain ⟨M63, e64⟩ : ∃ M63, M63 = mUI M4 (mR M4 a0 0) 2 0 := ⟨_, rfl⟩
    replace h := h M63 e64
    obtain ⟨h65, h⟩ := h
    obtain ⟨h66, h⟩ := h
    refine wm_aload_n d_MU_settle_13 rfl rfl ?_
    refine gf_MU_14 rfl d_MU_settle_14 h61 ?_
    refine wm_iconst d_MU_settle_17 ?_
    have hOM63 : mOk M63 := by rw [e64]; exact mOk_UI hOM4 (m_b32 (by decide))
    refine pf_MU_84 rfl d_MU_settle_18 h62 (by decide) e64 ?_
    refine wm_aload_n d_MU_settle_21 rfl rfl ?_
    refine gf_MU_14 rfl d_MU_settle_22 (by rw [e64]; exact h61) ?_
    refine gf_MU_88 rfl d_MU_settle_25 h65 ?_
    refine wm_lconst (x := 1) d_MU_settle_28 rfl ?_
    refine cf_MU_44 rfl d_MU_settle_29 h66 (Nat.le_of_ble_eq_true rfl) (Cv.mono h (fun M67 h => ?_))
    obtain ⟨hOM67, h⟩ := h
    refine wm_return d_MU_settle_32 rfl ?_
    exact ⟨rfl, h⟩
theorem d_MU_add_0 : decode y_MU_add.2.1 0 = .ok (.aload_n 2, 1) := dc9_44 (by decide +kernel)
theorem d_MU_add_1 : decode y_MU_add.2.1 1 = .ok (.getfield 84, 3) := dc9_180 (by decide +kernel)
theorem d_MU_add_4 : decode y_MU_add.2.1 4 = .ok (.iload_n 3, 1) := dc9_29 (by decide +kernel)
theorem d_MU_add_5 : decode y_MU_add.2.1 5 = .ok (.if_icmp .eq 7, 3) := dc9_159 (by decide +kernel)
theorem d_MU_add_12 : decode y_MU_add.2.1 12 = .ok (.iconst 0, 1) := dc9_3 (by decide +kernel)
theorem d_MU_add_8 : decode y_MU_add.2.1 8 = .ok (.iconst 1, 1) := dc9_4 (by decide +kernel)
theorem d_MU_add_9 : decode y_MU_add.2.1 9 = .ok (.goto 4, 3) := dc9_167 (by decide +kernel)
theorem d_MU_add_13 : decode y_MU_add.2.1 13 = .ok (.istore 4, 2) := dc9_54 (by decide +kernel)
theorem d_MU_add_15 : decode y_MU_add.2.1 15 = .ok (.aload_n 0, 1) := dc9_42 (by decide +kernel)
theorem d_MU_add_16 : decode y_MU_add.2.1 16 = .ok (.getfield 24, 3) := dc9_180 (by decide +kernel)
theorem d_MU_add_19 : decode y_MU_add.2.1 19 = .ok (.aload_n 1, 1) := dc9_43 (by decide +kernel)
theorem d_MU_add_20 : decode y_MU_add.2.1 20 = .ok (.getfield 81, 3) := dc9_180 (by decide +kernel)
theorem d_MU_add_23 : decode y_MU_add.2.1 23 = .ok (.aload_n 2, 1) := dc9_44 (by decide +kernel)
theorem d_MU_add_24 : decode y_MU_add.2.1 24 = .ok (.getfield 88, 3) := dc9_180 (by decide +kernel)
theorem d_MU_add_27 : decode y_MU_add.2.1 27 = .ok (.invokevirtual 101, 3) := dc9_182 (by decide +kernel)
theorem d_MU_add_30 : decode y_MU_add.2.1 30 = .ok (.aload_n 0, 1) := dc9_42 (by decide +kernel)
theorem d_MU_add_31 : decode y_MU_add.2.1 31 = .ok (.getfield 28, 3) := dc9_180 (by decide +kernel)
theorem d_MU_add_34 : decode y_MU_add.2.1 34 = .ok (.aload_n 2, 1) := dc9_44 (by decide +kernel)
theorem d_MU_add_35 : decode y_MU_add.2.1 35 = .ok (.getfield 81, 3) := dc9_180 (by decide +kernel)
theorem d_MU_add_38 : decode y_MU_add.2.1 38 = .ok (.aload_n 1, 1) := dc9_43 (by decide +kernel)
theorem d_MU_add_39 : decode y_MU_add.2.1 39 = .ok (.getfield 88, 3) := dc9_180 (by decide +kernel)
theorem d_MU_add_42 : decode y_MU_add.2.1 42 = .ok (.invokevirtual 101, 3) := dc9_182 (by decide +kernel)
theorem d_MU_add_45 : decode y_MU_add.2.1 45 = .ok (.aload_n 0, 1) := dc9_42 (by decide +kernel)
theorem d_MU_add_46 : decode y_MU_add.2.1 46 = .ok (.getfield 31, 3) := dc9_180 (by decide +kernel)
theorem d_MU_add_49 : decode y_MU_add.2.1 49 = .ok (.aload_n 1, 1) := dc9_43 (by decide +kernel)
theorem d_MU_add_50 : decode y_MU_add.2.1 50 = .ok (.getfield 88, 3) := dc9_180 (by decide +kernel)
theorem d_MU_add_53 : decode y_MU_add.2.1 53 = .ok (.aload_n 2, 1) := dc9_44 (by decide +kernel)
theorem d_MU_add_54 : decode y_MU_add.2.1 54 = .ok (.getfield 88, 3) := dc9_180 (by decide +kernel)
theorem d_MU_add_57 : decode y_MU_add.2.1 57 = .ok (.invokevirtual 101, 3) := dc9_182 (by decide +kernel)
theorem d_MU_add_60 : decode y_MU_add.2.1 60 = .ok (.aload_n 1, 1) := dc9_43 (by decide +kernel)
theorem d_MU_add_61 : decode y_MU_add.2.1 61 = .ok (.getfield 84, 3) := dc9_180 (by decide +kernel)
theorem d_MU_add_64 : decode y_MU_add.2.1 64 = .ok (.iload 4, 2) := dc9_21 (by decide +kernel)
theorem d_MU_add_66 : decode y_MU_add.2.1 66 = .ok (.if_icmp .ne 28, 3) := dc9_160 (by decide +kernel)
theorem d_MU_add_69 : decode y_MU_add.2.1 69 = .ok (.aload_n 0, 1) := dc9_42 (by decide +kernel)
theorem d_MU_add_70 : decode y_MU_add.2.1 70 = .ok (.getfield 24, 3) := dc9_180 (by decide +kernel)
theorem d_MU_add_73 : decode y_MU_add.2.1 73 = .ok (.aload_n 0, 1) := dc9_42 (by decide +kernel)
theorem d_MU_add_74 : decode y_MU_add.2.1 74 = .ok (.getfield 28, 3) := dc9_180 (by decide +kernel)
theorem d_MU_add_94 : decode y_MU_add.2.1 94 = .ok (.aload_n 0, 1) := dc9_42 (by decide +kernel)
theorem d_MU_add_95 : decode y_MU_add.2.1 95 = .ok (.getfield 24, 3) := dc9_180 (by decide +kernel)
theorem d_MU_add_98 : decode y_MU_add.2.1 98 = .ok (.aload_n 0, 1) := dc9_42 (by decide +kernel)
theorem d_MU_add_99 : decode y_MU_add.2.1 99 = .ok (.getfield 28, 3) := dc9_180 (by decide +kernel)
theorem d_MU_add_77 : decode y_MU_add.2.1 77 = .ok (.invokevirtual 104, 3) := dc9_182 (by decide +kernel)
theorem d_MU_add_80 : decode y_MU_add.2.1 80 = .ok (.aload_n 0, 1) := dc9_42 (by decide +kernel)
theorem d_MU_add_81 : decode y_MU_add.2.1 81 = .ok (.getfield 14, 3) := dc9_180 (by decide +kernel)
theorem d_MU_add_84 : decode y_MU_add.2.1 84 = .ok (.aload_n 1, 1) := dc9_43 (by decide +kernel)
theorem d_MU_add_85 : decode y_MU_add.2.1 85 = .ok (.getfield 84, 3) := dc9_180 (by decide +kernel)
theorem d_MU_add_88 : decode y_MU_add.2.1 88 = .ok (.putfield 84, 3) := dc9_181 (by decide +kernel)
theorem d_MU_add_91 : decode y_MU_add.2.1 91 = .ok (.goto 73, 3) := dc9_167 (by decide +kernel)
theorem d_MU_add_102 : decode y_MU_add.2.1 102 = .ok (.invokevirtual 64, 3) := dc9_182 (by decide +kernel)
theorem d_MU_add_105 : decode y_MU_add.2.1 105 = .ok (.ifCond .lt 28, 3) := dc9_155 (by decide +kernel)
theorem d_MU_add_133 : decode y_MU_add.2.1 133 = .ok (.aload_n 0, 1) := dc9_42 (by decide +kernel)
theorem d_MU_add_134 : decode y_MU_add.2.1 134 = .ok (.getfield 28, 3) := dc9_180 (by decide +kernel)
theorem d_MU_add_137 : decode y_MU_add.2.1 137 = .ok (.aload_n 0, 1) := dc9_42 (by decide +kernel)
theorem d_MU_add_138 : decode y_MU_add.2.1 138 = .ok (.getfield 24, 3) := dc9_180 (by decide +kernel)
theorem d_MU_add_108 : decode y_MU_add.2.1 108 = .ok (.aload_n 0, 1) := dc9_42 (by decide +kernel)
theorem d_MU_add_109 : decode y_MU_add.2.1 109 = .ok (.getfield 24, 3) := dc9_180 (by decide +kernel)
theorem d_MU_add_112 : decode y_MU_add.2.1 112 = .ok (.aload_n 0, 1) := dc9_42 (by decide +kernel)
theorem d_MU_add_113 : decode y_MU_add.2.1 113 = .ok (.getfield 28, 3) := dc9_180 (by decide +kernel)
theorem d_MU_add_141 : decode y_MU_add.2.1 141 = .ok (.invokevirtual 68, 3) := dc9_182 (by decide +kernel)
theorem d_MU_add_144 : decode y_MU_add.2.1 144 = .ok (.aload_n 0, 1) := dc9_42 (by decide +kernel)
theorem d_MU_add_145 : decode y_MU_add.2.1 145 = .ok (.getfield 24, 3) := dc9_180 (by decide +kernel)
theorem d_MU_add_148 : decode y_MU_add.2.1 148 = .ok (.aload_n 0, 1) := dc9_42 (by decide +kernel)
theorem d_MU_add_149 : decode y_MU_add.2.1 149 = .ok (.getfield 28, 3) := dc9_180 (by decide +kernel)
theorem d_MU_add_152 : decode y_MU_add.2.1 152 = .ok (.invokevirtual 78, 3) := dc9_182 (by decide +kernel)
theorem d_MU_add_155 : decode y_MU_add.2.1 155 = .ok (.aload_n 0, 1) := dc9_42 (by decide +kernel)
theorem d_MU_add_156 : decode y_MU_add.2.1 156 = .ok (.getfield 14, 3) := dc9_180 (by decide +kernel)
theorem d_MU_add_159 : decode y_MU_add.2.1 159 = .ok (.iload 4, 2) := dc9_21 (by decide +kernel)
theorem d_MU_add_161 : decode y_MU_add.2.1 161 = .ok (.putfield 84, 3) := dc9_181 (by decide +kernel)
theorem d_MU_add_116 : decode y_MU_add.2.1 116 = .ok (.invokevirtual 68, 3) := dc9_182 (by decide +kernel)
theorem d_MU_add_119 : decode y_MU_add.2.1 119 = .ok (.aload_n 0, 1) := dc9_42 (by decide +kernel)
theorem d_MU_add_120 : decode y_MU_add.2.1 120 = .ok (.getfield 14, 3) := dc9_180 (by decide +kernel)
theorem d_MU_add_123 : decode y_MU_add.2.1 123 = .ok (.aload_n 1, 1) := dc9_43 (by decide +kernel)
theorem d_MU_add_124 : decode y_MU_add.2.1 124 = .ok (.getfield 84, 3) := dc9_180 (by decide +kernel)
theorem d_MU_add_127 : decode y_MU_add.2.1 127 = .ok (.putfield 84, 3) := dc9_181 (by decide +kernel)
theorem d_MU_add_130 : decode y_MU_add.2.1 130 = .ok (.goto 34, 3) := dc9_167 (by decide +kernel)
theorem d_MU_add_164 : decode y_MU_add.2.1 164 = .ok (.aload_n 0, 1) := dc9_42 (by decide +kernel)
theorem d_MU_add_165 : decode y_MU_add.2.1 165 = .ok (.getfield 14, 3) := dc9_180 (by decide +kernel)
theorem d_MU_add_168 : decode y_MU_add.2.1 168 = .ok (.getfield 88, 3) := dc9_180 (by decide +kernel)
theorem d_MU_add_171 : decode y_MU_add.2.1 171 = .ok (.aload_n 0, 1) := dc9_42 (by decide +kernel)
theorem d_MU_add_172 : decode y_MU_add.2.1 172 = .ok (.getfield 31, 3) := dc9_180 (by decide +kernel)
theorem d_MU_add_175 : decode y_MU_add.2.1 175 = .ok (.invokevirtual 78, 3) := dc9_182 (by decide +kernel)
theorem d_MU_add_178 : decode y_MU_add.2.1 178 = .ok (.aload_n 0, 1) := dc9_42 (by decide +kernel)
theorem d_MU_add_179 : decode y_MU_add.2.1 179 = .ok (.getfield 14, 3) := dc9_180 (by decide +kernel)
theorem d_MU_add_182 : decode y_MU_add.2.1 182 = .ok (.getfield 81, 3) := dc9_180 (by decide +kernel)
theorem d_MU_add_185 : decode y_MU_add.2.1 185 = .ok (.aload_n 0, 1) := dc9_42 (by decide +kernel)
theorem d_MU_add_186 : decode y_MU_add.2.1 186 = .ok (.getfield 24, 3) := dc9_180 (by decide +kernel)
theorem d_MU_add_189 : decode y_MU_add.2.1 189 = .ok (.invokevirtual 78, 3) := dc9_182 (by decide +kernel)
theorem d_MU_add_192 : decode y_MU_add.2.1 192 = .ok (.aload_n 0, 1) := dc9_42 (by decide +kernel)
theorem d_MU_add_193 : decode y_MU_add.2.1 193 = .ok (.invokevirtual 107, 3) := dc9_182 (by decide +kernel)
theorem d_MU_add_196 : decode y_MU_add.2.1 196 = .ok (.return_, 1) := dc9_177 (by decide +kernel)
def h_MU_add_164 (G : mG) (d : Nat) (a0 : Nat) (M : mM) (Q : mM → Prop) : Prop := mWm G y_MU_add (d + 1) 164 [vr a0, vd, vd, vd, vd] [] M (fun r9 M9 => r9 = none ∧ Q M9)
theorem k_MU_add {G : mG} {d : Nat} {a0 : Nat} {a1 : Nat} {a2 : Nat} {l3 : Int} {M : mM} {Q : mM → Prop} (hO : mOk M) (hi_l3 : i32 l3)
    (h : mK M a2 = 19 ∧ ∀ v3 : Int, v3 = (if (mI M a2 2 = l3) then 0 else 1) → mK M a0 = 18 ∧ mK M a1 = 19 ∧ mK M (mR M a0 2) = 20 ∧ Cv G y_MW_product d [vr (mR M a0 2), vr (mR M a1 0), vr (mR M a2 1)] M (fun M11 => mOk M11 ∧ (mK M11 a0 = 18 ∧ mK M11 a2 = 19 ∧ mK M11 a1 = 19 ∧ mK M11 (mR M11 a0 3) = 20 ∧ Cv G y_MW_product d [vr (mR M11 a0 3), vr (mR M11 a2 0), vr (mR M11 a1 1)] M11 (fun M18 => mOk M18 ∧ (mK M18 a0 = 18 ∧ mK M18 a1 = 19 ∧ mK M18 a2 = 19 ∧ mK M18 (mR M18 a0 4) = 20 ∧ Cv G y_MW_product d [vr (mR M18 a0 4), vr (mR M18 a1 1), vr (mR M18 a2 1)] M18 (fun M25 => mOk M25 ∧ (mK M25 a1 = 19 ∧ ((mI M25 a1 2 = v3) → (mK M25 a0 = 18 ∧ mK M25 (mR M25 a0 2) = 20 ∧ Cv G y_MW_add d [vr (mR M25 a0 2), vr (mR M25 a0 3)] M25 (fun M33 => mOk M33 ∧ (mK M33 a0 = 18 ∧ mK M33 a1 = 19 ∧ mK M33 (mR M33 a0 0) = 19 ∧ ((mI M33 a1 2) = 0 ∨ (mI M33 a1 2) = 1) ∧ ∀ M40, M40 = mUI M33 (mR M33 a0 0) 2 (mI M33 a1 2) → h_MU_add_164 G d a0 M40 Q)))) ∧ (¬ (mI M25 a1 2 = v3) → (mK M25 a0 = 18 ∧ mK M25 (mR M25 a0 2) = 20 ∧ Ci G y_MW_compare d [vr (mR M25 a0 2), vr (mR M25 a0 3)] M25 (fun x45 M44 => i32 x45 ∧ mOk M44 ∧ (((x45 < 0) → (mK M44 a0 = 18 ∧ mK M44 (mR M44 a0 3) = 20 ∧ Cv G y_MW_less d [vr (mR M44 a0 3), vr (mR M44 a0 2)] M44 (fun M51 => mOk M51 ∧ (mK M51 a0 = 18 ∧ mK M51 (mR M51 a0 2) = 20 ∧ Cv G y_MW_copy d [vr (mR M51 a0 2), vr (mR M51 a0 3)] M51 (fun M56 => mOk M56 ∧ (mK M56 a0 = 18 ∧ mK M56 (mR M56 a0 0) = 19 ∧ ∀ M61, M61 = mUI M56 (mR M56 a0 0) 2 v3 → h_MU_add_164 G d a0 M61 Q)))))) ∧ (¬ (x45 < 0) → (mK M44 a0 = 18 ∧ mK M44 (mR M44 a0 2) = 20 ∧ Cv G y_MW_less d [vr (mR M44 a0 2), vr (mR M44 a0 3)] M44 (fun M65 => mOk M65 ∧ (mK M65 a0 = 18 ∧ mK M65 a1 = 19 ∧ mK M65 (mR M65 a0 0) = 19 ∧ ((mI M65 a1 2) = 0 ∨ (mI M65 a1 2) = 1) ∧ ∀ M72, M72 = mUI M65 (mR M65 a0 0) 2 (mI M65 a1 2) → h_MU_add_164 G d a0 M72 Q))))))))))))))) :
    Cv G y_MU_add (d + 1) [vr a0, vr a1, vr a2, vi l3] M Q := by
  refine wm_open (y := y_MU_add) rfl (Nat.le_of_ble_eq_true rfl) (L := [vr a0, vr a1, vr a2, vi l3, vd]) rfl ?_
  obtain ⟨h1, h⟩ := h
  refine wm_aload_n d_MU_add_0 rfl rfl ?_
  refine gf_MU_84 rfl d_MU_add_1 h1 ?_
  refine wm_iload_n d_MU_add_4 rfl rfl ?_
  have hJ : ∀ v3 : Int, v3 = (if (mI M a2 2 = l3) then 0 else 1) → mWm G y_MU_add (d + 1) 13 [vr a0, vr a1, vr a2, vd, vd] [vi v3] M (fun r9 M9 => r9 = none ∧ Q M9) := by
    intro v3 e5
    have h := h v3 e5
    have h6 : i32 v3 := by rw [e5]; (repeat' split) <;> first | exact ⟨by decide, by decide⟩ | exact ⟨by decide, by decide⟩
    have h7 : (v3 = 0 ∨ v3 = 1) := by rw [e5]; (repeat' split) <;> decide
    obtain ⟨h8, h⟩ := h
    obtain ⟨h9, h⟩ := h
    obtain ⟨h10, h⟩ := h
    refine wm_istore d_MU_add_13 (by decide) (L' := [vr a0, vr a1, vr a2, vd, vi v3]) rfl ?_
    refine wm_aload_n d_MU_add_15 rfl rfl ?_
    refine gf_MU_24 rfl d_MU_add_16 h8 ?_
    refine wm_aload_n d_MU_add_19 rfl rfl ?_
    refine gf_MU_81 rfl d_MU_add_20 h9 ?_
    refine wm_aload_n d_MU_add_23 rfl rfl ?_
    refine gf_MU_88 rfl d_MU_add_24 h1 ?_
    refine cf_MU_101 rfl d_MU_add_27 h10 (Nat.le_of_ble_eq_true rfl) (Cv.mono h (fun M11 h => ?_))
    obtain ⟨hOM11, h⟩ := h
    obtain ⟨h14, h⟩ := h
    obtain ⟨h15, h⟩ := h
    obtain ⟨h16, h⟩ := h
    obtain ⟨h17, h⟩ := h
    refine wm_aload_n d_MU_add_30 rfl rfl ?_
    refine gf_MU_28 rfl d_MU_add_31 h14 ?_
    refine wm_aload_n d_MU_add_34 rfl rfl ?_
    refine gf_MU_81 rfl d_MU_add_35 h15 ?_
    refine wm_aload_n d_MU_add_38 rfl rfl ?_
    refine gf_MU_88 rfl d_MU_add_39 h16 ?_
    refine cf_MU_101 rfl d_MU_add_42 h17 (Nat.le_of_ble_eq_true rfl) (Cv.mono h (fun M18 h => ?_))
    obtain ⟨hOM18, h⟩ := h
    obtain ⟨h21, h⟩ := h
    obtain ⟨h22, h⟩ := h
    obtain ⟨h23, h⟩ := h
    obtain ⟨h24, h⟩ := h
    refine wm_aload_n d_MU_add_45 rfl rfl ?_
    refine gf_MU_31 rfl d_MU_add_46 h21 ?_
    refine wm_aload_n d_MU_add_49 rfl rfl ?_
    refine gf_MU_88 rfl d_MU_add_50 h22 ?_
    refine wm_aload_n d_MU_add_53 rfl rfl ?_
    refine gf_MU_88 rfl d_MU_add_54 h23 ?_
    refine cf_MU_101 rfl d_MU_add_57 h24 (Nat.le_of_ble_eq_true rfl) (Cv.mono h (fun M25 h => ?_))
    obtain ⟨hOM25, h⟩ := h
    obtain ⟨h28, h⟩ := h
    refine wm_aload_n d_MU_add_60 rfl rfl ?_
    refine gf_MU_84 rfl d_MU_add_61 h28 ?_
    refine wm_iload d_MU_add_64 rfl ?_
    refine wm_icmp_ne (tgt := 94) d_MU_add_66 rfl (hOM25 _ _).1 h6 (fun c30 => ?_) (fun c30 => ?_)
    · replace h := h.2 c30
      obtain ⟨h42, h⟩ := h
      obtain ⟨h43, h⟩ := h
      refine wm_aload_n d_MU_add_94 rfl rfl ?_
      refine gf_MU_24 rfl d_MU_add_95 h42 ?_
      refine wm_aload_n d_MU_add_98 rfl rfl ?_
      refine gf_MU_28 rfl d_MU_add_99 h42 ?_
      refine cf_MU_64 rfl d_MU_add_102 h43 (Nat.le_of_ble_eq_true rfl) (Ci.mono h (fun x45 M44 h => ?_))
      obtain ⟨h46, hOM44, h⟩ := h
      refine wm_if_lt (tgt := 133) d_MU_add_105 rfl h46 (fun c48 => ?_) (fun c48 => ?_)
      · replace h := h.1 c48
        obtain ⟨h49, h⟩ := h
        obtain ⟨h50, h⟩ := h
        refine wm_aload_n d_MU_add_133 rfl rfl ?_
        refine gf_MU_28 rfl d_MU_add_134 h49 ?_
        refine wm_aload_n d_MU_add_137 rfl rfl ?_
        refine gf_MU_24 rfl d_MU_add_138 h49 ?_
        refine cf_MU_68 rfl d_MU_add_141 h50 (Nat.le_of_ble_eq_true rfl) (Cv.mono h (fun M51 h => ?_))
        obtain ⟨hOM51, h⟩ := h
        obtain ⟨h54, h⟩ := h
        obtain ⟨h55, h⟩ := h
        refine wm_aload_n d_MU_add_144 rfl rfl ?_
        refine gf_MU_24 rfl d_MU_add_145 h54 ?_
        refine wm_aload_n d_MU_add_148 rfl rfl ?_
        refine gf_MU_28 rfl d_MU_add_149 h54 ?_
        refine cf_MU_78 rfl d_MU_add_152 h55 (Nat.le_of_ble_eq_true rfl) (Cv.mono h (fun M56 h => ?_))
        obtain ⟨hOM56, h⟩ := h
        obtain ⟨h59, h⟩ := h
        obtain ⟨h60, h⟩ := h
        obtain ⟨M61, e62⟩ : ∃ M61, M61 = mUI M56 (mR M56 a0 0) 2 v3 := ⟨_, rfl⟩
        replace h := h M61 e62
        refine wm_aload_n d_MU_add_155 rfl rfl ?_
        refine gf_MU_14 rfl d_MU_add_156 h59 ?_
        refine wm_iload d_MU_add_159 rfl ?_
        have hOM61 : mOk M61 := by rw [e62]; exact mOk_UI hOM56 (m_b32 h7)
        refine pf_MU_84 rfl d_MU_add_161 h60 h7 e62 ?_
        refine wm_less (L' := [vr a0, vd, vd, vd, vd]) ⟨Or.inr rfl, Or.inl rfl, Or.inl rfl, Or.inl rfl, Or.inl rfl, trivial⟩ ?_
        exact h
      · replace h := h.2 c48
        obtain ⟨h63, h⟩ := h
        obtain ⟨h64, h⟩ := h
        refine wm_aload_n d_MU_add_108 rfl rfl ?_
        refine gf_MU_24 rfl d_MU_add_109 h63 ?_
        refine wm_aload_n d_MU_add_112 rfl rfl ?_
        refine gf_MU_28 rfl d_MU_add_113 h63 ?_
        refine cf_MU_68 rfl d_MU_add_116 h64 (Nat.le_of_ble_eq_true rfl) (Cv.mono h (fun M65 h => ?_))
        obtain ⟨hOM65, h⟩ := h
        obtain ⟨h68, h⟩ := h
        obtain ⟨h69, h⟩ := h
        obtain ⟨h70, h⟩ := h
        obtain ⟨h71, h⟩ := h
        obtain ⟨M72, e73⟩ : ∃ M72, M72 = mUI M65 (mR M65 a0 0) 2 (mI M65 a1 2) := ⟨_, rfl⟩
        replace h := h M72 e73
        refine wm_aload_n d_MU_add_119 rfl rfl ?_
        refine gf_MU_14 rfl d_MU_add_120 h68 ?_
        refine wm_aload_n d_MU_add_123 rfl rfl ?_
        refine gf_MU_84 rfl d_MU_add_124 h69 ?_
        have hOM72 : mOk M72 := by rw [e73]; exact mOk_UI hOM65 (m_b32 h71)
        refine pf_MU_84 rfl d_MU_add_127 h70 h71 e73 ?_
        refine wm_goto (tgt := 164) d_MU_add_130 rfl ?_
        refine wm_less (L' := [vr a0, vd, vd, vd, vd]) ⟨Or.inr rfl, Or.inl rfl, Or.inl rfl, Or.inl rfl, Or.inl rfl, trivial⟩ ?_
        exact h
    · replace c30 := Classical.not_not.mp c30
      replace h := h.1 c30
      obtain ⟨h31, h⟩ := h
      obtain ⟨h32, h⟩ := h
      refine wm_aload_n d_MU_add_69 rfl rfl ?_
      refine gf_MU_24 rfl d_MU_add_70 h31 ?_
      refine wm_aload_n d_MU_add_73 rfl rfl ?_
      refine gf_MU_28 rfl d_MU_add_74 h31 ?_
      refine cf_MU_104 rfl d_MU_add_77 h32 (Nat.le_of_ble_eq_true rfl) (Cv.mono h (fun M33 h => ?_))
      obtain ⟨hOM33, h⟩ := h
      obtain ⟨h36, h⟩ := h
      obtain ⟨h37, h⟩ := h
      obtain ⟨h38, h⟩ := h
      obtain ⟨h39, h⟩ := h
      obtain ⟨M40, e41⟩ : ∃ M40, M40 = mUI M33 (mR M33 a0 0) 2 (mI M33 a1 2) := ⟨_, rfl⟩
      replace h := h M40 e41
      refine wm_aload_n d_MU_add_80 rfl rfl ?_
      refine gf_MU_14 rfl d_MU_add_81 h36 ?_
      refine wm_aload_n d_MU_add_84 rfl rfl ?_
      refine gf_MU_84 rfl d_MU_add_85 h37 ?_
      have hOM40 : mOk M40 := by rw [e41]; exact mOk_UI hOM33 (m_b32 h39)
      refine pf_MU_84 rfl d_MU_add_88 h38 h39 e41 ?_
      refine wm_goto (tgt := 164) d_MU_add_91 rfl ?_
      refine wm_less (L' := [vr a0, vd, vd, vd, vd]) ⟨Or.inr rfl, Or.inl rfl, Or.inl rfl, Or.inl rfl, Or.inl rfl, trivial⟩ ?_
      exact h
  clear h
  refine wm_icmp_eq (tgt := 12) d_MU_add_5 rfl (hO _ _).1 hi_l3 (fun c2 => ?_) (fun c2 => ?_)
  · refine wm_iconst d_MU_add_12 ?_
    refine wm_less (L' := [vr a0, vr a1, vr a2, vd, vd]) ⟨Or.inr rfl, Or.inr rfl, Or.inr rfl, Or.inl rfl, Or.inl rfl, trivial⟩ ?_
    exact hJ 0 (if_pos c2).symm
  · refine wm_iconst d_MU_add_8 ?_
    refine wm_goto (tgt := 13) d_MU_add_9 rfl ?_
    refine wm_less (L' := [vr a0, vr a1, vr a2, vd, vd]) ⟨Or.inr rfl, Or.inr rfl, Or.inr rfl, Or.inl rfl, Or.inl rfl, trivial⟩ ?_
    exact hJ 1 (if_neg c2).symm
theorem k_MU_add_164 {G : mG} {d : Nat} {a0 : Nat} {M : mM} {Q : mM → Prop} (hO : mOk M)
    (h : mK M a0 = 18 ∧ mK M (mR M a0 0) = 19 ∧ mK M (mR M (mR M a0 0) 1) = 20 ∧ Cv G y_MW_copy d [vr (mR M (mR M a0 0) 1), vr (mR M a0 4)] M (fun M78 => mOk M78 ∧ (mK M78 a0 = 18 ∧ mK M78 (mR M78 a0 0) = 19 ∧ mK M78 (mR M78 (mR M78 a0 0) 0) = 20 ∧ Cv G y_MW_copy d [vr (mR M78 (mR M78 a0 0) 0), vr (mR M78 a0 2)] M78 (fun M84 => mOk M84 ∧ (mK M84 a0 = 18 ∧ Cv G y_MU_settle d [vr a0] M84 (fun M88 => mOk M88 ∧ (Q M88))))))) :
    h_MU_add_164 G d a0 M Q := by
  unfold h_MU_add_164
  obtain ⟨h75, h⟩ := h
  obtain ⟨h76, h⟩ := h
  obtain ⟨h77, h⟩ := h
  refine wm_aload_n d_MU_add_164 rfl rfl ?_
  refine gf_MU_14 rfl d_MU_add_165 h75 ?_
  refine gf_MU_88 rfl d_MU_add_168 h76 ?_
  refine wm_aload_n d_MU_add_171 rfl rfl ?_
  refine gf_MU_31 rfl d_MU_add_172 h75 ?_
  refine cf_MU_78 rfl d_MU_add_175 h77 (Nat.le_of_ble_eq_true rfl) (Cv.mono h (fun M78 h => ?_))
  obtain ⟨hOM78, h⟩ := h
  obtain ⟨h81, h⟩ := h
  obtain ⟨h82, h⟩ := h
  obtain ⟨h83, h⟩ := h
  refine wm_aload_n d_MU_add_178 rfl rfl ?_
  refine gf_MU_14 rfl d_MU_add_179 h81 ?_
  refine gf_MU_81 rfl d_MU_add_182 h82 ?_
  refine wm_aload_n d_MU_add_185 rfl rfl ?_
  refine gf_MU_24 rfl d_MU_add_186 h81 ?_
  refine cf_MU_78 rfl d_MU_add_189 h83 (Nat.le_of_ble_eq_true rfl) (Cv.mono h (fun M84 h => ?_))
  obtain ⟨hOM84, h⟩ := h
  obtain ⟨h87, h⟩ := h
  refine wm_aload_n d_MU_add_192 rfl rfl ?_
  refine cf_MU_107 rfl d_MU_add_193 h87 (Nat.le_of_ble_eq_true rfl) (Cv.mono h (fun M88 h => ?_))
  obtain ⟨hOM88, h⟩ := h
  refine wm_return d_MU_add_196 rfl ?_
  exact ⟨rfl, h⟩
end
section
theorem d_MU_multiply_0 : decode y_MU_multiply.2.1 0 = .ok (.aload_n 0, 1) := dc9_42 (by decide +kernel)
theorem d_MU_multiply_1 : decode y_MU_multiply.2.1 1 = .ok (.getfield 24, 3) := dc9_180 (by decide +kernel)
theorem d_MU_multiply_4 : decode y_MU_multiply.2.1 4 = .ok (.aload_n 1, 1) := dc9_43 (by decide +kernel)
theorem d_MU_multiply_5 : decode y_MU_multiply.2.1 5 = .ok (.getfield 81, 3) := dc9_180 (by decide +kernel)
theorem d_MU_multiply_8 : decode y_MU_multiply.2.1 8 = .ok (.aload_n 2, 1) := dc9_44 (by decide +kernel)
theorem d_MU_multiply_9 : decode y_MU_multiply.2.1 9 = .ok (.getfield 81, 3) := dc9_180 (by decide +kernel)
theorem d_MU_multiply_12 : decode y_MU_multiply.2.1 12 = .ok (.invokevirtual 101, 3) := dc9_182 (by decide +kernel)
theorem d_MU_multiply_15 : decode y_MU_multiply.2.1 15 = .ok (.aload_n 0, 1) := dc9_42 (by decide +kernel)
theorem d_MU_multiply_16 : decode y_MU_multiply.2.1 16 = .ok (.getfield 28, 3) := dc9_180 (by decide +kernel)
theorem d_MU_multiply_19 : decode y_MU_multiply.2.1 19 = .ok (.aload_n 1, 1) := dc9_43 (by decide +kernel)
theorem d_MU_multiply_20 : decode y_MU_multiply.2.1 20 = .ok (.getfield 88, 3) := dc9_180 (by decide +kernel)
theorem d_MU_multiply_23 : decode y_MU_multiply.2.1 23 = .ok (.aload_n 2, 1) := dc9_44 (by decide +kernel)
theorem d_MU_multiply_24 : decode y_MU_multiply.2.1 24 = .ok (.getfield 88, 3) := dc9_180 (by decide +kernel)
theorem d_MU_multiply_27 : decode y_MU_multiply.2.1 27 = .ok (.invokevirtual 101, 3) := dc9_182 (by decide +kernel)
theorem d_MU_multiply_30 : decode y_MU_multiply.2.1 30 = .ok (.aload_n 0, 1) := dc9_42 (by decide +kernel)
theorem d_MU_multiply_31 : decode y_MU_multiply.2.1 31 = .ok (.getfield 14, 3) := dc9_180 (by decide +kernel)
theorem d_MU_multiply_34 : decode y_MU_multiply.2.1 34 = .ok (.aload_n 1, 1) := dc9_43 (by decide +kernel)
theorem d_MU_multiply_35 : decode y_MU_multiply.2.1 35 = .ok (.getfield 84, 3) := dc9_180 (by decide +kernel)
theorem d_MU_multiply_38 : decode y_MU_multiply.2.1 38 = .ok (.aload_n 2, 1) := dc9_44 (by decide +kernel)
theorem d_MU_multiply_39 : decode y_MU_multiply.2.1 39 = .ok (.getfield 84, 3) := dc9_180 (by decide +kernel)
theorem d_MU_multiply_42 : decode y_MU_multiply.2.1 42 = .ok (.if_icmp .eq 7, 3) := dc9_159 (by decide +kernel)
theorem d_MU_multiply_49 : decode y_MU_multiply.2.1 49 = .ok (.iconst 0, 1) := dc9_3 (by decide +kernel)
theorem d_MU_multiply_45 : decode y_MU_multiply.2.1 45 = .ok (.iconst 1, 1) := dc9_4 (by decide +kernel)
theorem d_MU_multiply_46 : decode y_MU_multiply.2.1 46 = .ok (.goto 4, 3) := dc9_167 (by decide +kernel)
theorem d_MU_multiply_50 : decode y_MU_multiply.2.1 50 = .ok (.putfield 84, 3) := dc9_181 (by decide +kernel)
theorem d_MU_multiply_53 : decode y_MU_multiply.2.1 53 = .ok (.aload_n 0, 1) := dc9_42 (by decide +kernel)
theorem d_MU_multiply_54 : decode y_MU_multiply.2.1 54 = .ok (.getfield 14, 3) := dc9_180 (by decide +kernel)
theorem d_MU_multiply_57 : decode y_MU_multiply.2.1 57 = .ok (.getfield 81, 3) := dc9_180 (by decide +kernel)
theorem d_MU_multiply_60 : decode y_MU_multiply.2.1 60 = .ok (.aload_n 0, 1) := dc9_42 (by decide +kernel)
theorem d_MU_multiply_61 : decode y_MU_multiply.2.1 61 = .ok (.getfield 24, 3) := dc9_180 (by decide +kernel)
theorem d_MU_multiply_64 : decode y_MU_multiply.2.1 64 = .ok (.invokevirtual 78, 3) := dc9_182 (by decide +kernel)
theorem d_MU_multiply_67 : decode y_MU_multiply.2.1 67 = .ok (.aload_n 0, 1) := dc9_42 (by decide +kernel)
theorem d_MU_multiply_68 : decode y_MU_multiply.2.1 68 = .ok (.getfield 14, 3) := dc9_180 (by decide +kernel)
theorem d_MU_multiply_71 : decode y_MU_multiply.2.1 71 = .ok (.getfield 88, 3) := dc9_180 (by decide +kernel)
theorem d_MU_multiply_74 : decode y_MU_multiply.2.1 74 = .ok (.aload_n 0, 1) := dc9_42 (by decide +kernel)
theorem d_MU_multiply_75 : decode y_MU_multiply.2.1 75 = .ok (.getfield 28, 3) := dc9_180 (by decide +kernel)
theorem d_MU_multiply_78 : decode y_MU_multiply.2.1 78 = .ok (.invokevirtual 78, 3) := dc9_182 (by decide +kernel)
theorem d_MU_multiply_81 : decode y_MU_multiply.2.1 81 = .ok (.aload_n 0, 1) := dc9_42 (by decide +kernel)
theorem d_MU_multiply_82 : decode y_MU_multiply.2.1 82 = .ok (.invokevirtual 107, 3) := dc9_182 (by decide +kernel)
theorem d_MU_multiply_85 : decode y_MU_multiply.2.1 85 = .ok (.return_, 1) := dc9_177 (by decide +kernel)
theorem k_MU_multiply {G : mG} {d : Nat} {a0 : Nat} {a1 : Nat} {a2 : Nat} {M : mM} {Q : mM → Prop} (hO : mOk M)
    (h : mK M a0 = 18 ∧ mK M a1 = 19 ∧ mK M a2 = 19 ∧ mK M (mR M a0 2) = 20 ∧ Cv G y_MW_product d [vr (mR M a0 2), vr (mR M a1 0), vr (mR M a2 0)] M (fun M5 => mOk M5 ∧ (mK M5 a0 = 18 ∧ mK M5 a1 = 19 ∧ mK M5 a2 = 19 ∧ mK M5 (mR M5 a0 3) = 20 ∧ Cv G y_MW_product d [vr (mR M5 a0 3), vr (mR M5 a1 1), vr (mR M5 a2 1)] M5 (fun M12 => mOk M12 ∧ (mK M12 a0 = 18 ∧ mK M12 a1 = 19 ∧ mK M12 a2 = 19 ∧ ∀ v19 : Int, v19 = (if (mI M12 a1 2 = mI M12 a2 2) then 0 else 1) → mK M12 (mR M12 a0 0) = 19 ∧ ∀ M25, M25 = mUI M12 (mR M12 a0 0) 2 v19 → mK M25 (mR M25 a0 0) = 19 ∧ mK M25 (mR M25 (mR M25 a0 0) 0) = 20 ∧ Cv G y_MW_copy d [vr (mR M25 (mR M25 a0 0) 0), vr (mR M25 a0 2)] M25 (fun M29 => mOk M29 ∧ (mK M29 a0 = 18 ∧ mK M29 (mR M29 a0 0) = 19 ∧ mK M29 (mR M29 (mR M29 a0 0) 1) = 20 ∧ Cv G y_MW_copy d [vr (mR M29 (mR M29 a0 0) 1), vr (mR M29 a0 3)] M29 (fun M35 => mOk M35 ∧ (mK M35 a0 = 18 ∧ Cv G y_MU_settle d [vr a0] M35 (fun M39 => mOk M39 ∧ (Q M39))))))))))) :
    Cv G y_MU_multiply (d + 1) [vr a0, vr a1, vr a2] M Q := by
  refine wm_open (y := y_MU_multiply) rfl (Nat.le_of_ble_eq_true rfl) (L := [vr a0, vr a1, vr a2]) rfl ?_
  obtain ⟨h1, h⟩ := h
  obtain ⟨h2, h⟩ := h
  obtain ⟨h3, h⟩ := h
  obtain ⟨h4, h⟩ := h
  refine wm_aload_n d_MU_multiply_0 rfl rfl ?_
  refine gf_MU_24 rfl d_MU_multiply_1 h1 ?_
  refine wm_aload_n d_MU_multiply_4 rfl rfl ?_
  refine gf_MU_81 rfl d_MU_multiply_5 h2 ?_
  refine wm_aload_n d_MU_multiply_8 rfl rfl ?_
  refine gf_MU_81 rfl d_MU_multiply_9 h3 ?_
  refine cf_MU_101 rfl d_MU_multiply_12 h4 (Nat.le_of_ble_eq_true rfl) (Cv.mono h (fun M5 h => ?_))
  obtain ⟨hOM5, h⟩ := h
  obtain ⟨h8, h⟩ := h
  obtain ⟨h9, h⟩ := h
  obtain ⟨h10, h⟩ := h
  obtain ⟨h11, h⟩ := h
  refine wm_aload_n d_MU_multiply_15 rfl rfl ?_
  refine gf_MU_28 rfl d_MU_multiply_16 h8 ?_
  refine wm_aload_n d_MU_multiply_19 rfl rfl ?_
  refine gf_MU_88 rfl d_MU_multiply_20 h9 ?_
  refine wm_aload_n d_MU_multiply_23 rfl rfl ?_
  refine gf_MU_88 rfl d_MU_multiply_24 h10 ?_
  refine cf_MU_101 rfl d_MU_multiply_27 h11 (Nat.le_of_ble_eq_true rfl) (Cv.mono h (fun M12 h => ?_))
  obtain ⟨hOM12, h⟩ := h
  obtain ⟨h15, h⟩ := h
  obtain ⟨h16, h⟩ := h
  obtain ⟨h17, h⟩ := h
  refine wm_aload_n d_MU_multiply_30 rfl rfl ?_
  refine gf_MU_14 rfl d_MU_multiply_31 h15 ?_
  refine wm_aload_n d_MU_multiply_34 rfl rfl ?_
  refine gf_MU_84 rfl d_MU_multiply_35 h16 ?_
  refine wm_aload_n d_MU_multiply_38 rfl rfl ?_
  refine gf_MU_84 rfl d_MU_multiply_39 h17 ?_
  have hJ : ∀ v19 : Int, v19 = (if (mI M12 a1 2 = mI M12 a2 2) then 0 else 1) → mWm G y_MU_multiply (d + 1) 50 [vr a0, vd, vd] [vi v19, vr (mR M12 a0 0)] M12 (fun r9 M9 => r9 = none ∧ Q M9) := by
    intro v19 e21
    have h := h v19 e21
    have h22 : i32 v19 := by rw [e21]; (repeat' split) <;> first | exact ⟨by decide, by decide⟩ | exact ⟨by decide, by decide⟩
    have h23 : (v19 = 0 ∨ v19 = 1) := by rw [e21]; (repeat' split) <;> decide
    obtain ⟨h24, h⟩ := h
    obtain ⟨M25, e26⟩ : ∃ M25, M25 = mUI M12 (mR M12 a0 0) 2 v19 := ⟨_, rfl⟩
    replace h := h M25 e26
    obtain ⟨h27, h⟩ := h
    obtain ⟨h28, h⟩ := h
    have hOM25 : mOk M25 := by rw [e26]; exact mOk_UI hOM12 (m_b32 h23)
    refine pf_MU_84 rfl d_MU_multiply_50 h24 h23 e26 ?_
    refine wm_aload_n d_MU_multiply_53 rfl rfl ?_
    refine gf_MU_14 rfl d_MU_multiply_54 (by rw [e26]; exact h15) ?_
    refine gf_MU_81 rfl d_MU_multiply_57 h27 ?_
    refine wm_aload_n d_MU_multiply_60 rfl rfl ?_
    refine gf_MU_24 rfl d_MU_multiply_61 (by rw [e26]; exact h15) ?_
    refine cf_MU_78 rfl d_MU_multiply_64 h28 (Nat.le_of_ble_eq_true rfl) (Cv.mono h (fun M29 h => ?_))
    obtain ⟨hOM29, h⟩ := h
    obtain ⟨h32, h⟩ := h
    obtain ⟨h33, h⟩ := h
    obtain ⟨h34, h⟩ := h
    refine wm_aload_n d_MU_multiply_67 rfl rfl ?_
    refine gf_MU_14 rfl d_MU_multiply_68 h32 ?_
    refine gf_MU_88 rfl d_MU_multiply_71 h33 ?_
    refine wm_aload_n d_MU_multiply_74 rfl rfl ?_
    refine gf_MU_28 rfl d_MU_multiply_75 h32 ?_
    refine cf_MU_78 rfl d_MU_multiply_78 h34 (Nat.le_of_ble_eq_true rfl) (Cv.mono h (fun M35 h => ?_))
    obtain ⟨hOM35, h⟩ := h
    obtain ⟨h38, h⟩ := h
    refine wm_aload_n d_MU_multiply_81 rfl rfl ?_
    refine cf_MU_107 rfl d_MU_multiply_82 h38 (Nat.le_of_ble_eq_true rfl) (Cv.mono h (fun M39 h => ?_))
    obtain ⟨hOM39, h⟩ := h
    refine wm_return d_MU_multiply_85 rfl ?_
    exact ⟨rfl, h⟩
  clear h
  refine wm_icmp_eq (tgt := 49) d_MU_multiply_42 rfl (hOM12 _ _).1 (hOM12 _ _).1 (fun c18 => ?_) (fun c18 => ?_)
  · refine wm_iconst d_MU_multiply_49 ?_
    refine wm_less (L' := [vr a0, vd, vd]) ⟨Or.inr rfl, Or.inl rfl, Or.inl rfl, trivial⟩ ?_
    exact hJ 0 (if_pos c18).symm
  · refine wm_iconst d_MU_multiply_45 ?_
    refine wm_goto (tgt := 50) d_MU_multiply_46 rfl ?_
    refine wm_less (L' := [vr a0, vd, vd]) ⟨Or.inr rfl, Or.inl rfl, Or.inl rfl, trivial⟩ ?_
    exact hJ 1 (if_neg c18).symm
theorem d_MU_divide1_0 : decode y_MU_divide1.2.1 0 = .ok (.aload_n 0, 1) := dc9_42 (by decide +kernel)
theorem d_MU_divide1_1 : decode y_MU_divide1.2.1 1 = .ok (.getfield 24, 3) := dc9_180 (by decide +kernel)
theorem d_MU_divide1_4 : decode y_MU_divide1.2.1 4 = .ok (.aload_n 1, 1) := dc9_43 (by decide +kernel)
theorem d_MU_divide1_5 : decode y_MU_divide1.2.1 5 = .ok (.getfield 81, 3) := dc9_180 (by decide +kernel)
theorem d_MU_divide1_8 : decode y_MU_divide1.2.1 8 = .ok (.aload_n 2, 1) := dc9_44 (by decide +kernel)
theorem d_MU_divide1_9 : decode y_MU_divide1.2.1 9 = .ok (.getfield 88, 3) := dc9_180 (by decide +kernel)
theorem d_MU_divide1_12 : decode y_MU_divide1.2.1 12 = .ok (.invokevirtual 101, 3) := dc9_182 (by decide +kernel)
theorem d_MU_divide1_15 : decode y_MU_divide1.2.1 15 = .ok (.aload_n 0, 1) := dc9_42 (by decide +kernel)
theorem d_MU_divide1_16 : decode y_MU_divide1.2.1 16 = .ok (.getfield 28, 3) := dc9_180 (by decide +kernel)
theorem d_MU_divide1_19 : decode y_MU_divide1.2.1 19 = .ok (.aload_n 1, 1) := dc9_43 (by decide +kernel)
theorem d_MU_divide1_20 : decode y_MU_divide1.2.1 20 = .ok (.getfield 88, 3) := dc9_180 (by decide +kernel)
theorem d_MU_divide1_23 : decode y_MU_divide1.2.1 23 = .ok (.aload_n 2, 1) := dc9_44 (by decide +kernel)
theorem d_MU_divide1_24 : decode y_MU_divide1.2.1 24 = .ok (.getfield 81, 3) := dc9_180 (by decide +kernel)
theorem d_MU_divide1_27 : decode y_MU_divide1.2.1 27 = .ok (.invokevirtual 101, 3) := dc9_182 (by decide +kernel)
theorem d_MU_divide1_30 : decode y_MU_divide1.2.1 30 = .ok (.aload_n 0, 1) := dc9_42 (by decide +kernel)
theorem d_MU_divide1_31 : decode y_MU_divide1.2.1 31 = .ok (.getfield 14, 3) := dc9_180 (by decide +kernel)
theorem d_MU_divide1_34 : decode y_MU_divide1.2.1 34 = .ok (.aload_n 1, 1) := dc9_43 (by decide +kernel)
theorem d_MU_divide1_35 : decode y_MU_divide1.2.1 35 = .ok (.getfield 84, 3) := dc9_180 (by decide +kernel)
theorem d_MU_divide1_38 : decode y_MU_divide1.2.1 38 = .ok (.aload_n 2, 1) := dc9_44 (by decide +kernel)
theorem d_MU_divide1_39 : decode y_MU_divide1.2.1 39 = .ok (.getfield 84, 3) := dc9_180 (by decide +kernel)
theorem d_MU_divide1_42 : decode y_MU_divide1.2.1 42 = .ok (.if_icmp .eq 7, 3) := dc9_159 (by decide +kernel)
theorem d_MU_divide1_49 : decode y_MU_divide1.2.1 49 = .ok (.iconst 0, 1) := dc9_3 (by decide +kernel)
theorem d_MU_divide1_45 : decode y_MU_divide1.2.1 45 = .ok (.iconst 1, 1) := dc9_4 (by decide +kernel)
theorem d_MU_divide1_46 : decode y_MU_divide1.2.1 46 = .ok (.goto 4, 3) := dc9_167 (by decide +kernel)
theorem d_MU_divide1_50 : decode y_MU_divide1.2.1 50 = .ok (.putfield 84, 3) := dc9_181 (by decide +kernel)
theorem d_MU_divide1_53 : decode y_MU_divide1.2.1 53 = .ok (.aload_n 0, 1) := dc9_42 (by decide +kernel)
theorem d_MU_divide1_54 : decode y_MU_divide1.2.1 54 = .ok (.getfield 14, 3) := dc9_180 (by decide +kernel)
theorem d_MU_divide1_57 : decode y_MU_divide1.2.1 57 = .ok (.getfield 81, 3) := dc9_180 (by decide +kernel)
theorem d_MU_divide1_60 : decode y_MU_divide1.2.1 60 = .ok (.aload_n 0, 1) := dc9_42 (by decide +kernel)
theorem d_MU_divide1_61 : decode y_MU_divide1.2.1 61 = .ok (.getfield 24, 3) := dc9_180 (by decide +kernel)
theorem d_MU_divide1_64 : decode y_MU_divide1.2.1 64 = .ok (.invokevirtual 78, 3) := dc9_182 (by decide +kernel)
theorem d_MU_divide1_67 : decode y_MU_divide1.2.1 67 = .ok (.aload_n 0, 1) := dc9_42 (by decide +kernel)
theorem d_MU_divide1_68 : decode y_MU_divide1.2.1 68 = .ok (.getfield 14, 3) := dc9_180 (by decide +kernel)
theorem d_MU_divide1_71 : decode y_MU_divide1.2.1 71 = .ok (.getfield 88, 3) := dc9_180 (by decide +kernel)
theorem d_MU_divide1_74 : decode y_MU_divide1.2.1 74 = .ok (.aload_n 0, 1) := dc9_42 (by decide +kernel)
theorem d_MU_divide1_75 : decode y_MU_divide1.2.1 75 = .ok (.getfield 28, 3) := dc9_180 (by decide +kernel)
theorem d_MU_divide1_78 : decode y_MU_divide1.2.1 78 = .ok (.invokevirtual 78, 3) := dc9_182 (by decide +kernel)
theorem d_MU_divide1_81 : decode y_MU_divide1.2.1 81 = .ok (.aload_n 0, 1) := dc9_42 (by decide +kernel)
theorem d_MU_divide1_82 : decode y_MU_divide1.2.1 82 = .ok (.invokevirtual 107, 3) := dc9_182 (by decide +kernel)
theorem d_MU_divide1_85 : decode y_MU_divide1.2.1 85 = .ok (.return_, 1) := dc9_177 (by decide +kernel)
theorem k_MU_divide1 {G : mG} {d : Nat} {a0 : Nat} {a1 : Nat} {a2 : Nat} {M : mM} {Q : mM → Prop} (hO : mOk M)
    (h : mK M a0 = 18 ∧ mK M a1 = 19 ∧ mK M a2 = 19 ∧ mK M (mR M a0 2) = 20 ∧ Cv G y_MW_product d [vr (mR M a0 2), vr (mR M a1 0), vr (mR M a2 1)] M (fun M5 => mOk M5 ∧ (mK M5 a0 = 18 ∧ mK M5 a1 = 19 ∧ mK M5 a2 = 19 ∧ mK M5 (mR M5 a0 3) = 20 ∧ Cv G y_MW_product d [vr (mR M5 a0 3), vr (mR M5 a1 1), vr (mR M5 a2 0)] M5 (fun M12 => mOk M12 ∧ (mK M12 a0 = 18 ∧ mK M12 a1 = 19 ∧ mK M12 a2 = 19 ∧ ∀ v19 : Int, v19 = (if (mI M12 a1 2 = mI M12 a2 2) then 0 else 1) → mK M12 (mR M12 a0 0) = 19 ∧ ∀ M25, M25 = mUI M12 (mR M12 a0 0) 2 v19 → mK M25 (mR M25 a0 0) = 19 ∧ mK M25 (mR M25 (mR M25 a0 0) 0) = 20 ∧ Cv G y_MW_copy d [vr (mR M25 (mR M25 a0 0) 0), vr (mR M25 a0 2)] M25 (fun M29 => mOk M29 ∧ (mK M29 a0 = 18 ∧ mK M29 (mR M29 a0 0) = 19 ∧ mK M29 (mR M29 (mR M29 a0 0) 1) = 20 ∧ Cv G y_MW_copy d [vr (mR M29 (mR M29 a0 0) 1), vr (mR M29 a0 3)] M29 (fun M35 => mOk M35 ∧ (mK M35 a0 = 18 ∧ Cv G y_MU_settle d [vr a0] M35 (fun M39 => mOk M39 ∧ (Q M39))))))))))) :
    Cv G y_MU_divide1 (d + 1) [vr a0, vr a1, vr a2] M Q := by
  refine wm_open (y := y_MU_divide1) rfl (Nat.le_of_ble_eq_true rfl) (L := [vr a0, vr a1, vr a2]) rfl ?_
  obtain ⟨h1, h⟩ := h
  obtain ⟨h2, h⟩ := h
  obtain ⟨h3, h⟩ := h
  obtain ⟨h4, h⟩ := h
  refine wm_aload_n d_MU_divide1_0 rfl rfl ?_
  refine gf_MU_24 rfl d_MU_divide1_1 h1 ?_
  refine wm_aload_n d_MU_divide1_4 rfl rfl ?_
  refine gf_MU_81 rfl d_MU_divide1_5 h2 ?_
  refine wm_aload_n d_MU_divide1_8 rfl rfl ?_
  refine gf_MU_88 rfl d_MU_divide1_9 h3 ?_
  refine cf_MU_101 rfl d_MU_divide1_12 h4 (Nat.le_of_ble_eq_true rfl) (Cv.mono h (fun M5 h => ?_))
  obtain ⟨hOM5, h⟩ := h
  obtain ⟨h8, h⟩ := h
  obtain ⟨h9, h⟩ := h
  obtain ⟨h10, h⟩ := h
  obtain ⟨h11, h⟩ := h
  refine wm_aload_n d_MU_divide1_15 rfl rfl ?_
  refine gf_MU_28 rfl d_MU_divide1_16 h8 ?_
  refine wm_aload_n d_MU_divide1_19 rfl rfl ?_
  refine gf_MU_88 rfl d_MU_divide1_20 h9 ?_
  refine wm_aload_n d_MU_divide1_23 rfl rfl ?_
  refine gf_MU_81 rfl d_MU_divide1_24 h10 ?_
  refine cf_MU_101 rfl d_MU_divide1_27 h11 (Nat.le_of_ble_eq_true rfl) (Cv.mono h (fun M12 h => ?_))
  obtain ⟨hOM12, h⟩ := h
  obtain ⟨h15, h⟩ := h
  obtain ⟨h16, h⟩ := h
  obtain ⟨h17, h⟩ := h
  refine wm_aload_n d_MU_divide1_30 rfl rfl ?_
  refine gf_MU_14 rfl d_MU_divide1_31 h15 ?_
  refine wm_aload_n d_MU_divide1_34 rfl rfl ?_
  refine gf_MU_84 rfl d_MU_divide1_35 h16 ?_
  refine wm_aload_n d_MU_divide1_38 rfl rfl ?_
  refine gf_MU_84 rfl d_MU_divide1_39 h17 ?_
  have hJ : ∀ v19 : Int, v19 = (if (mI M12 a1 2 = mI M12 a2 2) then 0 else 1) → mWm G y_MU_divide1 (d + 1) 50 [vr a0, vd, vd] [vi v19, vr (mR M12 a0 0)] M12 (fun r9 M9 => r9 = none ∧ Q M9) := by
    intro v19 e21
    have h := h v19 e21
    have h22 : i32 v19 := by rw [e21]; (repeat' split) <;> first | exact ⟨by decide, by decide⟩ | exact ⟨by decide, by decide⟩
    have h23 : (v19 = 0 ∨ v19 = 1) := by rw [e21]; (repeat' split) <;> decide
    obtain ⟨h24, h⟩ := h
    obtain ⟨M25, e26⟩ : ∃ M25, M25 = mUI M12 (mR M12 a0 0) 2 v19 := ⟨_, rfl⟩
    replace h := h M25 e26
    obtain ⟨h27, h⟩ := h
    obtain ⟨h28, h⟩ := h
    have hOM25 : mOk M25 := by rw [e26]; exact mOk_UI hOM12 (m_b32 h23)
    refine pf_MU_84 rfl d_MU_divide1_50 h24 h23 e26 ?_
    refine wm_aload_n d_MU_divide1_53 rfl rfl ?_
    refine gf_MU_14 rfl d_MU_divide1_54 (by rw [e26]; exact h15) ?_
    refine gf_MU_81 rfl d_MU_divide1_57 h27 ?_
    refine wm_aload_n d_MU_divide1_60 rfl rfl ?_
    refine gf_MU_24 rfl d_MU_divide1_61 (by rw [e26]; exact h15) ?_
    refine cf_MU_78 rfl d_MU_divide1_64 h28 (Nat.le_of_ble_eq_true rfl) (Cv.mono h (fun M29 h => ?_))
    obtain ⟨hOM29, h⟩ := h
    obtain ⟨h32, h⟩ := h
    obtain ⟨h33, h⟩ := h
    obtain ⟨h34, h⟩ := h
    refine wm_aload_n d_MU_divide1_67 rfl rfl ?_
    refine gf_MU_14 rfl d_MU_divide1_68 h32 ?_
    refine gf_MU_88 rfl d_MU_divide1_71 h33 ?_
    refine wm_aload_n d_MU_divide1_74 rfl rfl ?_
    refine gf_MU_28 rfl d_MU_divide1_75 h32 ?_
    refine cf_MU_78 rfl d_MU_divide1_78 h34 (Nat.le_of_ble_eq_true rfl) (Cv.mono h (fun M35 h => ?_))
    obtain ⟨hOM35, h⟩ := h
    obtain ⟨h38, h⟩ := h
    refine wm_aload_n d_MU_divide1_81 rfl rfl ?_
    refine cf_MU_107 rfl d_MU_divide1_82 h38 (Nat.le_of_ble_eq_true rfl) (Cv.mono h (fun M39 h => ?_))
    obtain ⟨hOM39, h⟩ := h
    refine wm_return d_MU_divide1_85 rfl ?_
    exact ⟨rfl, h⟩
  clear h
  refine wm_icmp_eq (tgt := 49) d_MU_divide1_42 rfl (hOM12 _ _).1 (hOM12 _ _).1 (fun c18 => ?_) (fun c18 => ?_)
  · refine wm_iconst d_MU_divide1_49 ?_
    refine wm_less (L' := [vr a0, vd, vd]) ⟨Or.inr rfl, Or.inl rfl, Or.inl rfl, trivial⟩ ?_
    exact hJ 0 (if_pos c18).symm
  · refine wm_iconst d_MU_divide1_45 ?_
    refine wm_goto (tgt := 50) d_MU_divide1_46 rfl ?_
    refine wm_less (L' := [vr a0, vd, vd]) ⟨Or.inr rfl, Or.inl rfl, Or.inl rfl, trivial⟩ ?_
    exact hJ 1 (if_neg c18).symm
theorem d_MU_compare_0 : decode y_MU_compare.2.1 0 = .ok (.aload_n 0, 1) := dc9_42 (by decide +kernel)
theorem d_MU_compare_1 : decode y_MU_compare.2.1 1 = .ok (.getfield 24, 3) := dc9_180 (by decide +kernel)
theorem d_MU_compare_4 : decode y_MU_compare.2.1 4 = .ok (.aload_n 1, 1) := dc9_43 (by decide +kernel)
theorem d_MU_compare_5 : decode y_MU_compare.2.1 5 = .ok (.getfield 81, 3) := dc9_180 (by decide +kernel)
theorem d_MU_compare_8 : decode y_MU_compare.2.1 8 = .ok (.aload_n 2, 1) := dc9_44 (by decide +kernel)
theorem d_MU_compare_9 : decode y_MU_compare.2.1 9 = .ok (.getfield 88, 3) := dc9_180 (by decide +kernel)
theorem d_MU_compare_12 : decode y_MU_compare.2.1 12 = .ok (.invokevirtual 101, 3) := dc9_182 (by decide +kernel)
theorem d_MU_compare_15 : decode y_MU_compare.2.1 15 = .ok (.aload_n 0, 1) := dc9_42 (by decide +kernel)
theorem d_MU_compare_16 : decode y_MU_compare.2.1 16 = .ok (.getfield 28, 3) := dc9_180 (by decide +kernel)
theorem d_MU_compare_19 : decode y_MU_compare.2.1 19 = .ok (.aload_n 2, 1) := dc9_44 (by decide +kernel)
theorem d_MU_compare_20 : decode y_MU_compare.2.1 20 = .ok (.getfield 81, 3) := dc9_180 (by decide +kernel)
theorem d_MU_compare_23 : decode y_MU_compare.2.1 23 = .ok (.aload_n 1, 1) := dc9_43 (by decide +kernel)
theorem d_MU_compare_24 : decode y_MU_compare.2.1 24 = .ok (.getfield 88, 3) := dc9_180 (by decide +kernel)
theorem d_MU_compare_27 : decode y_MU_compare.2.1 27 = .ok (.invokevirtual 101, 3) := dc9_182 (by decide +kernel)
theorem d_MU_compare_30 : decode y_MU_compare.2.1 30 = .ok (.aload_n 0, 1) := dc9_42 (by decide +kernel)
theorem d_MU_compare_31 : decode y_MU_compare.2.1 31 = .ok (.getfield 24, 3) := dc9_180 (by decide +kernel)
theorem d_MU_compare_34 : decode y_MU_compare.2.1 34 = .ok (.aload_n 0, 1) := dc9_42 (by decide +kernel)
theorem d_MU_compare_35 : decode y_MU_compare.2.1 35 = .ok (.getfield 28, 3) := dc9_180 (by decide +kernel)
theorem d_MU_compare_38 : decode y_MU_compare.2.1 38 = .ok (.invokevirtual 64, 3) := dc9_182 (by decide +kernel)
theorem d_MU_compare_41 : decode y_MU_compare.2.1 41 = .ok (.ireturn, 1) := dc9_172 (by decide +kernel)
theorem k_MU_compare {G : mG} {d : Nat} {a0 : Nat} {a1 : Nat} {a2 : Nat} {M : mM} {Q : Int → mM → Prop} (hO : mOk M)
    (h : mK M a0 = 18 ∧ mK M a1 = 19 ∧ mK M a2 = 19 ∧ mK M (mR M a0 2) = 20 ∧ Cv G y_MW_product d [vr (mR M a0 2), vr (mR M a1 0), vr (mR M a2 1)] M (fun M5 => mOk M5 ∧ (mK M5 a0 = 18 ∧ mK M5 a2 = 19 ∧ mK M5 a1 = 19 ∧ mK M5 (mR M5 a0 3) = 20 ∧ Cv G y_MW_product d [vr (mR M5 a0 3), vr (mR M5 a2 0), vr (mR M5 a1 1)] M5 (fun M12 => mOk M12 ∧ (mK M12 a0 = 18 ∧ mK M12 (mR M12 a0 2) = 20 ∧ Ci G y_MW_compare d [vr (mR M12 a0 2), vr (mR M12 a0 3)] M12 (fun x18 M17 => i32 x18 ∧ mOk M17 ∧ (Q x18 M17))))))) :
    Ci G y_MU_compare (d + 1) [vr a0, vr a1, vr a2] M Q := by
  refine wm_open (y := y_MU_compare) rfl (Nat.le_of_ble_eq_true rfl) (L := [vr a0, vr a1, vr a2]) rfl ?_
  obtain ⟨h1, h⟩ := h
  obtain ⟨h2, h⟩ := h
  obtain ⟨h3, h⟩ := h
  obtain ⟨h4, h⟩ := h
  refine wm_aload_n d_MU_compare_0 rfl rfl ?_
  refine gf_MU_24 rfl d_MU_compare_1 h1 ?_
  refine wm_aload_n d_MU_compare_4 rfl rfl ?_
  refine gf_MU_81 rfl d_MU_compare_5 h2 ?_
  refine wm_aload_n d_MU_compare_8 rfl rfl ?_
  refine gf_MU_88 rfl d_MU_compare_9 h3 ?_
  refine cf_MU_101 rfl d_MU_compare_12 h4 (Nat.le_of_ble_eq_true rfl) (Cv.mono h (fun M5 h => ?_))
  obtain ⟨hOM5, h⟩ := h
  obtain ⟨h8, h⟩ := h
  obtain ⟨h9, h⟩ := h
  obtain ⟨h10, h⟩ := h
  obtain ⟨h11, h⟩ := h
  refine wm_aload_n d_MU_compare_15 rfl rfl ?_
  refine gf_MU_28 rfl d_MU_compare_16 h8 ?_
  refine wm_aload_n d_MU_compare_19 rfl rfl ?_
  refine gf_MU_81 rfl d_MU_compare_20 h9 ?_
  refine wm_aload_n d_MU_compare_23 rfl rfl ?_
  refine gf_MU_88 rfl d_MU_compare_24 h10 ?_
  refine cf_MU_101 rfl d_MU_compare_27 h11 (Nat.le_of_ble_eq_true rfl) (Cv.mono h (fun M12 h => ?_))
  obtain ⟨hOM12, h⟩ := h
  obtain ⟨h15, h⟩ := h
  obtain ⟨h16, h⟩ := h
  refine wm_aload_n d_MU_compare_30 rfl rfl ?_
  refine gf_MU_24 rfl d_MU_compare_31 h15 ?_
  refine wm_aload_n d_MU_compare_34 rfl rfl ?_
  refine gf_MU_28 rfl d_MU_compare_35 h15 ?_
  refine cf_MU_64 rfl d_MU_compare_38 h16 (Nat.le_of_ble_eq_true rfl) (Ci.mono h (fun x18 M17 h => ?_))
  obtain ⟨h19, hOM17, h⟩ := h
  refine wm_ireturn d_MU_compare_41 rfl rfl ?_
  exact ⟨_, rfl, h⟩
theorem d_MU_billionths_0 : decode y_MU_billionths.2.1 0 = .ok (.aload_n 0, 1) := dc9_42 (by decide +kernel)
theorem d_MU_billionths_1 : decode y_MU_billionths.2.1 1 = .ok (.getfield 28, 3) := dc9_180 (by decide +kernel)
theorem d_MU_billionths_4 : decode y_MU_billionths.2.1 4 = .ok (.ldc2_w 110, 3) := dc9_20 (by decide +kernel)
theorem d_MU_billionths_7 : decode y_MU_billionths.2.1 7 = .ok (.invokevirtual 44, 3) := dc9_182 (by decide +kernel)
theorem d_MU_billionths_10 : decode y_MU_billionths.2.1 10 = .ok (.aload_n 0, 1) := dc9_42 (by decide +kernel)
theorem d_MU_billionths_11 : decode y_MU_billionths.2.1 11 = .ok (.getfield 24, 3) := dc9_180 (by decide +kernel)
theorem d_MU_billionths_14 : decode y_MU_billionths.2.1 14 = .ok (.aload_n 1, 1) := dc9_43 (by decide +kernel)
theorem d_MU_billionths_15 : decode y_MU_billionths.2.1 15 = .ok (.getfield 81, 3) := dc9_180 (by decide +kernel)
theorem d_MU_billionths_18 : decode y_MU_billionths.2.1 18 = .ok (.aload_n 0, 1) := dc9_42 (by decide +kernel)
theorem d_MU_billionths_19 : decode y_MU_billionths.2.1 19 = .ok (.getfield 28, 3) := dc9_180 (by decide +kernel)
theorem d_MU_billionths_22 : decode y_MU_billionths.2.1 22 = .ok (.invokevirtual 101, 3) := dc9_182 (by decide +kernel)
theorem d_MU_billionths_25 : decode y_MU_billionths.2.1 25 = .ok (.aload_n 0, 1) := dc9_42 (by decide +kernel)
theorem d_MU_billionths_26 : decode y_MU_billionths.2.1 26 = .ok (.aload_n 0, 1) := dc9_42 (by decide +kernel)
theorem d_MU_billionths_27 : decode y_MU_billionths.2.1 27 = .ok (.getfield 24, 3) := dc9_180 (by decide +kernel)
theorem d_MU_billionths_30 : decode y_MU_billionths.2.1 30 = .ok (.aload_n 1, 1) := dc9_43 (by decide +kernel)
theorem d_MU_billionths_31 : decode y_MU_billionths.2.1 31 = .ok (.getfield 88, 3) := dc9_180 (by decide +kernel)
theorem d_MU_billionths_34 : decode y_MU_billionths.2.1 34 = .ok (.invokevirtual 97, 3) := dc9_182 (by decide +kernel)
theorem d_MU_billionths_37 : decode y_MU_billionths.2.1 37 = .ok (.lconst 0, 1) := dc9_9 (by decide +kernel)
theorem d_MU_billionths_38 : decode y_MU_billionths.2.1 38 = .ok (.lstore_n 2, 1) := dc9_65 (by decide +kernel)
theorem d_MU_billionths_39 : decode y_MU_billionths.2.1 39 = .ok (.aload_n 0, 1) := dc9_42 (by decide +kernel)
theorem d_MU_billionths_40 : decode y_MU_billionths.2.1 40 = .ok (.getfield 34, 3) := dc9_180 (by decide +kernel)
theorem d_MU_billionths_43 : decode y_MU_billionths.2.1 43 = .ok (.invokevirtual 52, 3) := dc9_182 (by decide +kernel)
theorem d_MU_billionths_46 : decode y_MU_billionths.2.1 46 = .ok (.iconst 1, 1) := dc9_4 (by decide +kernel)
theorem d_MU_billionths_47 : decode y_MU_billionths.2.1 47 = .ok (.isub, 1) := dc9_100 (by decide +kernel)
theorem d_MU_billionths_48 : decode y_MU_billionths.2.1 48 = .ok (.istore 4, 2) := dc9_54 (by decide +kernel)
theorem d_MU_billionths_50 : decode y_MU_billionths.2.1 50 = .ok (.iload 4, 2) := dc9_21 (by decide +kernel)
theorem d_MU_billionths_52 : decode y_MU_billionths.2.1 52 = .ok (.ifCond .lt 33, 3) := dc9_155 (by decide +kernel)
theorem d_MU_billionths_85 : decode y_MU_billionths.2.1 85 = .ok (.lload_n 2, 1) := dc9_32 (by decide +kernel)
theorem d_MU_billionths_86 : decode y_MU_billionths.2.1 86 = .ok (.l2i, 1) := dc9_136 (by decide +kernel)
theorem d_MU_billionths_87 : decode y_MU_billionths.2.1 87 = .ok (.ireturn, 1) := dc9_172 (by decide +kernel)
theorem d_MU_billionths_55 : decode y_MU_billionths.2.1 55 = .ok (.ldc2_w 112, 3) := dc9_20 (by decide +kernel)
theorem d_MU_billionths_58 : decode y_MU_billionths.2.1 58 = .ok (.lload_n 2, 1) := dc9_32 (by decide +kernel)
theorem d_MU_billionths_59 : decode y_MU_billionths.2.1 59 = .ok (.lmul, 1) := dc9_105 (by decide +kernel)
theorem d_MU_billionths_60 : decode y_MU_billionths.2.1 60 = .ok (.aload_n 0, 1) := dc9_42 (by decide +kernel)
theorem d_MU_billionths_61 : decode y_MU_billionths.2.1 61 = .ok (.getfield 34, 3) := dc9_180 (by decide +kernel)
theorem d_MU_billionths_64 : decode y_MU_billionths.2.1 64 = .ok (.iload 4, 2) := dc9_21 (by decide +kernel)
theorem d_MU_billionths_66 : decode y_MU_billionths.2.1 66 = .ok (.invokevirtual 56, 3) := dc9_182 (by decide +kernel)
theorem d_MU_billionths_69 : decode y_MU_billionths.2.1 69 = .ok (.ifCond .eq 7, 3) := dc9_153 (by decide +kernel)
theorem d_MU_billionths_76 : decode y_MU_billionths.2.1 76 = .ok (.lconst 0, 1) := dc9_9 (by decide +kernel)
theorem d_MU_billionths_72 : decode y_MU_billionths.2.1 72 = .ok (.lconst 1, 1) := dc9_10 (by decide +kernel)
theorem d_MU_billionths_73 : decode y_MU_billionths.2.1 73 = .ok (.goto 4, 3) := dc9_167 (by decide +kernel)
theorem d_MU_billionths_77 : decode y_MU_billionths.2.1 77 = .ok (.ladd, 1) := dc9_97 (by decide +kernel)
theorem d_MU_billionths_78 : decode y_MU_billionths.2.1 78 = .ok (.lstore_n 2, 1) := dc9_65 (by decide +kernel)
theorem d_MU_billionths_79 : decode y_MU_billionths.2.1 79 = .ok (.iinc 4 (-1), 3) := by decide +kernel
theorem d_MU_billionths_82 : decode y_MU_billionths.2.1 82 = .ok (.goto (-32), 3) := dc9_167 (by decide +kernel)
def h_MU_billionths_50 (G : mG) (d : Nat) (a0 : Nat) (j2 : Int) (l4 : Int) (M : mM) (Q : Int → mM → Prop) : Prop := mWm G y_MU_billionths (d + 1) 50 [vr a0, vd, vl j2, vd, vi l4] [] M (fun r9 M9 => ∃ x9, r9 = some (vi x9) ∧ Q x9 M9)
theorem k_MU_billionths {G : mG} {d : Nat} {a0 : Nat} {a1 : Nat} {M : mM} {Q : Int → mM → Prop} (hO : mOk M)
    (h : mK M a0 = 18 ∧ mK M (mR M a0 3) = 20 ∧ Cv G y_MW_set d [vr (mR M a0 3), vl 1000000000] M (fun M3 => mOk M3 ∧ (mK M3 a0 = 18 ∧ mK M3 a1 = 19 ∧ mK M3 (mR M3 a0 2) = 20 ∧ Cv G y_MW_product d [vr (mR M3 a0 2), vr (mR M3 a1 0), vr (mR M3 a0 3)] M3 (fun M9 => mOk M9 ∧ (mK M9 a0 = 18 ∧ mK M9 a1 = 19 ∧ Cv G y_MU_divide0 d [vr a0, vr (mR M9 a0 2), vr (mR M9 a1 1)] M9 (fun M14 => mOk M14 ∧ (mK M14 a0 = 18 ∧ mK M14 (mR M14 a0 5) = 20 ∧ Ci G y_MW_places d [vr (mR M14 a0 5)] M14 (fun x20 M19 => i32 x20 ∧ mOk M19 ∧ (h_MU_billionths_50 G d a0 0 (x20 - 1) M19 Q))))))))) :
    Ci G y_MU_billionths (d + 1) [vr a0, vr a1] M Q := by
  refine wm_open (y := y_MU_billionths) rfl (Nat.le_of_ble_eq_true rfl) (L := [vr a0, vr a1, vd, vd, vd]) rfl ?_
  obtain ⟨h1, h⟩ := h
  obtain ⟨h2, h⟩ := h
  refine wm_aload_n d_MU_billionths_0 rfl rfl ?_
  refine gf_MU_28 rfl d_MU_billionths_1 h1 ?_
  refine wm_ldc2 (x := 1000000000) d_MU_billionths_4 k13_236 (by decide) ?_
  refine cf_MU_44 rfl d_MU_billionths_7 h2 (Nat.le_of_ble_eq_true rfl) (Cv.mono h (fun M3 h => ?_))
  obtain ⟨hOM3, h⟩ := h
  obtain ⟨h6, h⟩ := h
  obtain ⟨h7, h⟩ := h
  obtain ⟨h8, h⟩ := h
  refine wm_aload_n d_MU_billionths_10 rfl rfl ?_
  refine gf_MU_24 rfl d_MU_billionths_11 h6 ?_
  refine wm_aload_n d_MU_billionths_14 rfl rfl ?_
  refine gf_MU_81 rfl d_MU_billionths_15 h7 ?_
  refine wm_aload_n d_MU_billionths_18 rfl rfl ?_
  refine gf_MU_28 rfl d_MU_billionths_19 h6 ?_
  refine cf_MU_101 rfl d_MU_billionths_22 h8 (Nat.le_of_ble_eq_true rfl) (Cv.mono h (fun M9 h => ?_))
  obtain ⟨hOM9, h⟩ := h
  obtain ⟨h12, h⟩ := h
  obtain ⟨h13, h⟩ := h
  refine wm_aload_n d_MU_billionths_25 rfl rfl ?_
  refine wm_aload_n d_MU_billionths_26 rfl rfl ?_
  refine gf_MU_24 rfl d_MU_billionths_27 h12 ?_
  refine wm_aload_n d_MU_billionths_30 rfl rfl ?_
  refine gf_MU_88 rfl d_MU_billionths_31 h13 ?_
  refine cf_MU_97 rfl d_MU_billionths_34 h12 (Nat.le_of_ble_eq_true rfl) (Cv.mono h (fun M14 h => ?_))
  obtain ⟨hOM14, h⟩ := h
  obtain ⟨h17, h⟩ := h
  obtain ⟨h18, h⟩ := h
  refine wm_lconst (x := 0) d_MU_billionths_37 rfl ?_
  refine wm_lstore_n d_MU_billionths_38 rfl (by decide) (L' := [vr a0, vr a1, vl 0, vd, vd]) rfl ?_
  refine wm_aload_n d_MU_billionths_39 rfl rfl ?_
  refine gf_MU_34 rfl d_MU_billionths_40 h17 ?_
  refine cf_MU_52 rfl d_MU_billionths_43 h18 (Nat.le_of_ble_eq_true rfl) (Ci.mono h (fun x20 M19 h => ?_))
  obtain ⟨h21, hOM19, h⟩ := h
  refine wm_iconst d_MU_billionths_46 ?_
  refine wm_isub d_MU_billionths_47 ?_
  refine wm_istore d_MU_billionths_48 (by decide) (L' := [vr a0, vr a1, vl 0, vd, vi (x20 - 1)]) rfl ?_
  refine wm_less (L' := [vr a0, vd, vl 0, vd, vi (x20 - 1)]) ⟨Or.inr rfl, Or.inl rfl, Or.inr rfl, Or.inl rfl, Or.inr rfl, trivial⟩ ?_
  exact h
theorem k_MU_billionths_50 {G : mG} {d : Nat} {a0 : Nat} {j2 : Int} {l4 : Int} {M : mM} {Q : Int → mM → Prop} (hO : mOk M) (hi_j2 : i64 j2) (hi_l4 : i32 l4)
    (h : ((l4 < 0) → (Q j2 M)) ∧ (¬ (l4 < 0) → (mK M a0 = 18 ∧ mK M (mR M a0 5) = 20 ∧ Ci G y_MW_bit d [vr (mR M a0 5), vi l4] M (fun x27 M26 => i32 x27 ∧ mOk M26 ∧ (∀ v30 : Int, v30 = (if (x27 = 0) then 0 else 1) → h_MU_billionths_50 G d a0 ((2 * j2) + v30) (l4 + (-1)) M26 Q))))) :
    h_MU_billionths_50 G d a0 j2 l4 M Q := by
  unfold h_MU_billionths_50
  refine wm_iload d_MU_billionths_50 rfl ?_
  refine wm_if_lt (tgt := 85) d_MU_billionths_52 rfl hi_l4 (fun c23 => ?_) (fun c23 => ?_)
  · replace h := h.1 c23
    refine wm_lload_n d_MU_billionths_85 rfl rfl ?_
    refine wm_l2i d_MU_billionths_86 ?_
    refine wm_ireturn d_MU_billionths_87 rfl rfl ?_
    exact ⟨_, rfl, h⟩
  · replace h := h.2 c23
    obtain ⟨h24, h⟩ := h
    obtain ⟨h25, h⟩ := h
    refine wm_ldc2 (x := 2) d_MU_billionths_55 k13_237 (by decide) ?_
    refine wm_lload_n d_MU_billionths_58 rfl rfl ?_
    refine wm_lmul d_MU_billionths_59 ?_
    refine wm_aload_n d_MU_billionths_60 rfl rfl ?_
    refine gf_MU_34 rfl d_MU_billionths_61 h24 ?_
    refine wm_iload d_MU_billionths_64 rfl ?_
    refine cf_MU_56 rfl d_MU_billionths_66 h25 (Nat.le_of_ble_eq_true rfl) (Ci.mono h (fun x27 M26 h => ?_))
    obtain ⟨h28, hOM26, h⟩ := h
    have hJ : ∀ v30 : Int, v30 = (if (x27 = 0) then 0 else 1) → mWm G y_MU_billionths (d + 1) 77 [vr a0, vd, vd, vd, vi l4] [vl v30, vl (2 * j2)] M26 (fun r9 M9 => ∃ x9, r9 = some (vi x9) ∧ Q x9 M9) := by
      intro v30 e32
      have h := h v30 e32
      have h33 : (v30 = 0 ∨ v30 = 1) := by rw [e32]; (repeat' split) <;> decide
      refine wm_ladd d_MU_billionths_77 ?_
      refine wm_lstore_n d_MU_billionths_78 rfl (by decide) (L' := [vr a0, vd, vl ((2 * j2) + v30), vd, vi l4]) rfl ?_
      refine wm_iinc d_MU_billionths_79 (by decide) rfl (L' := [vr a0, vd, vl ((2 * j2) + v30), vd, vi (l4 + (-1))]) rfl ?_
      refine wm_goto (tgt := 50) d_MU_billionths_82 rfl ?_
      exact h
    clear h
    refine wm_if_eq (tgt := 76) d_MU_billionths_69 rfl h28 (fun c29 => ?_) (fun c29 => ?_)
    · refine wm_lconst (x := 0) d_MU_billionths_76 rfl ?_
      refine wm_less (L' := [vr a0, vd, vd, vd, vi l4]) ⟨Or.inr rfl, Or.inl rfl, Or.inl rfl, Or.inl rfl, Or.inr rfl, trivial⟩ ?_
      exact hJ 0 (if_pos c29).symm
    · refine wm_lconst (x := 1) d_MU_billionths_72 rfl ?_
      refine wm_goto (tgt := 77) d_MU_billionths_73 rfl ?_
      refine wm_less (L' := [vr a0, vd, vd, vd, vi l4]) ⟨Or.inr rfl, Or.inl rfl, Or.inl rfl, Or.inl rfl, Or.inr rfl, trivial⟩ ?_
      exact hJ 1 (if_neg c29).symm
theorem d_MU_digits_0 : decode y_MU_digits.2.1 0 = .ok (.aload_n 0, 1) := dc9_42 (by decide +kernel)
theorem d_MU_digits_1 : decode y_MU_digits.2.1 1 = .ok (.getfield 24, 3) := dc9_180 (by decide +kernel)
theorem d_MU_digits_4 : decode y_MU_digits.2.1 4 = .ok (.aload_n 1, 1) := dc9_43 (by decide +kernel)
theorem d_MU_digits_5 : decode y_MU_digits.2.1 5 = .ok (.invokevirtual 78, 3) := dc9_182 (by decide +kernel)
theorem d_MU_digits_8 : decode y_MU_digits.2.1 8 = .ok (.iconst 0, 1) := dc9_3 (by decide +kernel)
theorem d_MU_digits_9 : decode y_MU_digits.2.1 9 = .ok (.istore_n 3, 1) := dc9_62 (by decide +kernel)
theorem d_MU_digits_10 : decode y_MU_digits.2.1 10 = .ok (.aload_n 2, 1) := dc9_44 (by decide +kernel)
theorem d_MU_digits_11 : decode y_MU_digits.2.1 11 = .ok (.iload_n 3, 1) := dc9_29 (by decide +kernel)
theorem d_MU_digits_12 : decode y_MU_digits.2.1 12 = .ok (.aload_n 0, 1) := dc9_42 (by decide +kernel)
theorem d_MU_digits_13 : decode y_MU_digits.2.1 13 = .ok (.getfield 24, 3) := dc9_180 (by decide +kernel)
theorem d_MU_digits_16 : decode y_MU_digits.2.1 16 = .ok (.invokevirtual 114, 3) := dc9_182 (by decide +kernel)
theorem d_MU_digits_19 : decode y_MU_digits.2.1 19 = .ok (.iastore, 1) := dc9_79 (by decide +kernel)
theorem d_MU_digits_20 : decode y_MU_digits.2.1 20 = .ok (.iinc 3 1, 3) := by decide +kernel
theorem d_MU_digits_23 : decode y_MU_digits.2.1 23 = .ok (.aload_n 0, 1) := dc9_42 (by decide +kernel)
theorem d_MU_digits_24 : decode y_MU_digits.2.1 24 = .ok (.getfield 24, 3) := dc9_180 (by decide +kernel)
theorem d_MU_digits_27 : decode y_MU_digits.2.1 27 = .ok (.invokevirtual 40, 3) := dc9_182 (by decide +kernel)
theorem d_MU_digits_30 : decode y_MU_digits.2.1 30 = .ok (.ifCond .eq (-20), 3) := dc9_153 (by decide +kernel)
theorem d_MU_digits_33 : decode y_MU_digits.2.1 33 = .ok (.iload_n 3, 1) := dc9_29 (by decide +kernel)
theorem d_MU_digits_34 : decode y_MU_digits.2.1 34 = .ok (.ireturn, 1) := dc9_172 (by decide +kernel)
def h_MU_digits_10 (G : mG) (d : Nat) (a0 : Nat) (a2 : Nat) (l3 : Int) (M : mM) (Q : Int → mM → Prop) : Prop := mWm G y_MU_digits (d + 1) 10 [vr a0, vd, vr a2, vi l3] [] M (fun r9 M9 => ∃ x9, r9 = some (vi x9) ∧ Q x9 M9)
theorem k_MU_digits {G : mG} {d : Nat} {a0 : Nat} {a1 : Nat} {a2 : Nat} {M : mM} {Q : Int → mM → Prop} (hO : mOk M)
    (h : mK M a0 = 18 ∧ mK M (mR M a0 2) = 20 ∧ Cv G y_MW_copy d [vr (mR M a0 2), vr a1] M (fun M3 => mOk M3 ∧ (h_MU_digits_10 G d a0 a2 0 M3 Q))) :
    Ci G y_MU_digits (d + 1) [vr a0, vr a1, vr a2] M Q := by
  refine wm_open (y := y_MU_digits) rfl (Nat.le_of_ble_eq_true rfl) (L := [vr a0, vr a1, vr a2, vd]) rfl ?_
  obtain ⟨h1, h⟩ := h
  obtain ⟨h2, h⟩ := h
  refine wm_aload_n d_MU_digits_0 rfl rfl ?_
  refine gf_MU_24 rfl d_MU_digits_1 h1 ?_
  refine wm_aload_n d_MU_digits_4 rfl rfl ?_
  refine cf_MU_78 rfl d_MU_digits_5 h2 (Nat.le_of_ble_eq_true rfl) (Cv.mono h (fun M3 h => ?_))
  obtain ⟨hOM3, h⟩ := h
  refine wm_iconst d_MU_digits_8 ?_
  refine wm_istore_n d_MU_digits_9 rfl (by decide) (L' := [vr a0, vr a1, vr a2, vi 0]) rfl ?_
  refine wm_less (L' := [vr a0, vd, vr a2, vi 0]) ⟨Or.inr rfl, Or.inl rfl, Or.inr rfl, Or.inr rfl, trivial⟩ ?_
  exact h
theorem k_MU_digits_10 {G : mG} {d : Nat} {a0 : Nat} {a2 : Nat} {l3 : Int} {M : mM} {Q : Int → mM → Prop} (hO : mOk M) (hi_l3 : i32 l3)
    (h : mK M a0 = 18 ∧ mK M (mR M a0 2) = 20 ∧ Ci G y_MW_tenth d [vr (mR M a0 2)] M (fun x9 M8 => i32 x9 ∧ mOk M8 ∧ (mK M8 a2 = 30 ∧ ((0 : Int) ≤ l3 ∧ l3 < (mN M8 a2 : Int)) ∧ ∀ M13, M13 = mUI M8 a2 (Int.toNat l3) x9 → mK M13 a0 = 18 ∧ mK M13 (mR M13 a0 2) = 20 ∧ Ci G y_MW_isZero d [vr (mR M13 a0 2)] M13 (fun x18 M17 => i32 x18 ∧ mOk M17 ∧ (((x18 = 0) → (h_MU_digits_10 G d a0 a2 (l3 + 1) M17 Q)) ∧ (¬ (x18 = 0) → (Q (l3 + 1) M17))))))) :
    h_MU_digits_10 G d a0 a2 l3 M Q := by
  unfold h_MU_digits_10
  obtain ⟨h6, h⟩ := h
  obtain ⟨h7, h⟩ := h
  refine wm_aload_n d_MU_digits_10 rfl rfl ?_
  refine wm_iload_n d_MU_digits_11 rfl rfl ?_
  refine wm_aload_n d_MU_digits_12 rfl rfl ?_
  refine gf_MU_24 rfl d_MU_digits_13 h6 ?_
  refine cf_MU_114 rfl d_MU_digits_16 h7 (Nat.le_of_ble_eq_true rfl) (Ci.mono h (fun x9 M8 h => ?_))
  obtain ⟨h10, hOM8, h⟩ := h
  obtain ⟨h11, h⟩ := h
  obtain ⟨h12, h⟩ := h
  obtain ⟨M13, e14⟩ : ∃ M13, M13 = mUI M8 a2 (Int.toNat l3) x9 := ⟨_, rfl⟩
  replace h := h M13 e14
  obtain ⟨h15, h⟩ := h
  obtain ⟨h16, h⟩ := h
  have hOM13 : mOk M13 := by rw [e14]; exact mOk_UI hOM8 h10
  refine wm_iastE d_MU_digits_19 h11 h12 h10 e14 ?_
  refine wm_iinc d_MU_digits_20 (by decide) rfl (L' := [vr a0, vd, vr a2, vi (l3 + 1)]) rfl ?_
  refine wm_aload_n d_MU_digits_23 rfl rfl ?_
  refine gf_MU_24 rfl d_MU_digits_24 h15 ?_
  refine cf_MU_40 rfl d_MU_digits_27 h16 (Nat.le_of_ble_eq_true rfl) (Ci.mono h (fun x18 M17 h => ?_))
  obtain ⟨h19, hOM17, h⟩ := h
  refine wm_if_eq (tgt := 10) d_MU_digits_30 rfl h19 (fun c21 => ?_) (fun c21 => ?_)
  · replace h := h.1 c21
    exact h
  · replace h := h.2 c21
    refine wm_iload_n d_MU_digits_33 rfl rfl ?_
    refine wm_ireturn d_MU_digits_34 rfl rfl ?_
    exact ⟨_, rfl, h⟩
theorem d_MW_init_0 : decode y_MW_init.2.1 0 = .ok (.aload_n 0, 1) := dc9_42 (by decide +kernel)
theorem d_MW_init_1 : decode y_MW_init.2.1 1 = .ok (.invokespecial 1, 3) := dc9_183 (by decide +kernel)
theorem d_MW_init_4 : decode y_MW_init.2.1 4 = .ok (.aload_n 0, 1) := dc9_42 (by decide +kernel)
theorem d_MW_init_5 : decode y_MW_init.2.1 5 = .ok (.iload_n 1, 1) := dc9_27 (by decide +kernel)
theorem d_MW_init_6 : decode y_MW_init.2.1 6 = .ok (.newarray .int, 2) := by decide +kernel
theorem d_MW_init_8 : decode y_MW_init.2.1 8 = .ok (.putfield 7, 3) := dc9_181 (by decide +kernel)
theorem d_MW_init_11 : decode y_MW_init.2.1 11 = .ok (.return_, 1) := dc9_177 (by decide +kernel)
theorem k_MW_init {G : mG} {d : Nat} {a0 : Nat} {l1 : Int} {M : mM} {Q : mM → Prop} (hO : mOk M) (hi_l1 : i32 l1)
    (h : 0 < a0 ∧ ((0 : Int) ≤ l1 ∧ l1 ≤ 16777216) ∧ ∀ M3, M3 = mNew M 30 (Int.toNat l1) (Int.toNat l1) → mK M3 a0 = 20 ∧ ∀ M6, M6 = mUR M3 a0 0 (mZ M) → Q M6) :
    Cv G y_MW_init (d + 1) [vr a0, vi l1] M Q := by
  refine wm_open (y := y_MW_init) rfl (Nat.le_of_ble_eq_true rfl) (L := [vr a0, vi l1]) rfl ?_
  obtain ⟨h1, h⟩ := h
  obtain ⟨h2, h⟩ := h
  obtain ⟨M3, e4⟩ : ∃ M3, M3 = mNew M 30 (Int.toNat l1) (Int.toNat l1) := ⟨_, rfl⟩
  replace h := h M3 e4
  obtain ⟨h5, h⟩ := h
  obtain ⟨M6, e7⟩ : ∃ M6, M6 = mUR M3 a0 0 (mZ M) := ⟨_, rfl⟩
  replace h := h M6 e7
  refine wm_aload_n d_MW_init_0 rfl rfl ?_
  refine wm_objInit trivial k9_168 kO_inst kO_code (Nat.le_of_ble_eq_true rfl) d_MW_init_1 h1 ?_
  refine wm_aload_n d_MW_init_4 rfl rfl ?_
  refine wm_iload_n d_MW_init_5 rfl rfl ?_
  have hOM3 : mOk M3 := by rw [e4]; exact mOk_New hO
  refine wm_newarrE 0 (atype := .int) (ty := .int) rfl rfl (fun _ => rfl) rfl rfl (by decide) k1_82 h2 d_MW_init_6 e4 ?_
  have hOM6 : mOk M6 := by rw [e7]; exact mOk_UR hOM3
  refine pf_MW_7 rfl rfl d_MW_init_8 h5 e7 ?_
  refine wm_return d_MW_init_11 rfl ?_
  exact ⟨rfl, h⟩
theorem d_MW_set_0 : decode y_MW_set.2.1 0 = .ok (.aload_n 0, 1) := dc9_42 (by decide +kernel)
theorem d_MW_set_1 : decode y_MW_set.2.1 1 = .ok (.iconst 0, 1) := dc9_3 (by decide +kernel)
theorem d_MW_set_2 : decode y_MW_set.2.1 2 = .ok (.putfield 13, 3) := dc9_181 (by decide +kernel)
theorem d_MW_set_5 : decode y_MW_set.2.1 5 = .ok (.lload_n 1, 1) := dc9_31 (by decide +kernel)
theorem d_MW_set_6 : decode y_MW_set.2.1 6 = .ok (.lstore_n 3, 1) := dc9_66 (by decide +kernel)
theorem d_MW_set_7 : decode y_MW_set.2.1 7 = .ok (.lload_n 3, 1) := dc9_33 (by decide +kernel)
theorem d_MW_set_8 : decode y_MW_set.2.1 8 = .ok (.lconst 0, 1) := dc9_9 (by decide +kernel)
theorem d_MW_set_9 : decode y_MW_set.2.1 9 = .ok (.lcmp, 1) := dc9_148 (by decide +kernel)
theorem d_MW_set_10 : decode y_MW_set.2.1 10 = .ok (.ifCond .le 36, 3) := dc9_158 (by decide +kernel)
theorem d_MW_set_46 : decode y_MW_set.2.1 46 = .ok (.return_, 1) := dc9_177 (by decide +kernel)
theorem d_MW_set_13 : decode y_MW_set.2.1 13 = .ok (.aload_n 0, 1) := dc9_42 (by decide +kernel)
theorem d_MW_set_14 : decode y_MW_set.2.1 14 = .ok (.getfield 7, 3) := dc9_180 (by decide +kernel)
theorem d_MW_set_17 : decode y_MW_set.2.1 17 = .ok (.aload_n 0, 1) := dc9_42 (by decide +kernel)
theorem d_MW_set_18 : decode y_MW_set.2.1 18 = .ok (.getfield 13, 3) := dc9_180 (by decide +kernel)
theorem d_MW_set_21 : decode y_MW_set.2.1 21 = .ok (.lload_n 3, 1) := dc9_33 (by decide +kernel)
theorem d_MW_set_22 : decode y_MW_set.2.1 22 = .ok (.ldc2_w 17, 3) := dc9_20 (by decide +kernel)
theorem d_MW_set_25 : decode y_MW_set.2.1 25 = .ok (.land, 1) := dc9_127 (by decide +kernel)
theorem d_MW_set_26 : decode y_MW_set.2.1 26 = .ok (.l2i, 1) := dc9_136 (by decide +kernel)
theorem d_MW_set_27 : decode y_MW_set.2.1 27 = .ok (.iastore, 1) := dc9_79 (by decide +kernel)
theorem d_MW_set_28 : decode y_MW_set.2.1 28 = .ok (.aload_n 0, 1) := dc9_42 (by decide +kernel)
theorem d_MW_set_29 : decode y_MW_set.2.1 29 = .ok (.dup, 1) := dc9_89 (by decide +kernel)
theorem d_MW_set_30 : decode y_MW_set.2.1 30 = .ok (.getfield 13, 3) := dc9_180 (by decide +kernel)
theorem d_MW_set_33 : decode y_MW_set.2.1 33 = .ok (.iconst 1, 1) := dc9_4 (by decide +kernel)
theorem d_MW_set_34 : decode y_MW_set.2.1 34 = .ok (.iadd, 1) := dc9_96 (by decide +kernel)
theorem d_MW_set_35 : decode y_MW_set.2.1 35 = .ok (.putfield 13, 3) := dc9_181 (by decide +kernel)
theorem d_MW_set_38 : decode y_MW_set.2.1 38 = .ok (.lload_n 3, 1) := dc9_33 (by decide +kernel)
theorem d_MW_set_39 : decode y_MW_set.2.1 39 = .ok (.bipush 24, 2) := dc9_16 (by decide +kernel)
theorem d_MW_set_41 : decode y_MW_set.2.1 41 = .ok (.lshr, 1) := dc9_123 (by decide +kernel)
theorem d_MW_set_42 : decode y_MW_set.2.1 42 = .ok (.lstore_n 3, 1) := dc9_66 (by decide +kernel)
theorem d_MW_set_43 : decode y_MW_set.2.1 43 = .ok (.goto (-36), 3) := dc9_167 (by decide +kernel)
def h_MW_set_7 (G : mG) (d : Nat) (a0 : Nat) (j3 : Int) (M : mM) (Q : mM → Prop) : Prop := mWm G y_MW_set d 7 [vr a0, vd, vd, vl j3, vd] [] M (fun r9 M9 => r9 = none ∧ Q M9)
theorem k_MW_set {G : mG} {d : Nat} {a0 : Nat} {j1 : Int} {M : mM} {Q : mM → Prop} (hO : mOk M) (hi_j1 : i64 j1)
    (h : mK M a0 = 20 ∧ ∀ M2, M2 = mUI M a0 1 0 → h_MW_set_7 G d a0 j1 M2 Q) :
    Cv G y_MW_set d [vr a0, vl j1] M Q := by
  refine wm_open (y := y_MW_set) rfl (Nat.le_of_ble_eq_true rfl) (L := [vr a0, vl j1, vd, vd, vd]) rfl ?_
  obtain ⟨h1, h⟩ := h
  obtain ⟨M2, e3⟩ : ∃ M2, M2 = mUI M a0 1 0 := ⟨_, rfl⟩
  replace h := h M2 e3
  refine wm_aload_n d_MW_set_0 rfl rfl ?_
  refine wm_iconst d_MW_set_1 ?_
  have hOM2 : mOk M2 := by rw [e3]; exact mOk_UI hO ⟨by decide, by decide⟩
  refine pf_MW_13 rfl d_MW_set_2 h1 ⟨by decide, by decide⟩ e3 ?_
  refine wm_lload_n d_MW_set_5 rfl rfl ?_
  refine wm_lstore_n d_MW_set_6 rfl (by decide) (L' := [vr a0, vl j1, vd, vl j1, vd]) rfl ?_
  refine wm_less (L' := [vr a0, vd, vd, vl j1, vd]) ⟨Or.inr rfl, Or.inl rfl, Or.inl rfl, Or.inr rfl, Or.inl rfl, trivial⟩ ?_
  exact h
theorem k_MW_set_7 {G : mG} {d : Nat} {a0 : Nat} {j3 : Int} {M : mM} {Q : mM → Prop} (hO : mOk M) (hi_j3 : i64 j3)
    (h : ((cmpL j3 0 ≤ 0) → (Q M)) ∧ (¬ (cmpL j3 0 ≤ 0) → (mK M a0 = 20 ∧ mK M (mR M a0 0) = 30 ∧ ((0 : Int) ≤ mI M a0 1 ∧ mI M a0 1 < (mN M (mR M a0 0) : Int)) ∧ i32 (andL j3 16777215) ∧ ∀ M10, M10 = mUI M (mR M a0 0) (Int.toNat (mI M a0 1)) (andL j3 16777215) → i32 ((mI M10 a0 1) + 1) ∧ ∀ M13, M13 = mUI M10 a0 1 ((mI M10 a0 1) + 1) → h_MW_set_7 G d a0 (shrL j3 24) M13 Q))) :
    h_MW_set_7 G d a0 j3 M Q := by
  unfold h_MW_set_7
  refine wm_lload_n d_MW_set_7 rfl rfl ?_
  refine wm_lconst (x := 0) d_MW_set_8 rfl ?_
  refine wm_lcmp d_MW_set_9 hi_j3 ⟨by decide, by decide⟩ ?_
  refine wm_if_le (tgt := 46) d_MW_set_10 rfl (m_cmp32 _ _) (fun c5 => ?_) (fun c5 => ?_)
  · replace h := h.1 c5
    refine wm_return d_MW_set_46 rfl ?_
    exact ⟨rfl, h⟩
  · replace h := h.2 c5
    obtain ⟨h6, h⟩ := h
    obtain ⟨h7, h⟩ := h
    obtain ⟨h8, h⟩ := h
    obtain ⟨h9, h⟩ := h
    obtain ⟨M10, e11⟩ : ∃ M10, M10 = mUI M (mR M a0 0) (Int.toNat (mI M a0 1)) (andL j3 16777215) := ⟨_, rfl⟩
    replace h := h M10 e11
    obtain ⟨h12, h⟩ := h
    obtain ⟨M13, e14⟩ : ∃ M13, M13 = mUI M10 a0 1 ((mI M10 a0 1) + 1) := ⟨_, rfl⟩
    replace h := h M13 e14
    refine wm_aload_n d_MW_set_13 rfl rfl ?_
    refine gf_MW_7 rfl d_MW_set_14 h6 ?_
    refine wm_aload_n d_MW_set_17 rfl rfl ?_
    refine gf_MW_13 rfl d_MW_set_18 h6 ?_
    refine wm_lload_n d_MW_set_21 rfl rfl ?_
    refine wm_ldc2 (x := 16777215) d_MW_set_22 k9_180 (by decide) ?_
    refine wm_land d_MW_set_25 ?_
    refine wm_l2i d_MW_set_26 ?_
    have hOM10 : mOk M10 := by rw [e11]; exact mOk_UI hO h9
    refine wm_iastE d_MW_set_27 h7 h8 h9 e11 ?_
    refine wm_aload_n d_MW_set_28 rfl rfl ?_
    refine wm_dup d_MW_set_29 rfl ?_
    refine gf_MW_13 rfl d_MW_set_30 (by rw [e11]; exact h6) ?_
    refine wm_iconst d_MW_set_33 ?_
    refine wm_iadd d_MW_set_34 ?_
    have hOM13 : mOk M13 := by rw [e14]; exact mOk_UI hOM10 h12
    refine pf_MW_13 rfl d_MW_set_35 (by rw [e11]; exact h6) h12 e14 ?_
    refine wm_lload_n d_MW_set_38 rfl rfl ?_
    refine wm_bipush d_MW_set_39 (by decide) ?_
    refine wm_lshr d_MW_set_41 ?_
    refine wm_lstore_n d_MW_set_42 rfl (by decide) (L' := [vr a0, vd, vd, vl (shrL j3 24), vd]) rfl ?_
    refine wm_goto (tgt := 7) d_MW_set_43 rfl ?_
    exact h
theorem d_MW_copy_0 : decode y_MW_copy.2.1 0 = .ok (.aload_n 0, 1) := dc9_42 (by decide +kernel)
theorem d_MW_copy_1 : decode y_MW_copy.2.1 1 = .ok (.aload_n 1, 1) := dc9_43 (by decide +kernel)
theorem d_MW_copy_2 : decode y_MW_copy.2.1 2 = .ok (.getfield 13, 3) := dc9_180 (by decide +kernel)
theorem d_MW_copy_5 : decode y_MW_copy.2.1 5 = .ok (.putfield 13, 3) := dc9_181 (by decide +kernel)
theorem d_MW_copy_8 : decode y_MW_copy.2.1 8 = .ok (.iconst 0, 1) := dc9_3 (by decide +kernel)
theorem d_MW_copy_9 : decode y_MW_copy.2.1 9 = .ok (.istore_n 2, 1) := dc9_61 (by decide +kernel)
theorem d_MW_copy_10 : decode y_MW_copy.2.1 10 = .ok (.iload_n 2, 1) := dc9_28 (by decide +kernel)
theorem d_MW_copy_11 : decode y_MW_copy.2.1 11 = .ok (.aload_n 0, 1) := dc9_42 (by decide +kernel)
theorem d_MW_copy_12 : decode y_MW_copy.2.1 12 = .ok (.getfield 13, 3) := dc9_180 (by decide +kernel)
theorem d_MW_copy_15 : decode y_MW_copy.2.1 15 = .ok (.if_icmp .ge 21, 3) := dc9_162 (by decide +kernel)
theorem d_MW_copy_36 : decode y_MW_copy.2.1 36 = .ok (.return_, 1) := dc9_177 (by decide +kernel)
theorem d_MW_copy_18 : decode y_MW_copy.2.1 18 = .ok (.aload_n 0, 1) := dc9_42 (by decide +kernel)
theorem d_MW_copy_19 : decode y_MW_copy.2.1 19 = .ok (.getfield 7, 3) := dc9_180 (by decide +kernel)
theorem d_MW_copy_22 : decode y_MW_copy.2.1 22 = .ok (.iload_n 2, 1) := dc9_28 (by decide +kernel)
theorem d_MW_copy_23 : decode y_MW_copy.2.1 23 = .ok (.aload_n 1, 1) := dc9_43 (by decide +kernel)
theorem d_MW_copy_24 : decode y_MW_copy.2.1 24 = .ok (.getfield 7, 3) := dc9_180 (by decide +kernel)
theorem d_MW_copy_27 : decode y_MW_copy.2.1 27 = .ok (.iload_n 2, 1) := dc9_28 (by decide +kernel)
theorem d_MW_copy_28 : decode y_MW_copy.2.1 28 = .ok (.iaload, 1) := dc9_46 (by decide +kernel)
theorem d_MW_copy_29 : decode y_MW_copy.2.1 29 = .ok (.iastore, 1) := dc9_79 (by decide +kernel)
theorem d_MW_copy_30 : decode y_MW_copy.2.1 30 = .ok (.iinc 2 1, 3) := by decide +kernel
theorem d_MW_copy_33 : decode y_MW_copy.2.1 33 = .ok (.goto (-23), 3) := dc9_167 (by decide +kernel)
def h_MW_copy_10 (G : mG) (d : Nat) (a0 : Nat) (a1 : Nat) (l2 : Int) (M : mM) (Q : mM → Prop) : Prop := mWm G y_MW_copy d 10 [vr a0, vr a1, vi l2] [] M (fun r9 M9 => r9 = none ∧ Q M9)
theorem k_MW_copy {G : mG} {d : Nat} {a0 : Nat} {a1 : Nat} {M : mM} {Q : mM → Prop} (hO : mOk M)
    (h : mK M a1 = 20 ∧ mK M a0 = 20 ∧ ∀ M3, M3 = mUI M a0 1 (mI M a1 1) → h_MW_copy_10 G d a0 a1 0 M3 Q) :
    Cv G y_MW_copy d [vr a0, vr a1] M Q := by
  refine wm_open (y := y_MW_copy) rfl (Nat.le_of_ble_eq_true rfl) (L := [vr a0, vr a1, vd]) rfl ?_
  obtain ⟨h1, h⟩ := h
  obtain ⟨h2, h⟩ := h
  obtain ⟨M3, e4⟩ : ∃ M3, M3 = mUI M a0 1 (mI M a1 1) := ⟨_, rfl⟩
  replace h := h M3 e4
  refine wm_aload_n d_MW_copy_0 rfl rfl ?_
  refine wm_aload_n d_MW_copy_1 rfl rfl ?_
  refine gf_MW_13 rfl d_MW_copy_2 h1 ?_
  have hOM3 : mOk M3 := by rw [e4]; exact mOk_UI hO (hO _ _).1
  refine pf_MW_13 rfl d_MW_copy_5 h2 (hO _ _).1 e4 ?_
  refine wm_iconst d_MW_copy_8 ?_
  refine wm_istore_n d_MW_copy_9 rfl (by decide) (L' := [vr a0, vr a1, vi 0]) rfl ?_
  exact h
theorem k_MW_copy_10 {G : mG} {d : Nat} {a0 : Nat} {a1 : Nat} {l2 : Int} {M : mM} {Q : mM → Prop} (hO : mOk M) (hi_l2 : i32 l2)
    (h : mK M a0 = 20 ∧ ((mI M a0 1 ≤ l2) → (Q M)) ∧ (¬ (mI M a0 1 ≤ l2) → (mK M a1 = 20 ∧ mK M (mR M a1 0) = 30 ∧ ((0 : Int) ≤ l2 ∧ l2 < (mN M (mR M a1 0) : Int)) ∧ mK M (mR M a0 0) = 30 ∧ ((0 : Int) ≤ l2 ∧ l2 < (mN M (mR M a0 0) : Int)) ∧ ∀ M18, M18 = mUI M (mR M a0 0) (Int.toNat l2) (mI M (mR M a1 0) (Int.toNat l2)) → h_MW_copy_10 G d a0 a1 (l2 + 1) M18 Q))) :
    h_MW_copy_10 G d a0 a1 l2 M Q := by
  unfold h_MW_copy_10
  obtain ⟨h5, h⟩ := h
  refine wm_iload_n d_MW_copy_10 rfl rfl ?_
  refine wm_aload_n d_MW_copy_11 rfl rfl ?_
  refine gf_MW_13 rfl d_MW_copy_12 h5 ?_
  refine wm_icmp_ge (tgt := 36) d_MW_copy_15 rfl hi_l2 (hO _ _).1 (fun c12 => ?_) (fun c12 => ?_)
  · replace h := h.1 c12
    refine wm_return d_MW_copy_36 rfl ?_
    exact ⟨rfl, h⟩
  · replace h := h.2 c12
    obtain ⟨h13, h⟩ := h
    obtain ⟨h14, h⟩ := h
    obtain ⟨h15, h⟩ := h
    obtain ⟨h16, h⟩ := h
    obtain ⟨h17, h⟩ := h
    obtain ⟨M18, e19⟩ : ∃ M18, M18 = mUI M (mR M a0 0) (Int.toNat l2) (mI M (mR M a1 0) (Int.toNat l2)) := ⟨_, rfl⟩
    replace h := h M18 e19
    refine wm_aload_n d_MW_copy_18 rfl rfl ?_
    refine gf_MW_7 rfl d_MW_copy_19 h5 ?_
    refine wm_iload_n d_MW_copy_22 rfl rfl ?_
    refine wm_aload_n d_MW_copy_23 rfl rfl ?_
    refine gf_MW_7 rfl d_MW_copy_24 h13 ?_
    refine wm_iload_n d_MW_copy_27 rfl rfl ?_
    refine wm_iald d_MW_copy_28 h14 h15 ?_
    have hOM18 : mOk M18 := by rw [e19]; exact mOk_UI hO (hO _ _).1
    refine wm_iastE d_MW_copy_29 h16 h17 (hO _ _).1 e19 ?_
    refine wm_iinc d_MW_copy_30 (by decide) rfl (L' := [vr a0, vr a1, vi (l2 + 1)]) rfl ?_
    refine wm_goto (tgt := 10) d_MW_copy_33 rfl ?_
    exact h
theorem d_MW_isZero_0 : decode y_MW_isZero.2.1 0 = .ok (.aload_n 0, 1) := dc9_42 (by decide +kernel)
theorem d_MW_isZero_1 : decode y_MW_isZero.2.1 1 = .ok (.getfield 13, 3) := dc9_180 (by decide +kernel)
theorem d_MW_isZero_4 : decode y_MW_isZero.2.1 4 = .ok (.ifCond .ne 7, 3) := dc9_154 (by decide +kernel)
theorem d_MW_isZero_7 : decode y_MW_isZero.2.1 7 = .ok (.iconst 1, 1) := dc9_4 (by decide +kernel)
theorem d_MW_isZero_8 : decode y_MW_isZero.2.1 8 = .ok (.goto 4, 3) := dc9_167 (by decide +kernel)
theorem d_MW_isZero_11 : decode y_MW_isZero.2.1 11 = .ok (.iconst 0, 1) := dc9_3 (by decide +kernel)
theorem d_MW_isZero_12 : decode y_MW_isZero.2.1 12 = .ok (.ireturn, 1) := dc9_172 (by decide +kernel)
theorem k_MW_isZero {G : mG} {d : Nat} {a0 : Nat} {M : mM} {Q : Int → mM → Prop} (hO : mOk M)
    (h : mK M a0 = 20 ∧ ∀ v3 : Int, v3 = (if (mI M a0 1 = 0) then 1 else 0) → Q v3 M) :
    Ci G y_MW_isZero d [vr a0] M Q := by
  refine wm_open (y := y_MW_isZero) rfl (Nat.le_of_ble_eq_true rfl) (L := [vr a0]) rfl ?_
  obtain ⟨h1, h⟩ := h
  refine wm_aload_n d_MW_isZero_0 rfl rfl ?_
  refine gf_MW_13 rfl d_MW_isZero_1 h1 ?_
  have hJ : ∀ v3 : Int, v3 = (if (mI M a0 1 = 0) then 1 else 0) → mWm G y_MW_isZero d 12 [vd] [vi v3] M (fun r9 M9 => ∃ x9, r9 = some (vi x9) ∧ Q x9 M9) := by
    intro v3 e5
    have h := h v3 e5
    have h6 : i32 v3 := by rw [e5]; (repeat' split) <;> first | exact ⟨by decide, by decide⟩ | exact ⟨by decide, by decide⟩
    have h7 : (v3 = 0 ∨ v3 = 1) := by rw [e5]; (repeat' split) <;> decide
    refine wm_ireturn d_MW_isZero_12 rfl (m_nb h7) ?_
    exact ⟨_, rfl, h⟩
  clear h
  refine wm_if_ne (tgt := 11) d_MW_isZero_4 rfl (hO _ _).1 (fun c2 => ?_) (fun c2 => ?_)
  · refine wm_iconst d_MW_isZero_11 ?_
    refine wm_less (L' := [vd]) ⟨Or.inl rfl, trivial⟩ ?_
    exact hJ 0 (if_neg c2).symm
  · replace c2 := Classical.not_not.mp c2
    refine wm_iconst d_MW_isZero_7 ?_
    refine wm_goto (tgt := 12) d_MW_isZero_8 rfl ?_
    refine wm_less (L' := [vd]) ⟨Or.inl rfl, trivial⟩ ?_
    exact hJ 1 (if_pos c2).symm
theorem d_MW_isOne_0 : decode y_MW_isOne.2.1 0 = .ok (.aload_n 0, 1) := dc9_42 (by decide +kernel)
theorem d_MW_isOne_1 : decode y_MW_isOne.2.1 1 = .ok (.getfield 13, 3) := dc9_180 (by decide +kernel)
theorem d_MW_isOne_4 : decode y_MW_isOne.2.1 4 = .ok (.iconst 1, 1) := dc9_4 (by decide +kernel)
theorem d_MW_isOne_5 : decode y_MW_isOne.2.1 5 = .ok (.if_icmp .ne 17, 3) := dc9_160 (by decide +kernel)
theorem d_MW_isOne_8 : decode y_MW_isOne.2.1 8 = .ok (.aload_n 0, 1) := dc9_42 (by decide +kernel)
theorem d_MW_isOne_9 : decode y_MW_isOne.2.1 9 = .ok (.getfield 7, 3) := dc9_180 (by decide +kernel)
theorem d_MW_isOne_12 : decode y_MW_isOne.2.1 12 = .ok (.iconst 0, 1) := dc9_3 (by decide +kernel)
theorem d_MW_isOne_13 : decode y_MW_isOne.2.1 13 = .ok (.iaload, 1) := dc9_46 (by decide +kernel)
theorem d_MW_isOne_14 : decode y_MW_isOne.2.1 14 = .ok (.iconst 1, 1) := dc9_4 (by decide +kernel)
theorem d_MW_isOne_15 : decode y_MW_isOne.2.1 15 = .ok (.if_icmp .ne 7, 3) := dc9_160 (by decide +kernel)
theorem d_MW_isOne_18 : decode y_MW_isOne.2.1 18 = .ok (.iconst 1, 1) := dc9_4 (by decide +kernel)
theorem d_MW_isOne_19 : decode y_MW_isOne.2.1 19 = .ok (.goto 4, 3) := dc9_167 (by decide +kernel)
theorem d_MW_isOne_22 : decode y_MW_isOne.2.1 22 = .ok (.iconst 0, 1) := dc9_3 (by decide +kernel)
theorem d_MW_isOne_23 : decode y_MW_isOne.2.1 23 = .ok (.ireturn, 1) := dc9_172 (by decide +kernel)
theorem k_MW_isOne {G : mG} {d : Nat} {a0 : Nat} {M : mM} {Q : Int → mM → Prop} (hO : mOk M)
    (h : mK M a0 = 20 ∧ ((mI M a0 1 = 1) → (mK M (mR M a0 0) = 30 ∧ ((0 : Int) ≤ 0 ∧ 0 < (mN M (mR M a0 0) : Int)))) ∧ ∀ v6 : Int, v6 = (if ((mI M a0 1 = 1) ∧ (mI M (mR M a0 0) 0 = 1)) then 1 else 0) → Q v6 M) :
    Ci G y_MW_isOne d [vr a0] M Q := by
  refine wm_open (y := y_MW_isOne) rfl (Nat.le_of_ble_eq_true rfl) (L := [vr a0]) rfl ?_
  obtain ⟨h1, h⟩ := h
  refine wm_aload_n d_MW_isOne_0 rfl rfl ?_
  refine gf_MW_13 rfl d_MW_isOne_1 h1 ?_
  refine wm_iconst d_MW_isOne_4 ?_
  obtain ⟨s7, h⟩ := h
  have hJ : ∀ v6 : Int, v6 = (if ((mI M a0 1 = 1) ∧ (mI M (mR M a0 0) 0 = 1)) then 1 else 0) → mWm G y_MW_isOne d 23 [vd] [vi v6] M (fun r9 M9 => ∃ x9, r9 = some (vi x9) ∧ Q x9 M9) := by
    intro v6 e8
    have h := h v6 e8
    have h9 : i32 v6 := by rw [e8]; (repeat' split) <;> first | exact ⟨by decide, by decide⟩ | exact ⟨by decide, by decide⟩
    have h10 : (v6 = 0 ∨ v6 = 1) := by rw [e8]; (repeat' split) <;> decide
    refine wm_ireturn d_MW_isOne_23 rfl (m_nb h10) ?_
    exact ⟨_, rfl, h⟩
  clear h
  have s11 := s7
  refine wm_icmp_ne (tgt := 22) d_MW_isOne_5 rfl (hO _ _).1 ⟨by decide, by decide⟩ (fun c2 => ?_) (fun c2 => ?_)
  · refine wm_iconst d_MW_isOne_22 ?_
    refine wm_less (L' := [vd]) ⟨Or.inl rfl, trivial⟩ ?_
    exact hJ 0 (if_neg (fun z14 => c2 z14.1)).symm
  · replace c2 := Classical.not_not.mp c2
    have s11 := s11 c2
    obtain ⟨h3, h4⟩ := s11
    refine wm_aload_n d_MW_isOne_8 rfl rfl ?_
    refine gf_MW_7 rfl d_MW_isOne_9 h1 ?_
    refine wm_iconst d_MW_isOne_12 ?_
    refine wm_iald d_MW_isOne_13 h3 h4 ?_
    refine wm_iconst d_MW_isOne_14 ?_
    refine wm_icmp_ne (tgt := 22) d_MW_isOne_15 rfl (hO _ _).1 ⟨by decide, by decide⟩ (fun c5 => ?_) (fun c5 => ?_)
    · refine wm_iconst d_MW_isOne_22 ?_
      refine wm_less (L' := [vd]) ⟨Or.inl rfl, trivial⟩ ?_
      exact hJ 0 (if_neg (fun z12 => c5 z12.2)).symm
    · replace c5 := Classical.not_not.mp c5
      refine wm_iconst d_MW_isOne_18 ?_
      refine wm_goto (tgt := 23) d_MW_isOne_19 rfl ?_
      refine wm_less (L' := [vd]) ⟨Or.inl rfl, trivial⟩ ?_
      exact hJ 1 (if_pos ⟨c2, c5⟩).symm
theorem d_MW_trim_0 : decode y_MW_trim.2.1 0 = .ok (.aload_n 0, 1) := dc9_42 (by decide +kernel)
theorem d_MW_trim_1 : decode y_MW_trim.2.1 1 = .ok (.getfield 13, 3) := dc9_180 (by decide +kernel)
theorem d_MW_trim_4 : decode y_MW_trim.2.1 4 = .ok (.ifCond .le 30, 3) := dc9_158 (by decide +kernel)
theorem d_MW_trim_7 : decode y_MW_trim.2.1 7 = .ok (.aload_n 0, 1) := dc9_42 (by decide +kernel)
theorem d_MW_trim_8 : decode y_MW_trim.2.1 8 = .ok (.getfield 7, 3) := dc9_180 (by decide +kernel)
theorem d_MW_trim_11 : decode y_MW_trim.2.1 11 = .ok (.aload_n 0, 1) := dc9_42 (by decide +kernel)
theorem d_MW_trim_12 : decode y_MW_trim.2.1 12 = .ok (.getfield 13, 3) := dc9_180 (by decide +kernel)
theorem d_MW_trim_15 : decode y_MW_trim.2.1 15 = .ok (.iconst 1, 1) := dc9_4 (by decide +kernel)
theorem d_MW_trim_16 : decode y_MW_trim.2.1 16 = .ok (.isub, 1) := dc9_100 (by decide +kernel)
theorem d_MW_trim_17 : decode y_MW_trim.2.1 17 = .ok (.iaload, 1) := dc9_46 (by decide +kernel)
theorem d_MW_trim_18 : decode y_MW_trim.2.1 18 = .ok (.ifCond .ne 16, 3) := dc9_154 (by decide +kernel)
theorem d_MW_trim_21 : decode y_MW_trim.2.1 21 = .ok (.aload_n 0, 1) := dc9_42 (by decide +kernel)
theorem d_MW_trim_22 : decode y_MW_trim.2.1 22 = .ok (.dup, 1) := dc9_89 (by decide +kernel)
theorem d_MW_trim_23 : decode y_MW_trim.2.1 23 = .ok (.getfield 13, 3) := dc9_180 (by decide +kernel)
theorem d_MW_trim_26 : decode y_MW_trim.2.1 26 = .ok (.iconst 1, 1) := dc9_4 (by decide +kernel)
theorem d_MW_trim_27 : decode y_MW_trim.2.1 27 = .ok (.isub, 1) := dc9_100 (by decide +kernel)
theorem d_MW_trim_28 : decode y_MW_trim.2.1 28 = .ok (.putfield 13, 3) := dc9_181 (by decide +kernel)
theorem d_MW_trim_31 : decode y_MW_trim.2.1 31 = .ok (.goto (-31), 3) := dc9_167 (by decide +kernel)
theorem d_MW_trim_34 : decode y_MW_trim.2.1 34 = .ok (.return_, 1) := dc9_177 (by decide +kernel)
def h_MW_trim_0 (G : mG) (d : Nat) (a0 : Nat) (M : mM) (Q : mM → Prop) : Prop := mWm G y_MW_trim d 0 [vr a0] [] M (fun r9 M9 => r9 = none ∧ Q M9)
theorem k_MW_trim {G : mG} {d : Nat} {a0 : Nat} {M : mM} {Q : mM → Prop} (hO : mOk M)
    (h : h_MW_trim_0 G d a0 M Q) :
    Cv G y_MW_trim d [vr a0] M Q := by
  refine wm_open (y := y_MW_trim) rfl (Nat.le_of_ble_eq_true rfl) (L := [vr a0]) rfl ?_
  exact h
theorem k_MW_trim_0 {G : mG} {d : Nat} {a0 : Nat} {M : mM} {Q : mM → Prop} (hO : mOk M)
    (h : mK M a0 = 20 ∧ (¬ (mI M a0 1 ≤ 0) → (mK M (mR M a0 0) = 30 ∧ ((0 : Int) ≤ (mI M a0 1) - 1 ∧ (mI M a0 1) - 1 < (mN M (mR M a0 0) : Int)))) ∧ (((mI M a0 1 ≤ 0) ∨ (¬ (mI M (mR M a0 0) (Int.toNat ((mI M a0 1) - 1)) = 0))) → (Q M)) ∧ (¬ ((mI M a0 1 ≤ 0) ∨ (¬ (mI M (mR M a0 0) (Int.toNat ((mI M a0 1) - 1)) = 0))) → (i32 ((mI M a0 1) - 1) ∧ ∀ M11, M11 = mUI M a0 1 ((mI M a0 1) - 1) → h_MW_trim_0 G d a0 M11 Q))) :
    h_MW_trim_0 G d a0 M Q := by
  unfold h_MW_trim_0
  obtain ⟨h1, h⟩ := h
  refine wm_aload_n d_MW_trim_0 rfl rfl ?_
  refine gf_MW_13 rfl d_MW_trim_1 h1 ?_
  obtain ⟨s7, h⟩ := h
  have hE0 : ((mI M a0 1 ≤ 0) ∨ (¬ (mI M (mR M a0 0) (Int.toNat ((mI M a0 1) - 1)) = 0))) → mWm G y_MW_trim d 34 [vr a0] [] M (fun r9 M9 => r9 = none ∧ Q M9) := by
    intro q8
    have h := h.1 q8
    refine wm_return d_MW_trim_34 rfl ?_
    exact ⟨rfl, h⟩
  have hE1 : ¬ ((mI M a0 1 ≤ 0) ∨ (¬ (mI M (mR M a0 0) (Int.toNat ((mI M a0 1) - 1)) = 0))) → mWm G y_MW_trim d 21 [vr a0] [] M (fun r9 M9 => r9 = none ∧ Q M9) := by
    intro q9
    have h := h.2 q9
    obtain ⟨h10, h⟩ := h
    obtain ⟨M11, e12⟩ : ∃ M11, M11 = mUI M a0 1 ((mI M a0 1) - 1) := ⟨_, rfl⟩
    replace h := h M11 e12
    refine wm_aload_n d_MW_trim_21 rfl rfl ?_
    refine wm_dup d_MW_trim_22 rfl ?_
    refine gf_MW_13 rfl d_MW_trim_23 h1 ?_
    refine wm_iconst d_MW_trim_26 ?_
    refine wm_isub d_MW_trim_27 ?_
    have hOM11 : mOk M11 := by rw [e12]; exact mOk_UI hO h10
    refine pf_MW_13 rfl d_MW_trim_28 h1 h10 e12 ?_
    refine wm_goto (tgt := 0) d_MW_trim_31 rfl ?_
    exact h
  clear h
  have s13 := s7
  refine wm_if_le (tgt := 34) d_MW_trim_4 rfl (hO _ _).1 (fun c6 => ?_) (fun c6 => ?_)
  · exact hE0 (Or.inl c6)
  · have s13 := s13 c6
    obtain ⟨h2, h3⟩ := s13
    refine wm_aload_n d_MW_trim_7 rfl rfl ?_
    refine gf_MW_7 rfl d_MW_trim_8 h1 ?_
    refine wm_aload_n d_MW_trim_11 rfl rfl ?_
    refine gf_MW_13 rfl d_MW_trim_12 h1 ?_
    refine wm_iconst d_MW_trim_15 ?_
    refine wm_isub d_MW_trim_16 ?_
    refine wm_iald d_MW_trim_17 h2 h3 ?_
    refine wm_if_ne (tgt := 34) d_MW_trim_18 rfl (hO _ _).1 (fun c5 => ?_) (fun c5 => ?_)
    · exact hE0 (Or.inr c5)
    · replace c5 := Classical.not_not.mp c5
      exact hE1 (fun z14 => Or.elim z14 c6 (fun z15 => z15 c5))
theorem d_MW_compare_0 : decode y_MW_compare.2.1 0 = .ok (.aload_n 0, 1) := dc9_42 (by decide +kernel)
theorem d_MW_compare_1 : decode y_MW_compare.2.1 1 = .ok (.getfield 13, 3) := dc9_180 (by decide +kernel)
theorem d_MW_compare_4 : decode y_MW_compare.2.1 4 = .ok (.aload_n 1, 1) := dc9_43 (by decide +kernel)
theorem d_MW_compare_5 : decode y_MW_compare.2.1 5 = .ok (.getfield 13, 3) := dc9_180 (by decide +kernel)
theorem d_MW_compare_8 : decode y_MW_compare.2.1 8 = .ok (.if_icmp .eq 20, 3) := dc9_159 (by decide +kernel)
theorem d_MW_compare_28 : decode y_MW_compare.2.1 28 = .ok (.aload_n 0, 1) := dc9_42 (by decide +kernel)
theorem d_MW_compare_29 : decode y_MW_compare.2.1 29 = .ok (.getfield 13, 3) := dc9_180 (by decide +kernel)
theorem d_MW_compare_32 : decode y_MW_compare.2.1 32 = .ok (.iconst 1, 1) := dc9_4 (by decide +kernel)
theorem d_MW_compare_33 : decode y_MW_compare.2.1 33 = .ok (.isub, 1) := dc9_100 (by decide +kernel)
theorem d_MW_compare_34 : decode y_MW_compare.2.1 34 = .ok (.istore_n 2, 1) := dc9_61 (by decide +kernel)
theorem d_MW_compare_11 : decode y_MW_compare.2.1 11 = .ok (.aload_n 0, 1) := dc9_42 (by decide +kernel)
theorem d_MW_compare_12 : decode y_MW_compare.2.1 12 = .ok (.getfield 13, 3) := dc9_180 (by decide +kernel)
theorem d_MW_compare_15 : decode y_MW_compare.2.1 15 = .ok (.aload_n 1, 1) := dc9_43 (by decide +kernel)
theorem d_MW_compare_16 : decode y_MW_compare.2.1 16 = .ok (.getfield 13, 3) := dc9_180 (by decide +kernel)
theorem d_MW_compare_19 : decode y_MW_compare.2.1 19 = .ok (.if_icmp .ge 7, 3) := dc9_162 (by decide +kernel)
theorem d_MW_compare_26 : decode y_MW_compare.2.1 26 = .ok (.iconst 1, 1) := dc9_4 (by decide +kernel)
theorem d_MW_compare_27 : decode y_MW_compare.2.1 27 = .ok (.ireturn, 1) := dc9_172 (by decide +kernel)
theorem d_MW_compare_22 : decode y_MW_compare.2.1 22 = .ok (.iconst (-1), 1) := dc9_2 (by decide +kernel)
theorem d_MW_compare_23 : decode y_MW_compare.2.1 23 = .ok (.goto 4, 3) := dc9_167 (by decide +kernel)
theorem d_MW_compare_35 : decode y_MW_compare.2.1 35 = .ok (.iload_n 2, 1) := dc9_28 (by decide +kernel)
theorem d_MW_compare_36 : decode y_MW_compare.2.1 36 = .ok (.ifCond .lt 24, 3) := dc9_155 (by decide +kernel)
theorem d_MW_compare_39 : decode y_MW_compare.2.1 39 = .ok (.aload_n 0, 1) := dc9_42 (by decide +kernel)
theorem d_MW_compare_40 : decode y_MW_compare.2.1 40 = .ok (.getfield 7, 3) := dc9_180 (by decide +kernel)
theorem d_MW_compare_43 : decode y_MW_compare.2.1 43 = .ok (.iload_n 2, 1) := dc9_28 (by decide +kernel)
theorem d_MW_compare_44 : decode y_MW_compare.2.1 44 = .ok (.iaload, 1) := dc9_46 (by decide +kernel)
theorem d_MW_compare_45 : decode y_MW_compare.2.1 45 = .ok (.aload_n 1, 1) := dc9_43 (by decide +kernel)
theorem d_MW_compare_46 : decode y_MW_compare.2.1 46 = .ok (.getfield 7, 3) := dc9_180 (by decide +kernel)
theorem d_MW_compare_49 : decode y_MW_compare.2.1 49 = .ok (.iload_n 2, 1) := dc9_28 (by decide +kernel)
theorem d_MW_compare_50 : decode y_MW_compare.2.1 50 = .ok (.iaload, 1) := dc9_46 (by decide +kernel)
theorem d_MW_compare_51 : decode y_MW_compare.2.1 51 = .ok (.if_icmp .ne 9, 3) := dc9_160 (by decide +kernel)
theorem d_MW_compare_54 : decode y_MW_compare.2.1 54 = .ok (.iinc 2 (-1), 3) := by decide +kernel
theorem d_MW_compare_57 : decode y_MW_compare.2.1 57 = .ok (.goto (-22), 3) := dc9_167 (by decide +kernel)
theorem d_MW_compare_60 : decode y_MW_compare.2.1 60 = .ok (.iload_n 2, 1) := dc9_28 (by decide +kernel)
theorem d_MW_compare_61 : decode y_MW_compare.2.1 61 = .ok (.ifCond .ge 7, 3) := dc9_156 (by decide +kernel)
theorem d_MW_compare_68 : decode y_MW_compare.2.1 68 = .ok (.aload_n 0, 1) := dc9_42 (by decide +kernel)
theorem d_MW_compare_69 : decode y_MW_compare.2.1 69 = .ok (.getfield 7, 3) := dc9_180 (by decide +kernel)
theorem d_MW_compare_72 : decode y_MW_compare.2.1 72 = .ok (.iload_n 2, 1) := dc9_28 (by decide +kernel)
theorem d_MW_compare_73 : decode y_MW_compare.2.1 73 = .ok (.iaload, 1) := dc9_46 (by decide +kernel)
theorem d_MW_compare_74 : decode y_MW_compare.2.1 74 = .ok (.aload_n 1, 1) := dc9_43 (by decide +kernel)
theorem d_MW_compare_75 : decode y_MW_compare.2.1 75 = .ok (.getfield 7, 3) := dc9_180 (by decide +kernel)
theorem d_MW_compare_78 : decode y_MW_compare.2.1 78 = .ok (.iload_n 2, 1) := dc9_28 (by decide +kernel)
theorem d_MW_compare_79 : decode y_MW_compare.2.1 79 = .ok (.iaload, 1) := dc9_46 (by decide +kernel)
theorem d_MW_compare_80 : decode y_MW_compare.2.1 80 = .ok (.if_icmp .ge 7, 3) := dc9_162 (by decide +kernel)
theorem d_MW_compare_87 : decode y_MW_compare.2.1 87 = .ok (.iconst 1, 1) := dc9_4 (by decide +kernel)
theorem d_MW_compare_83 : decode y_MW_compare.2.1 83 = .ok (.iconst (-1), 1) := dc9_2 (by decide +kernel)
theorem d_MW_compare_84 : decode y_MW_compare.2.1 84 = .ok (.goto 4, 3) := dc9_167 (by decide +kernel)
theorem d_MW_compare_64 : decode y_MW_compare.2.1 64 = .ok (.iconst 0, 1) := dc9_3 (by decide +kernel)
theorem d_MW_compare_65 : decode y_MW_compare.2.1 65 = .ok (.goto 23, 3) := dc9_167 (by decide +kernel)
theorem d_MW_compare_88 : decode y_MW_compare.2.1 88 = .ok (.ireturn, 1) := dc9_172 (by decide +kernel)
def h_MW_compare_35 (G : mG) (d : Nat) (a0 : Nat) (a1 : Nat) (l2 : Int) (M : mM) (Q : Int → mM → Prop) : Prop := mWm G y_MW_compare d 35 [vr a0, vr a1, vi l2] [] M (fun r9 M9 => ∃ x9, r9 = some (vi x9) ∧ Q x9 M9)
theorem k_MW_compare {G : mG} {d : Nat} {a0 : Nat} {a1 : Nat} {M : mM} {Q : Int → mM → Prop} (hO : mOk M)
    (h : mK M a0 = 20 ∧ mK M a1 = 20 ∧ ((mI M a0 1 = mI M a1 1) → (h_MW_compare_35 G d a0 a1 ((mI M a0 1) - 1) M Q)) ∧ (¬ (mI M a0 1 = mI M a1 1) → (∀ v7 : Int, v7 = (if (mI M a1 1 ≤ mI M a0 1) then 1 else (-1)) → Q v7 M))) :
    Ci G y_MW_compare d [vr a0, vr a1] M Q := by
  refine wm_open (y := y_MW_compare) rfl (Nat.le_of_ble_eq_true rfl) (L := [vr a0, vr a1, vd]) rfl ?_
  obtain ⟨h1, h⟩ := h
  obtain ⟨h2, h⟩ := h
  refine wm_aload_n d_MW_compare_0 rfl rfl ?_
  refine gf_MW_13 rfl d_MW_compare_1 h1 ?_
  refine wm_aload_n d_MW_compare_4 rfl rfl ?_
  refine gf_MW_13 rfl d_MW_compare_5 h2 ?_
  refine wm_icmp_eq (tgt := 28) d_MW_compare_8 rfl (hO _ _).1 (hO _ _).1 (fun c5 => ?_) (fun c5 => ?_)
  · replace h := h.1 c5
    refine wm_aload_n d_MW_compare_28 rfl rfl ?_
    refine gf_MW_13 rfl d_MW_compare_29 h1 ?_
    refine wm_iconst d_MW_compare_32 ?_
    refine wm_isub d_MW_compare_33 ?_
    refine wm_istore_n d_MW_compare_34 rfl (by decide) (L' := [vr a0, vr a1, vi ((mI M a0 1) - 1)]) rfl ?_
    exact h
  · replace h := h.2 c5
    refine wm_aload_n d_MW_compare_11 rfl rfl ?_
    refine gf_MW_13 rfl d_MW_compare_12 h1 ?_
    refine wm_aload_n d_MW_compare_15 rfl rfl ?_
    refine gf_MW_13 rfl d_MW_compare_16 h2 ?_
    have hJ : ∀ v7 : Int, v7 = (if (mI M a1 1 ≤ mI M a0 1) then 1 else (-1)) → mWm G y_MW_compare d 27 [vd, vd, vd] [vi v7] M (fun r9 M9 => ∃ x9, r9 = some (vi x9) ∧ Q x9 M9) := by
      intro v7 e9
      have h := h v7 e9
      have h10 : i32 v7 := by rw [e9]; (repeat' split) <;> first | exact ⟨by decide, by decide⟩ | exact ⟨by decide, by decide⟩
      refine wm_ireturn d_MW_compare_27 rfl rfl ?_
      exact ⟨_, rfl, h⟩
    clear h
    refine wm_icmp_ge (tgt := 26) d_MW_compare_19 rfl (hO _ _).1 (hO _ _).1 (fun c6 => ?_) (fun c6 => ?_)
    · refine wm_iconst d_MW_compare_26 ?_
      refine wm_less (L' := [vd, vd, vd]) ⟨Or.inl rfl, Or.inl rfl, Or.inl rfl, trivial⟩ ?_
      exact hJ 1 (if_pos c6).symm
    · refine wm_iconst d_MW_compare_22 ?_
      refine wm_goto (tgt := 27) d_MW_compare_23 rfl ?_
      refine wm_less (L' := [vd, vd, vd]) ⟨Or.inl rfl, Or.inl rfl, Or.inl rfl, trivial⟩ ?_
      exact hJ (-1) (if_neg c6).symm
theorem k_MW_compare_35 {G : mG} {d : Nat} {a0 : Nat} {a1 : Nat} {l2 : Int} {M : mM} {Q : Int → mM → Prop} (hO : mOk M) (hi_l2 : i32 l2)
    (h : (¬ (l2 < 0) → (mK M a0 = 20 ∧ mK M (mR M a0 0) = 30 ∧ ((0 : Int) ≤ l2 ∧ l2 < (mN M (mR M a0 0) : Int)) ∧ mK M a1 = 20 ∧ mK M (mR M a1 0) = 30 ∧ ((0 : Int) ≤ l2 ∧ l2 < (mN M (mR M a1 0) : Int)))) ∧ (((l2 < 0) ∨ (¬ (mI M (mR M a0 0) (Int.toNat l2) = mI M (mR M a1 0) (Int.toNat l2)))) → (((0 ≤ l2) → (mK M a0 = 20 ∧ mK M (mR M a0 0) = 30 ∧ ((0 : Int) ≤ l2 ∧ l2 < (mN M (mR M a0 0) : Int)) ∧ mK M a1 = 20 ∧ mK M (mR M a1 0) = 30 ∧ ((0 : Int) ≤ l2 ∧ l2 < (mN M (mR M a1 0) : Int)))) ∧ ∀ v30 : Int, v30 = (if 0 ≤ l2 then (if mI M (mR M a1 0) (Int.toNat l2) ≤ mI M (mR M a0 0) (Int.toNat l2) then 1 else (-1)) else 0) → Q v30 M)) ∧ (¬ ((l2 < 0) ∨ (¬ (mI M (mR M a0 0) (Int.toNat l2) = mI M (mR M a1 0) (Int.toNat l2)))) → (h_MW_compare_35 G d a0 a1 (l2 + (-1)) M Q))) :
    h_MW_compare_35 G d a0 a1 l2 M Q := by
  unfold h_MW_compare_35
  refine wm_iload_n d_MW_compare_35 rfl rfl ?_
  obtain ⟨s20, h⟩ := h
  have hE0 : ((l2 < 0) ∨ (¬ (mI M (mR M a0 0) (Int.toNat l2) = mI M (mR M a1 0) (Int.toNat l2)))) → mWm G y_MW_compare d 60 [vr a0, vr a1, vi l2] [] M (fun r9 M9 => ∃ x9, r9 = some (vi x9) ∧ Q x9 M9) := by
    intro q21
    have h := h.1 q21
    refine wm_iload_n d_MW_compare_60 rfl rfl ?_
    obtain ⟨s31, h⟩ := h
    have hJ : ∀ v30 : Int, v30 = (if 0 ≤ l2 then (if mI M (mR M a1 0) (Int.toNat l2) ≤ mI M (mR M a0 0) (Int.toNat l2) then 1 else (-1)) else 0) → mWm G y_MW_compare d 88 [vd, vd, vd] [vi v30] M (fun r9 M9 => ∃ x9, r9 = some (vi x9) ∧ Q x9 M9) := by
      intro v30 e32
      have h := h v30 e32
      have h33 : i32 v30 := by rw [e32]; (repeat' split) <;> first | exact ⟨by decide, by decide⟩ | exact ⟨by decide, by decide⟩ | exact ⟨by decide, by decide⟩
      refine wm_ireturn d_MW_compare_88 rfl rfl ?_
      exact ⟨_, rfl, h⟩
    clear h
    have s34 := s31
    refine wm_if_ge (tgt := 68) d_MW_compare_61 rfl hi_l2 (fun c22 => ?_) (fun c22 => ?_)
    · have s34 := s34 c22
      obtain ⟨h23, h24, h25, h26, h27, h28⟩ := s34
      refine wm_aload_n d_MW_compare_68 rfl rfl ?_
      refine gf_MW_7 rfl d_MW_compare_69 h23 ?_
      refine wm_iload_n d_MW_compare_72 rfl rfl ?_
      refine wm_iald d_MW_compare_73 h24 h25 ?_
      refine wm_aload_n d_MW_compare_74 rfl rfl ?_
      refine gf_MW_7 rfl d_MW_compare_75 h26 ?_
      refine wm_iload_n d_MW_compare_78 rfl rfl ?_
      refine wm_iald d_MW_compare_79 h27 h28 ?_
      refine wm_icmp_ge (tgt := 87) d_MW_compare_80 rfl (hO _ _).1 (hO _ _).1 (fun c29 => ?_) (fun c29 => ?_)
      · refine wm_iconst d_MW_compare_87 ?_
        refine wm_less (L' := [vd, vd, vd]) ⟨Or.inl rfl, Or.inl rfl, Or.inl rfl, trivial⟩ ?_
        exact hJ 1 (by rw [if_pos c22, if_pos c29])
      · refine wm_iconst d_MW_compare_83 ?_
        refine wm_goto (tgt := 88) d_MW_compare_84 rfl ?_
        refine wm_less (L' := [vd, vd, vd]) ⟨Or.inl rfl, Or.inl rfl, Or.inl rfl, trivial⟩ ?_
        exact hJ (-1) (by rw [if_pos c22, if_neg c29])
    · refine wm_iconst d_MW_compare_64 ?_
      refine wm_goto (tgt := 88) d_MW_compare_65 rfl ?_
      refine wm_less (L' := [vd, vd, vd]) ⟨Or.inl rfl, Or.inl rfl, Or.inl rfl, trivial⟩ ?_
      exact hJ 0 (by rw [if_neg c22])
  have hE1 : ¬ ((l2 < 0) ∨ (¬ (mI M (mR M a0 0) (Int.toNat l2) = mI M (mR M a1 0) (Int.toNat l2)))) → mWm G y_MW_compare d 54 [vr a0, vr a1, vi l2] [] M (fun r9 M9 => ∃ x9, r9 = some (vi x9) ∧ Q x9 M9) := by
    intro q35
    have h := h.2 q35
    refine wm_iinc d_MW_compare_54 (by decide) rfl (L' := [vr a0, vr a1, vi (l2 + (-1))]) rfl ?_
    refine wm_goto (tgt := 35) d_MW_compare_57 rfl ?_
    exact h
  clear h
  have s36 := s20
  refine wm_if_lt (tgt := 60) d_MW_compare_36 rfl hi_l2 (fun c19 => ?_) (fun c19 => ?_)
  · exact hE0 (Or.inl c19)
  · have s36 := s36 c19
    obtain ⟨h12, h13, h14, h15, h16, h17⟩ := s36
    refine wm_aload_n d_MW_compare_39 rfl rfl ?_
    refine gf_MW_7 rfl d_MW_compare_40 h12 ?_
    refine wm_iload_n d_MW_compare_43 rfl rfl ?_
    refine wm_iald d_MW_compare_44 h13 h14 ?_
    refine wm_aload_n d_MW_compare_45 rfl rfl ?_
    refine gf_MW_7 rfl d_MW_compare_46 h15 ?_
    refine wm_iload_n d_MW_compare_49 rfl rfl ?_
    refine wm_iald d_MW_compare_50 h16 h17 ?_
    refine wm_icmp_ne (tgt := 60) d_MW_compare_51 rfl (hO _ _).1 (hO _ _).1 (fun c18 => ?_) (fun c18 => ?_)
    · exact hE0 (Or.inr c18)
    · replace c18 := Classical.not_not.mp c18
      exact hE1 (fun z37 => Or.elim z37 c19 (fun z38 => z38 c18))
theorem d_MW_at_0 : decode y_MW_at.2.1 0 = .ok (.iload_n 1, 1) := dc9_27 (by decide +kernel)
theorem d_MW_at_1 : decode y_MW_at.2.1 1 = .ok (.aload_n 0, 1) := dc9_42 (by decide +kernel)
theorem d_MW_at_2 : decode y_MW_at.2.1 2 = .ok (.getfield 13, 3) := dc9_180 (by decide +kernel)
theorem d_MW_at_5 : decode y_MW_at.2.1 5 = .ok (.if_icmp .ge 12, 3) := dc9_162 (by decide +kernel)
theorem d_MW_at_17 : decode y_MW_at.2.1 17 = .ok (.iconst 0, 1) := dc9_3 (by decide +kernel)
theorem d_MW_at_8 : decode y_MW_at.2.1 8 = .ok (.aload_n 0, 1) := dc9_42 (by decide +kernel)
theorem d_MW_at_9 : decode y_MW_at.2.1 9 = .ok (.getfield 7, 3) := dc9_180 (by decide +kernel)
theorem d_MW_at_12 : decode y_MW_at.2.1 12 = .ok (.iload_n 1, 1) := dc9_27 (by decide +kernel)
theorem d_MW_at_13 : decode y_MW_at.2.1 13 = .ok (.iaload, 1) := dc9_46 (by decide +kernel)
theorem d_MW_at_14 : decode y_MW_at.2.1 14 = .ok (.goto 4, 3) := dc9_167 (by decide +kernel)
theorem d_MW_at_18 : decode y_MW_at.2.1 18 = .ok (.ireturn, 1) := dc9_172 (by decide +kernel)
theorem k_MW_at {G : mG} {d : Nat} {a0 : Nat} {l1 : Int} {M : mM} {Q : Int → mM → Prop} (hO : mOk M) (hi_l1 : i32 l1)
    (h : mK M a0 = 20 ∧ (¬ (mI M a0 1 ≤ l1) → (mK M (mR M a0 0) = 30 ∧ ((0 : Int) ≤ l1 ∧ l1 < (mN M (mR M a0 0) : Int)))) ∧ ∀ v5 : Int, v5 = (if (mI M a0 1 ≤ l1) then 0 else mI M (mR M a0 0) (Int.toNat l1)) → Q v5 M) :
    Ci G y_MW_at d [vr a0, vi l1] M Q := by
  refine wm_open (y := y_MW_at) rfl (Nat.le_of_ble_eq_true rfl) (L := [vr a0, vi l1]) rfl ?_
  obtain ⟨h1, h⟩ := h
  refine wm_iload_n d_MW_at_0 rfl rfl ?_
  refine wm_aload_n d_MW_at_1 rfl rfl ?_
  refine gf_MW_13 rfl d_MW_at_2 h1 ?_
  obtain ⟨s6, h⟩ := h
  have hJ : ∀ v5 : Int, v5 = (if (mI M a0 1 ≤ l1) then 0 else mI M (mR M a0 0) (Int.toNat l1)) → mWm G y_MW_at d 18 [vd, vd] [vi v5] M (fun r9 M9 => ∃ x9, r9 = some (vi x9) ∧ Q x9 M9) := by
    intro v5 e7
    have h := h v5 e7
    refine wm_ireturn d_MW_at_18 rfl rfl ?_
    exact ⟨_, rfl, h⟩
  clear h
  have s8 := s6
  refine wm_icmp_ge (tgt := 17) d_MW_at_5 rfl hi_l1 (hO _ _).1 (fun c2 => ?_) (fun c2 => ?_)
  · refine wm_iconst d_MW_at_17 ?_
    refine wm_less (L' := [vd, vd]) ⟨Or.inl rfl, Or.inl rfl, trivial⟩ ?_
    exact hJ 0 (if_pos c2).symm
  · have s8 := s8 c2
    obtain ⟨h3, h4⟩ := s8
    refine wm_aload_n d_MW_at_8 rfl rfl ?_
    refine gf_MW_7 rfl d_MW_at_9 h1 ?_
    refine wm_iload_n d_MW_at_12 rfl rfl ?_
    refine wm_iald d_MW_at_13 h3 h4 ?_
    refine wm_goto (tgt := 18) d_MW_at_14 rfl ?_
    refine wm_less (L' := [vd, vd]) ⟨Or.inl rfl, Or.inl rfl, trivial⟩ ?_
    exact hJ (mI M (mR M a0 0) (Int.toNat l1)) (if_neg c2).symm
theorem d_MW_add_0 : decode y_MW_add.2.1 0 = .ok (.aload_n 0, 1) := dc9_42 (by decide +kernel)
theorem d_MW_add_1 : decode y_MW_add.2.1 1 = .ok (.getfield 13, 3) := dc9_180 (by decide +kernel)
theorem d_MW_add_4 : decode y_MW_add.2.1 4 = .ok (.aload_n 1, 1) := dc9_43 (by decide +kernel)
theorem d_MW_add_5 : decode y_MW_add.2.1 5 = .ok (.getfield 13, 3) := dc9_180 (by decide +kernel)
theorem d_MW_add_8 : decode y_MW_add.2.1 8 = .ok (.if_icmp .le 10, 3) := dc9_164 (by decide +kernel)
theorem d_MW_add_18 : decode y_MW_add.2.1 18 = .ok (.aload_n 1, 1) := dc9_43 (by decide +kernel)
theorem d_MW_add_19 : decode y_MW_add.2.1 19 = .ok (.getfield 13, 3) := dc9_180 (by decide +kernel)
theorem d_MW_add_11 : decode y_MW_add.2.1 11 = .ok (.aload_n 0, 1) := dc9_42 (by decide +kernel)
theorem d_MW_add_12 : decode y_MW_add.2.1 12 = .ok (.getfield 13, 3) := dc9_180 (by decide +kernel)
theorem d_MW_add_15 : decode y_MW_add.2.1 15 = .ok (.goto 7, 3) := dc9_167 (by decide +kernel)
theorem d_MW_add_22 : decode y_MW_add.2.1 22 = .ok (.istore_n 2, 1) := dc9_61 (by decide +kernel)
theorem d_MW_add_23 : decode y_MW_add.2.1 23 = .ok (.iconst 0, 1) := dc9_3 (by decide +kernel)
theorem d_MW_add_24 : decode y_MW_add.2.1 24 = .ok (.istore_n 3, 1) := dc9_62 (by decide +kernel)
theorem d_MW_add_25 : decode y_MW_add.2.1 25 = .ok (.iconst 0, 1) := dc9_3 (by decide +kernel)
theorem d_MW_add_26 : decode y_MW_add.2.1 26 = .ok (.istore 4, 2) := dc9_54 (by decide +kernel)
theorem d_MW_add_28 : decode y_MW_add.2.1 28 = .ok (.iload 4, 2) := dc9_21 (by decide +kernel)
theorem d_MW_add_30 : decode y_MW_add.2.1 30 = .ok (.iload_n 2, 1) := dc9_28 (by decide +kernel)
theorem d_MW_add_31 : decode y_MW_add.2.1 31 = .ok (.if_icmp .ge 44, 3) := dc9_162 (by decide +kernel)
theorem d_MW_add_75 : decode y_MW_add.2.1 75 = .ok (.aload_n 0, 1) := dc9_42 (by decide +kernel)
theorem d_MW_add_76 : decode y_MW_add.2.1 76 = .ok (.iload_n 2, 1) := dc9_28 (by decide +kernel)
theorem d_MW_add_77 : decode y_MW_add.2.1 77 = .ok (.putfield 13, 3) := dc9_181 (by decide +kernel)
theorem d_MW_add_80 : decode y_MW_add.2.1 80 = .ok (.iload_n 3, 1) := dc9_29 (by decide +kernel)
theorem d_MW_add_34 : decode y_MW_add.2.1 34 = .ok (.aload_n 0, 1) := dc9_42 (by decide +kernel)
theorem d_MW_add_35 : decode y_MW_add.2.1 35 = .ok (.iload 4, 2) := dc9_21 (by decide +kernel)
theorem d_MW_add_81 : decode y_MW_add.2.1 81 = .ok (.ifCond .le 23, 3) := dc9_158 (by decide +kernel)
theorem d_MW_add_84 : decode y_MW_add.2.1 84 = .ok (.aload_n 0, 1) := dc9_42 (by decide +kernel)
theorem d_MW_add_85 : decode y_MW_add.2.1 85 = .ok (.getfield 7, 3) := dc9_180 (by decide +kernel)
theorem d_MW_add_88 : decode y_MW_add.2.1 88 = .ok (.aload_n 0, 1) := dc9_42 (by decide +kernel)
theorem d_MW_add_89 : decode y_MW_add.2.1 89 = .ok (.getfield 13, 3) := dc9_180 (by decide +kernel)
theorem d_MW_add_92 : decode y_MW_add.2.1 92 = .ok (.iload_n 3, 1) := dc9_29 (by decide +kernel)
theorem d_MW_add_93 : decode y_MW_add.2.1 93 = .ok (.iastore, 1) := dc9_79 (by decide +kernel)
theorem d_MW_add_94 : decode y_MW_add.2.1 94 = .ok (.aload_n 0, 1) := dc9_42 (by decide +kernel)
theorem d_MW_add_95 : decode y_MW_add.2.1 95 = .ok (.dup, 1) := dc9_89 (by decide +kernel)
theorem d_MW_add_96 : decode y_MW_add.2.1 96 = .ok (.getfield 13, 3) := dc9_180 (by decide +kernel)
theorem d_MW_add_99 : decode y_MW_add.2.1 99 = .ok (.iconst 1, 1) := dc9_4 (by decide +kernel)
theorem d_MW_add_100 : decode y_MW_add.2.1 100 = .ok (.iadd, 1) := dc9_96 (by decide +kernel)
theorem d_MW_add_101 : decode y_MW_add.2.1 101 = .ok (.putfield 13, 3) := dc9_181 (by decide +kernel)
theorem d_MW_add_104 : decode y_MW_add.2.1 104 = .ok (.return_, 1) := dc9_177 (by decide +kernel)
theorem d_MW_add_37 : decode y_MW_add.2.1 37 = .ok (.invokevirtual 19, 3) := dc9_182 (by decide +kernel)
theorem d_MW_add_40 : decode y_MW_add.2.1 40 = .ok (.aload_n 1, 1) := dc9_43 (by decide +kernel)
theorem d_MW_add_41 : decode y_MW_add.2.1 41 = .ok (.iload 4, 2) := dc9_21 (by decide +kernel)
theorem d_MW_add_43 : decode y_MW_add.2.1 43 = .ok (.invokevirtual 19, 3) := dc9_182 (by decide +kernel)
theorem d_MW_add_46 : decode y_MW_add.2.1 46 = .ok (.iadd, 1) := dc9_96 (by decide +kernel)
theorem d_MW_add_47 : decode y_MW_add.2.1 47 = .ok (.iload_n 3, 1) := dc9_29 (by decide +kernel)
theorem d_MW_add_48 : decode y_MW_add.2.1 48 = .ok (.iadd, 1) := dc9_96 (by decide +kernel)
theorem d_MW_add_49 : decode y_MW_add.2.1 49 = .ok (.istore 5, 2) := dc9_54 (by decide +kernel)
theorem d_MW_add_51 : decode y_MW_add.2.1 51 = .ok (.aload_n 0, 1) := dc9_42 (by decide +kernel)
theorem d_MW_add_52 : decode y_MW_add.2.1 52 = .ok (.getfield 7, 3) := dc9_180 (by decide +kernel)
theorem d_MW_add_55 : decode y_MW_add.2.1 55 = .ok (.iload 4, 2) := dc9_21 (by decide +kernel)
theorem d_MW_add_57 : decode y_MW_add.2.1 57 = .ok (.iload 5, 2) := dc9_21 (by decide +kernel)
theorem d_MW_add_59 : decode y_MW_add.2.1 59 = .ok (.ldc 23, 2) := dc9_18 (by decide +kernel)
theorem d_MW_add_61 : decode y_MW_add.2.1 61 = .ok (.irem, 1) := dc9_112 (by decide +kernel)
theorem d_MW_add_62 : decode y_MW_add.2.1 62 = .ok (.iastore, 1) := dc9_79 (by decide +kernel)
theorem d_MW_add_63 : decode y_MW_add.2.1 63 = .ok (.iload 5, 2) := dc9_21 (by decide +kernel)
theorem d_MW_add_65 : decode y_MW_add.2.1 65 = .ok (.ldc 23, 2) := dc9_18 (by decide +kernel)
theorem d_MW_add_67 : decode y_MW_add.2.1 67 = .ok (.idiv, 1) := dc9_108 (by decide +kernel)
theorem d_MW_add_68 : decode y_MW_add.2.1 68 = .ok (.istore_n 3, 1) := dc9_62 (by decide +kernel)
theorem d_MW_add_69 : decode y_MW_add.2.1 69 = .ok (.iinc 4 1, 3) := by decide +kernel
theorem d_MW_add_72 : decode y_MW_add.2.1 72 = .ok (.goto (-44), 3) := dc9_167 (by decide +kernel)
def h_MW_add_28 (G : mG) (d : Nat) (a0 : Nat) (a1 : Nat) (l2 : Int) (l3 : Int) (l4 : Int) (M : mM) (Q : mM → Prop) : Prop := mWm G y_MW_add (d + 1) 28 [vr a0, vr a1, vi l2, vi l3, vi l4, vd] [] M (fun r9 M9 => r9 = none ∧ Q M9)
theorem k_MW_add {G : mG} {d : Nat} {a0 : Nat} {a1 : Nat} {M : mM} {Q : mM → Prop} (hO : mOk M)
    (h : mK M a0 = 20 ∧ mK M a1 = 20 ∧ ∀ v4 : Int, v4 = (if (mI M a0 1 ≤ mI M a1 1) then mI M a1 1 else mI M a0 1) → h_MW_add_28 G d a0 a1 v4 0 0 M Q) :
    Cv G y_MW_add (d + 1) [vr a0, vr a1] M Q := by
  refine wm_open (y := y_MW_add) rfl (Nat.le_of_ble_eq_true rfl) (L := [vr a0, vr a1, vd, vd, vd, vd]) rfl ?_
  obtain ⟨h1, h⟩ := h
  obtain ⟨h2, h⟩ := h
  refine wm_aload_n d_MW_add_0 rfl rfl ?_
  refine gf_MW_13 rfl d_MW_add_1 h1 ?_
  refine wm_aload_n d_MW_add_4 rfl rfl ?_
  refine gf_MW_13 rfl d_MW_add_5 h2 ?_
  have hJ : ∀ v4 : Int, v4 = (if (mI M a0 1 ≤ mI M a1 1) then mI M a1 1 else mI M a0 1) → mWm G y_MW_add (d + 1) 22 [vr a0, vr a1, vd, vd, vd, vd] [vi v4] M (fun r9 M9 => r9 = none ∧ Q M9) := by
    intro v4 e6
    have h := h v4 e6
    have h7 : i32 v4 := by rw [e6]; (repeat' split) <;> first | exact (hO _ _).1 | exact (hO _ _).1
    refine wm_istore_n d_MW_add_22 rfl (by decide) (L' := [vr a0, vr a1, vi v4, vd, vd, vd]) rfl ?_
    refine wm_iconst d_MW_add_23 ?_
    refine wm_istore_n d_MW_add_24 rfl (by decide) (L' := [vr a0, vr a1, vi v4, vi 0, vd, vd]) rfl ?_
    refine wm_iconst d_MW_add_25 ?_
    refine wm_istore d_MW_add_26 (by decide) (L' := [vr a0, vr a1, vi v4, vi 0, vi 0, vd]) rfl ?_
    exact h
  clear h
  refine wm_icmp_le (tgt := 18) d_MW_add_8 rfl (hO _ _).1 (hO _ _).1 (fun c3 => ?_) (fun c3 => ?_)
  · refine wm_aload_n d_MW_add_18 rfl rfl ?_
    refine gf_MW_13 rfl d_MW_add_19 h2 ?_
    exact hJ (mI M a1 1) (if_pos c3).symm
  · refine wm_aload_n d_MW_add_11 rfl rfl ?_
    refine gf_MW_13 rfl d_MW_add_12 h1 ?_
    refine wm_goto (tgt := 22) d_MW_add_15 rfl ?_
    exact hJ (mI M a0 1) (if_neg c3).symm
theorem k_MW_add_28 {G : mG} {d : Nat} {a0 : Nat} {a1 : Nat} {l2 : Int} {l3 : Int} {l4 : Int} {M : mM} {Q : mM → Prop} (hO : mOk M) (hi_l2 : i32 l2) (hi_l3 : i32 l3) (hi_l4 : i32 l4)
    (h : ((l2 ≤ l4) → (mK M a0 = 20 ∧ ∀ M13, M13 = mUI M a0 1 l2 → ((l3 ≤ 0) → (Q M13)) ∧ (¬ (l3 ≤ 0) → (mK M13 (mR M13 a0 0) = 30 ∧ ((0 : Int) ≤ mI M13 a0 1 ∧ mI M13 a0 1 < (mN M13 (mR M13 a0 0) : Int)) ∧ ∀ M23, M23 = mUI M13 (mR M13 a0 0) (Int.toNat (mI M13 a0 1)) l3 → i32 ((mI M23 a0 1) + 1) ∧ ∀ M26, M26 = mUI M23 a0 1 ((mI M23 a0 1) + 1) → Q M26)))) ∧ (¬ (l2 ≤ l4) → (mK M a0 = 20 ∧ Ci G y_MW_at d [vr a0, vi l4] M (fun x30 M29 => i32 x30 ∧ mOk M29 ∧ (mK M29 a1 = 20 ∧ Ci G y_MW_at d [vr a1, vi l4] M29 (fun x34 M33 => i32 x34 ∧ mOk M33 ∧ (mK M33 a0 = 20 ∧ i32 ((x30 + x34) + l3) ∧ mK M33 (mR M33 a0 0) = 30 ∧ ((0 : Int) ≤ l4 ∧ l4 < (mN M33 (mR M33 a0 0) : Int)) ∧ ∀ M40, M40 = mUI M33 (mR M33 a0 0) (Int.toNat l4) (Int.tmod ((x30 + x34) + l3) 16777216) → h_MW_add_28 G d a0 a1 l2 (Int.tdiv ((x30 + x34) + l3) 16777216) (l4 + 1) M40 Q))))))) :
    h_MW_add_28 G d a0 a1 l2 l3 l4 M Q := by
  unfold h_MW_add_28
  refine wm_iload d_MW_add_28 rfl ?_
  refine wm_iload_n d_MW_add_30 rfl rfl ?_
  refine wm_icmp_ge (tgt := 75) d_MW_add_31 rfl hi_l4 hi_l2 (fun c11 => ?_) (fun c11 => ?_)
  · replace h := h.1 c11
    obtain ⟨h12, h⟩ := h
    obtain ⟨M13, e14⟩ : ∃ M13, M13 = mUI M a0 1 l2 := ⟨_, rfl⟩
    replace h := h M13 e14
    refine wm_aload_n d_MW_add_75 rfl rfl ?_
    refine wm_iload_n d_MW_add_76 rfl rfl ?_
    have hOM13 : mOk M13 := by rw [e14]; exact mOk_UI hO hi_l2
    refine pf_MW_13 rfl d_MW_add_77 h12 hi_l2 e14 ?_
    refine wm_iload_n d_MW_add_80 rfl rfl ?_
    refine wm_if_le (tgt := 104) d_MW_add_81 rfl hi_l3 (fun c20 => ?_) (fun c20 => ?_)
    · replace h := h.1 c20
      refine wm_return d_MW_add_104 rfl ?_
      exact ⟨rfl, h⟩
    · replace h := h.2 c20
      obtain ⟨h21, h⟩ := h
      obtain ⟨h22, h⟩ := h
      obtain ⟨M23, e24⟩ : ∃ M23, M23 = mUI M13 (mR M13 a0 0) (Int.toNat (mI M13 a0 1)) l3 := ⟨_, rfl⟩
      replace h := h M23 e24
      obtain ⟨h25, h⟩ := h
      obtain ⟨M26, e27⟩ : ∃ M26, M26 = mUI M23 a0 1 ((mI M23 a0 1) + 1) := ⟨_, rfl⟩
      replace h := h M26 e27
      refine wm_aload_n d_MW_add_84 rfl rfl ?_
      refine gf_MW_7 rfl d_MW_add_85 (by rw [e14]; exact h12) ?_
      refine wm_aload_n d_MW_add_88 rfl rfl ?_
      refine gf_MW_13 rfl d_MW_add_89 (by rw [e14]; exact h12) ?_
      refine wm_iload_n d_MW_add_92 rfl rfl ?_
      have hOM23 : mOk M23 := by rw [e24]; exact mOk_UI hOM13 hi_l3
      refine wm_iastE d_MW_add_93 h21 h22 hi_l3 e24 ?_
      refine wm_aload_n d_MW_add_94 rfl rfl ?_
      refine wm_dup d_MW_add_95 rfl ?_
      refine gf_MW_13 rfl d_MW_add_96 (by rw [e24, e14]; exact h12) ?_
      refine wm_iconst d_MW_add_99 ?_
      refine wm_iadd d_MW_add_100 ?_
      have hOM26 : mOk M26 := by rw [e27]; exact mOk_UI hOM23 h25
      refine pf_MW_13 rfl d_MW_add_101 (by rw [e24, e14]; exact h12) h25 e27 ?_
      refine wm_return d_MW_add_104 rfl ?_
      exact ⟨rfl, h⟩
  · replace h := h.2 c11
    obtain ⟨h28, h⟩ := h
    refine wm_aload_n d_MW_add_34 rfl rfl ?_
    refine wm_iload d_MW_add_35 rfl ?_
    refine cf_MW_19 rfl d_MW_add_37 h28 (Nat.le_of_ble_eq_true rfl) (Ci.mono h (fun x30 M29 h => ?_))
    obtain ⟨h31, hOM29, h⟩ := h
    obtain ⟨h32, h⟩ := h
    refine wm_aload_n d_MW_add_40 rfl rfl ?_
    refine wm_iload d_MW_add_41 rfl ?_
    refine cf_MW_19 rfl d_MW_add_43 h32 (Nat.le_of_ble_eq_true rfl) (Ci.mono h (fun x34 M33 h => ?_))
    obtain ⟨h35, hOM33, h⟩ := h
    obtain ⟨h36, h⟩ := h
    obtain ⟨h37, h⟩ := h
    obtain ⟨h38, h⟩ := h
    obtain ⟨h39, h⟩ := h
    obtain ⟨M40, e41⟩ : ∃ M40, M40 = mUI M33 (mR M33 a0 0) (Int.toNat l4) (Int.tmod ((x30 + x34) + l3) 16777216) := ⟨_, rfl⟩
    replace h := h M40 e41
    refine wm_iadd d_MW_add_46 ?_
    refine wm_iload_n d_MW_add_47 rfl rfl ?_
    refine wm_iadd d_MW_add_48 ?_
    refine wm_istore d_MW_add_49 (by decide) (L' := [vr a0, vr a1, vi l2, vi l3, vi l4, vi ((x30 + x34) + l3)]) rfl ?_
    refine wm_aload_n d_MW_add_51 rfl rfl ?_
    refine gf_MW_7 rfl d_MW_add_52 h36 ?_
    refine wm_iload d_MW_add_55 rfl ?_
    refine wm_iload d_MW_add_57 rfl ?_
    refine wm_ldc (x := 16777216) d_MW_add_59 k13_26 (by decide) ?_
    refine wm_irem d_MW_add_61 h37 ⟨by decide, by decide⟩ (by decide) ?_
    have hOM40 : mOk M40 := by rw [e41]; exact mOk_UI hOM33 (m_tmod32 h37 ⟨by decide, by decide⟩)
    refine wm_iastE d_MW_add_62 h38 h39 (m_tmod32 h37 ⟨by decide, by decide⟩) e41 ?_
    refine wm_iload d_MW_add_63 rfl ?_
    refine wm_ldc (x := 16777216) d_MW_add_65 k13_26 (by decide) ?_
    refine wm_idiv d_MW_add_67 h37 ⟨by decide, by decide⟩ (by decide) ?_
    refine wm_istore_n d_MW_add_68 rfl (by decide) (L' := [vr a0, vr a1, vi l2, vi (Int.tdiv ((x30 + x34) + l3) 16777216), vi l4, vi ((x30 + x34) + l3)]) rfl ?_
    refine wm_iinc d_MW_add_69 (by decide) rfl (L' := [vr a0, vr a1, vi l2, vi (Int.tdiv ((x30 + x34) + l3) 16777216), vi (l4 + 1), vi ((x30 + x34) + l3)]) rfl ?_
    refine wm_goto (tgt := 28) d_MW_add_72 rfl ?_
    refine wm_less (L' := [vr a0, vr a1, vi l2, vi (Int.tdiv ((x30 + x34) + l3) 16777216), vi (l4 + 1), vd]) ⟨Or.inr rfl, Or.inr rfl, Or.inr rfl, Or.inr rfl, Or.inr rfl, Or.inl rfl, trivial⟩ ?_
    exact h
theorem d_MW_less_0 : decode y_MW_less.2.1 0 = .ok (.iconst 0, 1) := dc9_3 (by decide +kernel)
theorem d_MW_less_1 : decode y_MW_less.2.1 1 = .ok (.istore_n 2, 1) := dc9_61 (by decide +kernel)
theorem d_MW_less_2 : decode y_MW_less.2.1 2 = .ok (.iconst 0, 1) := dc9_3 (by decide +kernel)
theorem d_MW_less_3 : decode y_MW_less.2.1 3 = .ok (.istore_n 3, 1) := dc9_62 (by decide +kernel)
theorem d_MW_less_4 : decode y_MW_less.2.1 4 = .ok (.iload_n 3, 1) := dc9_29 (by decide +kernel)
theorem d_MW_less_5 : decode y_MW_less.2.1 5 = .ok (.aload_n 0, 1) := dc9_42 (by decide +kernel)
theorem d_MW_less_6 : decode y_MW_less.2.1 6 = .ok (.getfield 13, 3) := dc9_180 (by decide +kernel)
theorem d_MW_less_9 : decode y_MW_less.2.1 9 = .ok (.if_icmp .ge 57, 3) := dc9_162 (by decide +kernel)
theorem d_MW_less_66 : decode y_MW_less.2.1 66 = .ok (.aload_n 0, 1) := dc9_42 (by decide +kernel)
theorem d_MW_less_12 : decode y_MW_less.2.1 12 = .ok (.aload_n 0, 1) := dc9_42 (by decide +kernel)
theorem d_MW_less_13 : decode y_MW_less.2.1 13 = .ok (.getfield 7, 3) := dc9_180 (by decide +kernel)
theorem d_MW_less_16 : decode y_MW_less.2.1 16 = .ok (.iload_n 3, 1) := dc9_29 (by decide +kernel)
theorem d_MW_less_17 : decode y_MW_less.2.1 17 = .ok (.iaload, 1) := dc9_46 (by decide +kernel)
theorem d_MW_less_18 : decode y_MW_less.2.1 18 = .ok (.aload_n 1, 1) := dc9_43 (by decide +kernel)
theorem d_MW_less_19 : decode y_MW_less.2.1 19 = .ok (.iload_n 3, 1) := dc9_29 (by decide +kernel)
theorem d_MW_less_67 : decode y_MW_less.2.1 67 = .ok (.invokevirtual 24, 3) := dc9_182 (by decide +kernel)
theorem d_MW_less_70 : decode y_MW_less.2.1 70 = .ok (.return_, 1) := dc9_177 (by decide +kernel)
theorem d_MW_less_20 : decode y_MW_less.2.1 20 = .ok (.invokevirtual 19, 3) := dc9_182 (by decide +kernel)
theorem d_MW_less_23 : decode y_MW_less.2.1 23 = .ok (.isub, 1) := dc9_100 (by decide +kernel)
theorem d_MW_less_24 : decode y_MW_less.2.1 24 = .ok (.iload_n 2, 1) := dc9_28 (by decide +kernel)
theorem d_MW_less_25 : decode y_MW_less.2.1 25 = .ok (.isub, 1) := dc9_100 (by decide +kernel)
theorem d_MW_less_26 : decode y_MW_less.2.1 26 = .ok (.istore 4, 2) := dc9_54 (by decide +kernel)
theorem d_MW_less_28 : decode y_MW_less.2.1 28 = .ok (.iload 4, 2) := dc9_21 (by decide +kernel)
theorem d_MW_less_30 : decode y_MW_less.2.1 30 = .ok (.ifCond .ge 7, 3) := dc9_156 (by decide +kernel)
theorem d_MW_less_37 : decode y_MW_less.2.1 37 = .ok (.iconst 0, 1) := dc9_3 (by decide +kernel)
theorem d_MW_less_33 : decode y_MW_less.2.1 33 = .ok (.iconst 1, 1) := dc9_4 (by decide +kernel)
theorem d_MW_less_34 : decode y_MW_less.2.1 34 = .ok (.goto 4, 3) := dc9_167 (by decide +kernel)
theorem d_MW_less_38 : decode y_MW_less.2.1 38 = .ok (.istore_n 2, 1) := dc9_61 (by decide +kernel)
theorem d_MW_less_39 : decode y_MW_less.2.1 39 = .ok (.aload_n 0, 1) := dc9_42 (by decide +kernel)
theorem d_MW_less_40 : decode y_MW_less.2.1 40 = .ok (.getfield 7, 3) := dc9_180 (by decide +kernel)
theorem d_MW_less_43 : decode y_MW_less.2.1 43 = .ok (.iload_n 3, 1) := dc9_29 (by decide +kernel)
theorem d_MW_less_44 : decode y_MW_less.2.1 44 = .ok (.iload 4, 2) := dc9_21 (by decide +kernel)
theorem d_MW_less_46 : decode y_MW_less.2.1 46 = .ok (.ifCond .ge 11, 3) := dc9_156 (by decide +kernel)
theorem d_MW_less_57 : decode y_MW_less.2.1 57 = .ok (.iload 4, 2) := dc9_21 (by decide +kernel)
theorem d_MW_less_49 : decode y_MW_less.2.1 49 = .ok (.iload 4, 2) := dc9_21 (by decide +kernel)
theorem d_MW_less_51 : decode y_MW_less.2.1 51 = .ok (.ldc 23, 2) := dc9_18 (by decide +kernel)
theorem d_MW_less_53 : decode y_MW_less.2.1 53 = .ok (.iadd, 1) := dc9_96 (by decide +kernel)
theorem d_MW_less_54 : decode y_MW_less.2.1 54 = .ok (.goto 5, 3) := dc9_167 (by decide +kernel)
theorem d_MW_less_59 : decode y_MW_less.2.1 59 = .ok (.iastore, 1) := dc9_79 (by decide +kernel)
theorem d_MW_less_60 : decode y_MW_less.2.1 60 = .ok (.iinc 3 1, 3) := by decide +kernel
theorem d_MW_less_63 : decode y_MW_less.2.1 63 = .ok (.goto (-59), 3) := dc9_167 (by decide +kernel)
def h_MW_less_4 (G : mG) (d : Nat) (a0 : Nat) (a1 : Nat) (l2 : Int) (l3 : Int) (M : mM) (Q : mM → Prop) : Prop := mWm G y_MW_less (d + 1) 4 [vr a0, vr a1, vi l2, vi l3, vd] [] M (fun r9 M9 => r9 = none ∧ Q M9)
theorem k_MW_less {G : mG} {d : Nat} {a0 : Nat} {a1 : Nat} {M : mM} {Q : mM → Prop} (hO : mOk M)
    (h : h_MW_less_4 G d a0 a1 0 0 M Q) :
    Cv G y_MW_less (d + 1) [vr a0, vr a1] M Q := by
  refine wm_open (y := y_MW_less) rfl (Nat.le_of_ble_eq_true rfl) (L := [vr a0, vr a1, vd, vd, vd]) rfl ?_
  refine wm_iconst d_MW_less_0 ?_
  refine wm_istore_n d_MW_less_1 rfl (by decide) (L' := [vr a0, vr a1, vi 0, vd, vd]) rfl ?_
  refine wm_iconst d_MW_less_2 ?_
  refine wm_istore_n d_MW_less_3 rfl (by decide) (L' := [vr a0, vr a1, vi 0, vi 0, vd]) rfl ?_
  exact h
theorem k_MW_less_4 {G : mG} {d : Nat} {a0 : Nat} {a1 : Nat} {l2 : Int} {l3 : Int} {M : mM} {Q : mM → Prop} (hO : mOk M) (hi_l2 : i32 l2) (hi_l3 : i32 l3)
    (h : mK M a0 = 20 ∧ ((mI M a0 1 ≤ l3) → (Cv G y_MW_trim d [vr a0] M (fun M4 => mOk M4 ∧ (Q M4)))) ∧ (¬ (mI M a0 1 ≤ l3) → (mK M (mR M a0 0) = 30 ∧ ((0 : Int) ≤ l3 ∧ l3 < (mN M (mR M a0 0) : Int)) ∧ mK M a1 = 20 ∧ Ci G y_MW_at d [vr a1, vi l3] M (fun x11 M10 => i32 x11 ∧ mOk M10 ∧ (i32 (((mI M (mR M a0 0) (Int.toNat l3)) - x11) - l2) ∧ ∀ v15 : Int, v15 = (if (0 ≤ ((mI M (mR M a0 0) (Int.toNat l3)) - x11) - l2) then 0 else 1) → mK M10 a0 = 20 ∧ ∀ v22 : Int, v22 = (if (0 ≤ ((mI M (mR M a0 0) (Int.toNat l3)) - x11) - l2) then ((mI M (mR M a0 0) (Int.toNat l3)) - x11) - l2 else (((mI M (mR M a0 0) (Int.toNat l3)) - x11) - l2) + 16777216) → mK M10 (mR M10 a0 0) = 30 ∧ ((0 : Int) ≤ l3 ∧ l3 < (mN M10 (mR M10 a0 0) : Int)) ∧ i32 v22 ∧ ∀ M28, M28 = mUI M10 (mR M10 a0 0) (Int.toNat l3) v22 → h_MW_less_4 G d a0 a1 v15 (l3 + 1) M28 Q))))) :
    h_MW_less_4 G d a0 a1 l2 l3 M Q := by
  unfold h_MW_less_4
  obtain ⟨h1, h⟩ := h
  refine wm_iload_n d_MW_less_4 rfl rfl ?_
  refine wm_aload_n d_MW_less_5 rfl rfl ?_
  refine gf_MW_13 rfl d_MW_less_6 h1 ?_
  refine wm_icmp_ge (tgt := 66) d_MW_less_9 rfl hi_l3 (hO _ _).1 (fun c3 => ?_) (fun c3 => ?_)
  · replace h := h.1 c3
    refine wm_aload_n d_MW_less_66 rfl rfl ?_
    refine cf_MW_24 rfl d_MW_less_67 h1 (Nat.le_of_ble_eq_true rfl) (Cv.mono h (fun M4 h => ?_))
    obtain ⟨hOM4, h⟩ := h
    refine wm_return d_MW_less_70 rfl ?_
    exact ⟨rfl, h⟩
  · replace h := h.2 c3
    obtain ⟨h7, h⟩ := h
    obtain ⟨h8, h⟩ := h
    obtain ⟨h9, h⟩ := h
    refine wm_aload_n d_MW_less_12 rfl rfl ?_
    refine gf_MW_7 rfl d_MW_less_13 h1 ?_
    refine wm_iload_n d_MW_less_16 rfl rfl ?_
    refine wm_iald d_MW_less_17 h7 h8 ?_
    refine wm_aload_n d_MW_less_18 rfl rfl ?_
    refine wm_iload_n d_MW_less_19 rfl rfl ?_
    refine cf_MW_19 rfl d_MW_less_20 h9 (Nat.le_of_ble_eq_true rfl) (Ci.mono h (fun x11 M10 h => ?_))
    obtain ⟨h12, hOM10, h⟩ := h
    obtain ⟨h13, h⟩ := h
    refine wm_isub d_MW_less_23 ?_
    refine wm_iload_n d_MW_less_24 rfl rfl ?_
    refine wm_isub d_MW_less_25 ?_
    refine wm_istore d_MW_less_26 (by decide) (L' := [vr a0, vr a1, vi l2, vi l3, vi (((mI M (mR M a0 0) (Int.toNat l3)) - x11) - l2)]) rfl ?_
    refine wm_iload d_MW_less_28 rfl ?_
    have hJ : ∀ v15 : Int, v15 = (if (0 ≤ ((mI M (mR M a0 0) (Int.toNat l3)) - x11) - l2) then 0 else 1) → mWm G y_MW_less (d + 1) 38 [vr a0, vr a1, vd, vi l3, vi (((mI M (mR M a0 0) (Int.toNat l3)) - x11) - l2)] [vi v15] M10 (fun r9 M9 => r9 = none ∧ Q M9) := by
      intro v15 e17
      have h := h v15 e17
      have h18 : i32 v15 := by rw [e17]; (repeat' split) <;> first | exact ⟨by decide, by decide⟩ | exact ⟨by decide, by decide⟩
      have h19 : (v15 = 0 ∨ v15 = 1) := by rw [e17]; (repeat' split) <;> decide
      obtain ⟨h20, h⟩ := h
      refine wm_istore_n d_MW_less_38 rfl (by decide) (L' := [vr a0, vr a1, vi v15, vi l3, vi (((mI M (mR M a0 0) (Int.toNat l3)) - x11) - l2)]) rfl ?_
      refine wm_aload_n d_MW_less_39 rfl rfl ?_
      refine gf_MW_7 rfl d_MW_less_40 h20 ?_
      refine wm_iload_n d_MW_less_43 rfl rfl ?_
      refine wm_iload d_MW_less_44 rfl ?_
      have hJ : ∀ v22 : Int, v22 = (if (0 ≤ ((mI M (mR M a0 0) (Int.toNat l3)) - x11) - l2) then ((mI M (mR M a0 0) (Int.toNat l3)) - x11) - l2 else (((mI M (mR M a0 0) (Int.toNat l3)) - x11) - l2) + 16777216) → mWm G y_MW_less (d + 1) 59 [vr a0, vr a1, vi v15, vi l3, vd] [vi v22, vi l3, vr (mR M10 a0 0)] M10 (fun r9 M9 => r9 = none ∧ Q M9) := by
        intro v22 e24
        have h := h v22 e24
        obtain ⟨h25, h⟩ := h
        obtain ⟨h26, h⟩ := h
        obtain ⟨h27, h⟩ := h
        obtain ⟨M28, e29⟩ : ∃ M28, M28 = mUI M10 (mR M10 a0 0) (Int.toNat l3) v22 := ⟨_, rfl⟩
        replace h := h M28 e29
        have hOM28 : mOk M28 := by rw [e29]; exact mOk_UI hOM10 h27
        refine wm_iastE d_MW_less_59 h25 h26 h27 e29 ?_
        refine wm_iinc d_MW_less_60 (by decide) rfl (L' := [vr a0, vr a1, vi v15, vi (l3 + 1), vd]) rfl ?_
        refine wm_goto (tgt := 4) d_MW_less_63 rfl ?_
        exact h
      clear h
      refine wm_if_ge (tgt := 57) d_MW_less_46 rfl h13 (fun c21 => ?_) (fun c21 => ?_)
      · refine wm_iload d_MW_less_57 rfl ?_
        refine wm_less (L' := [vr a0, vr a1, vi v15, vi l3, vd]) ⟨Or.inr rfl, Or.inr rfl, Or.inr rfl, Or.inr rfl, Or.inl rfl, trivial⟩ ?_
        exact hJ (((mI M (mR M a0 0) (Int.toNat l3)) - x11) - l2) (if_pos c21).symm
      · refine wm_iload d_MW_less_49 rfl ?_
        refine wm_ldc (x := 16777216) d_MW_less_51 k13_26 (by decide) ?_
        refine wm_iadd d_MW_less_53 ?_
        refine wm_goto (tgt := 59) d_MW_less_54 rfl ?_
        refine wm_less (L' := [vr a0, vr a1, vi v15, vi l3, vd]) ⟨Or.inr rfl, Or.inr rfl, Or.inr rfl, Or.inr rfl, Or.inl rfl, trivial⟩ ?_
        exact hJ ((((mI M (mR M a0 0) (Int.toNat l3)) - x11) - l2) + 16777216) (if_neg c21).symm
    clear h
    refine wm_if_ge (tgt := 37) d_MW_less_30 rfl h13 (fun c14 => ?_) (fun c14 => ?_)
    · refine wm_iconst d_MW_less_37 ?_
      refine wm_less (L' := [vr a0, vr a1, vd, vi l3, vi (((mI M (mR M a0 0) (Int.toNat l3)) - x11) - l2)]) ⟨Or.inr rfl, Or.inr rfl, Or.inl rfl, Or.inr rfl, Or.inr rfl, trivial⟩ ?_
      exact hJ 0 (if_pos c14).symm
    · refine wm_iconst d_MW_less_33 ?_
      refine wm_goto (tgt := 38) d_MW_less_34 rfl ?_
      refine wm_less (L' := [vr a0, vr a1, vd, vi l3, vi (((mI M (mR M a0 0) (Int.toNat l3)) - x11) - l2)]) ⟨Or.inr rfl, Or.inr rfl, Or.inl rfl, Or.inr rfl, Or.inr rfl, trivial⟩ ?_
      exact hJ 1 (if_neg c14).symm
theorem d_MW_product_0 : decode y_MW_product.2.1 0 = .ok (.aload_n 0, 1) := dc9_42 (by decide +kernel)
theorem d_MW_product_1 : decode y_MW_product.2.1 1 = .ok (.aload_n 1, 1) := dc9_43 (by decide +kernel)
theorem d_MW_product_2 : decode y_MW_product.2.1 2 = .ok (.getfield 13, 3) := dc9_180 (by decide +kernel)
theorem d_MW_product_5 : decode y_MW_product.2.1 5 = .ok (.aload_n 2, 1) := dc9_44 (by decide +kernel)
theorem d_MW_product_6 : decode y_MW_product.2.1 6 = .ok (.getfield 13, 3) := dc9_180 (by decide +kernel)
theorem d_MW_product_9 : decode y_MW_product.2.1 9 = .ok (.iadd, 1) := dc9_96 (by decide +kernel)
theorem d_MW_product_10 : decode y_MW_product.2.1 10 = .ok (.putfield 13, 3) := dc9_181 (by decide +kernel)
theorem d_MW_product_13 : decode y_MW_product.2.1 13 = .ok (.iconst 0, 1) := dc9_3 (by decide +kernel)
theorem d_MW_product_14 : decode y_MW_product.2.1 14 = .ok (.istore_n 3, 1) := dc9_62 (by decide +kernel)
theorem d_MW_product_15 : decode y_MW_product.2.1 15 = .ok (.iload_n 3, 1) := dc9_29 (by decide +kernel)
theorem d_MW_product_16 : decode y_MW_product.2.1 16 = .ok (.aload_n 0, 1) := dc9_42 (by decide +kernel)
theorem d_MW_product_17 : decode y_MW_product.2.1 17 = .ok (.getfield 13, 3) := dc9_180 (by decide +kernel)
theorem d_MW_product_20 : decode y_MW_product.2.1 20 = .ok (.if_icmp .ge 16, 3) := dc9_162 (by decide +kernel)
theorem d_MW_product_36 : decode y_MW_product.2.1 36 = .ok (.iconst 0, 1) := dc9_3 (by decide +kernel)
theorem d_MW_product_37 : decode y_MW_product.2.1 37 = .ok (.istore_n 3, 1) := dc9_62 (by decide +kernel)
theorem d_MW_product_23 : decode y_MW_product.2.1 23 = .ok (.aload_n 0, 1) := dc9_42 (by decide +kernel)
theorem d_MW_product_24 : decode y_MW_product.2.1 24 = .ok (.getfield 7, 3) := dc9_180 (by decide +kernel)
theorem d_MW_product_27 : decode y_MW_product.2.1 27 = .ok (.iload_n 3, 1) := dc9_29 (by decide +kernel)
theorem d_MW_product_28 : decode y_MW_product.2.1 28 = .ok (.iconst 0, 1) := dc9_3 (by decide +kernel)
theorem d_MW_product_29 : decode y_MW_product.2.1 29 = .ok (.iastore, 1) := dc9_79 (by decide +kernel)
theorem d_MW_product_30 : decode y_MW_product.2.1 30 = .ok (.iinc 3 1, 3) := by decide +kernel
theorem d_MW_product_33 : decode y_MW_product.2.1 33 = .ok (.goto (-18), 3) := dc9_167 (by decide +kernel)
theorem d_MW_product_38 : decode y_MW_product.2.1 38 = .ok (.iload_n 3, 1) := dc9_29 (by decide +kernel)
theorem d_MW_product_39 : decode y_MW_product.2.1 39 = .ok (.aload_n 1, 1) := dc9_43 (by decide +kernel)
theorem d_MW_product_40 : decode y_MW_product.2.1 40 = .ok (.getfield 13, 3) := dc9_180 (by decide +kernel)
theorem d_MW_product_43 : decode y_MW_product.2.1 43 = .ok (.if_icmp .ge 100, 3) := dc9_162 (by decide +kernel)
theorem d_MW_product_143 : decode y_MW_product.2.1 143 = .ok (.aload_n 0, 1) := dc9_42 (by decide +kernel)
theorem d_MW_product_46 : decode y_MW_product.2.1 46 = .ok (.lconst 0, 1) := dc9_9 (by decide +kernel)
theorem d_MW_product_47 : decode y_MW_product.2.1 47 = .ok (.lstore 4, 2) := dc9_55 (by decide +kernel)
theorem d_MW_product_49 : decode y_MW_product.2.1 49 = .ok (.iconst 0, 1) := dc9_3 (by decide +kernel)
theorem d_MW_product_50 : decode y_MW_product.2.1 50 = .ok (.istore 6, 2) := dc9_54 (by decide +kernel)
theorem d_MW_product_144 : decode y_MW_product.2.1 144 = .ok (.invokevirtual 24, 3) := dc9_182 (by decide +kernel)
theorem d_MW_product_147 : decode y_MW_product.2.1 147 = .ok (.return_, 1) := dc9_177 (by decide +kernel)
theorem d_MW_product_52 : decode y_MW_product.2.1 52 = .ok (.iload 6, 2) := dc9_21 (by decide +kernel)
theorem d_MW_product_54 : decode y_MW_product.2.1 54 = .ok (.aload_n 2, 1) := dc9_44 (by decide +kernel)
theorem d_MW_product_55 : decode y_MW_product.2.1 55 = .ok (.getfield 13, 3) := dc9_180 (by decide +kernel)
theorem d_MW_product_58 : decode y_MW_product.2.1 58 = .ok (.if_icmp .ge 65, 3) := dc9_162 (by decide +kernel)
theorem d_MW_product_123 : decode y_MW_product.2.1 123 = .ok (.aload_n 0, 1) := dc9_42 (by decide +kernel)
theorem d_MW_product_124 : decode y_MW_product.2.1 124 = .ok (.getfield 7, 3) := dc9_180 (by decide +kernel)
theorem d_MW_product_127 : decode y_MW_product.2.1 127 = .ok (.iload_n 3, 1) := dc9_29 (by decide +kernel)
theorem d_MW_product_128 : decode y_MW_product.2.1 128 = .ok (.aload_n 2, 1) := dc9_44 (by decide +kernel)
theorem d_MW_product_129 : decode y_MW_product.2.1 129 = .ok (.getfield 13, 3) := dc9_180 (by decide +kernel)
theorem d_MW_product_132 : decode y_MW_product.2.1 132 = .ok (.iadd, 1) := dc9_96 (by decide +kernel)
theorem d_MW_product_133 : decode y_MW_product.2.1 133 = .ok (.lload 4, 2) := dc9_22 (by decide +kernel)
theorem d_MW_product_135 : decode y_MW_product.2.1 135 = .ok (.l2i, 1) := dc9_136 (by decide +kernel)
theorem d_MW_product_136 : decode y_MW_product.2.1 136 = .ok (.iastore, 1) := dc9_79 (by decide +kernel)
theorem d_MW_product_137 : decode y_MW_product.2.1 137 = .ok (.iinc 3 1, 3) := by decide +kernel
theorem d_MW_product_140 : decode y_MW_product.2.1 140 = .ok (.goto (-102), 3) := dc9_167 (by decide +kernel)
theorem d_MW_product_61 : decode y_MW_product.2.1 61 = .ok (.lload 4, 2) := dc9_22 (by decide +kernel)
theorem d_MW_product_63 : decode y_MW_product.2.1 63 = .ok (.aload_n 0, 1) := dc9_42 (by decide +kernel)
theorem d_MW_product_64 : decode y_MW_product.2.1 64 = .ok (.getfield 7, 3) := dc9_180 (by decide +kernel)
theorem d_MW_product_67 : decode y_MW_product.2.1 67 = .ok (.iload_n 3, 1) := dc9_29 (by decide +kernel)
theorem d_MW_product_68 : decode y_MW_product.2.1 68 = .ok (.iload 6, 2) := dc9_21 (by decide +kernel)
theorem d_MW_product_70 : decode y_MW_product.2.1 70 = .ok (.iadd, 1) := dc9_96 (by decide +kernel)
theorem d_MW_product_71 : decode y_MW_product.2.1 71 = .ok (.iaload, 1) := dc9_46 (by decide +kernel)
theorem d_MW_product_72 : decode y_MW_product.2.1 72 = .ok (.i2l, 1) := dc9_133 (by decide +kernel)
theorem d_MW_product_73 : decode y_MW_product.2.1 73 = .ok (.ladd, 1) := dc9_97 (by decide +kernel)
theorem d_MW_product_74 : decode y_MW_product.2.1 74 = .ok (.aload_n 1, 1) := dc9_43 (by decide +kernel)
theorem d_MW_product_75 : decode y_MW_product.2.1 75 = .ok (.getfield 7, 3) := dc9_180 (by decide +kernel)
theorem d_MW_product_78 : decode y_MW_product.2.1 78 = .ok (.iload_n 3, 1) := dc9_29 (by decide +kernel)
theorem d_MW_product_79 : decode y_MW_product.2.1 79 = .ok (.iaload, 1) := dc9_46 (by decide +kernel)
theorem d_MW_product_80 : decode y_MW_product.2.1 80 = .ok (.i2l, 1) := dc9_133 (by decide +kernel)
theorem d_MW_product_81 : decode y_MW_product.2.1 81 = .ok (.aload_n 2, 1) := dc9_44 (by decide +kernel)
theorem d_MW_product_82 : decode y_MW_product.2.1 82 = .ok (.getfield 7, 3) := dc9_180 (by decide +kernel)
theorem d_MW_product_85 : decode y_MW_product.2.1 85 = .ok (.iload 6, 2) := dc9_21 (by decide +kernel)
theorem d_MW_product_87 : decode y_MW_product.2.1 87 = .ok (.iaload, 1) := dc9_46 (by decide +kernel)
theorem d_MW_product_88 : decode y_MW_product.2.1 88 = .ok (.i2l, 1) := dc9_133 (by decide +kernel)
theorem d_MW_product_89 : decode y_MW_product.2.1 89 = .ok (.lmul, 1) := dc9_105 (by decide +kernel)
theorem d_MW_product_90 : decode y_MW_product.2.1 90 = .ok (.ladd, 1) := dc9_97 (by decide +kernel)
theorem d_MW_product_91 : decode y_MW_product.2.1 91 = .ok (.lstore 4, 2) := dc9_55 (by decide +kernel)
theorem d_MW_product_93 : decode y_MW_product.2.1 93 = .ok (.aload_n 0, 1) := dc9_42 (by decide +kernel)
theorem d_MW_product_94 : decode y_MW_product.2.1 94 = .ok (.getfield 7, 3) := dc9_180 (by decide +kernel)
theorem d_MW_product_97 : decode y_MW_product.2.1 97 = .ok (.iload_n 3, 1) := dc9_29 (by decide +kernel)
theorem d_MW_product_98 : decode y_MW_product.2.1 98 = .ok (.iload 6, 2) := dc9_21 (by decide +kernel)
theorem d_MW_product_100 : decode y_MW_product.2.1 100 = .ok (.iadd, 1) := dc9_96 (by decide +kernel)
theorem d_MW_product_101 : decode y_MW_product.2.1 101 = .ok (.lload 4, 2) := dc9_22 (by decide +kernel)
theorem d_MW_product_103 : decode y_MW_product.2.1 103 = .ok (.ldc2_w 27, 3) := dc9_20 (by decide +kernel)
theorem d_MW_product_106 : decode y_MW_product.2.1 106 = .ok (.lrem, 1) := dc9_113 (by decide +kernel)
theorem d_MW_product_107 : decode y_MW_product.2.1 107 = .ok (.l2i, 1) := dc9_136 (by decide +kernel)
theorem d_MW_product_108 : decode y_MW_product.2.1 108 = .ok (.iastore, 1) := dc9_79 (by decide +kernel)
theorem d_MW_product_109 : decode y_MW_product.2.1 109 = .ok (.lload 4, 2) := dc9_22 (by decide +kernel)
theorem d_MW_product_111 : decode y_MW_product.2.1 111 = .ok (.ldc2_w 27, 3) := dc9_20 (by decide +kernel)
theorem d_MW_product_114 : decode y_MW_product.2.1 114 = .ok (.ldiv, 1) := dc9_109 (by decide +kernel)
theorem d_MW_product_115 : decode y_MW_product.2.1 115 = .ok (.lstore 4, 2) := dc9_55 (by decide +kernel)
theorem d_MW_product_117 : decode y_MW_product.2.1 117 = .ok (.iinc 6 1, 3) := by decide +kernel
theorem d_MW_product_120 : decode y_MW_product.2.1 120 = .ok (.goto (-68), 3) := dc9_167 (by decide +kernel)
def h_MW_product_15 (G : mG) (d : Nat) (a0 : Nat) (a1 : Nat) (a2 : Nat) (l3 : Int) (M : mM) (Q : mM → Prop) : Prop := mWm G y_MW_product (d + 1) 15 [vr a0, vr a1, vr a2, vi l3, vd, vd, vd] [] M (fun r9 M9 => r9 = none ∧ Q M9)
def h_MW_product_38 (G : mG) (d : Nat) (a0 : Nat) (a1 : Nat) (a2 : Nat) (l3 : Int) (M : mM) (Q : mM → Prop) : Prop := mWm G y_MW_product (d + 1) 38 [vr a0, vr a1, vr a2, vi l3, vd, vd, vd] [] M (fun r9 M9 => r9 = none ∧ Q M9)
def h_MW_product_52 (G : mG) (d : Nat) (a0 : Nat) (a1 : Nat) (a2 : Nat) (l3 : Int) (j4 : Int) (l6 : Int) (M : mM) (Q : mM → Prop) : Prop := mWm G y_MW_product (d + 1) 52 [vr a0, vr a1, vr a2, vi l3, vl j4, vd, vi l6] [] M (fun r9 M9 => r9 = none ∧ Q M9)
theorem k_MW_product {G : mG} {d : Nat} {a0 : Nat} {a1 : Nat} {a2 : Nat} {M : mM} {Q : mM → Prop} (hO : mOk M)
    (h : mK M a1 = 20 ∧ mK M a2 = 20 ∧ mK M a0 = 20 ∧ i32 ((mI M a1 1) + (mI M a2 1)) ∧ ∀ M5, M5 = mUI M a0 1 ((mI M a1 1) + (mI M a2 1)) → h_MW_product_15 G d a0 a1 a2 0 M5 Q) :
    Cv G y_MW_product (d + 1) [vr a0, vr a1, vr a2] M Q := by
  refine wm_open (y := y_MW_product) rfl (Nat.le_of_ble_eq_true rfl) (L := [vr a0, vr a1, vr a2, vd, vd, vd, vd]) rfl ?_
  obtain ⟨h1, h⟩ := h
  obtain ⟨h2, h⟩ := h
  obtain ⟨h3, h⟩ := h
  obtain ⟨h4, h⟩ := h
  obtain ⟨M5, e6⟩ : ∃ M5, M5 = mUI M a0 1 ((mI M a1 1) + (mI M a2 1)) := ⟨_, rfl⟩
  replace h := h M5 e6
  refine wm_aload_n d_MW_product_0 rfl rfl ?_
  refine wm_aload_n d_MW_product_1 rfl rfl ?_
  refine gf_MW_13 rfl d_MW_product_2 h1 ?_
  refine wm_aload_n d_MW_product_5 rfl rfl ?_
  refine gf_MW_13 rfl d_MW_product_6 h2 ?_
  refine wm_iadd d_MW_product_9 ?_
  have hOM5 : mOk M5 := by rw [e6]; exact mOk_UI hO h4
  refine pf_MW_13 rfl d_MW_product_10 h3 h4 e6 ?_
  refine wm_iconst d_MW_product_13 ?_
  refine wm_istore_n d_MW_product_14 rfl (by decide) (L' := [vr a0, vr a1, vr a2, vi 0, vd, vd, vd]) rfl ?_
  exact h
theorem k_MW_product_15 {G : mG} {d : Nat} {a0 : Nat} {a1 : Nat} {a2 : Nat} {l3 : Int} {M : mM} {Q : mM → Prop} (hO : mOk M) (hi_l3 : i32 l3)
    (h : mK M a0 = 20 ∧ ((mI M a0 1 ≤ l3) → (h_MW_product_38 G d a0 a1 a2 0 M Q)) ∧ (¬ (mI M a0 1 ≤ l3) → (mK M (mR M a0 0) = 30 ∧ ((0 : Int) ≤ l3 ∧ l3 < (mN M (mR M a0 0) : Int)) ∧ ∀ M14, M14 = mUI M (mR M a0 0) (Int.toNat l3) 0 → h_MW_product_15 G d a0 a1 a2 (l3 + 1) M14 Q))) :
    h_MW_product_15 G d a0 a1 a2 l3 M Q := by
  unfold h_MW_product_15
  obtain ⟨h7, h⟩ := h
  refine wm_iload_n d_MW_product_15 rfl rfl ?_
  refine wm_aload_n d_MW_product_16 rfl rfl ?_
  refine gf_MW_13 rfl d_MW_product_17 h7 ?_
  refine wm_icmp_ge (tgt := 36) d_MW_product_20 rfl hi_l3 (hO _ _).1 (fun c11 => ?_) (fun c11 => ?_)
  · replace h := h.1 c11
    refine wm_iconst d_MW_product_36 ?_
    refine wm_istore_n d_MW_product_37 rfl (by decide) (L' := [vr a0, vr a1, vr a2, vi 0, vd, vd, vd]) rfl ?_
    exact h
  · replace h := h.2 c11
    obtain ⟨h12, h⟩ := h
    obtain ⟨h13, h⟩ := h
    obtain ⟨M14, e15⟩ : ∃ M14, M14 = mUI M (mR M a0 0) (Int.toNat l3) 0 := ⟨_, rfl⟩
    replace h := h M14 e15
    refine wm_aload_n d_MW_product_23 rfl rfl ?_
    refine gf_MW_7 rfl d_MW_product_24 h7 ?_
    refine wm_iload_n d_MW_product_27 rfl rfl ?_
    refine wm_iconst d_MW_product_28 ?_
    have hOM14 : mOk M14 := by rw [e15]; exact mOk_UI hO ⟨by decide, by decide⟩
    refine wm_iastE d_MW_product_29 h12 h13 ⟨by decide, by decide⟩ e15 ?_
    refine wm_iinc d_MW_product_30 (by decide) rfl (L' := [vr a0, vr a1, vr a2, vi (l3 + 1), vd, vd, vd]) rfl ?_
    refine wm_goto (tgt := 15) d_MW_product_33 rfl ?_
    exact h
theorem k_MW_product_38 {G : mG} {d : Nat} {a0 : Nat} {a1 : Nat} {a2 : Nat} {l3 : Int} {M : mM} {Q : mM → Prop} (hO : mOk M) (hi_l3 : i32 l3)
    (h : mK M a1 = 20 ∧ ((mI M a1 1 ≤ l3) → (mK M a0 = 20 ∧ Cv G y_MW_trim d [vr a0] M (fun M20 => mOk M20 ∧ (Q M20)))) ∧ (¬ (mI M a1 1 ≤ l3) → (h_MW_product_52 G d a0 a1 a2 l3 0 0 M Q))) :
    h_MW_product_38 G d a0 a1 a2 l3 M Q := by
  unfold h_MW_product_38
  obtain ⟨h16, h⟩ := h
  refine wm_iload_n d_MW_product_38 rfl rfl ?_
  refine wm_aload_n d_MW_product_39 rfl rfl ?_
  refine gf_MW_13 rfl d_MW_product_40 h16 ?_
  refine wm_icmp_ge (tgt := 143) d_MW_product_43 rfl hi_l3 (hO _ _).1 (fun c18 => ?_) (fun c18 => ?_)
  · replace h := h.1 c18
    obtain ⟨h19, h⟩ := h
    refine wm_aload_n d_MW_product_143 rfl rfl ?_
    refine cf_MW_24 rfl d_MW_product_144 h19 (Nat.le_of_ble_eq_true rfl) (Cv.mono h (fun M20 h => ?_))
    obtain ⟨hOM20, h⟩ := h
    refine wm_return d_MW_product_147 rfl ?_
    exact ⟨rfl, h⟩
  · replace h := h.2 c18
    refine wm_lconst (x := 0) d_MW_product_46 rfl ?_
    refine wm_lstore d_MW_product_47 (by decide) (L' := [vr a0, vr a1, vr a2, vi l3, vl 0, vd, vd]) rfl ?_
    refine wm_iconst d_MW_product_49 ?_
    refine wm_istore d_MW_product_50 (by decide) (L' := [vr a0, vr a1, vr a2, vi l3, vl 0, vd, vi 0]) rfl ?_
    exact h
theorem k_MW_product_52 {G : mG} {d : Nat} {a0 : Nat} {a1 : Nat} {a2 : Nat} {l3 : Int} {j4 : Int} {l6 : Int} {M : mM} {Q : mM → Prop} (hO : mOk M) (hi_l3 : i32 l3) (hi_j4 : i64 j4) (hi_l6 : i32 l6)
    (h : mK M a2 = 20 ∧ ((mI M a2 1 ≤ l6) → (mK M a0 = 20 ∧ mK M (mR M a0 0) = 30 ∧ ((0 : Int) ≤ l3 + (mI M a2 1) ∧ l3 + (mI M a2 1) < (mN M (mR M a0 0) : Int)) ∧ i32 j4 ∧ ∀ M45, M45 = mUI M (mR M a0 0) (Int.toNat (l3 + (mI M a2 1))) j4 → h_MW_product_38 G d a0 a1 a2 (l3 + 1) M45 Q)) ∧ (¬ (mI M a2 1 ≤ l6) → (mK M a0 = 20 ∧ mK M (mR M a0 0) = 30 ∧ ((0 : Int) ≤ l3 + l6 ∧ l3 + l6 < (mN M (mR M a0 0) : Int)) ∧ mK M a1 = 20 ∧ mK M (mR M a1 0) = 30 ∧ ((0 : Int) ≤ l3 ∧ l3 < (mN M (mR M a1 0) : Int)) ∧ mK M (mR M a2 0) = 30 ∧ ((0 : Int) ≤ l6 ∧ l6 < (mN M (mR M a2 0) : Int)) ∧ i64 ((j4 + (mI M (mR M a0 0) (Int.toNat (l3 + l6)))) + ((mI M (mR M a1 0) (Int.toNat l3)) * (mI M (mR M a2 0) (Int.toNat l6)))) ∧ ((0 : Int) ≤ l3 + l6 ∧ l3 + l6 < (mN M (mR M a0 0) : Int)) ∧ i32 (Int.tmod ((j4 + (mI M (mR M a0 0) (Int.toNat (l3 + l6)))) + ((mI M (mR M a1 0) (Int.toNat l3)) * (mI M (mR M a2 0) (Int.toNat l6)))) 16777216) ∧ ∀ M58, M58 = mUI M (mR M a0 0) (Int.toNat (l3 + l6)) (Int.tmod ((j4 + (mI M (mR M a0 0) (Int.toNat (l3 + l6)))) + ((mI M (mR M a1 0) (Int.toNat l3)) * (mI M (mR M a2 0) (Int.toNat l6)))) 16777216) → h_MW_product_52 G d a0 a1 a2 l3 (Int.tdiv ((j4 + (mI M (mR M a0 0) (Int.toNat (l3 + l6)))) + ((mI M (mR M a1 0) (Int.toNat l3)) * (mI M (mR M a2 0) (Int.toNat l6)))) 16777216) (l6 + 1) M58 Q))) :
    h_MW_product_52 G d a0 a1 a2 l3 j4 l6 M Q := by
  unfold h_MW_product_52
  obtain ⟨h23, h⟩ := h
  refine wm_iload d_MW_product_52 rfl ?_
  refine wm_aload_n d_MW_product_54 rfl rfl ?_
  refine gf_MW_13 rfl d_MW_product_55 h23 ?_
  refine wm_icmp_ge (tgt := 123) d_MW_product_58 rfl hi_l6 (hO _ _).1 (fun c40 => ?_) (fun c40 => ?_)
  · replace h := h.1 c40
    obtain ⟨h41, h⟩ := h
    obtain ⟨h42, h⟩ := h
    obtain ⟨h43, h⟩ := h
    obtain ⟨h44, h⟩ := h
    obtain ⟨M45, e46⟩ : ∃ M45, M45 = mUI M (mR M a0 0) (Int.toNat (l3 + (mI M a2 1))) j4 := ⟨_, rfl⟩
    replace h := h M45 e46
    refine wm_aload_n d_MW_product_123 rfl rfl ?_
    refine gf_MW_7 rfl d_MW_product_124 h41 ?_
    refine wm_iload_n d_MW_product_127 rfl rfl ?_
    refine wm_aload_n d_MW_product_128 rfl rfl ?_
    refine gf_MW_13 rfl d_MW_product_129 h23 ?_
    refine wm_iadd d_MW_product_132 ?_
    refine wm_lload d_MW_product_133 rfl ?_
    refine wm_l2i d_MW_product_135 ?_
    have hOM45 : mOk M45 := by rw [e46]; exact mOk_UI hO h44
    refine wm_iastE d_MW_product_136 h42 h43 h44 e46 ?_
    refine wm_iinc d_MW_product_137 (by decide) rfl (L' := [vr a0, vr a1, vr a2, vi (l3 + 1), vl j4, vd, vi l6]) rfl ?_
    refine wm_goto (tgt := 38) d_MW_product_140 rfl ?_
    refine wm_less (L' := [vr a0, vr a1, vr a2, vi (l3 + 1), vd, vd, vd]) ⟨Or.inr rfl, Or.inr rfl, Or.inr rfl, Or.inr rfl, Or.inl rfl, Or.inl rfl, Or.inl rfl, trivial⟩ ?_
    exact h
  · replace h := h.2 c40
    obtain ⟨h47, h⟩ := h
    obtain ⟨h48, h⟩ := h
    obtain ⟨h49, h⟩ := h
    obtain ⟨h50, h⟩ := h
    obtain ⟨h51, h⟩ := h
    obtain ⟨h52, h⟩ := h
    obtain ⟨h53, h⟩ := h
    obtain ⟨h54, h⟩ := h
    obtain ⟨h55, h⟩ := h
    obtain ⟨h56, h⟩ := h
    obtain ⟨h57, h⟩ := h
    obtain ⟨M58, e59⟩ : ∃ M58, M58 = mUI M (mR M a0 0) (Int.toNat (l3 + l6)) (Int.tmod ((j4 + (mI M (mR M a0 0) (Int.toNat (l3 + l6)))) + ((mI M (mR M a1 0) (Int.toNat l3)) * (mI M (mR M a2 0) (Int.toNat l6)))) 16777216) := ⟨_, rfl⟩
    replace h := h M58 e59
    refine wm_lload d_MW_product_61 rfl ?_
    refine wm_aload_n d_MW_product_63 rfl rfl ?_
    refine gf_MW_7 rfl d_MW_product_64 h47 ?_
    refine wm_iload_n d_MW_product_67 rfl rfl ?_
    refine wm_iload d_MW_product_68 rfl ?_
    refine wm_iadd d_MW_product_70 ?_
    refine wm_iald d_MW_product_71 h48 h49 ?_
    refine wm_i2l d_MW_product_72 (hO _ _).1 ?_
    refine wm_ladd d_MW_product_73 ?_
    refine wm_aload_n d_MW_product_74 rfl rfl ?_
    refine gf_MW_7 rfl d_MW_product_75 h50 ?_
    refine wm_iload_n d_MW_product_78 rfl rfl ?_
    refine wm_iald d_MW_product_79 h51 h52 ?_
    refine wm_i2l d_MW_product_80 (hO _ _).1 ?_
    refine wm_aload_n d_MW_product_81 rfl rfl ?_
    refine gf_MW_7 rfl d_MW_product_82 h23 ?_
    refine wm_iload d_MW_product_85 rfl ?_
    refine wm_iald d_MW_product_87 h53 h54 ?_
    refine wm_i2l d_MW_product_88 (hO _ _).1 ?_
    refine wm_lmul d_MW_product_89 ?_
    refine wm_ladd d_MW_product_90 ?_
    refine wm_lstore d_MW_product_91 (by decide) (L' := [vr a0, vr a1, vr a2, vi l3, vl ((j4 + (mI M (mR M a0 0) (Int.toNat (l3 + l6)))) + ((mI M (mR M a1 0) (Int.toNat l3)) * (mI M (mR M a2 0) (Int.toNat l6)))), vd, vi l6]) rfl ?_
    refine wm_aload_n d_MW_product_93 rfl rfl ?_
    refine gf_MW_7 rfl d_MW_product_94 h47 ?_
    refine wm_iload_n d_MW_product_97 rfl rfl ?_
    refine wm_iload d_MW_product_98 rfl ?_
    refine wm_iadd d_MW_product_100 ?_
    refine wm_lload d_MW_product_101 rfl ?_
    refine wm_ldc2 (x := 16777216) d_MW_product_103 k13_13 (by decide) ?_
    refine wm_lrem d_MW_product_106 h55 ⟨by decide, by decide⟩ (by decide) ?_
    refine wm_l2i d_MW_product_107 ?_
    have hOM58 : mOk M58 := by rw [e59]; exact mOk_UI hO h57
    refine wm_iastE d_MW_product_108 h48 h56 h57 e59 ?_
    refine wm_lload d_MW_product_109 rfl ?_
    refine wm_ldc2 (x := 16777216) d_MW_product_111 k13_13 (by decide) ?_
    refine wm_ldiv d_MW_product_114 h55 ⟨by decide, by decide⟩ (by decide) ?_
    refine wm_lstore d_MW_product_115 (by decide) (L' := [vr a0, vr a1, vr a2, vi l3, vl (Int.tdiv ((j4 + (mI M (mR M a0 0) (Int.toNat (l3 + l6)))) + ((mI M (mR M a1 0) (Int.toNat l3)) * (mI M (mR M a2 0) (Int.toNat l6)))) 16777216), vd, vi l6]) rfl ?_
    refine wm_iinc d_MW_product_117 (by decide) rfl (L' := [vr a0, vr a1, vr a2, vi l3, vl (Int.tdiv ((j4 + (mI M (mR M a0 0) (Int.toNat (l3 + l6)))) + ((mI M (mR M a1 0) (Int.toNat l3)) * (mI M (mR M a2 0) (Int.toNat l6)))) 16777216), vd, vi (l6 + 1)]) rfl ?_
    refine wm_goto (tgt := 52) d_MW_product_120 rfl ?_
    exact h
theorem d_MW_twice_0 : decode y_MW_twice.2.1 0 = .ok (.iload_n 1, 1) := dc9_27 (by decide +kernel)
theorem d_MW_twice_1 : decode y_MW_twice.2.1 1 = .ok (.ifCond .eq 7, 3) := dc9_153 (by decide +kernel)
theorem d_MW_twice_8 : decode y_MW_twice.2.1 8 = .ok (.iconst 0, 1) := dc9_3 (by decide +kernel)
theorem d_MW_twice_4 : decode y_MW_twice.2.1 4 = .ok (.iconst 1, 1) := dc9_4 (by decide +kernel)
theorem d_MW_twice_5 : decode y_MW_twice.2.1 5 = .ok (.goto 4, 3) := dc9_167 (by decide +kernel)
theorem d_MW_twice_9 : decode y_MW_twice.2.1 9 = .ok (.istore_n 2, 1) := dc9_61 (by decide +kernel)
theorem d_MW_twice_10 : decode y_MW_twice.2.1 10 = .ok (.iconst 0, 1) := dc9_3 (by decide +kernel)
theorem d_MW_twice_11 : decode y_MW_twice.2.1 11 = .ok (.istore_n 3, 1) := dc9_62 (by decide +kernel)
theorem d_MW_twice_12 : decode y_MW_twice.2.1 12 = .ok (.iload_n 3, 1) := dc9_29 (by decide +kernel)
theorem d_MW_twice_13 : decode y_MW_twice.2.1 13 = .ok (.aload_n 0, 1) := dc9_42 (by decide +kernel)
theorem d_MW_twice_14 : decode y_MW_twice.2.1 14 = .ok (.getfield 13, 3) := dc9_180 (by decide +kernel)
theorem d_MW_twice_17 : decode y_MW_twice.2.1 17 = .ok (.if_icmp .ge 38, 3) := dc9_162 (by decide +kernel)
theorem d_MW_twice_55 : decode y_MW_twice.2.1 55 = .ok (.iload_n 2, 1) := dc9_28 (by decide +kernel)
theorem d_MW_twice_20 : decode y_MW_twice.2.1 20 = .ok (.iconst 2, 1) := dc9_5 (by decide +kernel)
theorem d_MW_twice_21 : decode y_MW_twice.2.1 21 = .ok (.aload_n 0, 1) := dc9_42 (by decide +kernel)
theorem d_MW_twice_22 : decode y_MW_twice.2.1 22 = .ok (.getfield 7, 3) := dc9_180 (by decide +kernel)
theorem d_MW_twice_25 : decode y_MW_twice.2.1 25 = .ok (.iload_n 3, 1) := dc9_29 (by decide +kernel)
theorem d_MW_twice_26 : decode y_MW_twice.2.1 26 = .ok (.iaload, 1) := dc9_46 (by decide +kernel)
theorem d_MW_twice_27 : decode y_MW_twice.2.1 27 = .ok (.imul, 1) := dc9_104 (by decide +kernel)
theorem d_MW_twice_28 : decode y_MW_twice.2.1 28 = .ok (.iload_n 2, 1) := dc9_28 (by decide +kernel)
theorem d_MW_twice_29 : decode y_MW_twice.2.1 29 = .ok (.iadd, 1) := dc9_96 (by decide +kernel)
theorem d_MW_twice_30 : decode y_MW_twice.2.1 30 = .ok (.istore 4, 2) := dc9_54 (by decide +kernel)
theorem d_MW_twice_32 : decode y_MW_twice.2.1 32 = .ok (.aload_n 0, 1) := dc9_42 (by decide +kernel)
theorem d_MW_twice_33 : decode y_MW_twice.2.1 33 = .ok (.getfield 7, 3) := dc9_180 (by decide +kernel)
theorem d_MW_twice_36 : decode y_MW_twice.2.1 36 = .ok (.iload_n 3, 1) := dc9_29 (by decide +kernel)
theorem d_MW_twice_37 : decode y_MW_twice.2.1 37 = .ok (.iload 4, 2) := dc9_21 (by decide +kernel)
theorem d_MW_twice_39 : decode y_MW_twice.2.1 39 = .ok (.ldc 23, 2) := dc9_18 (by decide +kernel)
theorem d_MW_twice_41 : decode y_MW_twice.2.1 41 = .ok (.irem, 1) := dc9_112 (by decide +kernel)
theorem d_MW_twice_42 : decode y_MW_twice.2.1 42 = .ok (.iastore, 1) := dc9_79 (by decide +kernel)
theorem d_MW_twice_43 : decode y_MW_twice.2.1 43 = .ok (.iload 4, 2) := dc9_21 (by decide +kernel)
theorem d_MW_twice_45 : decode y_MW_twice.2.1 45 = .ok (.ldc 23, 2) := dc9_18 (by decide +kernel)
theorem d_MW_twice_47 : decode y_MW_twice.2.1 47 = .ok (.idiv, 1) := dc9_108 (by decide +kernel)
theorem d_MW_twice_48 : decode y_MW_twice.2.1 48 = .ok (.istore_n 2, 1) := dc9_61 (by decide +kernel)
theorem d_MW_twice_49 : decode y_MW_twice.2.1 49 = .ok (.iinc 3 1, 3) := by decide +kernel
theorem d_MW_twice_52 : decode y_MW_twice.2.1 52 = .ok (.goto (-40), 3) := dc9_167 (by decide +kernel)
theorem d_MW_twice_56 : decode y_MW_twice.2.1 56 = .ok (.ifCond .le 23, 3) := dc9_158 (by decide +kernel)
theorem d_MW_twice_59 : decode y_MW_twice.2.1 59 = .ok (.aload_n 0, 1) := dc9_42 (by decide +kernel)
theorem d_MW_twice_60 : decode y_MW_twice.2.1 60 = .ok (.getfield 7, 3) := dc9_180 (by decide +kernel)
theorem d_MW_twice_63 : decode y_MW_twice.2.1 63 = .ok (.aload_n 0, 1) := dc9_42 (by decide +kernel)
theorem d_MW_twice_64 : decode y_MW_twice.2.1 64 = .ok (.getfield 13, 3) := dc9_180 (by decide +kernel)
theorem d_MW_twice_67 : decode y_MW_twice.2.1 67 = .ok (.iload_n 2, 1) := dc9_28 (by decide +kernel)
theorem d_MW_twice_68 : decode y_MW_twice.2.1 68 = .ok (.iastore, 1) := dc9_79 (by decide +kernel)
theorem d_MW_twice_69 : decode y_MW_twice.2.1 69 = .ok (.aload_n 0, 1) := dc9_42 (by decide +kernel)
theorem d_MW_twice_70 : decode y_MW_twice.2.1 70 = .ok (.dup, 1) := dc9_89 (by decide +kernel)
theorem d_MW_twice_71 : decode y_MW_twice.2.1 71 = .ok (.getfield 13, 3) := dc9_180 (by decide +kernel)
theorem d_MW_twice_74 : decode y_MW_twice.2.1 74 = .ok (.iconst 1, 1) := dc9_4 (by decide +kernel)
theorem d_MW_twice_75 : decode y_MW_twice.2.1 75 = .ok (.iadd, 1) := dc9_96 (by decide +kernel)
theorem d_MW_twice_76 : decode y_MW_twice.2.1 76 = .ok (.putfield 13, 3) := dc9_181 (by decide +kernel)
theorem d_MW_twice_79 : decode y_MW_twice.2.1 79 = .ok (.return_, 1) := dc9_177 (by decide +kernel)
def h_MW_twice_12 (G : mG) (d : Nat) (a0 : Nat) (l2 : Int) (l3 : Int) (M : mM) (Q : mM → Prop) : Prop := mWm G y_MW_twice d 12 [vr a0, vd, vi l2, vi l3, vd] [] M (fun r9 M9 => r9 = none ∧ Q M9)
theorem k_MW_twice {G : mG} {d : Nat} {a0 : Nat} {l1 : Int} {M : mM} {Q : mM → Prop} (hO : mOk M) (hi_l1 : i32 l1)
    (h : ∀ v2 : Int, v2 = (if (l1 = 0) then 0 else 1) → h_MW_twice_12 G d a0 v2 0 M Q) :
    Cv G y_MW_twice d [vr a0, vi l1] M Q := by
  refine wm_open (y := y_MW_twice) rfl (Nat.le_of_ble_eq_true rfl) (L := [vr a0, vi l1, vd, vd, vd]) rfl ?_
  refine wm_iload_n d_MW_twice_0 rfl rfl ?_
  have hJ : ∀ v2 : Int, v2 = (if (l1 = 0) then 0 else 1) → mWm G y_MW_twice d 9 [vr a0, vd, vd, vd, vd] [vi v2] M (fun r9 M9 => r9 = none ∧ Q M9) := by
    intro v2 e4
    have h := h v2 e4
    have h5 : i32 v2 := by rw [e4]; (repeat' split) <;> first | exact ⟨by decide, by decide⟩ | exact ⟨by decide, by decide⟩
    have h6 : (v2 = 0 ∨ v2 = 1) := by rw [e4]; (repeat' split) <;> decide
    refine wm_istore_n d_MW_twice_9 rfl (by decide) (L' := [vr a0, vd, vi v2, vd, vd]) rfl ?_
    refine wm_iconst d_MW_twice_10 ?_
    refine wm_istore_n d_MW_twice_11 rfl (by decide) (L' := [vr a0, vd, vi v2, vi 0, vd]) rfl ?_
    exact h
  clear h
  refine wm_if_eq (tgt := 8) d_MW_twice_1 rfl hi_l1 (fun c1 => ?_) (fun c1 => ?_)
  · refine wm_iconst d_MW_twice_8 ?_
    refine wm_less (L' := [vr a0, vd, vd, vd, vd]) ⟨Or.inr rfl, Or.inl rfl, Or.inl rfl, Or.inl rfl, Or.inl rfl, trivial⟩ ?_
    exact hJ 0 (if_pos c1).symm
  · refine wm_iconst d_MW_twice_4 ?_
    refine wm_goto (tgt := 9) d_MW_twice_5 rfl ?_
    refine wm_less (L' := [vr a0, vd, vd, vd, vd]) ⟨Or.inr rfl, Or.inl rfl, Or.inl rfl, Or.inl rfl, Or.inl rfl, trivial⟩ ?_
    exact hJ 1 (if_neg c1).symm
theorem k_MW_twice_12 {G : mG} {d : Nat} {a0 : Nat} {l2 : Int} {l3 : Int} {M : mM} {Q : mM → Prop} (hO : mOk M) (hi_l2 : i32 l2) (hi_l3 : i32 l3)
    (h : mK M a0 = 20 ∧ ((mI M a0 1 ≤ l3) → (((l2 ≤ 0) → (Q M)) ∧ (¬ (l2 ≤ 0) → (mK M (mR M a0 0) = 30 ∧ ((0 : Int) ≤ mI M a0 1 ∧ mI M a0 1 < (mN M (mR M a0 0) : Int)) ∧ ∀ M24, M24 = mUI M (mR M a0 0) (Int.toNat (mI M a0 1)) l2 → i32 ((mI M24 a0 1) + 1) ∧ ∀ M27, M27 = mUI M24 a0 1 ((mI M24 a0 1) + 1) → Q M27)))) ∧ (¬ (mI M a0 1 ≤ l3) → (mK M (mR M a0 0) = 30 ∧ ((0 : Int) ≤ l3 ∧ l3 < (mN M (mR M a0 0) : Int)) ∧ i32 ((2 * (mI M (mR M a0 0) (Int.toNat l3))) + l2) ∧ ((0 : Int) ≤ l3 ∧ l3 < (mN M (mR M a0 0) : Int)) ∧ ∀ M33, M33 = mUI M (mR M a0 0) (Int.toNat l3) (Int.tmod ((2 * (mI M (mR M a0 0) (Int.toNat l3))) + l2) 16777216) → h_MW_twice_12 G d a0 (Int.tdiv ((2 * (mI M (mR M a0 0) (Int.toNat l3))) + l2) 16777216) (l3 + 1) M33 Q))) :
    h_MW_twice_12 G d a0 l2 l3 M Q := by
  unfold h_MW_twice_12
  obtain ⟨h8, h⟩ := h
  refine wm_iload_n d_MW_twice_12 rfl rfl ?_
  refine wm_aload_n d_MW_twice_13 rfl rfl ?_
  refine gf_MW_13 rfl d_MW_twice_14 h8 ?_
  refine wm_icmp_ge (tgt := 55) d_MW_twice_17 rfl hi_l3 (hO _ _).1 (fun c15 => ?_) (fun c15 => ?_)
  · replace h := h.1 c15
    refine wm_iload_n d_MW_twice_55 rfl rfl ?_
    refine wm_if_le (tgt := 79) d_MW_twice_56 rfl hi_l2 (fun c21 => ?_) (fun c21 => ?_)
    · replace h := h.1 c21
      refine wm_return d_MW_twice_79 rfl ?_
      exact ⟨rfl, h⟩
    · replace h := h.2 c21
      obtain ⟨h22, h⟩ := h
      obtain ⟨h23, h⟩ := h
      obtain ⟨M24, e25⟩ : ∃ M24, M24 = mUI M (mR M a0 0) (Int.toNat (mI M a0 1)) l2 := ⟨_, rfl⟩
      replace h := h M24 e25
      obtain ⟨h26, h⟩ := h
      obtain ⟨M27, e28⟩ : ∃ M27, M27 = mUI M24 a0 1 ((mI M24 a0 1) + 1) := ⟨_, rfl⟩
      replace h := h M27 e28
      refine wm_aload_n d_MW_twice_59 rfl rfl ?_
      refine gf_MW_7 rfl d_MW_twice_60 h8 ?_
      refine wm_aload_n d_MW_twice_63 rfl rfl ?_
      refine gf_MW_13 rfl d_MW_twice_64 h8 ?_
      refine wm_iload_n d_MW_twice_67 rfl rfl ?_
      have hOM24 : mOk M24 := by rw [e25]; exact mOk_UI hO hi_l2
      refine wm_iastE d_MW_twice_68 h22 h23 hi_l2 e25 ?_
      refine wm_aload_n d_MW_twice_69 rfl rfl ?_
      refine wm_dup d_MW_twice_70 rfl ?_
      refine gf_MW_13 rfl d_MW_twice_71 (by rw [e25]; exact h8) ?_
      refine wm_iconst d_MW_twice_74 ?_
      refine wm_iadd d_MW_twice_75 ?_
      have hOM27 : mOk M27 := by rw [e28]; exact mOk_UI hOM24 h26
      refine pf_MW_13 rfl d_MW_twice_76 (by rw [e25]; exact h8) h26 e28 ?_
      refine wm_return d_MW_twice_79 rfl ?_
      exact ⟨rfl, h⟩
  · replace h := h.2 c15
    obtain ⟨h29, h⟩ := h
    obtain ⟨h30, h⟩ := h
    obtain ⟨h31, h⟩ := h
    obtain ⟨h32, h⟩ := h
    obtain ⟨M33, e34⟩ : ∃ M33, M33 = mUI M (mR M a0 0) (Int.toNat l3) (Int.tmod ((2 * (mI M (mR M a0 0) (Int.toNat l3))) + l2) 16777216) := ⟨_, rfl⟩
    replace h := h M33 e34
    refine wm_iconst d_MW_twice_20 ?_
    refine wm_aload_n d_MW_twice_21 rfl rfl ?_
    refine gf_MW_7 rfl d_MW_twice_22 h8 ?_
    refine wm_iload_n d_MW_twice_25 rfl rfl ?_
    refine wm_iald d_MW_twice_26 h29 h30 ?_
    refine wm_imul d_MW_twice_27 ?_
    refine wm_iload_n d_MW_twice_28 rfl rfl ?_
    refine wm_iadd d_MW_twice_29 ?_
    refine wm_istore d_MW_twice_30 (by decide) (L' := [vr a0, vd, vi l2, vi l3, vi ((2 * (mI M (mR M a0 0) (Int.toNat l3))) + l2)]) rfl ?_
    refine wm_aload_n d_MW_twice_32 rfl rfl ?_
    refine gf_MW_7 rfl d_MW_twice_33 h8 ?_
    refine wm_iload_n d_MW_twice_36 rfl rfl ?_
    refine wm_iload d_MW_twice_37 rfl ?_
    refine wm_ldc (x := 16777216) d_MW_twice_39 k13_26 (by decide) ?_
    refine wm_irem d_MW_twice_41 h31 ⟨by decide, by decide⟩ (by decide) ?_
    have hOM33 : mOk M33 := by rw [e34]; exact mOk_UI hO (m_tmod32 h31 ⟨by decide, by decide⟩)
    refine wm_iastE d_MW_twice_42 h29 h32 (m_tmod32 h31 ⟨by decide, by decide⟩) e34 ?_
    refine wm_iload d_MW_twice_43 rfl ?_
    refine wm_ldc (x := 16777216) d_MW_twice_45 k13_26 (by decide) ?_
    refine wm_idiv d_MW_twice_47 h31 ⟨by decide, by decide⟩ (by decide) ?_
    refine wm_istore_n d_MW_twice_48 rfl (by decide) (L' := [vr a0, vd, vi (Int.tdiv ((2 * (mI M (mR M a0 0) (Int.toNat l3))) + l2) 16777216), vi l3, vi ((2 * (mI M (mR M a0 0) (Int.toNat l3))) + l2)]) rfl ?_
    refine wm_iinc d_MW_twice_49 (by decide) rfl (L' := [vr a0, vd, vi (Int.tdiv ((2 * (mI M (mR M a0 0) (Int.toNat l3))) + l2) 16777216), vi (l3 + 1), vi ((2 * (mI M (mR M a0 0) (Int.toNat l3))) + l2)]) rfl ?_
    refine wm_goto (tgt := 12) d_MW_twice_52 rfl ?_
    refine wm_less (L' := [vr a0, vd, vi (Int.tdiv ((2 * (mI M (mR M a0 0) (Int.toNat l3))) + l2) 16777216), vi (l3 + 1), vd]) ⟨Or.inr rfl, Or.inl rfl, Or.inr rfl, Or.inr rfl, Or.inl rfl, trivial⟩ ?_
    exact h
theorem d_MW_halve_0 : decode y_MW_halve.2.1 0 = .ok (.iconst 0, 1) := dc9_3 (by decide +kernel)
theorem d_MW_halve_1 : decode y_MW_halve.2.1 1 = .ok (.istore_n 1, 1) := dc9_60 (by decide +kernel)
theorem d_MW_halve_2 : decode y_MW_halve.2.1 2 = .ok (.iload_n 1, 1) := dc9_27 (by decide +kernel)
theorem d_MW_halve_3 : decode y_MW_halve.2.1 3 = .ok (.aload_n 0, 1) := dc9_42 (by decide +kernel)
theorem d_MW_halve_4 : decode y_MW_halve.2.1 4 = .ok (.getfield 13, 3) := dc9_180 (by decide +kernel)
theorem d_MW_halve_7 : decode y_MW_halve.2.1 7 = .ok (.if_icmp .ge 51, 3) := dc9_162 (by decide +kernel)
theorem d_MW_halve_58 : decode y_MW_halve.2.1 58 = .ok (.aload_n 0, 1) := dc9_42 (by decide +kernel)
theorem d_MW_halve_10 : decode y_MW_halve.2.1 10 = .ok (.aload_n 0, 1) := dc9_42 (by decide +kernel)
theorem d_MW_halve_11 : decode y_MW_halve.2.1 11 = .ok (.getfield 7, 3) := dc9_180 (by decide +kernel)
theorem d_MW_halve_14 : decode y_MW_halve.2.1 14 = .ok (.iload_n 1, 1) := dc9_27 (by decide +kernel)
theorem d_MW_halve_15 : decode y_MW_halve.2.1 15 = .ok (.aload_n 0, 1) := dc9_42 (by decide +kernel)
theorem d_MW_halve_16 : decode y_MW_halve.2.1 16 = .ok (.getfield 7, 3) := dc9_180 (by decide +kernel)
theorem d_MW_halve_19 : decode y_MW_halve.2.1 19 = .ok (.iload_n 1, 1) := dc9_27 (by decide +kernel)
theorem d_MW_halve_20 : decode y_MW_halve.2.1 20 = .ok (.iaload, 1) := dc9_46 (by decide +kernel)
theorem d_MW_halve_21 : decode y_MW_halve.2.1 21 = .ok (.iconst 2, 1) := dc9_5 (by decide +kernel)
theorem d_MW_halve_22 : decode y_MW_halve.2.1 22 = .ok (.idiv, 1) := dc9_108 (by decide +kernel)
theorem d_MW_halve_23 : decode y_MW_halve.2.1 23 = .ok (.iload_n 1, 1) := dc9_27 (by decide +kernel)
theorem d_MW_halve_24 : decode y_MW_halve.2.1 24 = .ok (.iconst 1, 1) := dc9_4 (by decide +kernel)
theorem d_MW_halve_25 : decode y_MW_halve.2.1 25 = .ok (.iadd, 1) := dc9_96 (by decide +kernel)
theorem d_MW_halve_26 : decode y_MW_halve.2.1 26 = .ok (.aload_n 0, 1) := dc9_42 (by decide +kernel)
theorem d_MW_halve_27 : decode y_MW_halve.2.1 27 = .ok (.getfield 13, 3) := dc9_180 (by decide +kernel)
theorem d_MW_halve_59 : decode y_MW_halve.2.1 59 = .ok (.invokevirtual 24, 3) := dc9_182 (by decide +kernel)
theorem d_MW_halve_62 : decode y_MW_halve.2.1 62 = .ok (.return_, 1) := dc9_177 (by decide +kernel)
theorem d_MW_halve_30 : decode y_MW_halve.2.1 30 = .ok (.if_icmp .ge 19, 3) := dc9_162 (by decide +kernel)
theorem d_MW_halve_49 : decode y_MW_halve.2.1 49 = .ok (.iconst 0, 1) := dc9_3 (by decide +kernel)
theorem d_MW_halve_33 : decode y_MW_halve.2.1 33 = .ok (.aload_n 0, 1) := dc9_42 (by decide +kernel)
theorem d_MW_halve_34 : decode y_MW_halve.2.1 34 = .ok (.getfield 7, 3) := dc9_180 (by decide +kernel)
theorem d_MW_halve_37 : decode y_MW_halve.2.1 37 = .ok (.iload_n 1, 1) := dc9_27 (by decide +kernel)
theorem d_MW_halve_38 : decode y_MW_halve.2.1 38 = .ok (.iconst 1, 1) := dc9_4 (by decide +kernel)
theorem d_MW_halve_39 : decode y_MW_halve.2.1 39 = .ok (.iadd, 1) := dc9_96 (by decide +kernel)
theorem d_MW_halve_40 : decode y_MW_halve.2.1 40 = .ok (.iaload, 1) := dc9_46 (by decide +kernel)
theorem d_MW_halve_41 : decode y_MW_halve.2.1 41 = .ok (.iconst 2, 1) := dc9_5 (by decide +kernel)
theorem d_MW_halve_42 : decode y_MW_halve.2.1 42 = .ok (.irem, 1) := dc9_112 (by decide +kernel)
theorem d_MW_halve_43 : decode y_MW_halve.2.1 43 = .ok (.ldc 29, 2) := dc9_18 (by decide +kernel)
theorem d_MW_halve_45 : decode y_MW_halve.2.1 45 = .ok (.imul, 1) := dc9_104 (by decide +kernel)
theorem d_MW_halve_46 : decode y_MW_halve.2.1 46 = .ok (.goto 4, 3) := dc9_167 (by decide +kernel)
theorem d_MW_halve_50 : decode y_MW_halve.2.1 50 = .ok (.iadd, 1) := dc9_96 (by decide +kernel)
theorem d_MW_halve_51 : decode y_MW_halve.2.1 51 = .ok (.iastore, 1) := dc9_79 (by decide +kernel)
theorem d_MW_halve_52 : decode y_MW_halve.2.1 52 = .ok (.iinc 1 1, 3) := by decide +kernel
theorem d_MW_halve_55 : decode y_MW_halve.2.1 55 = .ok (.goto (-53), 3) := dc9_167 (by decide +kernel)
def h_MW_halve_2 (G : mG) (d : Nat) (a0 : Nat) (l1 : Int) (M : mM) (Q : mM → Prop) : Prop := mWm G y_MW_halve (d + 1) 2 [vr a0, vi l1] [] M (fun r9 M9 => r9 = none ∧ Q M9)
theorem k_MW_halve {G : mG} {d : Nat} {a0 : Nat} {M : mM} {Q : mM → Prop} (hO : mOk M)
    (h : h_MW_halve_2 G d a0 0 M Q) :
    Cv G y_MW_halve (d + 1) [vr a0] M Q := by
  refine wm_open (y := y_MW_halve) rfl (Nat.le_of_ble_eq_true rfl) (L := [vr a0, vd]) rfl ?_
  refine wm_iconst d_MW_halve_0 ?_
  refine wm_istore_n d_MW_halve_1 rfl (by decide) (L' := [vr a0, vi 0]) rfl ?_
  exact h
theorem k_MW_halve_2 {G : mG} {d : Nat} {a0 : Nat} {l1 : Int} {M : mM} {Q : mM → Prop} (hO : mOk M) (hi_l1 : i32 l1)
    (h : mK M a0 = 20 ∧ ((mI M a0 1 ≤ l1) → (Cv G y_MW_trim d [vr a0] M (fun M6 => mOk M6 ∧ (Q M6)))) ∧ (¬ (mI M a0 1 ≤ l1) → (mK M (mR M a0 0) = 30 ∧ ((0 : Int) ≤ l1 ∧ l1 < (mN M (mR M a0 0) : Int)) ∧ i32 (l1 + 1) ∧ (¬ (mI M a0 1 ≤ l1 + 1) → ((0 : Int) ≤ l1 + 1 ∧ l1 + 1 < (mN M (mR M a0 0) : Int))) ∧ ∀ v14 : Int, v14 = (if (mI M a0 1 ≤ l1 + 1) then 0 else (Int.tmod (mI M (mR M a0 0) (Int.toNat (l1 + 1))) 2) * 8388608) → ((0 : Int) ≤ l1 ∧ l1 < (mN M (mR M a0 0) : Int)) ∧ i32 ((Int.tdiv (mI M (mR M a0 0) (Int.toNat l1)) 2) + v14) ∧ ∀ M19, M19 = mUI M (mR M a0 0) (Int.toNat l1) ((Int.tdiv (mI M (mR M a0 0) (Int.toNat l1)) 2) + v14) → h_MW_halve_2 G d a0 (l1 + 1) M19 Q))) :
    h_MW_halve_2 G d a0 l1 M Q := by
  unfold h_MW_halve_2
  obtain ⟨h1, h⟩ := h
  refine wm_iload_n d_MW_halve_2 rfl rfl ?_
  refine wm_aload_n d_MW_halve_3 rfl rfl ?_
  refine gf_MW_13 rfl d_MW_halve_4 h1 ?_
  refine wm_icmp_ge (tgt := 58) d_MW_halve_7 rfl hi_l1 (hO _ _).1 (fun c5 => ?_) (fun c5 => ?_)
  · replace h := h.1 c5
    refine wm_aload_n d_MW_halve_58 rfl rfl ?_
    refine cf_MW_24 rfl d_MW_halve_59 h1 (Nat.le_of_ble_eq_true rfl) (Cv.mono h (fun M6 h => ?_))
    obtain ⟨hOM6, h⟩ := h
    refine wm_return d_MW_halve_62 rfl ?_
    exact ⟨rfl, h⟩
  · replace h := h.2 c5
    obtain ⟨h9, h⟩ := h
    obtain ⟨h10, h⟩ := h
    obtain ⟨h11, h⟩ := h
    refine wm_aload_n d_MW_halve_10 rfl rfl ?_
    refine gf_MW_7 rfl d_MW_halve_11 h1 ?_
    refine wm_iload_n d_MW_halve_14 rfl rfl ?_
    refine wm_aload_n d_MW_halve_15 rfl rfl ?_
    refine gf_MW_7 rfl d_MW_halve_16 h1 ?_
    refine wm_iload_n d_MW_halve_19 rfl rfl ?_
    refine wm_iald d_MW_halve_20 h9 h10 ?_
    refine wm_iconst d_MW_halve_21 ?_
    refine wm_idiv d_MW_halve_22 (hO _ _).1 ⟨by decide, by decide⟩ (by decide) ?_
    refine wm_iload_n d_MW_halve_23 rfl rfl ?_
    refine wm_iconst d_MW_halve_24 ?_
    refine wm_iadd d_MW_halve_25 ?_
    refine wm_aload_n d_MW_halve_26 rfl rfl ?_
    refine gf_MW_13 rfl d_MW_halve_27 h1 ?_
    obtain ⟨s15, h⟩ := h
    have hJ : ∀ v14 : Int, v14 = (if (mI M a0 1 ≤ l1 + 1) then 0 else (Int.tmod (mI M (mR M a0 0) (Int.toNat (l1 + 1))) 2) * 8388608) → mWm G y_MW_halve (d + 1) 50 [vr a0, vi l1] [vi v14, vi (Int.tdiv (mI M (mR M a0 0) (Int.toNat l1)) 2), vi l1, vr (mR M a0 0)] M (fun r9 M9 => r9 = none ∧ Q M9) := by
      intro v14 e16
      have h := h v14 e16
      obtain ⟨h17, h⟩ := h
      obtain ⟨h18, h⟩ := h
      obtain ⟨M19, e20⟩ : ∃ M19, M19 = mUI M (mR M a0 0) (Int.toNat l1) ((Int.tdiv (mI M (mR M a0 0) (Int.toNat l1)) 2) + v14) := ⟨_, rfl⟩
      replace h := h M19 e20
      refine wm_iadd d_MW_halve_50 ?_
      have hOM19 : mOk M19 := by rw [e20]; exact mOk_UI hO h18
      refine wm_iastE d_MW_halve_51 h9 h17 h18 e20 ?_
      refine wm_iinc d_MW_halve_52 (by decide) rfl (L' := [vr a0, vi (l1 + 1)]) rfl ?_
      refine wm_goto (tgt := 2) d_MW_halve_55 rfl ?_
      exact h
    clear h
    have s21 := s15
    refine wm_icmp_ge (tgt := 49) d_MW_halve_30 rfl h11 (hO _ _).1 (fun c12 => ?_) (fun c12 => ?_)
    · refine wm_iconst d_MW_halve_49 ?_
      exact hJ 0 (if_pos c12).symm
    · have s21 := s21 c12
      have h13 := s21
      refine wm_aload_n d_MW_halve_33 rfl rfl ?_
      refine gf_MW_7 rfl d_MW_halve_34 h1 ?_
      refine wm_iload_n d_MW_halve_37 rfl rfl ?_
      refine wm_iconst d_MW_halve_38 ?_
      refine wm_iadd d_MW_halve_39 ?_
      refine wm_iald d_MW_halve_40 h9 h13 ?_
      refine wm_iconst d_MW_halve_41 ?_
      refine wm_irem d_MW_halve_42 (hO _ _).1 ⟨by decide, by decide⟩ (by decide) ?_
      refine wm_ldc (x := 8388608) d_MW_halve_43 k13_60 (by decide) ?_
      refine wm_imul d_MW_halve_45 ?_
      refine wm_goto (tgt := 50) d_MW_halve_46 rfl ?_
      exact hJ ((Int.tmod (mI M (mR M a0 0) (Int.toNat (l1 + 1))) 2) * 8388608) (if_neg c12).symm
theorem d_MW_isOdd_0 : decode y_MW_isOdd.2.1 0 = .ok (.aload_n 0, 1) := dc9_42 (by decide +kernel)
theorem d_MW_isOdd_1 : decode y_MW_isOdd.2.1 1 = .ok (.getfield 13, 3) := dc9_180 (by decide +kernel)
theorem d_MW_isOdd_4 : decode y_MW_isOdd.2.1 4 = .ok (.ifCond .le 19, 3) := dc9_158 (by decide +kernel)
theorem d_MW_isOdd_23 : decode y_MW_isOdd.2.1 23 = .ok (.iconst 0, 1) := dc9_3 (by decide +kernel)
theorem d_MW_isOdd_7 : decode y_MW_isOdd.2.1 7 = .ok (.aload_n 0, 1) := dc9_42 (by decide +kernel)
theorem d_MW_isOdd_8 : decode y_MW_isOdd.2.1 8 = .ok (.getfield 7, 3) := dc9_180 (by decide +kernel)
theorem d_MW_isOdd_11 : decode y_MW_isOdd.2.1 11 = .ok (.iconst 0, 1) := dc9_3 (by decide +kernel)
theorem d_MW_isOdd_12 : decode y_MW_isOdd.2.1 12 = .ok (.iaload, 1) := dc9_46 (by decide +kernel)
theorem d_MW_isOdd_13 : decode y_MW_isOdd.2.1 13 = .ok (.iconst 2, 1) := dc9_5 (by decide +kernel)
theorem d_MW_isOdd_14 : decode y_MW_isOdd.2.1 14 = .ok (.irem, 1) := dc9_112 (by decide +kernel)
theorem d_MW_isOdd_15 : decode y_MW_isOdd.2.1 15 = .ok (.iconst 1, 1) := dc9_4 (by decide +kernel)
theorem d_MW_isOdd_16 : decode y_MW_isOdd.2.1 16 = .ok (.if_icmp .ne 7, 3) := dc9_160 (by decide +kernel)
theorem d_MW_isOdd_19 : decode y_MW_isOdd.2.1 19 = .ok (.iconst 1, 1) := dc9_4 (by decide +kernel)
theorem d_MW_isOdd_20 : decode y_MW_isOdd.2.1 20 = .ok (.goto 4, 3) := dc9_167 (by decide +kernel)
theorem d_MW_isOdd_24 : decode y_MW_isOdd.2.1 24 = .ok (.ireturn, 1) := dc9_172 (by decide +kernel)
theorem k_MW_isOdd {G : mG} {d : Nat} {a0 : Nat} {M : mM} {Q : Int → mM → Prop} (hO : mOk M)
    (h : mK M a0 = 20 ∧ (¬ (mI M a0 1 ≤ 0) → (mK M (mR M a0 0) = 30 ∧ ((0 : Int) ≤ 0 ∧ 0 < (mN M (mR M a0 0) : Int)))) ∧ ∀ v6 : Int, v6 = (if ((mI M a0 1 ≤ 0) ∨ (¬ (Int.tmod (mI M (mR M a0 0) 0) 2 = 1))) then 0 else 1) → Q v6 M) :
    Ci G y_MW_isOdd d [vr a0] M Q := by
  refine wm_open (y := y_MW_isOdd) rfl (Nat.le_of_ble_eq_true rfl) (L := [vr a0]) rfl ?_
  obtain ⟨h1, h⟩ := h
  refine wm_aload_n d_MW_isOdd_0 rfl rfl ?_
  refine gf_MW_13 rfl d_MW_isOdd_1 h1 ?_
  obtain ⟨s7, h⟩ := h
  have hJ : ∀ v6 : Int, v6 = (if ((mI M a0 1 ≤ 0) ∨ (¬ (Int.tmod (mI M (mR M a0 0) 0) 2 = 1))) then 0 else 1) → mWm G y_MW_isOdd d 24 [vd] [vi v6] M (fun r9 M9 => ∃ x9, r9 = some (vi x9) ∧ Q x9 M9) := by
    intro v6 e8
    have h := h v6 e8
    have h9 : i32 v6 := by rw [e8]; (repeat' split) <;> first | exact ⟨by decide, by decide⟩ | exact ⟨by decide, by decide⟩
    have h10 : (v6 = 0 ∨ v6 = 1) := by rw [e8]; (repeat' split) <;> decide
    refine wm_ireturn d_MW_isOdd_24 rfl (m_nb h10) ?_
    exact ⟨_, rfl, h⟩
  clear h
  have s11 := s7
  refine wm_if_le (tgt := 23) d_MW_isOdd_4 rfl (hO _ _).1 (fun c2 => ?_) (fun c2 => ?_)
  · refine wm_iconst d_MW_isOdd_23 ?_
    refine wm_less (L' := [vd]) ⟨Or.inl rfl, trivial⟩ ?_
    exact hJ 0 (if_pos (Or.inl c2)).symm
  · have s11 := s11 c2
    obtain ⟨h3, h4⟩ := s11
    refine wm_aload_n d_MW_isOdd_7 rfl rfl ?_
    refine gf_MW_7 rfl d_MW_isOdd_8 h1 ?_
    refine wm_iconst d_MW_isOdd_11 ?_
    refine wm_iald d_MW_isOdd_12 h3 h4 ?_
    refine wm_iconst d_MW_isOdd_13 ?_
    refine wm_irem d_MW_isOdd_14 (hO _ _).1 ⟨by decide, by decide⟩ (by decide) ?_
    refine wm_iconst d_MW_isOdd_15 ?_
    refine wm_icmp_ne (tgt := 23) d_MW_isOdd_16 rfl (m_tmod32 (hO _ _).1 ⟨by decide, by decide⟩) ⟨by decide, by decide⟩ (fun c5 => ?_) (fun c5 => ?_)
    · refine wm_iconst d_MW_isOdd_23 ?_
      refine wm_less (L' := [vd]) ⟨Or.inl rfl, trivial⟩ ?_
      exact hJ 0 (if_pos (Or.inr c5)).symm
    · replace c5 := Classical.not_not.mp c5
      refine wm_iconst d_MW_isOdd_19 ?_
      refine wm_goto (tgt := 24) d_MW_isOdd_20 rfl ?_
      refine wm_less (L' := [vd]) ⟨Or.inl rfl, trivial⟩ ?_
      exact hJ 1 (if_neg (fun z12 => Or.elim z12 c2 (fun z13 => z13 c5))).symm
theorem d_MW_places_0 : decode y_MW_places.2.1 0 = .ok (.bipush 24, 2) := dc9_16 (by decide +kernel)
theorem d_MW_places_2 : decode y_MW_places.2.1 2 = .ok (.aload_n 0, 1) := dc9_42 (by decide +kernel)
theorem d_MW_places_3 : decode y_MW_places.2.1 3 = .ok (.getfield 13, 3) := dc9_180 (by decide +kernel)
theorem d_MW_places_6 : decode y_MW_places.2.1 6 = .ok (.iconst 1, 1) := dc9_4 (by decide +kernel)
theorem d_MW_places_7 : decode y_MW_places.2.1 7 = .ok (.isub, 1) := dc9_100 (by decide +kernel)
theorem d_MW_places_8 : decode y_MW_places.2.1 8 = .ok (.imul, 1) := dc9_104 (by decide +kernel)
theorem d_MW_places_9 : decode y_MW_places.2.1 9 = .ok (.istore_n 1, 1) := dc9_60 (by decide +kernel)
theorem d_MW_places_10 : decode y_MW_places.2.1 10 = .ok (.aload_n 0, 1) := dc9_42 (by decide +kernel)
theorem d_MW_places_11 : decode y_MW_places.2.1 11 = .ok (.getfield 13, 3) := dc9_180 (by decide +kernel)
theorem d_MW_places_14 : decode y_MW_places.2.1 14 = .ok (.ifCond .ne 7, 3) := dc9_154 (by decide +kernel)
theorem d_MW_places_17 : decode y_MW_places.2.1 17 = .ok (.iconst 0, 1) := dc9_3 (by decide +kernel)
theorem d_MW_places_18 : decode y_MW_places.2.1 18 = .ok (.goto 14, 3) := dc9_167 (by decide +kernel)
theorem d_MW_places_21 : decode y_MW_places.2.1 21 = .ok (.aload_n 0, 1) := dc9_42 (by decide +kernel)
theorem d_MW_places_22 : decode y_MW_places.2.1 22 = .ok (.getfield 7, 3) := dc9_180 (by decide +kernel)
theorem d_MW_places_25 : decode y_MW_places.2.1 25 = .ok (.aload_n 0, 1) := dc9_42 (by decide +kernel)
theorem d_MW_places_26 : decode y_MW_places.2.1 26 = .ok (.getfield 13, 3) := dc9_180 (by decide +kernel)
theorem d_MW_places_29 : decode y_MW_places.2.1 29 = .ok (.iconst 1, 1) := dc9_4 (by decide +kernel)
theorem d_MW_places_30 : decode y_MW_places.2.1 30 = .ok (.isub, 1) := dc9_100 (by decide +kernel)
theorem d_MW_places_31 : decode y_MW_places.2.1 31 = .ok (.iaload, 1) := dc9_46 (by decide +kernel)
theorem d_MW_places_32 : decode y_MW_places.2.1 32 = .ok (.istore_n 2, 1) := dc9_61 (by decide +kernel)
theorem d_MW_places_33 : decode y_MW_places.2.1 33 = .ok (.iload_n 2, 1) := dc9_28 (by decide +kernel)
theorem d_MW_places_34 : decode y_MW_places.2.1 34 = .ok (.ifCond .le 13, 3) := dc9_158 (by decide +kernel)
theorem d_MW_places_47 : decode y_MW_places.2.1 47 = .ok (.aload_n 0, 1) := dc9_42 (by decide +kernel)
theorem d_MW_places_48 : decode y_MW_places.2.1 48 = .ok (.getfield 13, 3) := dc9_180 (by decide +kernel)
theorem d_MW_places_37 : decode y_MW_places.2.1 37 = .ok (.iinc 1 1, 3) := by decide +kernel
theorem d_MW_places_40 : decode y_MW_places.2.1 40 = .ok (.iload_n 2, 1) := dc9_28 (by decide +kernel)
theorem d_MW_places_41 : decode y_MW_places.2.1 41 = .ok (.iconst 2, 1) := dc9_5 (by decide +kernel)
theorem d_MW_places_42 : decode y_MW_places.2.1 42 = .ok (.idiv, 1) := dc9_108 (by decide +kernel)
theorem d_MW_places_43 : decode y_MW_places.2.1 43 = .ok (.istore_n 2, 1) := dc9_61 (by decide +kernel)
theorem d_MW_places_44 : decode y_MW_places.2.1 44 = .ok (.goto (-11), 3) := dc9_167 (by decide +kernel)
theorem d_MW_places_51 : decode y_MW_places.2.1 51 = .ok (.ifCond .ne 7, 3) := dc9_154 (by decide +kernel)
theorem d_MW_places_54 : decode y_MW_places.2.1 54 = .ok (.iconst 0, 1) := dc9_3 (by decide +kernel)
theorem d_MW_places_55 : decode y_MW_places.2.1 55 = .ok (.goto 4, 3) := dc9_167 (by decide +kernel)
theorem d_MW_places_59 : decode y_MW_places.2.1 59 = .ok (.ireturn, 1) := dc9_172 (by decide +kernel)
theorem d_MW_places_58 : decode y_MW_places.2.1 58 = .ok (.iload_n 1, 1) := dc9_27 (by decide +kernel)
def h_MW_places_33 (G : mG) (d : Nat) (a0 : Nat) (l1 : Int) (l2 : Int) (M : mM) (Q : Int → mM → Prop) : Prop := mWm G y_MW_places d 33 [vr a0, vi l1, vi l2] [] M (fun r9 M9 => ∃ x9, r9 = some (vi x9) ∧ Q x9 M9)
theorem k_MW_places {G : mG} {d : Nat} {a0 : Nat} {M : mM} {Q : Int → mM → Prop} (hO : mOk M)
    (h : mK M a0 = 20 ∧ (¬ (mI M a0 1 = 0) → (mK M (mR M a0 0) = 30 ∧ ((0 : Int) ≤ (mI M a0 1) - 1 ∧ (mI M a0 1) - 1 < (mN M (mR M a0 0) : Int)))) ∧ ∀ v5 : Int, v5 = (if (mI M a0 1 = 0) then 0 else mI M (mR M a0 0) (Int.toNat ((mI M a0 1) - 1))) → h_MW_places_33 G d a0 (24 * ((mI M a0 1) - 1)) v5 M Q) :
    Ci G y_MW_places d [vr a0] M Q := by
  refine wm_open (y := y_MW_places) rfl (Nat.le_of_ble_eq_true rfl) (L := [vr a0, vd, vd]) rfl ?_
  obtain ⟨h1, h⟩ := h
  refine wm_bipush d_MW_places_0 (by decide) ?_
  refine wm_aload_n d_MW_places_2 rfl rfl ?_
  refine gf_MW_13 rfl d_MW_places_3 h1 ?_
  refine wm_iconst d_MW_places_6 ?_
  refine wm_isub d_MW_places_7 ?_
  refine wm_imul d_MW_places_8 ?_
  refine wm_istore_n d_MW_places_9 rfl (by decide) (L' := [vr a0, vi (24 * ((mI M a0 1) - 1)), vd]) rfl ?_
  refine wm_aload_n d_MW_places_10 rfl rfl ?_
  refine gf_MW_13 rfl d_MW_places_11 h1 ?_
  obtain ⟨s6, h⟩ := h
  have hJ : ∀ v5 : Int, v5 = (if (mI M a0 1 = 0) then 0 else mI M (mR M a0 0) (Int.toNat ((mI M a0 1) - 1))) → mWm G y_MW_places d 32 [vr a0, vi (24 * ((mI M a0 1) - 1)), vd] [vi v5] M (fun r9 M9 => ∃ x9, r9 = some (vi x9) ∧ Q x9 M9) := by
    intro v5 e7
    have h := h v5 e7
    refine wm_istore_n d_MW_places_32 rfl (by decide) (L' := [vr a0, vi (24 * ((mI M a0 1) - 1)), vi v5]) rfl ?_
    exact h
  clear h
  have s8 := s6
  refine wm_if_ne (tgt := 21) d_MW_places_14 rfl (hO _ _).1 (fun c2 => ?_) (fun c2 => ?_)
  · have s8 := s8 c2
    obtain ⟨h3, h4⟩ := s8
    refine wm_aload_n d_MW_places_21 rfl rfl ?_
    refine gf_MW_7 rfl d_MW_places_22 h1 ?_
    refine wm_aload_n d_MW_places_25 rfl rfl ?_
    refine gf_MW_13 rfl d_MW_places_26 h1 ?_
    refine wm_iconst d_MW_places_29 ?_
    refine wm_isub d_MW_places_30 ?_
    refine wm_iald d_MW_places_31 h3 h4 ?_
    exact hJ (mI M (mR M a0 0) (Int.toNat ((mI M a0 1) - 1))) (if_neg c2).symm
  · replace c2 := Classical.not_not.mp c2
    refine wm_iconst d_MW_places_17 ?_
    refine wm_goto (tgt := 32) d_MW_places_18 rfl ?_
    exact hJ 0 (if_pos c2).symm
theorem k_MW_places_33 {G : mG} {d : Nat} {a0 : Nat} {l1 : Int} {l2 : Int} {M : mM} {Q : Int → mM → Prop} (hO : mOk M) (hi_l1 : i32 l1) (hi_l2 : i32 l2)
    (h : ((l2 ≤ 0) → (mK M a0 = 20 ∧ ∀ v16 : Int, v16 = (if (mI M a0 1 = 0) then 0 else l1) → Q v16 M)) ∧ (¬ (l2 ≤ 0) → (h_MW_places_33 G d a0 (l1 + 1) (Int.tdiv l2 2) M Q))) :
    h_MW_places_33 G d a0 l1 l2 M Q := by
  unfold h_MW_places_33
  refine wm_iload_n d_MW_places_33 rfl rfl ?_
  refine wm_if_le (tgt := 47) d_MW_places_34 rfl hi_l2 (fun c13 => ?_) (fun c13 => ?_)
  · replace h := h.1 c13
    obtain ⟨h14, h⟩ := h
    refine wm_aload_n d_MW_places_47 rfl rfl ?_
    refine gf_MW_13 rfl d_MW_places_48 h14 ?_
    have hJ : ∀ v16 : Int, v16 = (if (mI M a0 1 = 0) then 0 else l1) → mWm G y_MW_places d 59 [vd, vd, vd] [vi v16] M (fun r9 M9 => ∃ x9, r9 = some (vi x9) ∧ Q x9 M9) := by
      intro v16 e18
      have h := h v16 e18
      have h19 : i32 v16 := by rw [e18]; (repeat' split) <;> first | exact ⟨by decide, by decide⟩ | exact hi_l1
      refine wm_ireturn d_MW_places_59 rfl rfl ?_
      exact ⟨_, rfl, h⟩
    clear h
    refine wm_if_ne (tgt := 58) d_MW_places_51 rfl (hO _ _).1 (fun c15 => ?_) (fun c15 => ?_)
    · refine wm_iload_n d_MW_places_58 rfl rfl ?_
      refine wm_less (L' := [vd, vd, vd]) ⟨Or.inl rfl, Or.inl rfl, Or.inl rfl, trivial⟩ ?_
      exact hJ l1 (if_neg c15).symm
    · replace c15 := Classical.not_not.mp c15
      refine wm_iconst d_MW_places_54 ?_
      refine wm_goto (tgt := 59) d_MW_places_55 rfl ?_
      refine wm_less (L' := [vd, vd, vd]) ⟨Or.inl rfl, Or.inl rfl, Or.inl rfl, trivial⟩ ?_
      exact hJ 0 (if_pos c15).symm
  · replace h := h.2 c13
    refine wm_iinc d_MW_places_37 (by decide) rfl (L' := [vr a0, vi (l1 + 1), vi l2]) rfl ?_
    refine wm_iload_n d_MW_places_40 rfl rfl ?_
    refine wm_iconst d_MW_places_41 ?_
    refine wm_idiv d_MW_places_42 hi_l2 ⟨by decide, by decide⟩ (by decide) ?_
    refine wm_istore_n d_MW_places_43 rfl (by decide) (L' := [vr a0, vi (l1 + 1), vi (Int.tdiv l2 2)]) rfl ?_
    refine wm_goto (tgt := 33) d_MW_places_44 rfl ?_
    exact h
end
section
theorem d_MW_bit_0 : decode y_MW_bit.2.1 0 = .ok (.iload_n 1, 1) := dc9_27 (by decide +kernel)
theorem d_MW_bit_1 : decode y_MW_bit.2.1 1 = .ok (.bipush 24, 2) := dc9_16 (by decide +kernel)
theorem d_MW_bit_3 : decode y_MW_bit.2.1 3 = .ok (.idiv, 1) := dc9_108 (by decide +kernel)
theorem d_MW_bit_4 : decode y_MW_bit.2.1 4 = .ok (.aload_n 0, 1) := dc9_42 (by decide +kernel)
theorem d_MW_bit_5 : decode y_MW_bit.2.1 5 = .ok (.getfield 13, 3) := dc9_180 (by decide +kernel)
theorem d_MW_bit_8 : decode y_MW_bit.2.1 8 = .ok (.if_icmp .ge 27, 3) := dc9_162 (by decide +kernel)
theorem d_MW_bit_35 : decode y_MW_bit.2.1 35 = .ok (.iconst 0, 1) := dc9_3 (by decide +kernel)
theorem d_MW_bit_11 : decode y_MW_bit.2.1 11 = .ok (.aload_n 0, 1) := dc9_42 (by decide +kernel)
theorem d_MW_bit_12 : decode y_MW_bit.2.1 12 = .ok (.getfield 7, 3) := dc9_180 (by decide +kernel)
theorem d_MW_bit_15 : decode y_MW_bit.2.1 15 = .ok (.iload_n 1, 1) := dc9_27 (by decide +kernel)
theorem d_MW_bit_16 : decode y_MW_bit.2.1 16 = .ok (.bipush 24, 2) := dc9_16 (by decide +kernel)
theorem d_MW_bit_18 : decode y_MW_bit.2.1 18 = .ok (.idiv, 1) := dc9_108 (by decide +kernel)
theorem d_MW_bit_19 : decode y_MW_bit.2.1 19 = .ok (.iaload, 1) := dc9_46 (by decide +kernel)
theorem d_MW_bit_20 : decode y_MW_bit.2.1 20 = .ok (.iload_n 1, 1) := dc9_27 (by decide +kernel)
theorem d_MW_bit_21 : decode y_MW_bit.2.1 21 = .ok (.bipush 24, 2) := dc9_16 (by decide +kernel)
theorem d_MW_bit_23 : decode y_MW_bit.2.1 23 = .ok (.irem, 1) := dc9_112 (by decide +kernel)
theorem d_MW_bit_24 : decode y_MW_bit.2.1 24 = .ok (.ishr, 1) := dc9_122 (by decide +kernel)
theorem d_MW_bit_25 : decode y_MW_bit.2.1 25 = .ok (.iconst 1, 1) := dc9_4 (by decide +kernel)
theorem d_MW_bit_26 : decode y_MW_bit.2.1 26 = .ok (.iand, 1) := dc9_126 (by decide +kernel)
theorem d_MW_bit_27 : decode y_MW_bit.2.1 27 = .ok (.iconst 1, 1) := dc9_4 (by decide +kernel)
theorem d_MW_bit_28 : decode y_MW_bit.2.1 28 = .ok (.if_icmp .ne 7, 3) := dc9_160 (by decide +kernel)
theorem d_MW_bit_31 : decode y_MW_bit.2.1 31 = .ok (.iconst 1, 1) := dc9_4 (by decide +kernel)
theorem d_MW_bit_32 : decode y_MW_bit.2.1 32 = .ok (.goto 4, 3) := dc9_167 (by decide +kernel)
theorem d_MW_bit_36 : decode y_MW_bit.2.1 36 = .ok (.ireturn, 1) := dc9_172 (by decide +kernel)
theorem k_MW_bit {G : mG} {d : Nat} {a0 : Nat} {l1 : Int} {M : mM} {Q : Int → mM → Prop} (hO : mOk M) (hi_l1 : i32 l1)
    (h : mK M a0 = 20 ∧ (¬ (mI M a0 1 ≤ Int.tdiv l1 24) → (mK M (mR M a0 0) = 30 ∧ ((0 : Int) ≤ Int.tdiv l1 24 ∧ Int.tdiv l1 24 < (mN M (mR M a0 0) : Int)))) ∧ ∀ v6 : Int, v6 = (if ((mI M a0 1 ≤ Int.tdiv l1 24) ∨ (¬ (andI (shrI (mI M (mR M a0 0) (Int.toNat (Int.tdiv l1 24))) (Int.tmod l1 24)) 1 = 1))) then 0 else 1) → Q v6 M) :
    Ci G y_MW_bit d [vr a0, vi l1] M Q := by
  refine wm_open (y := y_MW_bit) rfl (Nat.le_of_ble_eq_true rfl) (L := [vr a0, vi l1]) rfl ?_
  obtain ⟨h1, h⟩ := h
  refine wm_iload_n d_MW_bit_0 rfl rfl ?_
  refine wm_bipush d_MW_bit_1 (by decide) ?_
  refine wm_idiv d_MW_bit_3 hi_l1 ⟨by decide, by decide⟩ (by decide) ?_
  refine wm_aload_n d_MW_bit_4 rfl rfl ?_
  refine gf_MW_13 rfl d_MW_bit_5 h1 ?_
  obtain ⟨s7, h⟩ := h
  have hJ : ∀ v6 : Int, v6 = (if ((mI M a0 1 ≤ Int.tdiv l1 24) ∨ (¬ (andI (shrI (mI M (mR M a0 0) (Int.toNat (Int.tdiv l1 24))) (Int.tmod l1 24)) 1 = 1))) then 0 else 1) → mWm G y_MW_bit d 36 [vd, vd] [vi v6] M (fun r9 M9 => ∃ x9, r9 = some (vi x9) ∧ Q x9 M9) := by
    intro v6 e8
    have h := h v6 e8
    have h9 : i32 v6 := by rw [e8]; (repeat' split) <;> first | exact ⟨by decide, by decide⟩ | exact ⟨by decide, by decide⟩
    have h10 : (v6 = 0 ∨ v6 = 1) := by rw [e8]; (repeat' split) <;> decide
    refine wm_ireturn d_MW_bit_36 rfl (m_nb h10) ?_
    exact ⟨_, rfl, h⟩
  clear h
  have s11 := s7
  refine wm_icmp_ge (tgt := 35) d_MW_bit_8 rfl (m_tdiv32 hi_l1 (by decide)) (hO _ _).1 (fun c2 => ?_) (fun c2 => ?_)
  · refine wm_iconst d_MW_bit_35 ?_
    refine wm_less (L' := [vd, vd]) ⟨Or.inl rfl, Or.inl rfl, trivial⟩ ?_
    exact hJ 0 (if_pos (Or.inl c2)).symm
  · have s11 := s11 c2
    obtain ⟨h3, h4⟩ := s11
    refine wm_aload_n d_MW_bit_11 rfl rfl ?_
    refine gf_MW_7 rfl d_MW_bit_12 h1 ?_
    refine wm_iload_n d_MW_bit_15 rfl rfl ?_
    refine wm_bipush d_MW_bit_16 (by decide) ?_
    refine wm_idiv d_MW_bit_18 hi_l1 ⟨by decide, by decide⟩ (by decide) ?_
    refine wm_iald d_MW_bit_19 h3 h4 ?_
    refine wm_iload_n d_MW_bit_20 rfl rfl ?_
    refine wm_bipush d_MW_bit_21 (by decide) ?_
    refine wm_irem d_MW_bit_23 hi_l1 ⟨by decide, by decide⟩ (by decide) ?_
    refine wm_ishr d_MW_bit_24 ?_
    refine wm_iconst d_MW_bit_25 ?_
    refine wm_iand d_MW_bit_26 ?_
    refine wm_iconst d_MW_bit_27 ?_
    refine wm_icmp_ne (tgt := 35) d_MW_bit_28 rfl (m_i32 _) ⟨by decide, by decide⟩ (fun c5 => ?_) (fun c5 => ?_)
    · refine wm_iconst d_MW_bit_35 ?_
      refine wm_less (L' := [vd, vd]) ⟨Or.inl rfl, Or.inl rfl, trivial⟩ ?_
      exact hJ 0 (if_pos (Or.inr c5)).symm
    · replace c5 := Classical.not_not.mp c5
      refine wm_iconst d_MW_bit_31 ?_
      refine wm_goto (tgt := 36) d_MW_bit_32 rfl ?_
      refine wm_less (L' := [vd, vd]) ⟨Or.inl rfl, Or.inl rfl, trivial⟩ ?_
      exact hJ 1 (if_neg (fun z12 => Or.elim z12 c2 (fun z13 => z13 c5))).symm
theorem d_MW_tenth_0 : decode y_MW_tenth.2.1 0 = .ok (.iconst 0, 1) := dc9_3 (by decide +kernel)
theorem d_MW_tenth_1 : decode y_MW_tenth.2.1 1 = .ok (.istore_n 1, 1) := dc9_60 (by decide +kernel)
theorem d_MW_tenth_2 : decode y_MW_tenth.2.1 2 = .ok (.aload_n 0, 1) := dc9_42 (by decide +kernel)
theorem d_MW_tenth_3 : decode y_MW_tenth.2.1 3 = .ok (.getfield 13, 3) := dc9_180 (by decide +kernel)
theorem d_MW_tenth_6 : decode y_MW_tenth.2.1 6 = .ok (.iconst 1, 1) := dc9_4 (by decide +kernel)
theorem d_MW_tenth_7 : decode y_MW_tenth.2.1 7 = .ok (.isub, 1) := dc9_100 (by decide +kernel)
theorem d_MW_tenth_8 : decode y_MW_tenth.2.1 8 = .ok (.istore_n 2, 1) := dc9_61 (by decide +kernel)
theorem d_MW_tenth_9 : decode y_MW_tenth.2.1 9 = .ok (.iload_n 2, 1) := dc9_28 (by decide +kernel)
theorem d_MW_tenth_10 : decode y_MW_tenth.2.1 10 = .ok (.ifCond .lt 36, 3) := dc9_155 (by decide +kernel)
theorem d_MW_tenth_46 : decode y_MW_tenth.2.1 46 = .ok (.aload_n 0, 1) := dc9_42 (by decide +kernel)
theorem d_MW_tenth_13 : decode y_MW_tenth.2.1 13 = .ok (.iload_n 1, 1) := dc9_27 (by decide +kernel)
theorem d_MW_tenth_14 : decode y_MW_tenth.2.1 14 = .ok (.ldc 23, 2) := dc9_18 (by decide +kernel)
theorem d_MW_tenth_16 : decode y_MW_tenth.2.1 16 = .ok (.imul, 1) := dc9_104 (by decide +kernel)
theorem d_MW_tenth_17 : decode y_MW_tenth.2.1 17 = .ok (.aload_n 0, 1) := dc9_42 (by decide +kernel)
theorem d_MW_tenth_18 : decode y_MW_tenth.2.1 18 = .ok (.getfield 7, 3) := dc9_180 (by decide +kernel)
theorem d_MW_tenth_21 : decode y_MW_tenth.2.1 21 = .ok (.iload_n 2, 1) := dc9_28 (by decide +kernel)
theorem d_MW_tenth_22 : decode y_MW_tenth.2.1 22 = .ok (.iaload, 1) := dc9_46 (by decide +kernel)
theorem d_MW_tenth_23 : decode y_MW_tenth.2.1 23 = .ok (.iadd, 1) := dc9_96 (by decide +kernel)
theorem d_MW_tenth_24 : decode y_MW_tenth.2.1 24 = .ok (.istore_n 3, 1) := dc9_62 (by decide +kernel)
theorem d_MW_tenth_25 : decode y_MW_tenth.2.1 25 = .ok (.aload_n 0, 1) := dc9_42 (by decide +kernel)
theorem d_MW_tenth_26 : decode y_MW_tenth.2.1 26 = .ok (.getfield 7, 3) := dc9_180 (by decide +kernel)
theorem d_MW_tenth_29 : decode y_MW_tenth.2.1 29 = .ok (.iload_n 2, 1) := dc9_28 (by decide +kernel)
theorem d_MW_tenth_30 : decode y_MW_tenth.2.1 30 = .ok (.iload_n 3, 1) := dc9_29 (by decide +kernel)
theorem d_MW_tenth_31 : decode y_MW_tenth.2.1 31 = .ok (.bipush 10, 2) := dc9_16 (by decide +kernel)
theorem d_MW_tenth_33 : decode y_MW_tenth.2.1 33 = .ok (.idiv, 1) := dc9_108 (by decide +kernel)
theorem d_MW_tenth_34 : decode y_MW_tenth.2.1 34 = .ok (.iastore, 1) := dc9_79 (by decide +kernel)
theorem d_MW_tenth_35 : decode y_MW_tenth.2.1 35 = .ok (.iload_n 3, 1) := dc9_29 (by decide +kernel)
theorem d_MW_tenth_36 : decode y_MW_tenth.2.1 36 = .ok (.bipush 10, 2) := dc9_16 (by decide +kernel)
theorem d_MW_tenth_38 : decode y_MW_tenth.2.1 38 = .ok (.irem, 1) := dc9_112 (by decide +kernel)
theorem d_MW_tenth_39 : decode y_MW_tenth.2.1 39 = .ok (.istore_n 1, 1) := dc9_60 (by decide +kernel)
theorem d_MW_tenth_40 : decode y_MW_tenth.2.1 40 = .ok (.iinc 2 (-1), 3) := by decide +kernel
theorem d_MW_tenth_43 : decode y_MW_tenth.2.1 43 = .ok (.goto (-34), 3) := dc9_167 (by decide +kernel)
theorem d_MW_tenth_47 : decode y_MW_tenth.2.1 47 = .ok (.invokevirtual 24, 3) := dc9_182 (by decide +kernel)
theorem d_MW_tenth_50 : decode y_MW_tenth.2.1 50 = .ok (.iload_n 1, 1) := dc9_27 (by decide +kernel)
theorem d_MW_tenth_51 : decode y_MW_tenth.2.1 51 = .ok (.ireturn, 1) := dc9_172 (by decide +kernel)
def h_MW_tenth_9 (G : mG) (d : Nat) (a0 : Nat) (l1 : Int) (l2 : Int) (M : mM) (Q : Int → mM → Prop) : Prop := mWm G y_MW_tenth (d + 1) 9 [vr a0, vi l1, vi l2, vd] [] M (fun r9 M9 => ∃ x9, r9 = some (vi x9) ∧ Q x9 M9)
theorem k_MW_tenth {G : mG} {d : Nat} {a0 : Nat} {M : mM} {Q : Int → mM → Prop} (hO : mOk M)
    (h : mK M a0 = 20 ∧ h_MW_tenth_9 G d a0 0 ((mI M a0 1) - 1) M Q) :
    Ci G y_MW_tenth (d + 1) [vr a0] M Q := by
  refine wm_open (y := y_MW_tenth) rfl (Nat.le_of_ble_eq_true rfl) (L := [vr a0, vd, vd, vd]) rfl ?_
  obtain ⟨h1, h⟩ := h
  refine wm_iconst d_MW_tenth_0 ?_
  refine wm_istore_n d_MW_tenth_1 rfl (by decide) (L' := [vr a0, vi 0, vd, vd]) rfl ?_
  refine wm_aload_n d_MW_tenth_2 rfl rfl ?_
  refine gf_MW_13 rfl d_MW_tenth_3 h1 ?_
  refine wm_iconst d_MW_tenth_6 ?_
  refine wm_isub d_MW_tenth_7 ?_
  refine wm_istore_n d_MW_tenth_8 rfl (by decide) (L' := [vr a0, vi 0, vi ((mI M a0 1) - 1), vd]) rfl ?_
  exact h
theorem k_MW_tenth_9 {G : mG} {d : Nat} {a0 : Nat} {l1 : Int} {l2 : Int} {M : mM} {Q : Int → mM → Prop} (hO : mOk M) (hi_l1 : i32 l1) (hi_l2 : i32 l2)
    (h : ((l2 < 0) → (mK M a0 = 20 ∧ Cv G y_MW_trim d [vr a0] M (fun M10 => mOk M10 ∧ (Q l1 M10)))) ∧ (¬ (l2 < 0) → (mK M a0 = 20 ∧ mK M (mR M a0 0) = 30 ∧ ((0 : Int) ≤ l2 ∧ l2 < (mN M (mR M a0 0) : Int)) ∧ i32 ((l1 * 16777216) + (mI M (mR M a0 0) (Int.toNat l2))) ∧ ((0 : Int) ≤ l2 ∧ l2 < (mN M (mR M a0 0) : Int)) ∧ ∀ M18, M18 = mUI M (mR M a0 0) (Int.toNat l2) (Int.tdiv ((l1 * 16777216) + (mI M (mR M a0 0) (Int.toNat l2))) 10) → h_MW_tenth_9 G d a0 (Int.tmod ((l1 * 16777216) + (mI M (mR M a0 0) (Int.toNat l2))) 10) (l2 + (-1)) M18 Q))) :
    h_MW_tenth_9 G d a0 l1 l2 M Q := by
  unfold h_MW_tenth_9
  refine wm_iload_n d_MW_tenth_9 rfl rfl ?_
  refine wm_if_lt (tgt := 46) d_MW_tenth_10 rfl hi_l2 (fun c8 => ?_) (fun c8 => ?_)
  · replace h := h.1 c8
    obtain ⟨h9, h⟩ := h
    refine wm_aload_n d_MW_tenth_46 rfl rfl ?_
    refine cf_MW_24 rfl d_MW_tenth_47 h9 (Nat.le_of_ble_eq_true rfl) (Cv.mono h (fun M10 h => ?_))
    obtain ⟨hOM10, h⟩ := h
    refine wm_iload_n d_MW_tenth_50 rfl rfl ?_
    refine wm_ireturn d_MW_tenth_51 rfl rfl ?_
    exact ⟨_, rfl, h⟩
  · replace h := h.2 c8
    obtain ⟨h13, h⟩ := h
    obtain ⟨h14, h⟩ := h
    obtain ⟨h15, h⟩ := h
    obtain ⟨h16, h⟩ := h
    obtain ⟨h17, h⟩ := h
    obtain ⟨M18, e19⟩ : ∃ M18, M18 = mUI M (mR M a0 0) (Int.toNat l2) (Int.tdiv ((l1 * 16777216) + (mI M (mR M a0 0) (Int.toNat l2))) 10) := ⟨_, rfl⟩
    replace h := h M18 e19
    refine wm_iload_n d_MW_tenth_13 rfl rfl ?_
    refine wm_ldc (x := 16777216) d_MW_tenth_14 k13_26 (by decide) ?_
    refine wm_imul d_MW_tenth_16 ?_
    refine wm_aload_n d_MW_tenth_17 rfl rfl ?_
    refine gf_MW_7 rfl d_MW_tenth_18 h13 ?_
    refine wm_iload_n d_MW_tenth_21 rfl rfl ?_
    refine wm_iald d_MW_tenth_22 h14 h15 ?_
    refine wm_iadd d_MW_tenth_23 ?_
    refine wm_istore_n d_MW_tenth_24 rfl (by decide) (L' := [vr a0, vi l1, vi l2, vi ((l1 * 16777216) + (mI M (mR M a0 0) (Int.toNat l2)))]) rfl ?_
    refine wm_aload_n d_MW_tenth_25 rfl rfl ?_
    refine gf_MW_7 rfl d_MW_tenth_26 h13 ?_
    refine wm_iload_n d_MW_tenth_29 rfl rfl ?_
    refine wm_iload_n d_MW_tenth_30 rfl rfl ?_
    refine wm_bipush d_MW_tenth_31 (by decide) ?_
    refine wm_idiv d_MW_tenth_33 h16 ⟨by decide, by decide⟩ (by decide) ?_
    have hOM18 : mOk M18 := by rw [e19]; exact mOk_UI hO (m_tdiv32 h16 (by decide))
    refine wm_iastE d_MW_tenth_34 h14 h17 (m_tdiv32 h16 (by decide)) e19 ?_
    refine wm_iload_n d_MW_tenth_35 rfl rfl ?_
    refine wm_bipush d_MW_tenth_36 (by decide) ?_
    refine wm_irem d_MW_tenth_38 h16 ⟨by decide, by decide⟩ (by decide) ?_
    refine wm_istore_n d_MW_tenth_39 rfl (by decide) (L' := [vr a0, vi (Int.tmod ((l1 * 16777216) + (mI M (mR M a0 0) (Int.toNat l2))) 10), vi l2, vi ((l1 * 16777216) + (mI M (mR M a0 0) (Int.toNat l2)))]) rfl ?_
    refine wm_iinc d_MW_tenth_40 (by decide) rfl (L' := [vr a0, vi (Int.tmod ((l1 * 16777216) + (mI M (mR M a0 0) (Int.toNat l2))) 10), vi (l2 + (-1)), vi ((l1 * 16777216) + (mI M (mR M a0 0) (Int.toNat l2)))]) rfl ?_
    refine wm_goto (tgt := 9) d_MW_tenth_43 rfl ?_
    refine wm_less (L' := [vr a0, vi (Int.tmod ((l1 * 16777216) + (mI M (mR M a0 0) (Int.toNat l2))) 10), vi (l2 + (-1)), vd]) ⟨Or.inr rfl, Or.inr rfl, Or.inr rfl, Or.inl rfl, trivial⟩ ?_
    exact h
theorem d_JA_copyOf_0 : decode y_JA_copyOf.2.1 0 = .ok (.iload_n 1, 1) := dc9_27 (by decide +kernel)
theorem d_JA_copyOf_1 : decode y_JA_copyOf.2.1 1 = .ok (.aload_n 0, 1) := dc9_42 (by decide +kernel)
theorem d_JA_copyOf_2 : decode y_JA_copyOf.2.1 2 = .ok (.arraylength, 1) := dc9_190 (by decide +kernel)
theorem d_JA_copyOf_3 : decode y_JA_copyOf.2.1 3 = .ok (.if_icmp .ne 11, 3) := dc9_160 (by decide +kernel)
theorem d_JA_copyOf_6 : decode y_JA_copyOf.2.1 6 = .ok (.aload_n 0, 1) := dc9_42 (by decide +kernel)
theorem d_JA_copyOf_14 : decode y_JA_copyOf.2.1 14 = .ok (.iload_n 1, 1) := dc9_27 (by decide +kernel)
theorem d_JA_copyOf_15 : decode y_JA_copyOf.2.1 15 = .ok (.newarray .int, 2) := by decide +kernel
theorem d_JA_copyOf_17 : decode y_JA_copyOf.2.1 17 = .ok (.astore_n 2, 1) := dc9_77 (by decide +kernel)
theorem d_JA_copyOf_18 : decode y_JA_copyOf.2.1 18 = .ok (.aload_n 0, 1) := dc9_42 (by decide +kernel)
theorem d_JA_copyOf_19 : decode y_JA_copyOf.2.1 19 = .ok (.iconst 0, 1) := dc9_3 (by decide +kernel)
theorem d_JA_copyOf_20 : decode y_JA_copyOf.2.1 20 = .ok (.aload_n 2, 1) := dc9_44 (by decide +kernel)
theorem d_JA_copyOf_21 : decode y_JA_copyOf.2.1 21 = .ok (.iconst 0, 1) := dc9_3 (by decide +kernel)
theorem d_JA_copyOf_22 : decode y_JA_copyOf.2.1 22 = .ok (.aload_n 0, 1) := dc9_42 (by decide +kernel)
theorem d_JA_copyOf_23 : decode y_JA_copyOf.2.1 23 = .ok (.arraylength, 1) := dc9_190 (by decide +kernel)
theorem d_JA_copyOf_24 : decode y_JA_copyOf.2.1 24 = .ok (.iload_n 1, 1) := dc9_27 (by decide +kernel)
theorem d_JA_copyOf_25 : decode y_JA_copyOf.2.1 25 = .ok (.invokestatic 304, 3) := dc9_184 (by decide +kernel)
theorem d_JA_copyOf_28 : decode y_JA_copyOf.2.1 28 = .ok (.invokestatic 150, 3) := dc9_184 (by decide +kernel)
theorem d_JA_copyOf_31 : decode y_JA_copyOf.2.1 31 = .ok (.aload_n 2, 1) := dc9_44 (by decide +kernel)
theorem d_JA_copyOf_32 : decode y_JA_copyOf.2.1 32 = .ok (.areturn, 1) := dc9_176 (by decide +kernel)
theorem k_JA_copyOf {G : mG} {d : Nat} {a0 : Nat} {l1 : Int} {M : mM} {Q : Nat → mM → Prop} (hO : mOk M) (hi_l1 : i32 l1)
    (h : mK M a0 = 30 ∧ i32 (mN M a0 : Int) ∧ ((l1 = (mN M a0 : Int)) → (False)) ∧ (¬ (l1 = (mN M a0 : Int)) → (((0 : Int) ≤ l1 ∧ l1 ≤ 16777216) ∧ ∀ M7, M7 = mNew M 30 (Int.toNat l1) (Int.toNat l1) → mK M7 a0 = 30 ∧ i32 (mN M7 a0 : Int) ∧ ((0 : Int) ≤ 0 ∧ (0 : Int) ≤ 0 ∧ (0 : Int) ≤ (if l1 < (mN M7 a0 : Int) then l1 else (mN M7 a0 : Int)) ∧ 0 + (if l1 < (mN M7 a0 : Int) then l1 else (mN M7 a0 : Int)) ≤ (mN M7 a0 : Int) ∧ 0 + (if l1 < (mN M7 a0 : Int) then l1 else (mN M7 a0 : Int)) ≤ (mN M7 (mZ M) : Int)) ∧ ∀ M12, M12 = mCpy M7 a0 (mZ M) 0 0 (Int.toNat (if l1 < (mN M7 a0 : Int) then l1 else (mN M7 a0 : Int))) → Q (mZ M) M12))) :
    Cr G y_JA_copyOf (d + 1) [vr a0, vi l1] M Q := by
  refine wm_open (y := y_JA_copyOf) rfl (Nat.le_of_ble_eq_true rfl) (L := [vr a0, vi l1, vd]) rfl ?_
  obtain ⟨h1, h⟩ := h
  obtain ⟨h4, h⟩ := h
  refine wm_iload_n d_JA_copyOf_0 rfl rfl ?_
  refine wm_aload_n d_JA_copyOf_1 rfl rfl ?_
  refine wm_alen 0 rfl (fun _ => rfl) d_JA_copyOf_2 h1 ?_
  refine wm_icmp_ne (tgt := 14) d_JA_copyOf_3 rfl hi_l1 h4 (fun c5 => ?_) (fun c5 => ?_)
  · replace h := h.2 c5
    obtain ⟨h6, h⟩ := h
    obtain ⟨M7, e8⟩ : ∃ M7, M7 = mNew M 30 (Int.toNat l1) (Int.toNat l1) := ⟨_, rfl⟩
    replace h := h M7 e8
    obtain ⟨h9, h⟩ := h
    obtain ⟨h10, h⟩ := h
    obtain ⟨h11, h⟩ := h
    obtain ⟨M12, e13⟩ : ∃ M12, M12 = mCpy M7 a0 (mZ M) 0 0 (Int.toNat (if l1 < (mN M7 a0 : Int) then l1 else (mN M7 a0 : Int))) := ⟨_, rfl⟩
    replace h := h M12 e13
    refine wm_iload_n d_JA_copyOf_14 rfl rfl ?_
    have hOM7 : mOk M7 := by rw [e8]; exact mOk_New hO
    refine wm_newarrE 0 (atype := .int) (ty := .int) rfl rfl (fun _ => rfl) rfl rfl (by decide) k1_82 h6 d_JA_copyOf_15 e8 ?_
    refine wm_astore_n d_JA_copyOf_17 rfl (by decide) (L' := [vr a0, vi l1, vr (mZ M)]) rfl ?_
    refine wm_aload_n d_JA_copyOf_18 rfl rfl ?_
    refine wm_iconst d_JA_copyOf_19 ?_
    refine wm_aload_n d_JA_copyOf_20 rfl rfl ?_
    refine wm_iconst d_JA_copyOf_21 ?_
    refine wm_aload_n d_JA_copyOf_22 rfl rfl ?_
    refine wm_alen 0 rfl (fun _ => rfl) d_JA_copyOf_23 h9 ?_
    refine wm_iload_n d_JA_copyOf_24 rfl rfl ?_
    refine wm_mmin k5_67 (Nat.le_of_ble_eq_true rfl) h10 hi_l1 d_JA_copyOf_25 ?_
    have hOM12 : mOk M12 := by rw [e13]; exact mOk_Cpy hOM7
    refine wm_copyi k5_68 (Nat.le_of_ble_eq_true rfl) h9 (by rw [e8]; exact if_pos rfl) h11 d_JA_copyOf_28 e13 ?_
    refine wm_aload_n d_JA_copyOf_31 rfl rfl ?_
    refine wm_areturn d_JA_copyOf_32 rfl (Or.inr ⟨_, rfl⟩) ?_
    exact ⟨_, rfl, h⟩
  · replace c5 := Classical.not_not.mp c5
    replace h := h.1 c5
    refine wm_aload_n d_JA_copyOf_6 rfl rfl ?_
    exact h.elim
theorem d_JA_fillR_0 : decode y_JA_fillR.2.1 0 = .ok (.aload_n 0, 1) := dc9_42 (by decide +kernel)
theorem d_JA_fillR_1 : decode y_JA_fillR.2.1 1 = .ok (.arraylength, 1) := dc9_190 (by decide +kernel)
theorem d_JA_fillR_2 : decode y_JA_fillR.2.1 2 = .ok (.iload_n 1, 1) := dc9_27 (by decide +kernel)
theorem d_JA_fillR_3 : decode y_JA_fillR.2.1 3 = .ok (.iload_n 2, 1) := dc9_28 (by decide +kernel)
theorem d_JA_fillR_4 : decode y_JA_fillR.2.1 4 = .ok (.invokestatic 13, 3) := dc9_184 (by decide +kernel)
theorem d_JA_fillR_7 : decode y_JA_fillR.2.1 7 = .ok (.iload_n 1, 1) := dc9_27 (by decide +kernel)
theorem d_JA_fillR_8 : decode y_JA_fillR.2.1 8 = .ok (.istore 4, 2) := dc9_54 (by decide +kernel)
theorem d_JA_fillR_10 : decode y_JA_fillR.2.1 10 = .ok (.iload 4, 2) := dc9_21 (by decide +kernel)
theorem d_JA_fillR_12 : decode y_JA_fillR.2.1 12 = .ok (.iload_n 2, 1) := dc9_28 (by decide +kernel)
theorem d_JA_fillR_13 : decode y_JA_fillR.2.1 13 = .ok (.if_icmp .ge 14, 3) := dc9_162 (by decide +kernel)
theorem d_JA_fillR_27 : decode y_JA_fillR.2.1 27 = .ok (.return_, 1) := dc9_177 (by decide +kernel)
theorem d_JA_fillR_16 : decode y_JA_fillR.2.1 16 = .ok (.aload_n 0, 1) := dc9_42 (by decide +kernel)
theorem d_JA_fillR_17 : decode y_JA_fillR.2.1 17 = .ok (.iload 4, 2) := dc9_21 (by decide +kernel)
theorem d_JA_fillR_19 : decode y_JA_fillR.2.1 19 = .ok (.iload_n 3, 1) := dc9_29 (by decide +kernel)
theorem d_JA_fillR_20 : decode y_JA_fillR.2.1 20 = .ok (.iastore, 1) := dc9_79 (by decide +kernel)
theorem d_JA_fillR_21 : decode y_JA_fillR.2.1 21 = .ok (.iinc 4 1, 3) := by decide +kernel
theorem d_JA_fillR_24 : decode y_JA_fillR.2.1 24 = .ok (.goto (-14), 3) := dc9_167 (by decide +kernel)
def h_JA_fillR_10 (G : mG) (d : Nat) (a0 : Nat) (l2 : Int) (l3 : Int) (l4 : Int) (M : mM) (Q : mM → Prop) : Prop := mWm G y_JA_fillR (d + 1) 10 [vr a0, vd, vi l2, vi l3, vi l4] [] M (fun r9 M9 => r9 = none ∧ Q M9)
theorem k_JA_fillR {G : mG} {d : Nat} {a0 : Nat} {l1 : Int} {l2 : Int} {l3 : Int} {M : mM} {Q : mM → Prop} (hO : mOk M) (hi_l1 : i32 l1) (hi_l2 : i32 l2) (hi_l3 : i32 l3)
    (h : mK M a0 = 30 ∧ Cv G y_JA_rangeCheck d [vi (mN M a0 : Int), vi l1, vi l2] M (fun M2 => mOk M2 ∧ (h_JA_fillR_10 G d a0 l2 l3 l1 M2 Q))) :
    Cv G y_JA_fillR (d + 1) [vr a0, vi l1, vi l2, vi l3] M Q := by
  refine wm_open (y := y_JA_fillR) rfl (Nat.le_of_ble_eq_true rfl) (L := [vr a0, vi l1, vi l2, vi l3, vd]) rfl ?_
  obtain ⟨h1, h⟩ := h
  refine wm_aload_n d_JA_fillR_0 rfl rfl ?_
  refine wm_alen 0 rfl (fun _ => rfl) d_JA_fillR_1 h1 ?_
  refine wm_iload_n d_JA_fillR_2 rfl rfl ?_
  refine wm_iload_n d_JA_fillR_3 rfl rfl ?_
  refine cf_JA_13 rfl d_JA_fillR_4 (Nat.le_of_ble_eq_true rfl) (Cv.mono h (fun M2 h => ?_))
  obtain ⟨hOM2, h⟩ := h
  refine wm_iload_n d_JA_fillR_7 rfl rfl ?_
  refine wm_istore d_JA_fillR_8 (by decide) (L' := [vr a0, vi l1, vi l2, vi l3, vi l1]) rfl ?_
  refine wm_less (L' := [vr a0, vd, vi l2, vi l3, vi l1]) ⟨Or.inr rfl, Or.inl rfl, Or.inr rfl, Or.inr rfl, Or.inr rfl, trivial⟩ ?_
  exact h
theorem k_JA_fillR_10 {G : mG} {d : Nat} {a0 : Nat} {l2 : Int} {l3 : Int} {l4 : Int} {M : mM} {Q : mM → Prop} (hO : mOk M) (hi_l2 : i32 l2) (hi_l3 : i32 l3) (hi_l4 : i32 l4)
    (h : ((l2 ≤ l4) → (Q M)) ∧ (¬ (l2 ≤ l4) → (mK M a0 = 30 ∧ ((0 : Int) ≤ l4 ∧ l4 < (mN M a0 : Int)) ∧ ∀ M11, M11 = mUI M a0 (Int.toNat l4) l3 → h_JA_fillR_10 G d a0 l2 l3 (l4 + 1) M11 Q))) :
    h_JA_fillR_10 G d a0 l2 l3 l4 M Q := by
  unfold h_JA_fillR_10
  refine wm_iload d_JA_fillR_10 rfl ?_
  refine wm_iload_n d_JA_fillR_12 rfl rfl ?_
  refine wm_icmp_ge (tgt := 27) d_JA_fillR_13 rfl hi_l4 hi_l2 (fun c8 => ?_) (fun c8 => ?_)
  · replace h := h.1 c8
    refine wm_return d_JA_fillR_27 rfl ?_
    exact ⟨rfl, h⟩
  · replace h := h.2 c8
    obtain ⟨h9, h⟩ := h
    obtain ⟨h10, h⟩ := h
    obtain ⟨M11, e12⟩ : ∃ M11, M11 = mUI M a0 (Int.toNat l4) l3 := ⟨_, rfl⟩
    replace h := h M11 e12
    refine wm_aload_n d_JA_fillR_16 rfl rfl ?_
    refine wm_iload d_JA_fillR_17 rfl ?_
    refine wm_iload_n d_JA_fillR_19 rfl rfl ?_
    have hOM11 : mOk M11 := by rw [e12]; exact mOk_UI hO hi_l3
    refine wm_iastE d_JA_fillR_20 h9 h10 hi_l3 e12 ?_
    refine wm_iinc d_JA_fillR_21 (by decide) rfl (L' := [vr a0, vd, vi l2, vi l3, vi (l4 + 1)]) rfl ?_
    refine wm_goto (tgt := 10) d_JA_fillR_24 rfl ?_
    exact h
theorem d_JA_fill_0 : decode y_JA_fill.2.1 0 = .ok (.iconst 0, 1) := dc9_3 (by decide +kernel)
theorem d_JA_fill_1 : decode y_JA_fill.2.1 1 = .ok (.istore_n 2, 1) := dc9_61 (by decide +kernel)
theorem d_JA_fill_2 : decode y_JA_fill.2.1 2 = .ok (.aload_n 0, 1) := dc9_42 (by decide +kernel)
theorem d_JA_fill_3 : decode y_JA_fill.2.1 3 = .ok (.arraylength, 1) := dc9_190 (by decide +kernel)
theorem d_JA_fill_4 : decode y_JA_fill.2.1 4 = .ok (.istore_n 3, 1) := dc9_62 (by decide +kernel)
theorem d_JA_fill_5 : decode y_JA_fill.2.1 5 = .ok (.iload_n 2, 1) := dc9_28 (by decide +kernel)
theorem d_JA_fill_6 : decode y_JA_fill.2.1 6 = .ok (.iload_n 3, 1) := dc9_29 (by decide +kernel)
theorem d_JA_fill_7 : decode y_JA_fill.2.1 7 = .ok (.if_icmp .ge 13, 3) := dc9_162 (by decide +kernel)
theorem d_JA_fill_20 : decode y_JA_fill.2.1 20 = .ok (.return_, 1) := dc9_177 (by decide +kernel)
theorem d_JA_fill_10 : decode y_JA_fill.2.1 10 = .ok (.aload_n 0, 1) := dc9_42 (by decide +kernel)
theorem d_JA_fill_11 : decode y_JA_fill.2.1 11 = .ok (.iload_n 2, 1) := dc9_28 (by decide +kernel)
theorem d_JA_fill_12 : decode y_JA_fill.2.1 12 = .ok (.iload_n 1, 1) := dc9_27 (by decide +kernel)
theorem d_JA_fill_13 : decode y_JA_fill.2.1 13 = .ok (.iastore, 1) := dc9_79 (by decide +kernel)
theorem d_JA_fill_14 : decode y_JA_fill.2.1 14 = .ok (.iinc 2 1, 3) := by decide +kernel
theorem d_JA_fill_17 : decode y_JA_fill.2.1 17 = .ok (.goto (-12), 3) := dc9_167 (by decide +kernel)
def h_JA_fill_5 (G : mG) (d : Nat) (a0 : Nat) (l1 : Int) (l2 : Int) (l3 : Int) (M : mM) (Q : mM → Prop) : Prop := mWm G y_JA_fill d 5 [vr a0, vi l1, vi l2, vi l3] [] M (fun r9 M9 => r9 = none ∧ Q M9)
theorem k_JA_fill {G : mG} {d : Nat} {a0 : Nat} {l1 : Int} {M : mM} {Q : mM → Prop} (hO : mOk M) (hi_l1 : i32 l1)
    (h : mK M a0 = 30 ∧ h_JA_fill_5 G d a0 l1 0 (mN M a0 : Int) M Q) :
    Cv G y_JA_fill d [vr a0, vi l1] M Q := by
  refine wm_open (y := y_JA_fill) rfl (Nat.le_of_ble_eq_true rfl) (L := [vr a0, vi l1, vd, vd]) rfl ?_
  obtain ⟨h1, h⟩ := h
  refine wm_iconst d_JA_fill_0 ?_
  refine wm_istore_n d_JA_fill_1 rfl (by decide) (L' := [vr a0, vi l1, vi 0, vd]) rfl ?_
  refine wm_aload_n d_JA_fill_2 rfl rfl ?_
  refine wm_alen 0 rfl (fun _ => rfl) d_JA_fill_3 h1 ?_
  refine wm_istore_n d_JA_fill_4 rfl (by decide) (L' := [vr a0, vi l1, vi 0, vi (mN M a0 : Int)]) rfl ?_
  exact h
theorem k_JA_fill_5 {G : mG} {d : Nat} {a0 : Nat} {l1 : Int} {l2 : Int} {l3 : Int} {M : mM} {Q : mM → Prop} (hO : mOk M) (hi_l1 : i32 l1) (hi_l2 : i32 l2) (hi_l3 : i32 l3)
    (h : ((l3 ≤ l2) → (Q M)) ∧ (¬ (l3 ≤ l2) → (mK M a0 = 30 ∧ ((0 : Int) ≤ l2 ∧ l2 < (mN M a0 : Int)) ∧ ∀ M8, M8 = mUI M a0 (Int.toNat l2) l1 → h_JA_fill_5 G d a0 l1 (l2 + 1) l3 M8 Q))) :
    h_JA_fill_5 G d a0 l1 l2 l3 M Q := by
  unfold h_JA_fill_5
  refine wm_iload_n d_JA_fill_5 rfl rfl ?_
  refine wm_iload_n d_JA_fill_6 rfl rfl ?_
  refine wm_icmp_ge (tgt := 20) d_JA_fill_7 rfl hi_l2 hi_l3 (fun c5 => ?_) (fun c5 => ?_)
  · replace h := h.1 c5
    refine wm_return d_JA_fill_20 rfl ?_
    exact ⟨rfl, h⟩
  · replace h := h.2 c5
    obtain ⟨h6, h⟩ := h
    obtain ⟨h7, h⟩ := h
    obtain ⟨M8, e9⟩ : ∃ M8, M8 = mUI M a0 (Int.toNat l2) l1 := ⟨_, rfl⟩
    replace h := h M8 e9
    refine wm_aload_n d_JA_fill_10 rfl rfl ?_
    refine wm_iload_n d_JA_fill_11 rfl rfl ?_
    refine wm_iload_n d_JA_fill_12 rfl rfl ?_
    have hOM8 : mOk M8 := by rw [e9]; exact mOk_UI hO hi_l1
    refine wm_iastE d_JA_fill_13 h6 h7 hi_l1 e9 ?_
    refine wm_iinc d_JA_fill_14 (by decide) rfl (L' := [vr a0, vi l1, vi (l2 + 1), vi l3]) rfl ?_
    refine wm_goto (tgt := 5) d_JA_fill_17 rfl ?_
    exact h
theorem d_JA_rangeCheck_0 : decode y_JA_rangeCheck.2.1 0 = .ok (.iload_n 1, 1) := dc9_27 (by decide +kernel)
theorem d_JA_rangeCheck_1 : decode y_JA_rangeCheck.2.1 1 = .ok (.iload_n 2, 1) := dc9_28 (by decide +kernel)
theorem d_JA_rangeCheck_2 : decode y_JA_rangeCheck.2.1 2 = .ok (.if_icmp .le 44, 3) := dc9_164 (by decide +kernel)
theorem d_JA_rangeCheck_46 : decode y_JA_rangeCheck.2.1 46 = .ok (.iload_n 1, 1) := dc9_27 (by decide +kernel)
theorem d_JA_rangeCheck_47 : decode y_JA_rangeCheck.2.1 47 = .ok (.ifCond .ge 12, 3) := dc9_156 (by decide +kernel)
theorem d_JA_rangeCheck_59 : decode y_JA_rangeCheck.2.1 59 = .ok (.iload_n 2, 1) := dc9_28 (by decide +kernel)
theorem d_JA_rangeCheck_60 : decode y_JA_rangeCheck.2.1 60 = .ok (.iload_n 0, 1) := dc9_26 (by decide +kernel)
theorem d_JA_rangeCheck_61 : decode y_JA_rangeCheck.2.1 61 = .ok (.if_icmp .le 12, 3) := dc9_164 (by decide +kernel)
theorem d_JA_rangeCheck_73 : decode y_JA_rangeCheck.2.1 73 = .ok (.return_, 1) := dc9_177 (by decide +kernel)
theorem k_JA_rangeCheck {G : mG} {d : Nat} {l0 : Int} {l1 : Int} {l2 : Int} {M : mM} {Q : mM → Prop} (hO : mOk M) (hi_l0 : i32 l0) (hi_l1 : i32 l1) (hi_l2 : i32 l2)
    (h : ((l1 ≤ l2) → (((0 ≤ l1) → (((l2 ≤ l0) → (Q M)) ∧ (¬ (l2 ≤ l0) → (False)))) ∧ (¬ (0 ≤ l1) → (False)))) ∧ (¬ (l1 ≤ l2) → (False))) :
    Cv G y_JA_rangeCheck (d + 1) [vi l0, vi l1, vi l2] M Q := by
  refine wm_open (y := y_JA_rangeCheck) rfl (Nat.le_of_ble_eq_true rfl) (L := [vi l0, vi l1, vi l2]) rfl ?_
  refine wm_iload_n d_JA_rangeCheck_0 rfl rfl ?_
  refine wm_iload_n d_JA_rangeCheck_1 rfl rfl ?_
  refine wm_icmp_le (tgt := 46) d_JA_rangeCheck_2 rfl hi_l1 hi_l2 (fun c4 => ?_) (fun c4 => ?_)
  · replace h := h.1 c4
    refine wm_iload_n d_JA_rangeCheck_46 rfl rfl ?_
    refine wm_if_ge (tgt := 59) d_JA_rangeCheck_47 rfl hi_l1 (fun c7 => ?_) (fun c7 => ?_)
    · replace h := h.1 c7
      refine wm_iload_n d_JA_rangeCheck_59 rfl rfl ?_
      refine wm_iload_n d_JA_rangeCheck_60 rfl rfl ?_
      refine wm_icmp_le (tgt := 73) d_JA_rangeCheck_61 rfl hi_l2 hi_l0 (fun c9 => ?_) (fun c9 => ?_)
      · replace h := h.1 c9
        refine wm_return d_JA_rangeCheck_73 rfl ?_
        exact ⟨rfl, h⟩
      · replace h := h.2 c9
        exact h.elim
    · replace h := h.2 c7
      exact h.elim
  · replace h := h.2 c4
    exact h.elim
theorem d_JI_nlz_0 : decode y_JI_nlz.2.1 0 = .ok (.iload_n 0, 1) := dc9_26 (by decide +kernel)
theorem d_JI_nlz_1 : decode y_JI_nlz.2.1 1 = .ok (.ifCond .gt 14, 3) := dc9_157 (by decide +kernel)
theorem d_JI_nlz_15 : decode y_JI_nlz.2.1 15 = .ok (.bipush 31, 2) := dc9_16 (by decide +kernel)
theorem d_JI_nlz_17 : decode y_JI_nlz.2.1 17 = .ok (.istore_n 1, 1) := dc9_60 (by decide +kernel)
theorem d_JI_nlz_18 : decode y_JI_nlz.2.1 18 = .ok (.iload_n 0, 1) := dc9_26 (by decide +kernel)
theorem d_JI_nlz_19 : decode y_JI_nlz.2.1 19 = .ok (.ldc_w 264, 3) := dc9_19 (by decide +kernel)
theorem d_JI_nlz_4 : decode y_JI_nlz.2.1 4 = .ok (.iload_n 0, 1) := dc9_26 (by decide +kernel)
theorem d_JI_nlz_5 : decode y_JI_nlz.2.1 5 = .ok (.ifCond .ne 8, 3) := dc9_154 (by decide +kernel)
theorem d_JI_nlz_8 : decode y_JI_nlz.2.1 8 = .ok (.bipush 32, 2) := dc9_16 (by decide +kernel)
theorem d_JI_nlz_10 : decode y_JI_nlz.2.1 10 = .ok (.goto 4, 3) := dc9_167 (by decide +kernel)
theorem d_JI_nlz_14 : decode y_JI_nlz.2.1 14 = .ok (.ireturn, 1) := dc9_172 (by decide +kernel)
theorem d_JI_nlz_13 : decode y_JI_nlz.2.1 13 = .ok (.iconst 0, 1) := dc9_3 (by decide +kernel)
theorem d_JI_nlz_22 : decode y_JI_nlz.2.1 22 = .ok (.if_icmp .lt 11, 3) := dc9_161 (by decide +kernel)
theorem d_JI_nlz_25 : decode y_JI_nlz.2.1 25 = .ok (.iinc 1 (-16), 3) := by decide +kernel
theorem d_JI_nlz_28 : decode y_JI_nlz.2.1 28 = .ok (.iload_n 0, 1) := dc9_26 (by decide +kernel)
theorem d_JI_nlz_29 : decode y_JI_nlz.2.1 29 = .ok (.bipush 16, 2) := dc9_16 (by decide +kernel)
theorem d_JI_nlz_31 : decode y_JI_nlz.2.1 31 = .ok (.iushr, 1) := dc9_124 (by decide +kernel)
theorem d_JI_nlz_32 : decode y_JI_nlz.2.1 32 = .ok (.istore_n 0, 1) := dc9_59 (by decide +kernel)
theorem d_JI_nlz_33 : decode y_JI_nlz.2.1 33 = .ok (.iload_n 0, 1) := dc9_26 (by decide +kernel)
theorem d_JI_nlz_34 : decode y_JI_nlz.2.1 34 = .ok (.sipush 256, 3) := dc9_17 (by decide +kernel)
theorem d_JI_nlz_37 : decode y_JI_nlz.2.1 37 = .ok (.if_icmp .lt 11, 3) := dc9_161 (by decide +kernel)
theorem d_JI_nlz_40 : decode y_JI_nlz.2.1 40 = .ok (.iinc 1 (-8), 3) := by decide +kernel
theorem d_JI_nlz_43 : decode y_JI_nlz.2.1 43 = .ok (.iload_n 0, 1) := dc9_26 (by decide +kernel)
theorem d_JI_nlz_44 : decode y_JI_nlz.2.1 44 = .ok (.bipush 8, 2) := dc9_16 (by decide +kernel)
theorem d_JI_nlz_46 : decode y_JI_nlz.2.1 46 = .ok (.iushr, 1) := dc9_124 (by decide +kernel)
theorem d_JI_nlz_47 : decode y_JI_nlz.2.1 47 = .ok (.istore_n 0, 1) := dc9_59 (by decide +kernel)
theorem d_JI_nlz_48 : decode y_JI_nlz.2.1 48 = .ok (.iload_n 0, 1) := dc9_26 (by decide +kernel)
theorem d_JI_nlz_49 : decode y_JI_nlz.2.1 49 = .ok (.bipush 16, 2) := dc9_16 (by decide +kernel)
theorem d_JI_nlz_51 : decode y_JI_nlz.2.1 51 = .ok (.if_icmp .lt 10, 3) := dc9_161 (by decide +kernel)
theorem d_JI_nlz_54 : decode y_JI_nlz.2.1 54 = .ok (.iinc 1 (-4), 3) := by decide +kernel
theorem d_JI_nlz_57 : decode y_JI_nlz.2.1 57 = .ok (.iload_n 0, 1) := dc9_26 (by decide +kernel)
theorem d_JI_nlz_58 : decode y_JI_nlz.2.1 58 = .ok (.iconst 4, 1) := dc9_7 (by decide +kernel)
theorem d_JI_nlz_59 : decode y_JI_nlz.2.1 59 = .ok (.iushr, 1) := dc9_124 (by decide +kernel)
theorem d_JI_nlz_60 : decode y_JI_nlz.2.1 60 = .ok (.istore_n 0, 1) := dc9_59 (by decide +kernel)
theorem d_JI_nlz_61 : decode y_JI_nlz.2.1 61 = .ok (.iload_n 0, 1) := dc9_26 (by decide +kernel)
theorem d_JI_nlz_62 : decode y_JI_nlz.2.1 62 = .ok (.iconst 4, 1) := dc9_7 (by decide +kernel)
theorem d_JI_nlz_63 : decode y_JI_nlz.2.1 63 = .ok (.if_icmp .lt 10, 3) := dc9_161 (by decide +kernel)
theorem d_JI_nlz_66 : decode y_JI_nlz.2.1 66 = .ok (.iinc 1 (-2), 3) := by decide +kernel
theorem d_JI_nlz_69 : decode y_JI_nlz.2.1 69 = .ok (.iload_n 0, 1) := dc9_26 (by decide +kernel)
theorem d_JI_nlz_70 : decode y_JI_nlz.2.1 70 = .ok (.iconst 2, 1) := dc9_5 (by decide +kernel)
theorem d_JI_nlz_71 : decode y_JI_nlz.2.1 71 = .ok (.iushr, 1) := dc9_124 (by decide +kernel)
theorem d_JI_nlz_72 : decode y_JI_nlz.2.1 72 = .ok (.istore_n 0, 1) := dc9_59 (by decide +kernel)
theorem d_JI_nlz_73 : decode y_JI_nlz.2.1 73 = .ok (.iload_n 1, 1) := dc9_27 (by decide +kernel)
theorem d_JI_nlz_74 : decode y_JI_nlz.2.1 74 = .ok (.iload_n 0, 1) := dc9_26 (by decide +kernel)
theorem d_JI_nlz_75 : decode y_JI_nlz.2.1 75 = .ok (.iconst 1, 1) := dc9_4 (by decide +kernel)
theorem d_JI_nlz_76 : decode y_JI_nlz.2.1 76 = .ok (.iushr, 1) := dc9_124 (by decide +kernel)
theorem d_JI_nlz_77 : decode y_JI_nlz.2.1 77 = .ok (.isub, 1) := dc9_100 (by decide +kernel)
theorem d_JI_nlz_78 : decode y_JI_nlz.2.1 78 = .ok (.ireturn, 1) := dc9_172 (by decide +kernel)
theorem k_JI_nlz {G : mG} {d : Nat} {l0 : Int} {M : mM} {Q : Int → mM → Prop} (hO : mOk M) (hi_l0 : i32 l0)
    (h : ((0 < l0) → (∀ v5 : Int, v5 = (if (l0 < 65536) then l0 else ushrI l0 16) → ∀ v6 : Int, v6 = (if (l0 < 65536) then 31 else 31 + (-16)) → ∀ v12 : Int, v12 = (if (v5 < 256) then v5 else ushrI v5 8) → ∀ v13 : Int, v13 = (if (v5 < 256) then v6 else v6 + (-8)) → ∀ v19 : Int, v19 = (if (v12 < 16) then v12 else ushrI v12 4) → ∀ v20 : Int, v20 = (if (v12 < 16) then v13 else v13 + (-4)) → ∀ v26 : Int, v26 = (if (v19 < 4) then v19 else ushrI v19 2) → ∀ v27 : Int, v27 = (if (v19 < 4) then v20 else v20 + (-2)) → Q (v27 - (ushrI v26 1)) M)) ∧ (¬ (0 < l0) → (∀ v41 : Int, v41 = (if (l0 = 0) then 32 else 0) → Q v41 M))) :
    Ci G y_JI_nlz d [vi l0] M Q := by
  refine wm_open (y := y_JI_nlz) rfl (Nat.le_of_ble_eq_true rfl) (L := [vi l0, vd]) rfl ?_
  refine wm_iload_n d_JI_nlz_0 rfl rfl ?_
  refine wm_if_gt (tgt := 15) d_JI_nlz_1 rfl hi_l0 (fun c3 => ?_) (fun c3 => ?_)
  · replace h := h.1 c3
    refine wm_bipush d_JI_nlz_15 (by decide) ?_
    refine wm_istore_n d_JI_nlz_17 rfl (by decide) (L' := [vi l0, vi 31]) rfl ?_
    refine wm_iload_n d_JI_nlz_18 rfl rfl ?_
    refine wm_ldcw (x := 65536) d_JI_nlz_19 k5_236 (by decide) ?_
    have hJ : ∀ v5 : Int, v5 = (if (l0 < 65536) then l0 else ushrI l0 16) → ∀ v6 : Int, v6 = (if (l0 < 65536) then 31 else 31 + (-16)) → mWm G y_JI_nlz d 33 [vi v5, vi v6] [] M (fun r9 M9 => ∃ x9, r9 = some (vi x9) ∧ Q x9 M9) := by
      intro v5 e8
      intro v6 e9
      have h := h v5 e8 v6 e9
      have h10 : i32 v5 := by rw [e8]; (repeat' split) <;> first | exact hi_l0 | exact (m_i32 _)
      refine wm_iload_n d_JI_nlz_33 rfl rfl ?_
      refine wm_sipush d_JI_nlz_34 (by decide) ?_
      have hJ : ∀ v12 : Int, v12 = (if (v5 < 256) then v5 else ushrI v5 8) → ∀ v13 : Int, v13 = (if (v5 < 256) then v6 else v6 + (-8)) → mWm G y_JI_nlz d 48 [vi v12, vi v13] [] M (fun r9 M9 => ∃ x9, r9 = some (vi x9) ∧ Q x9 M9) := by
        intro v12 e15
        intro v13 e16
        have h := h v12 e15 v13 e16
        have h17 : i32 v12 := by rw [e15]; (repeat' split) <;> first | exact h10 | exact (m_i32 _)
        refine wm_iload_n d_JI_nlz_48 rfl rfl ?_
        refine wm_bipush d_JI_nlz_49 (by decide) ?_
        have hJ : ∀ v19 : Int, v19 = (if (v12 < 16) then v12 else ushrI v12 4) → ∀ v20 : Int, v20 = (if (v12 < 16) then v13 else v13 + (-4)) → mWm G y_JI_nlz d 61 [vi v19, vi v20] [] M (fun r9 M9 => ∃ x9, r9 = some (vi x9) ∧ Q x9 M9) := by
          intro v19 e22
          intro v20 e23
          have h := h v19 e22 v20 e23
          have h24 : i32 v19 := by rw [e22]; (repeat' split) <;> first | exact h17 | exact (m_i32 _)
          refine wm_iload_n d_JI_nlz_61 rfl rfl ?_
          refine wm_iconst d_JI_nlz_62 ?_
          have hJ : ∀ v26 : Int, v26 = (if (v19 < 4) then v19 else ushrI v19 2) → ∀ v27 : Int, v27 = (if (v19 < 4) then v20 else v20 + (-2)) → mWm G y_JI_nlz d 73 [vi v26, vi v27] [] M (fun r9 M9 => ∃ x9, r9 = some (vi x9) ∧ Q x9 M9) := by
            intro v26 e29
            intro v27 e30
            have h := h v26 e29 v27 e30
            have h31 : i32 v26 := by rw [e29]; (repeat' split) <;> first | exact h24 | exact (m_i32 _)
            refine wm_iload_n d_JI_nlz_73 rfl rfl ?_
            refine wm_iload_n d_JI_nlz_74 rfl rfl ?_
            refine wm_iconst d_JI_nlz_75 ?_
            refine wm_iushr d_JI_nlz_76 ?_
            refine wm_isub d_JI_nlz_77 ?_
            refine wm_ireturn d_JI_nlz_78 rfl rfl ?_
            exact ⟨_, rfl, h⟩
          clear h
          refine wm_icmp_lt (tgt := 73) d_JI_nlz_63 rfl h24 ⟨by decide, by decide⟩ (fun c25 => ?_) (fun c25 => ?_)
          · exact hJ v19 (if_pos c25).symm v20 (if_pos c25).symm
          · refine wm_iinc d_JI_nlz_66 (by decide) rfl (L' := [vi v19, vi (v20 + (-2))]) rfl ?_
            refine wm_iload_n d_JI_nlz_69 rfl rfl ?_
            refine wm_iconst d_JI_nlz_70 ?_
            refine wm_iushr d_JI_nlz_71 ?_
            refine wm_istore_n d_JI_nlz_72 rfl (by decide) (L' := [vi (ushrI v19 2), vi (v20 + (-2))]) rfl ?_
            exact hJ (ushrI v19 2) (if_neg c25).symm (v20 + (-2)) (if_neg c25).symm
        clear h
        refine wm_icmp_lt (tgt := 61) d_JI_nlz_51 rfl h17 ⟨by decide, by decide⟩ (fun c18 => ?_) (fun c18 => ?_)
        · exact hJ v12 (if_pos c18).symm v13 (if_pos c18).symm
        · refine wm_iinc d_JI_nlz_54 (by decide) rfl (L' := [vi v12, vi (v13 + (-4))]) rfl ?_
          refine wm_iload_n d_JI_nlz_57 rfl rfl ?_
          refine wm_iconst d_JI_nlz_58 ?_
          refine wm_iushr d_JI_nlz_59 ?_
          refine wm_istore_n d_JI_nlz_60 rfl (by decide) (L' := [vi (ushrI v12 4), vi (v13 + (-4))]) rfl ?_
          exact hJ (ushrI v12 4) (if_neg c18).symm (v13 + (-4)) (if_neg c18).symm
      clear h
      refine wm_icmp_lt (tgt := 48) d_JI_nlz_37 rfl h10 ⟨by decide, by decide⟩ (fun c11 => ?_) (fun c11 => ?_)
      · exact hJ v5 (if_pos c11).symm v6 (if_pos c11).symm
      · refine wm_iinc d_JI_nlz_40 (by decide) rfl (L' := [vi v5, vi (v6 + (-8))]) rfl ?_
        refine wm_iload_n d_JI_nlz_43 rfl rfl ?_
        refine wm_bipush d_JI_nlz_44 (by decide) ?_
        refine wm_iushr d_JI_nlz_46 ?_
        refine wm_istore_n d_JI_nlz_47 rfl (by decide) (L' := [vi (ushrI v5 8), vi (v6 + (-8))]) rfl ?_
        exact hJ (ushrI v5 8) (if_neg c11).symm (v6 + (-8)) (if_neg c11).symm
    clear h
    refine wm_icmp_lt (tgt := 33) d_JI_nlz_22 rfl hi_l0 ⟨by decide, by decide⟩ (fun c4 => ?_) (fun c4 => ?_)
    · exact hJ l0 (if_pos c4).symm 31 (if_pos c4).symm
    · refine wm_iinc d_JI_nlz_25 (by decide) rfl (L' := [vi l0, vi (31 + (-16))]) rfl ?_
      refine wm_iload_n d_JI_nlz_28 rfl rfl ?_
      refine wm_bipush d_JI_nlz_29 (by decide) ?_
      refine wm_iushr d_JI_nlz_31 ?_
      refine wm_istore_n d_JI_nlz_32 rfl (by decide) (L' := [vi (ushrI l0 16), vi (31 + (-16))]) rfl ?_
      exact hJ (ushrI l0 16) (if_neg c4).symm (31 + (-16)) (if_neg c4).symm
  · replace h := h.2 c3
    refine wm_iload_n d_JI_nlz_4 rfl rfl ?_
    have hJ : ∀ v41 : Int, v41 = (if (l0 = 0) then 32 else 0) → mWm G y_JI_nlz d 14 [vd, vd] [vi v41] M (fun r9 M9 => ∃ x9, r9 = some (vi x9) ∧ Q x9 M9) := by
      intro v41 e43
      have h := h v41 e43
      have h44 : i32 v41 := by rw [e43]; (repeat' split) <;> first | exact ⟨by decide, by decide⟩ | exact ⟨by decide, by decide⟩
      refine wm_ireturn d_JI_nlz_14 rfl rfl ?_
      exact ⟨_, rfl, h⟩
    clear h
    refine wm_if_ne (tgt := 13) d_JI_nlz_5 rfl hi_l0 (fun c40 => ?_) (fun c40 => ?_)
    · refine wm_iconst d_JI_nlz_13 ?_
      refine wm_less (L' := [vd, vd]) ⟨Or.inl rfl, Or.inl rfl, trivial⟩ ?_
      exact hJ 0 (if_neg c40).symm
    · replace c40 := Classical.not_not.mp c40
      refine wm_bipush d_JI_nlz_8 (by decide) ?_
      refine wm_goto (tgt := 14) d_JI_nlz_10 rfl ?_
      refine wm_less (L' := [vd, vd]) ⟨Or.inl rfl, Or.inl rfl, trivial⟩ ?_
      exact hJ 32 (if_pos c40).symm
theorem d_JL_compare_0 : decode y_JL_compare.2.1 0 = .ok (.lload_n 0, 1) := dc9_30 (by decide +kernel)
theorem d_JL_compare_1 : decode y_JL_compare.2.1 1 = .ok (.lload_n 2, 1) := dc9_32 (by decide +kernel)
theorem d_JL_compare_2 : decode y_JL_compare.2.1 2 = .ok (.lcmp, 1) := dc9_148 (by decide +kernel)
theorem d_JL_compare_3 : decode y_JL_compare.2.1 3 = .ok (.ifCond .ge 7, 3) := dc9_156 (by decide +kernel)
theorem d_JL_compare_10 : decode y_JL_compare.2.1 10 = .ok (.lload_n 0, 1) := dc9_30 (by decide +kernel)
theorem d_JL_compare_11 : decode y_JL_compare.2.1 11 = .ok (.lload_n 2, 1) := dc9_32 (by decide +kernel)
theorem d_JL_compare_12 : decode y_JL_compare.2.1 12 = .ok (.lcmp, 1) := dc9_148 (by decide +kernel)
theorem d_JL_compare_13 : decode y_JL_compare.2.1 13 = .ok (.ifCond .ne 7, 3) := dc9_154 (by decide +kernel)
theorem d_JL_compare_16 : decode y_JL_compare.2.1 16 = .ok (.iconst 0, 1) := dc9_3 (by decide +kernel)
theorem d_JL_compare_17 : decode y_JL_compare.2.1 17 = .ok (.goto 4, 3) := dc9_167 (by decide +kernel)
theorem d_JL_compare_20 : decode y_JL_compare.2.1 20 = .ok (.iconst 1, 1) := dc9_4 (by decide +kernel)
theorem d_JL_compare_6 : decode y_JL_compare.2.1 6 = .ok (.iconst (-1), 1) := dc9_2 (by decide +kernel)
theorem d_JL_compare_7 : decode y_JL_compare.2.1 7 = .ok (.goto 14, 3) := dc9_167 (by decide +kernel)
theorem d_JL_compare_21 : decode y_JL_compare.2.1 21 = .ok (.ireturn, 1) := dc9_172 (by decide +kernel)
theorem k_JL_compare {G : mG} {d : Nat} {j0 : Int} {j2 : Int} {M : mM} {Q : Int → mM → Prop} (hO : mOk M) (hi_j0 : i64 j0) (hi_j2 : i64 j2)
    (h : ∀ v3 : Int, v3 = (if 0 ≤ cmpL j0 j2 then (if cmpL j0 j2 = 0 then 0 else 1) else (-1)) → Q v3 M) :
    Ci G y_JL_compare d [vl j0, vl j2] M Q := by
  refine wm_open (y := y_JL_compare) rfl (Nat.le_of_ble_eq_true rfl) (L := [vl j0, vd, vl j2, vd]) rfl ?_
  refine wm_lload_n d_JL_compare_0 rfl rfl ?_
  refine wm_lload_n d_JL_compare_1 rfl rfl ?_
  refine wm_lcmp d_JL_compare_2 hi_j0 hi_j2 ?_
  have hJ : ∀ v3 : Int, v3 = (if 0 ≤ cmpL j0 j2 then (if cmpL j0 j2 = 0 then 0 else 1) else (-1)) → mWm G y_JL_compare d 21 [vd, vd, vd, vd] [vi v3] M (fun r9 M9 => ∃ x9, r9 = some (vi x9) ∧ Q x9 M9) := by
    intro v3 e5
    have h := h v3 e5
    have h6 : i32 v3 := by rw [e5]; (repeat' split) <;> first | exact ⟨by decide, by decide⟩ | exact ⟨by decide, by decide⟩ | exact ⟨by decide, by decide⟩
    refine wm_ireturn d_JL_compare_21 rfl rfl ?_
    exact ⟨_, rfl, h⟩
  clear h
  refine wm_if_ge (tgt := 10) d_JL_compare_3 rfl (m_cmp32 _ _) (fun c1 => ?_) (fun c1 => ?_)
  · refine wm_lload_n d_JL_compare_10 rfl rfl ?_
    refine wm_lload_n d_JL_compare_11 rfl rfl ?_
    refine wm_lcmp d_JL_compare_12 hi_j0 hi_j2 ?_
    refine wm_if_ne (tgt := 20) d_JL_compare_13 rfl (m_cmp32 _ _) (fun c2 => ?_) (fun c2 => ?_)
    · refine wm_iconst d_JL_compare_20 ?_
      refine wm_less (L' := [vd, vd, vd, vd]) ⟨Or.inl rfl, Or.inl rfl, Or.inl rfl, Or.inl rfl, trivial⟩ ?_
      exact hJ 1 (by rw [if_pos c1, if_neg c2])
    · replace c2 := Classical.not_not.mp c2
      refine wm_iconst d_JL_compare_16 ?_
      refine wm_goto (tgt := 21) d_JL_compare_17 rfl ?_
      refine wm_less (L' := [vd, vd, vd, vd]) ⟨Or.inl rfl, Or.inl rfl, Or.inl rfl, Or.inl rfl, trivial⟩ ?_
      exact hJ 0 (by rw [if_pos c1, if_pos c2])
  · refine wm_iconst d_JL_compare_6 ?_
    refine wm_goto (tgt := 21) d_JL_compare_7 rfl ?_
    refine wm_less (L' := [vd, vd, vd, vd]) ⟨Or.inl rfl, Or.inl rfl, Or.inl rfl, Or.inl rfl, trivial⟩ ?_
    exact hJ (-1) (by rw [if_neg c1])
end
