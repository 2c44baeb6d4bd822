section
theorem d_MS_comes_0 : decode y_MS_comes.2.1 0 = .ok (.iconst 0, 1) := dc9_3 (by decide +kernel)
theorem d_MS_comes_1 : decode y_MS_comes.2.1 1 = .ok (.istore_n 3, 1) := dc9_62 (by decide +kernel)
theorem d_MS_comes_2 : decode y_MS_comes.2.1 2 = .ok (.aload_n 0, 1) := dc9_42 (by decide +kernel)
theorem d_MS_comes_3 : decode y_MS_comes.2.1 3 = .ok (.iload_n 1, 1) := dc9_27 (by decide +kernel)
theorem d_MS_comes_4 : decode y_MS_comes.2.1 4 = .ok (.invokevirtual 116, 3) := dc9_182 (by decide +kernel)
theorem d_MS_comes_7 : decode y_MS_comes.2.1 7 = .ok (.ifCond .le 7, 3) := dc9_158 (by decide +kernel)
theorem d_MS_comes_14 : decode y_MS_comes.2.1 14 = .ok (.iconst 0, 1) := dc9_3 (by decide +kernel)
theorem d_MS_comes_10 : decode y_MS_comes.2.1 10 = .ok (.iconst 1, 1) := dc9_4 (by decide +kernel)
theorem d_MS_comes_11 : decode y_MS_comes.2.1 11 = .ok (.goto 4, 3) := dc9_167 (by decide +kernel)
theorem d_MS_comes_15 : decode y_MS_comes.2.1 15 = .ok (.istore 4, 2) := dc9_54 (by decide +kernel)
theorem d_MS_comes_17 : decode y_MS_comes.2.1 17 = .ok (.iconst 0, 1) := dc9_3 (by decide +kernel)
theorem d_MS_comes_18 : decode y_MS_comes.2.1 18 = .ok (.istore 5, 2) := dc9_54 (by decide +kernel)
theorem d_MS_comes_20 : decode y_MS_comes.2.1 20 = .ok (.iload 5, 2) := dc9_21 (by decide +kernel)
theorem d_MS_comes_22 : decode y_MS_comes.2.1 22 = .ok (.aload_n 0, 1) := dc9_42 (by decide +kernel)
theorem d_MS_comes_23 : decode y_MS_comes.2.1 23 = .ok (.iload_n 1, 1) := dc9_27 (by decide +kernel)
theorem d_MS_comes_24 : decode y_MS_comes.2.1 24 = .ok (.invokevirtual 116, 3) := dc9_182 (by decide +kernel)
theorem d_MS_comes_27 : decode y_MS_comes.2.1 27 = .ok (.if_icmp .ge 110, 3) := dc9_162 (by decide +kernel)
theorem d_MS_comes_137 : decode y_MS_comes.2.1 137 = .ok (.aload_n 0, 1) := dc9_42 (by decide +kernel)
theorem d_MS_comes_138 : decode y_MS_comes.2.1 138 = .ok (.getfield 16, 3) := dc9_180 (by decide +kernel)
theorem d_MS_comes_141 : decode y_MS_comes.2.1 141 = .ok (.iload_n 1, 1) := dc9_27 (by decide +kernel)
theorem d_MS_comes_142 : decode y_MS_comes.2.1 142 = .ok (.iaload, 1) := dc9_46 (by decide +kernel)
theorem d_MS_comes_143 : decode y_MS_comes.2.1 143 = .ok (.iconst 1, 1) := dc9_4 (by decide +kernel)
theorem d_MS_comes_30 : decode y_MS_comes.2.1 30 = .ok (.aload_n 0, 1) := dc9_42 (by decide +kernel)
theorem d_MS_comes_31 : decode y_MS_comes.2.1 31 = .ok (.getfield 16, 3) := dc9_180 (by decide +kernel)
theorem d_MS_comes_34 : decode y_MS_comes.2.1 34 = .ok (.iload_n 1, 1) := dc9_27 (by decide +kernel)
theorem d_MS_comes_35 : decode y_MS_comes.2.1 35 = .ok (.iaload, 1) := dc9_46 (by decide +kernel)
theorem d_MS_comes_36 : decode y_MS_comes.2.1 36 = .ok (.iconst 1, 1) := dc9_4 (by decide +kernel)
theorem d_MS_comes_144 : decode y_MS_comes.2.1 144 = .ok (.if_icmp .ne 7, 3) := dc9_160 (by decide +kernel)
theorem d_MS_comes_147 : decode y_MS_comes.2.1 147 = .ok (.iload_n 3, 1) := dc9_29 (by decide +kernel)
theorem d_MS_comes_148 : decode y_MS_comes.2.1 148 = .ok (.goto 23, 3) := dc9_167 (by decide +kernel)
theorem d_MS_comes_171 : decode y_MS_comes.2.1 171 = .ok (.ireturn, 1) := dc9_172 (by decide +kernel)
theorem d_MS_comes_151 : decode y_MS_comes.2.1 151 = .ok (.aload_n 0, 1) := dc9_42 (by decide +kernel)
theorem d_MS_comes_152 : decode y_MS_comes.2.1 152 = .ok (.getfield 16, 3) := dc9_180 (by decide +kernel)
theorem d_MS_comes_155 : decode y_MS_comes.2.1 155 = .ok (.iload_n 1, 1) := dc9_27 (by decide +kernel)
theorem d_MS_comes_156 : decode y_MS_comes.2.1 156 = .ok (.iaload, 1) := dc9_46 (by decide +kernel)
theorem d_MS_comes_157 : decode y_MS_comes.2.1 157 = .ok (.iconst 2, 1) := dc9_5 (by decide +kernel)
theorem d_MS_comes_158 : decode y_MS_comes.2.1 158 = .ok (.if_icmp .ne 12, 3) := dc9_160 (by decide +kernel)
theorem d_MS_comes_161 : decode y_MS_comes.2.1 161 = .ok (.iload 4, 2) := dc9_21 (by decide +kernel)
theorem d_MS_comes_163 : decode y_MS_comes.2.1 163 = .ok (.ifCond .eq 7, 3) := dc9_153 (by decide +kernel)
theorem d_MS_comes_166 : decode y_MS_comes.2.1 166 = .ok (.iconst 1, 1) := dc9_4 (by decide +kernel)
theorem d_MS_comes_167 : decode y_MS_comes.2.1 167 = .ok (.goto 4, 3) := dc9_167 (by decide +kernel)
theorem d_MS_comes_37 : decode y_MS_comes.2.1 37 = .ok (.if_icmp .ne 26, 3) := dc9_160 (by decide +kernel)
theorem d_MS_comes_40 : decode y_MS_comes.2.1 40 = .ok (.iload_n 2, 1) := dc9_28 (by decide +kernel)
theorem d_MS_comes_41 : decode y_MS_comes.2.1 41 = .ok (.ifCond .eq 22, 3) := dc9_153 (by decide +kernel)
theorem d_MS_comes_44 : decode y_MS_comes.2.1 44 = .ok (.aload_n 0, 1) := dc9_42 (by decide +kernel)
theorem d_MS_comes_45 : decode y_MS_comes.2.1 45 = .ok (.getfield 60, 3) := dc9_180 (by decide +kernel)
theorem d_MS_comes_48 : decode y_MS_comes.2.1 48 = .ok (.iload_n 1, 1) := dc9_27 (by decide +kernel)
theorem d_MS_comes_49 : decode y_MS_comes.2.1 49 = .ok (.iaload, 1) := dc9_46 (by decide +kernel)
theorem d_MS_comes_50 : decode y_MS_comes.2.1 50 = .ok (.iload 5, 2) := dc9_21 (by decide +kernel)
theorem d_MS_comes_52 : decode y_MS_comes.2.1 52 = .ok (.if_icmp .ne 7, 3) := dc9_160 (by decide +kernel)
theorem d_MS_comes_55 : decode y_MS_comes.2.1 55 = .ok (.iconst 1, 1) := dc9_4 (by decide +kernel)
theorem d_MS_comes_56 : decode y_MS_comes.2.1 56 = .ok (.goto 14, 3) := dc9_167 (by decide +kernel)
theorem d_MS_comes_59 : decode y_MS_comes.2.1 59 = .ok (.iconst 0, 1) := dc9_3 (by decide +kernel)
theorem d_MS_comes_60 : decode y_MS_comes.2.1 60 = .ok (.goto 10, 3) := dc9_167 (by decide +kernel)
theorem d_MS_comes_170 : decode y_MS_comes.2.1 170 = .ok (.iconst 0, 1) := dc9_3 (by decide +kernel)
theorem d_MS_comes_63 : decode y_MS_comes.2.1 63 = .ok (.aload_n 0, 1) := dc9_42 (by decide +kernel)
theorem d_MS_comes_64 : decode y_MS_comes.2.1 64 = .ok (.iload_n 1, 1) := dc9_27 (by decide +kernel)
theorem d_MS_comes_65 : decode y_MS_comes.2.1 65 = .ok (.iload 5, 2) := dc9_21 (by decide +kernel)
theorem d_MS_comes_67 : decode y_MS_comes.2.1 67 = .ok (.invokevirtual 120, 3) := dc9_182 (by decide +kernel)
theorem d_MS_comes_70 : decode y_MS_comes.2.1 70 = .ok (.istore 6, 2) := dc9_54 (by decide +kernel)
theorem d_MS_comes_72 : decode y_MS_comes.2.1 72 = .ok (.iload 6, 2) := dc9_21 (by decide +kernel)
theorem d_MS_comes_74 : decode y_MS_comes.2.1 74 = .ok (.ifCond .eq 17, 3) := dc9_153 (by decide +kernel)
theorem d_MS_comes_77 : decode y_MS_comes.2.1 77 = .ok (.aload_n 0, 1) := dc9_42 (by decide +kernel)
theorem d_MS_comes_78 : decode y_MS_comes.2.1 78 = .ok (.iload_n 1, 1) := dc9_27 (by decide +kernel)
theorem d_MS_comes_79 : decode y_MS_comes.2.1 79 = .ok (.iload 5, 2) := dc9_21 (by decide +kernel)
theorem d_MS_comes_91 : decode y_MS_comes.2.1 91 = .ok (.iconst 0, 1) := dc9_3 (by decide +kernel)
theorem d_MS_comes_81 : decode y_MS_comes.2.1 81 = .ok (.invokevirtual 124, 3) := dc9_182 (by decide +kernel)
theorem d_MS_comes_84 : decode y_MS_comes.2.1 84 = .ok (.ifCond .eq 7, 3) := dc9_153 (by decide +kernel)
theorem d_MS_comes_87 : decode y_MS_comes.2.1 87 = .ok (.iconst 1, 1) := dc9_4 (by decide +kernel)
theorem d_MS_comes_88 : decode y_MS_comes.2.1 88 = .ok (.goto 4, 3) := dc9_167 (by decide +kernel)
theorem d_MS_comes_92 : decode y_MS_comes.2.1 92 = .ok (.istore 7, 2) := dc9_54 (by decide +kernel)
theorem d_MS_comes_94 : decode y_MS_comes.2.1 94 = .ok (.iload_n 3, 1) := dc9_29 (by decide +kernel)
theorem d_MS_comes_95 : decode y_MS_comes.2.1 95 = .ok (.ifCond .ne 8, 3) := dc9_154 (by decide +kernel)
theorem d_MS_comes_98 : decode y_MS_comes.2.1 98 = .ok (.iload 7, 2) := dc9_21 (by decide +kernel)
theorem d_MS_comes_100 : decode y_MS_comes.2.1 100 = .ok (.ifCond .eq 7, 3) := dc9_153 (by decide +kernel)
theorem d_MS_comes_107 : decode y_MS_comes.2.1 107 = .ok (.iconst 0, 1) := dc9_3 (by decide +kernel)
theorem d_MS_comes_103 : decode y_MS_comes.2.1 103 = .ok (.iconst 1, 1) := dc9_4 (by decide +kernel)
theorem d_MS_comes_104 : decode y_MS_comes.2.1 104 = .ok (.goto 4, 3) := dc9_167 (by decide +kernel)
theorem d_MS_comes_108 : decode y_MS_comes.2.1 108 = .ok (.istore_n 3, 1) := dc9_62 (by decide +kernel)
theorem d_MS_comes_109 : decode y_MS_comes.2.1 109 = .ok (.iload 4, 2) := dc9_21 (by decide +kernel)
theorem d_MS_comes_111 : decode y_MS_comes.2.1 111 = .ok (.ifCond .eq 17, 3) := dc9_153 (by decide +kernel)
theorem d_MS_comes_128 : decode y_MS_comes.2.1 128 = .ok (.iconst 0, 1) := dc9_3 (by decide +kernel)
theorem d_MS_comes_114 : decode y_MS_comes.2.1 114 = .ok (.iload 6, 2) := dc9_21 (by decide +kernel)
theorem d_MS_comes_116 : decode y_MS_comes.2.1 116 = .ok (.ifCond .eq 8, 3) := dc9_153 (by decide +kernel)
theorem d_MS_comes_124 : decode y_MS_comes.2.1 124 = .ok (.iconst 1, 1) := dc9_4 (by decide +kernel)
theorem d_MS_comes_125 : decode y_MS_comes.2.1 125 = .ok (.goto 4, 3) := dc9_167 (by decide +kernel)
theorem d_MS_comes_119 : decode y_MS_comes.2.1 119 = .ok (.iload 7, 2) := dc9_21 (by decide +kernel)
theorem d_MS_comes_121 : decode y_MS_comes.2.1 121 = .ok (.ifCond .eq 7, 3) := dc9_153 (by decide +kernel)
theorem d_MS_comes_129 : decode y_MS_comes.2.1 129 = .ok (.istore 4, 2) := dc9_54 (by decide +kernel)
theorem d_MS_comes_131 : decode y_MS_comes.2.1 131 = .ok (.iinc 5 1, 3) := by decide +kernel
theorem d_MS_comes_134 : decode y_MS_comes.2.1 134 = .ok (.goto (-114), 3) := dc9_167 (by decide +kernel)
def h_MS_comes_20 (G : mG) (d : Nat) (a0 : Nat) (l1 : Int) (l2 : Int) (l3 : Int) (l4 : Int) (l5 : Int) (M : mM) (Q : Int → mM → Prop) : Prop := mWm G y_MS_comes (d + 1) 20 [vr a0, vi l1, vi l2, vi l3, vi l4, vi l5, vd, vd] [] M (fun r9 M9 => ∃ x9, r9 = some (vi x9) ∧ Q x9 M9)
def h_MS_comes_70 (G : mG) (d : Nat) (a0 : Nat) (l1 : Int) (l2 : Int) (l3 : Int) (l4 : Int) (l5 : Int) (k0 : Int) (M : mM) (Q : Int → mM → Prop) : Prop := mWm G y_MS_comes (d + 1) 70 [vr a0, vi l1, vi l2, vi l3, vi l4, vi l5, vd, vd] [vi k0] M (fun r9 M9 => ∃ x9, r9 = some (vi x9) ∧ Q x9 M9)
def h_MS_comes_92 (G : mG) (d : Nat) (a0 : Nat) (l1 : Int) (l2 : Int) (l3 : Int) (l4 : Int) (l5 : Int) (l6 : Int) (k0 : Int) (M : mM) (Q : Int → mM → Prop) : Prop := mWm G y_MS_comes (d + 1) 92 [vr a0, vi l1, vi l2, vi l3, vi l4, vi l5, vi l6, vd] [vi k0] M (fun r9 M9 => ∃ x9, r9 = some (vi x9) ∧ Q x9 M9)
theorem k_MS_comes {G : mG} {d : Nat} {a0 : Nat} {l1 : Int} {l2 : Int} {M : mM} {Q : Int → mM → Prop} (hO : mOk M) (hi_l1 : i32 l1) (hi_l2 : i32 l2)
    (h : mK M a0 = 17 ∧ Ci G y_MS_many d [vr a0, vi l1] M (fun x3 M2 => i32 x3 ∧ mOk M2 ∧ (∀ v6 : Int, v6 = (if (x3 ≤ 0) then 0 else 1) → h_MS_comes_20 G d a0 l1 l2 0 v6 0 M2 Q))) :
    Ci G y_MS_comes (d + 1) [vr a0, vi l1, vi l2] M Q := by
  refine wm_open (y := y_MS_comes) rfl (Nat.le_of_ble_eq_true rfl) (L := [vr a0, vi l1, vi l2, vd, vd, vd, vd, vd]) rfl ?_
  obtain ⟨h1, h⟩ := h
  refine wm_iconst d_MS_comes_0 ?_
  refine wm_istore_n d_MS_comes_1 rfl (by decide) (L' := [vr a0, vi l1, vi l2, vi 0, vd, vd, vd, vd]) rfl ?_
  refine wm_aload_n d_MS_comes_2 rfl rfl ?_
  refine wm_iload_n d_MS_comes_3 rfl rfl ?_
  refine cf_MS_116 rfl d_MS_comes_4 h1 (Nat.le_of_ble_eq_true rfl) (Ci.mono h (fun x3 M2 h => ?_))
  obtain ⟨h4, hOM2, h⟩ := h
  have hJ : ∀ v6 : Int, v6 = (if (x3 ≤ 0) then 0 else 1) → mWm G y_MS_comes (d + 1) 15 [vr a0, vi l1, vi l2, vi 0, vd, vd, vd, vd] [vi v6] M2 (fun r9 M9 => ∃ x9, r9 = some (vi x9) ∧ Q x9 M9) := by
    intro v6 e8
    have h := h v6 e8
    have h9 : i32 v6 := by rw [e8]; (repeat' split) <;> first | exact ⟨by decide, by decide⟩ | exact ⟨by decide, by decide⟩
    have h10 : (v6 = 0 ∨ v6 = 1) := by rw [e8]; (repeat' split) <;> decide
    refine wm_istore d_MS_comes_15 (by decide) (L' := [vr a0, vi l1, vi l2, vi 0, vi v6, vd, vd, vd]) rfl ?_
    refine wm_iconst d_MS_comes_17 ?_
    refine wm_istore d_MS_comes_18 (by decide) (L' := [vr a0, vi l1, vi l2, vi 0, vi v6, vi 0, vd, vd]) rfl ?_
    exact h
  clear h
  refine wm_if_le (tgt := 14) d_MS_comes_7 rfl h4 (fun c5 => ?_) (fun c5 => ?_)
  · refine wm_iconst d_MS_comes_14 ?_
    exact hJ 0 (if_pos c5).symm
  · refine wm_iconst d_MS_comes_10 ?_
    refine wm_goto (tgt := 15) d_MS_comes_11 rfl ?_
    exact hJ 1 (if_neg c5).symm
theorem k_MS_comes_20 {G : mG} {d : Nat} {a0 : Nat} {l1 : Int} {l2 : Int} {l3 : Int} {l4 : Int} {l5 : Int} {M : mM} {Q : Int → mM → Prop} (hO : mOk M) (hi_l1 : i32 l1) (hi_l2 : i32 l2) (hi_l3 : i32 l3) (hi_l4 : i32 l4) (hi_l5 : i32 l5)
    (h : mK M a0 = 17 ∧ Ci G y_MS_many d [vr a0, vi l1] M (fun x14 M13 => i32 x14 ∧ mOk M13 ∧ (((x14 ≤ l5) → (mK M13 a0 = 17 ∧ mK M13 (mR M13 a0 4) = 30 ∧ ((0 : Int) ≤ l1 ∧ l1 < (mN M13 (mR M13 a0 4) : Int)) ∧ (¬ (mI M13 (mR M13 a0 4) (Int.toNat l1) = 1) → ((0 : Int) ≤ l1 ∧ l1 < (mN M13 (mR M13 a0 4) : Int))) ∧ ∀ v51 : Int, v51 = (if mI M13 (mR M13 a0 4) (Int.toNat l1) = 1 then l3 else (if mI M13 (mR M13 a0 4) (Int.toNat l1) = 2 then (if l4 = 0 then 0 else 1) else 0)) → (v51 = 0 ∨ v51 = 1) ∧ Q v51 M13)) ∧ (¬ (x14 ≤ l5) → (mK M13 a0 = 17 ∧ mK M13 (mR M13 a0 4) = 30 ∧ ((0 : Int) ≤ l1 ∧ l1 < (mN M13 (mR M13 a0 4) : Int)) ∧ (((¬ (mI M13 (mR M13 a0 4) (Int.toNat l1) = 1)) ∨ (l2 = 0)) → (Ci G y_MS_may d [vr a0, vi l1, vi l5] M13 (fun x68 M67 => i32 x68 ∧ mOk M67 ∧ (h_MS_comes_70 G d a0 l1 l2 l3 l4 l5 x68 M67 Q)))) ∧ (¬ ((¬ (mI M13 (mR M13 a0 4) (Int.toNat l1) = 1)) ∨ (l2 = 0)) → (mK M13 (mR M13 a0 18) = 30 ∧ ((0 : Int) ≤ l1 ∧ l1 < (mN M13 (mR M13 a0 18) : Int)) ∧ ((mI M13 (mR M13 a0 18) (Int.toNat l1) = l5) → (h_MS_comes_70 G d a0 l1 l2 l3 l4 l5 1 M13 Q)) ∧ (¬ (mI M13 (mR M13 a0 18) (Int.toNat l1) = l5) → (h_MS_comes_70 G d a0 l1 l2 l3 l4 l5 0 M13 Q))))))))) :
    h_MS_comes_20 G d a0 l1 l2 l3 l4 l5 M Q := by
  unfold h_MS_comes_20
  obtain ⟨h12, h⟩ := h
  refine wm_iload d_MS_comes_20 rfl ?_
  refine wm_aload_n d_MS_comes_22 rfl rfl ?_
  refine wm_iload_n d_MS_comes_23 rfl rfl ?_
  refine cf_MS_116 rfl d_MS_comes_24 h12 (Nat.le_of_ble_eq_true rfl) (Ci.mono h (fun x14 M13 h => ?_))
  obtain ⟨h15, hOM13, h⟩ := h
  refine wm_icmp_ge (tgt := 137) d_MS_comes_27 rfl hi_l5 h15 (fun c43 => ?_) (fun c43 => ?_)
  · replace h := h.1 c43
    obtain ⟨h44, h⟩ := h
    obtain ⟨h45, h⟩ := h
    obtain ⟨h46, h⟩ := h
    refine wm_aload_n d_MS_comes_137 rfl rfl ?_
    refine gf_MS_16 rfl d_MS_comes_138 h44 ?_
    refine wm_iload_n d_MS_comes_141 rfl rfl ?_
    refine wm_iald d_MS_comes_142 h45 h46 ?_
    refine wm_iconst d_MS_comes_143 ?_
    obtain ⟨s52, h⟩ := h
    have hJ : ∀ v51 : Int, v51 = (if mI M13 (mR M13 a0 4) (Int.toNat l1) = 1 then l3 else (if mI M13 (mR M13 a0 4) (Int.toNat l1) = 2 then (if l4 = 0 then 0 else 1) else 0)) → mWm G y_MS_comes (d + 1) 171 [vd, vd, vd, vd, vd, vd, vd, vd] [vi v51] M13 (fun r9 M9 => ∃ x9, r9 = some (vi x9) ∧ Q x9 M9) := by
      intro v51 e53
      have h := h v51 e53
      have h54 : i32 v51 := by rw [e53]; (repeat' split) <;> first | exact hi_l3 | exact ⟨by decide, by decide⟩ | exact ⟨by decide, by decide⟩
      obtain ⟨h55, h⟩ := h
      refine wm_ireturn d_MS_comes_171 rfl (m_nb h55) ?_
      exact ⟨_, rfl, h⟩
    clear h
    have s56 := s52
    refine wm_icmp_ne (tgt := 151) d_MS_comes_144 rfl (hOM13 _ _).1 ⟨by decide, by decide⟩ (fun c47 => ?_) (fun c47 => ?_)
    · have s56 := s56 c47
      have h48 := s56
      refine wm_aload_n d_MS_comes_151 rfl rfl ?_
      refine gf_MS_16 rfl d_MS_comes_152 h44 ?_
      refine wm_iload_n d_MS_comes_155 rfl rfl ?_
      refine wm_iald d_MS_comes_156 h45 h48 ?_
      refine wm_iconst d_MS_comes_157 ?_
      refine wm_icmp_ne (tgt := 170) d_MS_comes_158 rfl (hOM13 _ _).1 ⟨by decide, by decide⟩ (fun c49 => ?_) (fun c49 => ?_)
      · refine wm_iconst d_MS_comes_170 ?_
        refine wm_less (L' := [vd, vd, vd, vd, vd, vd, vd, vd]) ⟨Or.inl rfl, Or.inl rfl, Or.inl rfl, Or.inl rfl, Or.inl rfl, Or.inl rfl, Or.inl rfl, Or.inl rfl, trivial⟩ ?_
        exact hJ 0 (by rw [if_neg c47, if_neg c49])
      · replace c49 := Classical.not_not.mp c49
        refine wm_iload d_MS_comes_161 rfl ?_
        refine wm_if_eq (tgt := 170) d_MS_comes_163 rfl hi_l4 (fun c50 => ?_) (fun c50 => ?_)
        · refine wm_iconst d_MS_comes_170 ?_
          refine wm_less (L' := [vd, vd, vd, vd, vd, vd, vd, vd]) ⟨Or.inl rfl, Or.inl rfl, Or.inl rfl, Or.inl rfl, Or.inl rfl, Or.inl rfl, Or.inl rfl, Or.inl rfl, trivial⟩ ?_
          exact hJ 0 (by rw [if_neg c47, if_pos c49, if_pos c50])
        · refine wm_iconst d_MS_comes_166 ?_
          refine wm_goto (tgt := 171) d_MS_comes_167 rfl ?_
          refine wm_less (L' := [vd, vd, vd, vd, vd, vd, vd, vd]) ⟨Or.inl rfl, Or.inl rfl, Or.inl rfl, Or.inl rfl, Or.inl rfl, Or.inl rfl, Or.inl rfl, Or.inl rfl, trivial⟩ ?_
          exact hJ 1 (by rw [if_neg c47, if_pos c49, if_neg c50])
    · replace c47 := Classical.not_not.mp c47
      refine wm_iload_n d_MS_comes_147 rfl rfl ?_
      refine wm_goto (tgt := 171) d_MS_comes_148 rfl ?_
      refine wm_less (L' := [vd, vd, vd, vd, vd, vd, vd, vd]) ⟨Or.inl rfl, Or.inl rfl, Or.inl rfl, Or.inl rfl, Or.inl rfl, Or.inl rfl, Or.inl rfl, Or.inl rfl, trivial⟩ ?_
      exact hJ l3 (by rw [if_pos c47])
  · replace h := h.2 c43
    obtain ⟨h57, h⟩ := h
    obtain ⟨h58, h⟩ := h
    obtain ⟨h59, h⟩ := h
    refine wm_aload_n d_MS_comes_30 rfl rfl ?_
    refine gf_MS_16 rfl d_MS_comes_31 h57 ?_
    refine wm_iload_n d_MS_comes_34 rfl rfl ?_
    refine wm_iald d_MS_comes_35 h58 h59 ?_
    refine wm_iconst d_MS_comes_36 ?_
    have hE0 : ((¬ (mI M13 (mR M13 a0 4) (Int.toNat l1) = 1)) ∨ (l2 = 0)) → mWm G y_MS_comes (d + 1) 63 [vr a0, vi l1, vi l2, vi l3, vi l4, vi l5, vd, vd] [] M13 (fun r9 M9 => ∃ x9, r9 = some (vi x9) ∧ Q x9 M9) := by
      intro q66
      have h := h.1 q66
      refine wm_aload_n d_MS_comes_63 rfl rfl ?_
      refine wm_iload_n d_MS_comes_64 rfl rfl ?_
      refine wm_iload d_MS_comes_65 rfl ?_
      refine cf_MS_120 rfl d_MS_comes_67 h57 (Nat.le_of_ble_eq_true rfl) (Ci.mono h (fun x68 M67 h => ?_))
      obtain ⟨h69, hOM67, h⟩ := h
      exact h
    have hE1 : ¬ ((¬ (mI M13 (mR M13 a0 4) (Int.toNat l1) = 1)) ∨ (l2 = 0)) → mWm G y_MS_comes (d + 1) 44 [vr a0, vi l1, vi l2, vi l3, vi l4, vi l5, vd, vd] [] M13 (fun r9 M9 => ∃ x9, r9 = some (vi x9) ∧ Q x9 M9) := by
      intro q70
      have h := h.2 q70
      obtain ⟨h71, h⟩ := h
      obtain ⟨h72, h⟩ := h
      refine wm_aload_n d_MS_comes_44 rfl rfl ?_
      refine gf_MS_60 rfl d_MS_comes_45 h57 ?_
      refine wm_iload_n d_MS_comes_48 rfl rfl ?_
      refine wm_iald d_MS_comes_49 h71 h72 ?_
      refine wm_iload d_MS_comes_50 rfl ?_
      refine wm_icmp_ne (tgt := 59) d_MS_comes_52 rfl (hOM13 _ _).1 hi_l5 (fun c74 => ?_) (fun c74 => ?_)
      · replace h := h.2 c74
        refine wm_iconst d_MS_comes_59 ?_
        refine wm_goto (tgt := 70) d_MS_comes_60 rfl ?_
        exact h
      · replace c74 := Classical.not_not.mp c74
        replace h := h.1 c74
        refine wm_iconst d_MS_comes_55 ?_
        refine wm_goto (tgt := 70) d_MS_comes_56 rfl ?_
        exact h
    clear h
    refine wm_icmp_ne (tgt := 63) d_MS_comes_37 rfl (hOM13 _ _).1 ⟨by decide, by decide⟩ (fun c64 => ?_) (fun c64 => ?_)
    · exact hE0 (Or.inl c64)
    · replace c64 := Classical.not_not.mp c64
      refine wm_iload_n d_MS_comes_40 rfl rfl ?_
      refine wm_if_eq (tgt := 63) d_MS_comes_41 rfl hi_l2 (fun c63 => ?_) (fun c63 => ?_)
      · exact hE0 (Or.inr c63)
      · exact hE1 (fun z75 => Or.elim z75 (fun w => w c64) c63)
theorem k_MS_comes_70 {G : mG} {d : Nat} {a0 : Nat} {l1 : Int} {l2 : Int} {l3 : Int} {l4 : Int} {l5 : Int} {k0 : Int} {M : mM} {Q : Int → mM → Prop} (hO : mOk M) (hi_l1 : i32 l1) (hi_l2 : i32 l2) (hi_l3 : i32 l3) (hi_l4 : i32 l4) (hi_l5 : i32 l5) (hi_k0 : i32 k0)
    (h : ((k0 = 0) → (h_MS_comes_92 G d a0 l1 l2 l3 l4 l5 k0 0 M Q)) ∧ (¬ (k0 = 0) → (mK M a0 = 17 ∧ Ci G y_MS_leadsIn d [vr a0, vi l1, vi l5] M (fun x81 M80 => i32 x81 ∧ mOk M80 ∧ (((x81 = 0) → (h_MS_comes_92 G d a0 l1 l2 l3 l4 l5 k0 0 M80 Q)) ∧ (¬ (x81 = 0) → (h_MS_comes_92 G d a0 l1 l2 l3 l4 l5 k0 1 M80 Q))))))) :
    h_MS_comes_70 G d a0 l1 l2 l3 l4 l5 k0 M Q := by
  unfold h_MS_comes_70
  refine wm_istore d_MS_comes_70 (by decide) (L' := [vr a0, vi l1, vi l2, vi l3, vi l4, vi l5, vi k0, vd]) rfl ?_
  refine wm_iload d_MS_comes_72 rfl ?_
  refine wm_if_eq (tgt := 91) d_MS_comes_74 rfl hi_k0 (fun c78 => ?_) (fun c78 => ?_)
  · replace h := h.1 c78
    refine wm_iconst d_MS_comes_91 ?_
    exact h
  · replace h := h.2 c78
    obtain ⟨h79, h⟩ := h
    refine wm_aload_n d_MS_comes_77 rfl rfl ?_
    refine wm_iload_n d_MS_comes_78 rfl rfl ?_
    refine wm_iload d_MS_comes_79 rfl ?_
    refine cf_MS_124 rfl d_MS_comes_81 h79 (Nat.le_of_ble_eq_true rfl) (Ci.mono h (fun x81 M80 h => ?_))
    obtain ⟨h82, hOM80, h⟩ := h
    refine wm_if_eq (tgt := 91) d_MS_comes_84 rfl h82 (fun c84 => ?_) (fun c84 => ?_)
    · replace h := h.1 c84
      refine wm_iconst d_MS_comes_91 ?_
      exact h
    · replace h := h.2 c84
      refine wm_iconst d_MS_comes_87 ?_
      refine wm_goto (tgt := 92) d_MS_comes_88 rfl ?_
      exact h
theorem k_MS_comes_92 {G : mG} {d : Nat} {a0 : Nat} {l1 : Int} {l2 : Int} {l3 : Int} {l4 : Int} {l5 : Int} {l6 : Int} {k0 : Int} {M : mM} {Q : Int → mM → Prop} (hO : mOk M) (hi_l1 : i32 l1) (hi_l2 : i32 l2) (hi_l3 : i32 l3) (hi_l4 : i32 l4) (hi_l5 : i32 l5) (hi_l6 : i32 l6) (hi_k0 : i32 k0)
    (h : ∀ v87 : Int, v87 = (if ((l3 = 0) ∧ (k0 = 0)) then 0 else 1) → ∀ v95 : Int, v95 = (if ((l4 = 0) ∨ ((¬ (l6 = 0)) ∧ (k0 = 0))) then 0 else 1) → h_MS_comes_20 G d a0 l1 l2 v87 v95 (l5 + 1) M Q) :
    h_MS_comes_92 G d a0 l1 l2 l3 l4 l5 l6 k0 M Q := by
  unfold h_MS_comes_92
  refine wm_istore d_MS_comes_92 (by decide) (L' := [vr a0, vi l1, vi l2, vi l3, vi l4, vi l5, vi l6, vi k0]) rfl ?_
  refine wm_iload_n d_MS_comes_94 rfl rfl ?_
  have hJ : ∀ v87 : Int, v87 = (if ((l3 = 0) ∧ (k0 = 0)) then 0 else 1) → mWm G y_MS_comes (d + 1) 108 [vr a0, vi l1, vi l2, vd, vi l4, vi l5, vi l6, vi k0] [vi v87] M (fun r9 M9 => ∃ x9, r9 = some (vi x9) ∧ Q x9 M9) := by
    intro v87 e89
    have h := h v87 e89
    have h90 : i32 v87 := by rw [e89]; (repeat' split) <;> first | exact ⟨by decide, by decide⟩ | exact ⟨by decide, by decide⟩
    have h91 : (v87 = 0 ∨ v87 = 1) := by rw [e89]; (repeat' split) <;> decide
    refine wm_istore_n d_MS_comes_108 rfl (by decide) (L' := [vr a0, vi l1, vi l2, vi v87, vi l4, vi l5, vi l6, vi k0]) rfl ?_
    refine wm_iload d_MS_comes_109 rfl ?_
    have hJ : ∀ v95 : Int, v95 = (if ((l4 = 0) ∨ ((¬ (l6 = 0)) ∧ (k0 = 0))) then 0 else 1) → mWm G y_MS_comes (d + 1) 129 [vr a0, vi l1, vi l2, vi v87, vd, vi l5, vd, vd] [vi v95] M (fun r9 M9 => ∃ x9, r9 = some (vi x9) ∧ Q x9 M9) := by
      intro v95 e97
      have h := h v95 e97
      have h98 : i32 v95 := by rw [e97]; (repeat' split) <;> first | exact ⟨by decide, by decide⟩ | exact ⟨by decide, by decide⟩
      have h99 : (v95 = 0 ∨ v95 = 1) := by rw [e97]; (repeat' split) <;> decide
      refine wm_istore d_MS_comes_129 (by decide) (L' := [vr a0, vi l1, vi l2, vi v87, vi v95, vi l5, vd, vd]) rfl ?_
      refine wm_iinc d_MS_comes_131 (by decide) rfl (L' := [vr a0, vi l1, vi l2, vi v87, vi v95, vi (l5 + 1), vd, vd]) rfl ?_
      refine wm_goto (tgt := 20) d_MS_comes_134 rfl ?_
      exact h
    clear h
    refine wm_if_eq (tgt := 128) d_MS_comes_111 rfl hi_l4 (fun c92 => ?_) (fun c92 => ?_)
    · refine wm_iconst d_MS_comes_128 ?_
      refine wm_less (L' := [vr a0, vi l1, vi l2, vi v87, vd, vi l5, vd, vd]) ⟨Or.inr rfl, Or.inr rfl, Or.inr rfl, Or.inr rfl, Or.inl rfl, Or.inr rfl, Or.inl rfl, Or.inl rfl, trivial⟩ ?_
      exact hJ 0 (if_pos (Or.inl c92)).symm
    · refine wm_iload d_MS_comes_114 rfl ?_
      refine wm_if_eq (tgt := 124) d_MS_comes_116 rfl hi_l6 (fun c93 => ?_) (fun c93 => ?_)
      · refine wm_iconst d_MS_comes_124 ?_
        refine wm_goto (tgt := 129) d_MS_comes_125 rfl ?_
        refine wm_less (L' := [vr a0, vi l1, vi l2, vi v87, vd, vi l5, vd, vd]) ⟨Or.inr rfl, Or.inr rfl, Or.inr rfl, Or.inr rfl, Or.inl rfl, Or.inr rfl, Or.inl rfl, Or.inl rfl, trivial⟩ ?_
        exact hJ 1 (if_neg (fun z100 => Or.elim z100 c92 (fun z101 => z101.1 c93))).symm
      · refine wm_iload d_MS_comes_119 rfl ?_
        refine wm_if_eq (tgt := 128) d_MS_comes_121 rfl hi_k0 (fun c94 => ?_) (fun c94 => ?_)
        · refine wm_iconst d_MS_comes_128 ?_
          refine wm_less (L' := [vr a0, vi l1, vi l2, vi v87, vd, vi l5, vd, vd]) ⟨Or.inr rfl, Or.inr rfl, Or.inr rfl, Or.inr rfl, Or.inl rfl, Or.inr rfl, Or.inl rfl, Or.inl rfl, trivial⟩ ?_
          exact hJ 0 (if_pos (Or.inr ⟨c93, c94⟩)).symm
        · refine wm_iconst d_MS_comes_124 ?_
          refine wm_goto (tgt := 129) d_MS_comes_125 rfl ?_
          refine wm_less (L' := [vr a0, vi l1, vi l2, vi v87, vd, vi l5, vd, vd]) ⟨Or.inr rfl, Or.inr rfl, Or.inr rfl, Or.inr rfl, Or.inl rfl, Or.inr rfl, Or.inl rfl, Or.inl rfl, trivial⟩ ?_
          exact hJ 1 (if_neg (fun z102 => Or.elim z102 c92 (fun z103 => c94 z103.2))).symm
  clear h
  refine wm_if_ne (tgt := 103) d_MS_comes_95 rfl hi_l3 (fun c85 => ?_) (fun c85 => ?_)
  · refine wm_iconst d_MS_comes_103 ?_
    refine wm_goto (tgt := 108) d_MS_comes_104 rfl ?_
    refine wm_less (L' := [vr a0, vi l1, vi l2, vd, vi l4, vi l5, vi l6, vi k0]) ⟨Or.inr rfl, Or.inr rfl, Or.inr rfl, Or.inl rfl, Or.inr rfl, Or.inr rfl, Or.inr rfl, Or.inr rfl, trivial⟩ ?_
    exact hJ 1 (if_neg (fun z107 => c85 z107.1)).symm
  · replace c85 := Classical.not_not.mp c85
    refine wm_iload d_MS_comes_98 rfl ?_
    refine wm_if_eq (tgt := 107) d_MS_comes_100 rfl hi_k0 (fun c86 => ?_) (fun c86 => ?_)
    · refine wm_iconst d_MS_comes_107 ?_
      refine wm_less (L' := [vr a0, vi l1, vi l2, vd, vi l4, vi l5, vi l6, vi k0]) ⟨Or.inr rfl, Or.inr rfl, Or.inr rfl, Or.inl rfl, Or.inr rfl, Or.inr rfl, Or.inr rfl, Or.inr rfl, trivial⟩ ?_
      exact hJ 0 (if_pos ⟨c85, c86⟩).symm
    · refine wm_iconst d_MS_comes_103 ?_
      refine wm_goto (tgt := 108) d_MS_comes_104 rfl ?_
      refine wm_less (L' := [vr a0, vi l1, vi l2, vd, vi l4, vi l5, vi l6, vi k0]) ⟨Or.inr rfl, Or.inr rfl, Or.inr rfl, Or.inl rfl, Or.inr rfl, Or.inr rfl, Or.inr rfl, Or.inr rfl, trivial⟩ ?_
      exact hJ 1 (if_neg (fun z105 => c86 z105.2)).symm
theorem d_MS_grow_0 : decode y_MS_grow.2.1 0 = .ok (.iconst 0, 1) := dc9_3 (by decide +kernel)
theorem d_MS_grow_1 : decode y_MS_grow.2.1 1 = .ok (.istore_n 2, 1) := dc9_61 (by decide +kernel)
theorem d_MS_grow_2 : decode y_MS_grow.2.1 2 = .ok (.iload_n 2, 1) := dc9_28 (by decide +kernel)
theorem d_MS_grow_3 : decode y_MS_grow.2.1 3 = .ok (.aload_n 0, 1) := dc9_42 (by decide +kernel)
theorem d_MS_grow_4 : decode y_MS_grow.2.1 4 = .ok (.getfield 103, 3) := dc9_180 (by decide +kernel)
theorem d_MS_grow_7 : decode y_MS_grow.2.1 7 = .ok (.if_icmp .ge 30, 3) := dc9_162 (by decide +kernel)
theorem d_MS_grow_37 : decode y_MS_grow.2.1 37 = .ok (.iconst 1, 1) := dc9_4 (by decide +kernel)
theorem d_MS_grow_38 : decode y_MS_grow.2.1 38 = .ok (.istore_n 2, 1) := dc9_61 (by decide +kernel)
theorem d_MS_grow_10 : decode y_MS_grow.2.1 10 = .ok (.aload_n 0, 1) := dc9_42 (by decide +kernel)
theorem d_MS_grow_11 : decode y_MS_grow.2.1 11 = .ok (.getfield 63, 3) := dc9_180 (by decide +kernel)
theorem d_MS_grow_14 : decode y_MS_grow.2.1 14 = .ok (.iload_n 2, 1) := dc9_28 (by decide +kernel)
theorem d_MS_grow_15 : decode y_MS_grow.2.1 15 = .ok (.aload_n 0, 1) := dc9_42 (by decide +kernel)
theorem d_MS_grow_16 : decode y_MS_grow.2.1 16 = .ok (.getfield 16, 3) := dc9_180 (by decide +kernel)
theorem d_MS_grow_19 : decode y_MS_grow.2.1 19 = .ok (.iload_n 2, 1) := dc9_28 (by decide +kernel)
theorem d_MS_grow_20 : decode y_MS_grow.2.1 20 = .ok (.iaload, 1) := dc9_46 (by decide +kernel)
theorem d_MS_grow_21 : decode y_MS_grow.2.1 21 = .ok (.iconst 3, 1) := dc9_6 (by decide +kernel)
theorem d_MS_grow_22 : decode y_MS_grow.2.1 22 = .ok (.if_icmp .ne 7, 3) := dc9_160 (by decide +kernel)
theorem d_MS_grow_25 : decode y_MS_grow.2.1 25 = .ok (.iconst 1, 1) := dc9_4 (by decide +kernel)
theorem d_MS_grow_26 : decode y_MS_grow.2.1 26 = .ok (.goto 4, 3) := dc9_167 (by decide +kernel)
theorem d_MS_grow_29 : decode y_MS_grow.2.1 29 = .ok (.iconst 0, 1) := dc9_3 (by decide +kernel)
theorem d_MS_grow_30 : decode y_MS_grow.2.1 30 = .ok (.bastore, 1) := dc9_84 (by decide +kernel)
theorem d_MS_grow_31 : decode y_MS_grow.2.1 31 = .ok (.iinc 2 1, 3) := by decide +kernel
theorem d_MS_grow_34 : decode y_MS_grow.2.1 34 = .ok (.goto (-32), 3) := dc9_167 (by decide +kernel)
theorem d_MS_grow_39 : decode y_MS_grow.2.1 39 = .ok (.iload_n 2, 1) := dc9_28 (by decide +kernel)
theorem d_MS_grow_40 : decode y_MS_grow.2.1 40 = .ok (.ifCond .eq 51, 3) := dc9_153 (by decide +kernel)
theorem d_MS_grow_91 : decode y_MS_grow.2.1 91 = .ok (.return_, 1) := dc9_177 (by decide +kernel)
theorem d_MS_grow_43 : decode y_MS_grow.2.1 43 = .ok (.iconst 0, 1) := dc9_3 (by decide +kernel)
theorem d_MS_grow_44 : decode y_MS_grow.2.1 44 = .ok (.istore_n 2, 1) := dc9_61 (by decide +kernel)
theorem d_MS_grow_45 : decode y_MS_grow.2.1 45 = .ok (.iconst 0, 1) := dc9_3 (by decide +kernel)
theorem d_MS_grow_46 : decode y_MS_grow.2.1 46 = .ok (.istore_n 3, 1) := dc9_62 (by decide +kernel)
theorem d_MS_grow_47 : decode y_MS_grow.2.1 47 = .ok (.iload_n 3, 1) := dc9_29 (by decide +kernel)
theorem d_MS_grow_48 : decode y_MS_grow.2.1 48 = .ok (.aload_n 0, 1) := dc9_42 (by decide +kernel)
theorem d_MS_grow_49 : decode y_MS_grow.2.1 49 = .ok (.getfield 103, 3) := dc9_180 (by decide +kernel)
theorem d_MS_grow_52 : decode y_MS_grow.2.1 52 = .ok (.if_icmp .ge 36, 3) := dc9_162 (by decide +kernel)
theorem d_MS_grow_88 : decode y_MS_grow.2.1 88 = .ok (.goto (-49), 3) := dc9_167 (by decide +kernel)
theorem d_MS_grow_55 : decode y_MS_grow.2.1 55 = .ok (.aload_n 0, 1) := dc9_42 (by decide +kernel)
theorem d_MS_grow_56 : decode y_MS_grow.2.1 56 = .ok (.getfield 63, 3) := dc9_180 (by decide +kernel)
theorem d_MS_grow_59 : decode y_MS_grow.2.1 59 = .ok (.iload_n 3, 1) := dc9_29 (by decide +kernel)
theorem d_MS_grow_60 : decode y_MS_grow.2.1 60 = .ok (.baload, 1) := dc9_51 (by decide +kernel)
theorem d_MS_grow_61 : decode y_MS_grow.2.1 61 = .ok (.ifCond .ne 21, 3) := dc9_154 (by decide +kernel)
theorem d_MS_grow_64 : decode y_MS_grow.2.1 64 = .ok (.aload_n 0, 1) := dc9_42 (by decide +kernel)
theorem d_MS_grow_65 : decode y_MS_grow.2.1 65 = .ok (.iload_n 3, 1) := dc9_29 (by decide +kernel)
theorem d_MS_grow_66 : decode y_MS_grow.2.1 66 = .ok (.iload_n 1, 1) := dc9_27 (by decide +kernel)
theorem d_MS_grow_67 : decode y_MS_grow.2.1 67 = .ok (.invokevirtual 127, 3) := dc9_182 (by decide +kernel)
theorem d_MS_grow_70 : decode y_MS_grow.2.1 70 = .ok (.ifCond .eq 12, 3) := dc9_153 (by decide +kernel)
theorem d_MS_grow_73 : decode y_MS_grow.2.1 73 = .ok (.aload_n 0, 1) := dc9_42 (by decide +kernel)
theorem d_MS_grow_74 : decode y_MS_grow.2.1 74 = .ok (.getfield 63, 3) := dc9_180 (by decide +kernel)
theorem d_MS_grow_77 : decode y_MS_grow.2.1 77 = .ok (.iload_n 3, 1) := dc9_29 (by decide +kernel)
theorem d_MS_grow_78 : decode y_MS_grow.2.1 78 = .ok (.iconst 1, 1) := dc9_4 (by decide +kernel)
theorem d_MS_grow_79 : decode y_MS_grow.2.1 79 = .ok (.bastore, 1) := dc9_84 (by decide +kernel)
theorem d_MS_grow_80 : decode y_MS_grow.2.1 80 = .ok (.iconst 1, 1) := dc9_4 (by decide +kernel)
theorem d_MS_grow_81 : decode y_MS_grow.2.1 81 = .ok (.istore_n 2, 1) := dc9_61 (by decide +kernel)
theorem d_MS_grow_82 : decode y_MS_grow.2.1 82 = .ok (.iinc 3 1, 3) := by decide +kernel
theorem d_MS_grow_85 : decode y_MS_grow.2.1 85 = .ok (.goto (-38), 3) := dc9_167 (by decide +kernel)
def h_MS_grow_2 (G : mG) (d : Nat) (a0 : Nat) (l1 : Int) (l2 : Int) (M : mM) (Q : mM → Prop) : Prop := mWm G y_MS_grow (d + 1) 2 [vr a0, vi l1, vi l2, vd] [] M (fun r9 M9 => r9 = none ∧ Q M9)
def h_MS_grow_39 (G : mG) (d : Nat) (a0 : Nat) (l1 : Int) (l2 : Int) (M : mM) (Q : mM → Prop) : Prop := mWm G y_MS_grow (d + 1) 39 [vr a0, vi l1, vi l2, vd] [] M (fun r9 M9 => r9 = none ∧ Q M9)
def h_MS_grow_47 (G : mG) (d : Nat) (a0 : Nat) (l1 : Int) (l2 : Int) (l3 : Int) (M : mM) (Q : mM → Prop) : Prop := mWm G y_MS_grow (d + 1) 47 [vr a0, vi l1, vi l2, vi l3] [] M (fun r9 M9 => r9 = none ∧ Q M9)
theorem k_MS_grow {G : mG} {d : Nat} {a0 : Nat} {l1 : Int} {M : mM} {Q : mM → Prop} (hO : mOk M) (hi_l1 : i32 l1)
    (h : h_MS_grow_2 G d a0 l1 0 M Q) :
    Cv G y_MS_grow (d + 1) [vr a0, vi l1] M Q := by
  refine wm_open (y := y_MS_grow) rfl (Nat.le_of_ble_eq_true rfl) (L := [vr a0, vi l1, vd, vd]) rfl ?_
  refine wm_iconst d_MS_grow_0 ?_
  refine wm_istore_n d_MS_grow_1 rfl (by decide) (L' := [vr a0, vi l1, vi 0, vd]) rfl ?_
  exact h
theorem k_MS_grow_2 {G : mG} {d : Nat} {a0 : Nat} {l1 : Int} {l2 : Int} {M : mM} {Q : mM → Prop} (hO : mOk M) (hi_l1 : i32 l1) (hi_l2 : i32 l2)
    (h : mK M a0 = 17 ∧ ((mI M a0 1 ≤ l2) → (h_MS_grow_39 G d a0 l1 1 M Q)) ∧ (¬ (mI M a0 1 ≤ l2) → (mK M (mR M a0 4) = 30 ∧ ((0 : Int) ≤ l2 ∧ l2 < (mN M (mR M a0 4) : Int)) ∧ ∀ v9 : Int, v9 = (if (mI M (mR M a0 4) (Int.toNat l2) = 3) then 1 else 0) → mK M (mR M a0 19) = 31 ∧ ((0 : Int) ≤ l2 ∧ l2 < (mN M (mR M a0 19) : Int)) ∧ ∀ M16, M16 = mUI M (mR M a0 19) (Int.toNat l2) v9 → h_MS_grow_2 G d a0 l1 (l2 + 1) M16 Q))) :
    h_MS_grow_2 G d a0 l1 l2 M Q := by
  unfold h_MS_grow_2
  obtain ⟨h1, h⟩ := h
  refine wm_iload_n d_MS_grow_2 rfl rfl ?_
  refine wm_aload_n d_MS_grow_3 rfl rfl ?_
  refine gf_MS_103 rfl d_MS_grow_4 h1 ?_
  refine wm_icmp_ge (tgt := 37) d_MS_grow_7 rfl hi_l2 (hO _ _).1 (fun c5 => ?_) (fun c5 => ?_)
  · replace h := h.1 c5
    refine wm_iconst d_MS_grow_37 ?_
    refine wm_istore_n d_MS_grow_38 rfl (by decide) (L' := [vr a0, vi l1, vi 1, vd]) rfl ?_
    exact h
  · replace h := h.2 c5
    obtain ⟨h6, h⟩ := h
    obtain ⟨h7, h⟩ := h
    refine wm_aload_n d_MS_grow_10 rfl rfl ?_
    refine gf_MS_63 rfl d_MS_grow_11 h1 ?_
    refine wm_iload_n d_MS_grow_14 rfl rfl ?_
    refine wm_aload_n d_MS_grow_15 rfl rfl ?_
    refine gf_MS_16 rfl d_MS_grow_16 h1 ?_
    refine wm_iload_n d_MS_grow_19 rfl rfl ?_
    refine wm_iald d_MS_grow_20 h6 h7 ?_
    refine wm_iconst d_MS_grow_21 ?_
    have hJ : ∀ v9 : Int, v9 = (if (mI M (mR M a0 4) (Int.toNat l2) = 3) then 1 else 0) → mWm G y_MS_grow (d + 1) 30 [vr a0, vi l1, vi l2, vd] [vi v9, vi l2, vr (mR M a0 19)] M (fun r9 M9 => r9 = none ∧ Q M9) := by
      intro v9 e11
      have h := h v9 e11
      have h12 : i32 v9 := by rw [e11]; (repeat' split) <;> first | exact ⟨by decide, by decide⟩ | exact ⟨by decide, by decide⟩
      have h13 : (v9 = 0 ∨ v9 = 1) := by rw [e11]; (repeat' split) <;> decide
      obtain ⟨h14, h⟩ := h
      obtain ⟨h15, h⟩ := h
      obtain ⟨M16, e17⟩ : ∃ M16, M16 = mUI M (mR M a0 19) (Int.toNat l2) v9 := ⟨_, rfl⟩
      replace h := h M16 e17
      have hOM16 : mOk M16 := by rw [e17]; exact mOk_UI hO (m_b32 h13)
      refine wm_zastE d_MS_grow_30 h14 h15 h13 e17 ?_
      refine wm_iinc d_MS_grow_31 (by decide) rfl (L' := [vr a0, vi l1, vi (l2 + 1), vd]) rfl ?_
      refine wm_goto (tgt := 2) d_MS_grow_34 rfl ?_
      exact h
    clear h
    refine wm_icmp_ne (tgt := 29) d_MS_grow_22 rfl (hO _ _).1 ⟨by decide, by decide⟩ (fun c8 => ?_) (fun c8 => ?_)
    · refine wm_iconst d_MS_grow_29 ?_
      exact hJ 0 (if_neg c8).symm
    · replace c8 := Classical.not_not.mp c8
      refine wm_iconst d_MS_grow_25 ?_
      refine wm_goto (tgt := 30) d_MS_grow_26 rfl ?_
      exact hJ 1 (if_pos c8).symm
theorem k_MS_grow_39 {G : mG} {d : Nat} {a0 : Nat} {l1 : Int} {l2 : Int} {M : mM} {Q : mM → Prop} (hO : mOk M) (hi_l1 : i32 l1) (hi_l2 : i32 l2)
    (h : ((l2 = 0) → (Q M)) ∧ (¬ (l2 = 0) → (h_MS_grow_47 G d a0 l1 0 0 M Q))) :
    h_MS_grow_39 G d a0 l1 l2 M Q := by
  unfold h_MS_grow_39
  refine wm_iload_n d_MS_grow_39 rfl rfl ?_
  refine wm_if_eq (tgt := 91) d_MS_grow_40 rfl hi_l2 (fun c20 => ?_) (fun c20 => ?_)
  · replace h := h.1 c20
    refine wm_return d_MS_grow_91 rfl ?_
    exact ⟨rfl, h⟩
  · replace h := h.2 c20
    refine wm_iconst d_MS_grow_43 ?_
    refine wm_istore_n d_MS_grow_44 rfl (by decide) (L' := [vr a0, vi l1, vi 0, vd]) rfl ?_
    refine wm_iconst d_MS_grow_45 ?_
    refine wm_istore_n d_MS_grow_46 rfl (by decide) (L' := [vr a0, vi l1, vi 0, vi 0]) rfl ?_
    exact h
theorem k_MS_grow_47 {G : mG} {d : Nat} {a0 : Nat} {l1 : Int} {l2 : Int} {l3 : Int} {M : mM} {Q : mM → Prop} (hO : mOk M) (hi_l1 : i32 l1) (hi_l2 : i32 l2) (hi_l3 : i32 l3)
    (h : mK M a0 = 17 ∧ ((mI M a0 1 ≤ l3) → (h_MS_grow_39 G d a0 l1 l2 M Q)) ∧ (¬ (mI M a0 1 ≤ l3) → (mK M (mR M a0 19) = 31 ∧ ((0 : Int) ≤ l3 ∧ l3 < (mN M (mR M a0 19) : Int)) ∧ ((mI M (mR M a0 19) (Int.toNat l3) = 0) → (Ci G y_MS_comes d [vr a0, vi l3, vi l1] M (fun x33 M32 => i32 x33 ∧ mOk M32 ∧ ((¬ (x33 = 0) → (mK M32 a0 = 17 ∧ mK M32 (mR M32 a0 19) = 31 ∧ ((0 : Int) ≤ l3 ∧ l3 < (mN M32 (mR M32 a0 19) : Int)))) ∧ ∀ v39 : Int, v39 = (if (x33 = 0) then l2 else 1) → ∀ M40 : mM, M40 = (if (x33 = 0) then M32 else (mUI M32 (mR M32 a0 19) (Int.toNat l3) 1)) → mOk M40 ∧ h_MS_grow_47 G d a0 l1 v39 (l3 + 1) M40 Q)))) ∧ (¬ (mI M (mR M a0 19) (Int.toNat l3) = 0) → (h_MS_grow_47 G d a0 l1 l2 (l3 + 1) M Q))))) :
    h_MS_grow_47 G d a0 l1 l2 l3 M Q := by
  unfold h_MS_grow_47
  obtain ⟨h21, h⟩ := h
  refine wm_iload_n d_MS_grow_47 rfl rfl ?_
  refine wm_aload_n d_MS_grow_48 rfl rfl ?_
  refine gf_MS_103 rfl d_MS_grow_49 h21 ?_
  refine wm_icmp_ge (tgt := 88) d_MS_grow_52 rfl hi_l3 (hO _ _).1 (fun c26 => ?_) (fun c26 => ?_)
  · replace h := h.1 c26
    refine wm_goto (tgt := 39) d_MS_grow_88 rfl ?_
    refine wm_less (L' := [vr a0, vi l1, vi l2, vd]) ⟨Or.inr rfl, Or.inr rfl, Or.inr rfl, Or.inl rfl, trivial⟩ ?_
    exact h
  · replace h := h.2 c26
    obtain ⟨h27, h⟩ := h
    obtain ⟨h28, h⟩ := h
    refine wm_aload_n d_MS_grow_55 rfl rfl ?_
    refine gf_MS_63 rfl d_MS_grow_56 h21 ?_
    refine wm_iload_n d_MS_grow_59 rfl rfl ?_
    refine wm_zald d_MS_grow_60 h27 h28 ?_
    refine wm_if_ne (tgt := 82) d_MS_grow_61 rfl (hO _ _).1 (fun c31 => ?_) (fun c31 => ?_)
    · replace h := h.2 c31
      refine wm_iinc d_MS_grow_82 (by decide) rfl (L' := [vr a0, vi l1, vi l2, vi (l3 + 1)]) rfl ?_
      refine wm_goto (tgt := 47) d_MS_grow_85 rfl ?_
      exact h
    · replace c31 := Classical.not_not.mp c31
      replace h := h.1 c31
      refine wm_aload_n d_MS_grow_64 rfl rfl ?_
      refine wm_iload_n d_MS_grow_65 rfl rfl ?_
      refine wm_iload_n d_MS_grow_66 rfl rfl ?_
      refine cf_MS_127 rfl d_MS_grow_67 h21 (Nat.le_of_ble_eq_true rfl) (Ci.mono h (fun x33 M32 h => ?_))
      obtain ⟨h34, hOM32, h⟩ := h
      obtain ⟨s41, h⟩ := h
      have hJ : ∀ v39 : Int, v39 = (if (x33 = 0) then l2 else 1) → ∀ M40 : mM, M40 = (if (x33 = 0) then M32 else (mUI M32 (mR M32 a0 19) (Int.toNat l3) 1)) → mWm G y_MS_grow (d + 1) 82 [vr a0, vi l1, vi v39, vi l3] [] M40 (fun r9 M9 => r9 = none ∧ Q M9) := by
        intro v39 e42
        intro M40 e43
        have h := h v39 e42 M40 e43
        have h44 : i32 v39 := by rw [e42]; (repeat' split) <;> first | exact hi_l2 | exact ⟨by decide, by decide⟩
        have h45 : mK M40 = mK M32 := by rw [e43]; (repeat' split) <;> rfl
        obtain ⟨hOM40, h⟩ := h
        refine wm_iinc d_MS_grow_82 (by decide) rfl (L' := [vr a0, vi l1, vi v39, vi (l3 + 1)]) rfl ?_
        refine wm_goto (tgt := 47) d_MS_grow_85 rfl ?_
        exact h
      clear h
      have s46 := s41
      refine wm_if_eq (tgt := 82) d_MS_grow_70 rfl h34 (fun c35 => ?_) (fun c35 => ?_)
      · exact hJ l2 (if_pos c35).symm M32 (if_pos c35).symm
      · have s46 := s46 c35
        obtain ⟨h36, h37, h38⟩ := s46
        refine wm_aload_n d_MS_grow_73 rfl rfl ?_
        refine gf_MS_63 rfl d_MS_grow_74 h36 ?_
        refine wm_iload_n d_MS_grow_77 rfl rfl ?_
        refine wm_iconst d_MS_grow_78 ?_
        refine wm_zastE d_MS_grow_79 h37 h38 (by decide) rfl ?_
        refine wm_iconst d_MS_grow_80 ?_
        refine wm_istore_n d_MS_grow_81 rfl (by decide) (L' := [vr a0, vi l1, vi 1, vi l3]) rfl ?_
        exact hJ 1 (if_neg c35).symm (mUI M32 (mR M32 a0 19) (Int.toNat l3) 1) (if_neg c35).symm
theorem d_MS_weight_0 : decode y_MS_weight.2.1 0 = .ok (.iconst 0, 1) := dc9_3 (by decide +kernel)
theorem d_MS_weight_1 : decode y_MS_weight.2.1 1 = .ok (.istore_n 2, 1) := dc9_61 (by decide +kernel)
theorem d_MS_weight_2 : decode y_MS_weight.2.1 2 = .ok (.lconst 1, 1) := dc9_10 (by decide +kernel)
theorem d_MS_weight_3 : decode y_MS_weight.2.1 3 = .ok (.iload_n 2, 1) := dc9_28 (by decide +kernel)
theorem d_MS_weight_4 : decode y_MS_weight.2.1 4 = .ok (.lshl, 1) := dc9_121 (by decide +kernel)
theorem d_MS_weight_5 : decode y_MS_weight.2.1 5 = .ok (.ldc2_w 131, 3) := dc9_20 (by decide +kernel)
theorem d_MS_weight_8 : decode y_MS_weight.2.1 8 = .ok (.lload_n 0, 1) := dc9_30 (by decide +kernel)
theorem d_MS_weight_9 : decode y_MS_weight.2.1 9 = .ok (.lmul, 1) := dc9_105 (by decide +kernel)
theorem d_MS_weight_10 : decode y_MS_weight.2.1 10 = .ok (.lcmp, 1) := dc9_148 (by decide +kernel)
theorem d_MS_weight_11 : decode y_MS_weight.2.1 11 = .ok (.ifCond .ge 9, 3) := dc9_156 (by decide +kernel)
theorem d_MS_weight_20 : decode y_MS_weight.2.1 20 = .ok (.iload_n 2, 1) := dc9_28 (by decide +kernel)
theorem d_MS_weight_21 : decode y_MS_weight.2.1 21 = .ok (.ireturn, 1) := dc9_172 (by decide +kernel)
theorem d_MS_weight_14 : decode y_MS_weight.2.1 14 = .ok (.iinc 2 1, 3) := by decide +kernel
theorem d_MS_weight_17 : decode y_MS_weight.2.1 17 = .ok (.goto (-15), 3) := dc9_167 (by decide +kernel)
def h_MS_weight_2 (G : mG) (d : Nat) (j0 : Int) (l2 : Int) (M : mM) (Q : Int → mM → Prop) : Prop := mWm G y_MS_weight d 2 [vl j0, vd, vi l2] [] M (fun r9 M9 => ∃ x9, r9 = some (vi x9) ∧ Q x9 M9)
theorem k_MS_weight {G : mG} {d : Nat} {j0 : Int} {M : mM} {Q : Int → mM → Prop} (hO : mOk M) (hi_j0 : i64 j0)
    (h : h_MS_weight_2 G d j0 0 M Q) :
    Ci G y_MS_weight d [vl j0] M Q := by
  refine wm_open (y := y_MS_weight) rfl (Nat.le_of_ble_eq_true rfl) (L := [vl j0, vd, vd]) rfl ?_
  refine wm_iconst d_MS_weight_0 ?_
  refine wm_istore_n d_MS_weight_1 rfl (by decide) (L' := [vl j0, vd, vi 0]) rfl ?_
  exact h
theorem k_MS_weight_2 {G : mG} {d : Nat} {j0 : Int} {l2 : Int} {M : mM} {Q : Int → mM → Prop} (hO : mOk M) (hi_j0 : i64 j0) (hi_l2 : i32 l2)
    (h : i64 (2 * j0) ∧ ((0 ≤ cmpL (shlL 1 l2) (2 * j0)) → (Q l2 M)) ∧ (¬ (0 ≤ cmpL (shlL 1 l2) (2 * j0)) → (h_MS_weight_2 G d j0 (l2 + 1) M Q))) :
    h_MS_weight_2 G d j0 l2 M Q := by
  unfold h_MS_weight_2
  obtain ⟨h1, h⟩ := h
  refine wm_lconst (x := 1) d_MS_weight_2 rfl ?_
  refine wm_iload_n d_MS_weight_3 rfl rfl ?_
  refine wm_lshl d_MS_weight_4 ?_
  refine wm_ldc2 (x := 2) d_MS_weight_5 k12_220 (by decide) ?_
  refine wm_lload_n d_MS_weight_8 rfl rfl ?_
  refine wm_lmul d_MS_weight_9 ?_
  refine wm_lcmp d_MS_weight_10 (m_i64 _) h1 ?_
  refine wm_if_ge (tgt := 20) d_MS_weight_11 rfl (m_cmp32 _ _) (fun c3 => ?_) (fun c3 => ?_)
  · replace h := h.1 c3
    refine wm_iload_n d_MS_weight_20 rfl rfl ?_
    refine wm_ireturn d_MS_weight_21 rfl rfl ?_
    exact ⟨_, rfl, h⟩
  · replace h := h.2 c3
    refine wm_iinc d_MS_weight_14 (by decide) rfl (L' := [vl j0, vd, vi (l2 + 1)]) rfl ?_
    refine wm_goto (tgt := 2) d_MS_weight_17 rfl ?_
    exact h
theorem d_MS_look_0 : decode y_MS_look.2.1 0 = .ok (.aload_n 0, 1) := dc9_42 (by decide +kernel)
theorem d_MS_look_1 : decode y_MS_look.2.1 1 = .ok (.iconst 0, 1) := dc9_3 (by decide +kernel)
theorem d_MS_look_2 : decode y_MS_look.2.1 2 = .ok (.invokevirtual 133, 3) := dc9_182 (by decide +kernel)
theorem d_MS_look_5 : decode y_MS_look.2.1 5 = .ok (.iconst 0, 1) := dc9_3 (by decide +kernel)
theorem d_MS_look_6 : decode y_MS_look.2.1 6 = .ok (.istore_n 1, 1) := dc9_60 (by decide +kernel)
theorem d_MS_look_7 : decode y_MS_look.2.1 7 = .ok (.iconst 0, 1) := dc9_3 (by decide +kernel)
theorem d_MS_look_8 : decode y_MS_look.2.1 8 = .ok (.istore_n 2, 1) := dc9_61 (by decide +kernel)
theorem d_MS_look_9 : decode y_MS_look.2.1 9 = .ok (.iconst 0, 1) := dc9_3 (by decide +kernel)
theorem d_MS_look_10 : decode y_MS_look.2.1 10 = .ok (.istore_n 3, 1) := dc9_62 (by decide +kernel)
theorem d_MS_look_11 : decode y_MS_look.2.1 11 = .ok (.iload_n 3, 1) := dc9_29 (by decide +kernel)
theorem d_MS_look_12 : decode y_MS_look.2.1 12 = .ok (.aload_n 0, 1) := dc9_42 (by decide +kernel)
theorem d_MS_look_13 : decode y_MS_look.2.1 13 = .ok (.getfield 103, 3) := dc9_180 (by decide +kernel)
theorem d_MS_look_16 : decode y_MS_look.2.1 16 = .ok (.if_icmp .ge 104, 3) := dc9_162 (by decide +kernel)
theorem d_MS_look_120 : decode y_MS_look.2.1 120 = .ok (.iload_n 1, 1) := dc9_27 (by decide +kernel)
theorem d_MS_look_121 : decode y_MS_look.2.1 121 = .ok (.bipush 40, 2) := dc9_16 (by decide +kernel)
theorem d_MS_look_19 : decode y_MS_look.2.1 19 = .ok (.aload_n 0, 1) := dc9_42 (by decide +kernel)
theorem d_MS_look_20 : decode y_MS_look.2.1 20 = .ok (.getfield 63, 3) := dc9_180 (by decide +kernel)
theorem d_MS_look_23 : decode y_MS_look.2.1 23 = .ok (.iload_n 3, 1) := dc9_29 (by decide +kernel)
theorem d_MS_look_24 : decode y_MS_look.2.1 24 = .ok (.baload, 1) := dc9_51 (by decide +kernel)
theorem d_MS_look_123 : decode y_MS_look.2.1 123 = .ok (.if_icmp .le 7, 3) := dc9_164 (by decide +kernel)
theorem d_MS_look_130 : decode y_MS_look.2.1 130 = .ok (.iload_n 2, 1) := dc9_28 (by decide +kernel)
theorem d_MS_look_131 : decode y_MS_look.2.1 131 = .ok (.sipush 480, 3) := dc9_17 (by decide +kernel)
theorem d_MS_look_126 : decode y_MS_look.2.1 126 = .ok (.iconst 5, 1) := dc9_8 (by decide +kernel)
theorem d_MS_look_127 : decode y_MS_look.2.1 127 = .ok (.goto 16, 3) := dc9_167 (by decide +kernel)
theorem d_MS_look_143 : decode y_MS_look.2.1 143 = .ok (.ireturn, 1) := dc9_172 (by decide +kernel)
theorem d_MS_look_134 : decode y_MS_look.2.1 134 = .ok (.if_icmp .le 8, 3) := dc9_164 (by decide +kernel)
theorem d_MS_look_142 : decode y_MS_look.2.1 142 = .ok (.iconst 0, 1) := dc9_3 (by decide +kernel)
theorem d_MS_look_137 : decode y_MS_look.2.1 137 = .ok (.bipush 6, 2) := dc9_16 (by decide +kernel)
theorem d_MS_look_139 : decode y_MS_look.2.1 139 = .ok (.goto 4, 3) := dc9_167 (by decide +kernel)
theorem d_MS_look_25 : decode y_MS_look.2.1 25 = .ok (.ifCond .eq 89, 3) := dc9_153 (by decide +kernel)
theorem d_MS_look_28 : decode y_MS_look.2.1 28 = .ok (.aload_n 0, 1) := dc9_42 (by decide +kernel)
theorem d_MS_look_29 : decode y_MS_look.2.1 29 = .ok (.getfield 16, 3) := dc9_180 (by decide +kernel)
theorem d_MS_look_32 : decode y_MS_look.2.1 32 = .ok (.iload_n 3, 1) := dc9_29 (by decide +kernel)
theorem d_MS_look_33 : decode y_MS_look.2.1 33 = .ok (.iaload, 1) := dc9_46 (by decide +kernel)
theorem d_MS_look_34 : decode y_MS_look.2.1 34 = .ok (.iconst 3, 1) := dc9_6 (by decide +kernel)
theorem d_MS_look_35 : decode y_MS_look.2.1 35 = .ok (.if_icmp .eq 79, 3) := dc9_159 (by decide +kernel)
theorem d_MS_look_38 : decode y_MS_look.2.1 38 = .ok (.iinc 1 1, 3) := by decide +kernel
theorem d_MS_look_41 : decode y_MS_look.2.1 41 = .ok (.iconst 1, 1) := dc9_4 (by decide +kernel)
theorem d_MS_look_42 : decode y_MS_look.2.1 42 = .ok (.istore 4, 2) := dc9_54 (by decide +kernel)
theorem d_MS_look_44 : decode y_MS_look.2.1 44 = .ok (.iconst 0, 1) := dc9_3 (by decide +kernel)
theorem d_MS_look_45 : decode y_MS_look.2.1 45 = .ok (.istore 5, 2) := dc9_54 (by decide +kernel)
theorem d_MS_look_114 : decode y_MS_look.2.1 114 = .ok (.iinc 3 1, 3) := by decide +kernel
theorem d_MS_look_117 : decode y_MS_look.2.1 117 = .ok (.goto (-106), 3) := dc9_167 (by decide +kernel)
theorem d_MS_look_47 : decode y_MS_look.2.1 47 = .ok (.iload 5, 2) := dc9_21 (by decide +kernel)
theorem d_MS_look_49 : decode y_MS_look.2.1 49 = .ok (.aload_n 0, 1) := dc9_42 (by decide +kernel)
theorem d_MS_look_50 : decode y_MS_look.2.1 50 = .ok (.iload_n 3, 1) := dc9_29 (by decide +kernel)
theorem d_MS_look_51 : decode y_MS_look.2.1 51 = .ok (.invokevirtual 116, 3) := dc9_182 (by decide +kernel)
theorem d_MS_look_54 : decode y_MS_look.2.1 54 = .ok (.if_icmp .ge 51, 3) := dc9_162 (by decide +kernel)
theorem d_MS_look_105 : decode y_MS_look.2.1 105 = .ok (.iload_n 2, 1) := dc9_28 (by decide +kernel)
theorem d_MS_look_106 : decode y_MS_look.2.1 106 = .ok (.iload 4, 2) := dc9_21 (by decide +kernel)
theorem d_MS_look_108 : decode y_MS_look.2.1 108 = .ok (.i2l, 1) := dc9_133 (by decide +kernel)
theorem d_MS_look_57 : decode y_MS_look.2.1 57 = .ok (.aload_n 0, 1) := dc9_42 (by decide +kernel)
theorem d_MS_look_58 : decode y_MS_look.2.1 58 = .ok (.getfield 23, 3) := dc9_180 (by decide +kernel)
theorem d_MS_look_61 : decode y_MS_look.2.1 61 = .ok (.aload_n 0, 1) := dc9_42 (by decide +kernel)
theorem d_MS_look_62 : decode y_MS_look.2.1 62 = .ok (.getfield 20, 3) := dc9_180 (by decide +kernel)
theorem d_MS_look_65 : decode y_MS_look.2.1 65 = .ok (.iload_n 3, 1) := dc9_29 (by decide +kernel)
theorem d_MS_look_66 : decode y_MS_look.2.1 66 = .ok (.iaload, 1) := dc9_46 (by decide +kernel)
theorem d_MS_look_67 : decode y_MS_look.2.1 67 = .ok (.iload 5, 2) := dc9_21 (by decide +kernel)
theorem d_MS_look_69 : decode y_MS_look.2.1 69 = .ok (.iadd, 1) := dc9_96 (by decide +kernel)
theorem d_MS_look_70 : decode y_MS_look.2.1 70 = .ok (.iaload, 1) := dc9_46 (by decide +kernel)
theorem d_MS_look_71 : decode y_MS_look.2.1 71 = .ok (.istore 6, 2) := dc9_54 (by decide +kernel)
theorem d_MS_look_73 : decode y_MS_look.2.1 73 = .ok (.aload_n 0, 1) := dc9_42 (by decide +kernel)
theorem d_MS_look_74 : decode y_MS_look.2.1 74 = .ok (.iload_n 3, 1) := dc9_29 (by decide +kernel)
theorem d_MS_look_75 : decode y_MS_look.2.1 75 = .ok (.iload 5, 2) := dc9_21 (by decide +kernel)
theorem d_MS_look_109 : decode y_MS_look.2.1 109 = .ok (.invokestatic 137, 3) := dc9_184 (by decide +kernel)
theorem d_MS_look_112 : decode y_MS_look.2.1 112 = .ok (.iadd, 1) := dc9_96 (by decide +kernel)
theorem d_MS_look_113 : decode y_MS_look.2.1 113 = .ok (.istore_n 2, 1) := dc9_61 (by decide +kernel)
theorem d_MS_look_77 : decode y_MS_look.2.1 77 = .ok (.invokevirtual 120, 3) := dc9_182 (by decide +kernel)
theorem d_MS_look_80 : decode y_MS_look.2.1 80 = .ok (.ifCond .eq 15, 3) := dc9_153 (by decide +kernel)
theorem d_MS_look_95 : decode y_MS_look.2.1 95 = .ok (.iload 4, 2) := dc9_21 (by decide +kernel)
theorem d_MS_look_83 : decode y_MS_look.2.1 83 = .ok (.iload 6, 2) := dc9_21 (by decide +kernel)
theorem d_MS_look_85 : decode y_MS_look.2.1 85 = .ok (.iload 4, 2) := dc9_21 (by decide +kernel)
theorem d_MS_look_87 : decode y_MS_look.2.1 87 = .ok (.if_icmp .le 8, 3) := dc9_164 (by decide +kernel)
theorem d_MS_look_90 : decode y_MS_look.2.1 90 = .ok (.iload 6, 2) := dc9_21 (by decide +kernel)
theorem d_MS_look_92 : decode y_MS_look.2.1 92 = .ok (.goto 5, 3) := dc9_167 (by decide +kernel)
theorem d_MS_look_97 : decode y_MS_look.2.1 97 = .ok (.istore 4, 2) := dc9_54 (by decide +kernel)
theorem d_MS_look_99 : decode y_MS_look.2.1 99 = .ok (.iinc 5 1, 3) := by decide +kernel
theorem d_MS_look_102 : decode y_MS_look.2.1 102 = .ok (.goto (-55), 3) := dc9_167 (by decide +kernel)
def h_MS_look_11 (G : mG) (d : Nat) (a0 : Nat) (l1 : Int) (l2 : Int) (l3 : Int) (M : mM) (Q : Int → mM → Prop) : Prop := mWm G y_MS_look (d + 1) 11 [vr a0, vi l1, vi l2, vi l3, vd, vd, vd] [] M (fun r9 M9 => ∃ x9, r9 = some (vi x9) ∧ Q x9 M9)
def h_MS_look_47 (G : mG) (d : Nat) (a0 : Nat) (l1 : Int) (l2 : Int) (l3 : Int) (l4 : Int) (l5 : Int) (M : mM) (Q : Int → mM → Prop) : Prop := mWm G y_MS_look (d + 1) 47 [vr a0, vi l1, vi l2, vi l3, vi l4, vi l5, vd] [] M (fun r9 M9 => ∃ x9, r9 = some (vi x9) ∧ Q x9 M9)
theorem k_MS_look {G : mG} {d : Nat} {a0 : Nat} {M : mM} {Q : Int → mM → Prop} (hO : mOk M)
    (h : mK M a0 = 17 ∧ Cv G y_MS_grow d [vr a0, vi 0] M (fun M2 => mOk M2 ∧ (h_MS_look_11 G d a0 0 0 0 M2 Q))) :
    Ci G y_MS_look (d + 1) [vr a0] M Q := by
  refine wm_open (y := y_MS_look) rfl (Nat.le_of_ble_eq_true rfl) (L := [vr a0, vd, vd, vd, vd, vd, vd]) rfl ?_
  obtain ⟨h1, h⟩ := h
  refine wm_aload_n d_MS_look_0 rfl rfl ?_
  refine wm_iconst d_MS_look_1 ?_
  refine cf_MS_133 rfl d_MS_look_2 h1 (Nat.le_of_ble_eq_true rfl) (Cv.mono h (fun M2 h => ?_))
  obtain ⟨hOM2, h⟩ := h
  refine wm_iconst d_MS_look_5 ?_
  refine wm_istore_n d_MS_look_6 rfl (by decide) (L' := [vr a0, vi 0, vd, vd, vd, vd, vd]) rfl ?_
  refine wm_iconst d_MS_look_7 ?_
  refine wm_istore_n d_MS_look_8 rfl (by decide) (L' := [vr a0, vi 0, vi 0, vd, vd, vd, vd]) rfl ?_
  refine wm_iconst d_MS_look_9 ?_
  refine wm_istore_n d_MS_look_10 rfl (by decide) (L' := [vr a0, vi 0, vi 0, vi 0, vd, vd, vd]) rfl ?_
  exact h
theorem k_MS_look_11 {G : mG} {d : Nat} {a0 : Nat} {l1 : Int} {l2 : Int} {l3 : Int} {M : mM} {Q : Int → mM → Prop} (hO : mOk M) (hi_l1 : i32 l1) (hi_l2 : i32 l2) (hi_l3 : i32 l3)
    (h : mK M a0 = 17 ∧ ((mI M a0 1 ≤ l3) → (∀ v24 : Int, v24 = (if l1 ≤ 40 then (if l2 ≤ 480 then 0 else 6) else 5) → Q v24 M)) ∧ (¬ (mI M a0 1 ≤ l3) → (mK M (mR M a0 19) = 31 ∧ ((0 : Int) ≤ l3 ∧ l3 < (mN M (mR M a0 19) : Int)) ∧ (¬ (mI M (mR M a0 19) (Int.toNat l3) = 0) → (mK M (mR M a0 4) = 30 ∧ ((0 : Int) ≤ l3 ∧ l3 < (mN M (mR M a0 4) : Int)))) ∧ (((mI M (mR M a0 19) (Int.toNat l3) = 0) ∨ (mI M (mR M a0 4) (Int.toNat l3) = 3)) → (h_MS_look_11 G d a0 l1 l2 (l3 + 1) M Q)) ∧ (¬ ((mI M (mR M a0 19) (Int.toNat l3) = 0) ∨ (mI M (mR M a0 4) (Int.toNat l3) = 3)) → (h_MS_look_47 G d a0 (l1 + 1) l2 l3 1 0 M Q))))) :
    h_MS_look_11 G d a0 l1 l2 l3 M Q := by
  unfold h_MS_look_11
  obtain ⟨h5, h⟩ := h
  refine wm_iload_n d_MS_look_11 rfl rfl ?_
  refine wm_aload_n d_MS_look_12 rfl rfl ?_
  refine gf_MS_103 rfl d_MS_look_13 h5 ?_
  refine wm_icmp_ge (tgt := 120) d_MS_look_16 rfl hi_l3 (hO _ _).1 (fun c21 => ?_) (fun c21 => ?_)
  · replace h := h.1 c21
    refine wm_iload_n d_MS_look_120 rfl rfl ?_
    refine wm_bipush d_MS_look_121 (by decide) ?_
    have hJ : ∀ v24 : Int, v24 = (if l1 ≤ 40 then (if l2 ≤ 480 then 0 else 6) else 5) → mWm G y_MS_look (d + 1) 143 [vd, vd, vd, vd, vd, vd, vd] [vi v24] M (fun r9 M9 => ∃ x9, r9 = some (vi x9) ∧ Q x9 M9) := by
      intro v24 e26
      have h := h v24 e26
      have h27 : i32 v24 := by rw [e26]; (repeat' split) <;> first | exact ⟨by decide, by decide⟩ | exact ⟨by decide, by decide⟩ | exact ⟨by decide, by decide⟩
      refine wm_ireturn d_MS_look_143 rfl rfl ?_
      exact ⟨_, rfl, h⟩
    clear h
    refine wm_icmp_le (tgt := 130) d_MS_look_123 rfl hi_l1 ⟨by decide, by decide⟩ (fun c22 => ?_) (fun c22 => ?_)
    · refine wm_iload_n d_MS_look_130 rfl rfl ?_
      refine wm_sipush d_MS_look_131 (by decide) ?_
      refine wm_icmp_le (tgt := 142) d_MS_look_134 rfl hi_l2 ⟨by decide, by decide⟩ (fun c23 => ?_) (fun c23 => ?_)
      · refine wm_iconst d_MS_look_142 ?_
        refine wm_less (L' := [vd, vd, vd, vd, vd, vd, vd]) ⟨Or.inl rfl, Or.inl rfl, Or.inl rfl, Or.inl rfl, Or.inl rfl, Or.inl rfl, Or.inl rfl, trivial⟩ ?_
        exact hJ 0 (by rw [if_pos c22, if_pos c23])
      · refine wm_bipush d_MS_look_137 (by decide) ?_
        refine wm_goto (tgt := 143) d_MS_look_139 rfl ?_
        refine wm_less (L' := [vd, vd, vd, vd, vd, vd, vd]) ⟨Or.inl rfl, Or.inl rfl, Or.inl rfl, Or.inl rfl, Or.inl rfl, Or.inl rfl, Or.inl rfl, trivial⟩ ?_
        exact hJ 6 (by rw [if_pos c22, if_neg c23])
    · refine wm_iconst d_MS_look_126 ?_
      refine wm_goto (tgt := 143) d_MS_look_127 rfl ?_
      refine wm_less (L' := [vd, vd, vd, vd, vd, vd, vd]) ⟨Or.inl rfl, Or.inl rfl, Or.inl rfl, Or.inl rfl, Or.inl rfl, Or.inl rfl, Or.inl rfl, trivial⟩ ?_
      exact hJ 5 (by rw [if_neg c22])
  · replace h := h.2 c21
    obtain ⟨h28, h⟩ := h
    obtain ⟨h29, h⟩ := h
    refine wm_aload_n d_MS_look_19 rfl rfl ?_
    refine gf_MS_63 rfl d_MS_look_20 h5 ?_
    refine wm_iload_n d_MS_look_23 rfl rfl ?_
    refine wm_zald d_MS_look_24 h28 h29 ?_
    obtain ⟨s34, h⟩ := h
    have hE0 : ((mI M (mR M a0 19) (Int.toNat l3) = 0) ∨ (mI M (mR M a0 4) (Int.toNat l3) = 3)) → mWm G y_MS_look (d + 1) 114 [vr a0, vi l1, vi l2, vi l3, vd, vd, vd] [] M (fun r9 M9 => ∃ x9, r9 = some (vi x9) ∧ Q x9 M9) := by
      intro q35
      have h := h.1 q35
      refine wm_iinc d_MS_look_114 (by decide) rfl (L' := [vr a0, vi l1, vi l2, vi (l3 + 1), vd, vd, vd]) rfl ?_
      refine wm_goto (tgt := 11) d_MS_look_117 rfl ?_
      exact h
    have hE1 : ¬ ((mI M (mR M a0 19) (Int.toNat l3) = 0) ∨ (mI M (mR M a0 4) (Int.toNat l3) = 3)) → mWm G y_MS_look (d + 1) 38 [vr a0, vi l1, vi l2, vi l3, vd, vd, vd] [] M (fun r9 M9 => ∃ x9, r9 = some (vi x9) ∧ Q x9 M9) := by
      intro q36
      have h := h.2 q36
      refine wm_iinc d_MS_look_38 (by decide) rfl (L' := [vr a0, vi (l1 + 1), vi l2, vi l3, vd, vd, vd]) rfl ?_
      refine wm_iconst d_MS_look_41 ?_
      refine wm_istore d_MS_look_42 (by decide) (L' := [vr a0, vi (l1 + 1), vi l2, vi l3, vi 1, vd, vd]) rfl ?_
      refine wm_iconst d_MS_look_44 ?_
      refine wm_istore d_MS_look_45 (by decide) (L' := [vr a0, vi (l1 + 1), vi l2, vi l3, vi 1, vi 0, vd]) rfl ?_
      exact h
    clear h
    have s37 := s34
    refine wm_if_eq (tgt := 114) d_MS_look_25 rfl (hO _ _).1 (fun c33 => ?_) (fun c33 => ?_)
    · exact hE0 (Or.inl c33)
    · have s37 := s37 c33
      obtain ⟨h30, h31⟩ := s37
      refine wm_aload_n d_MS_look_28 rfl rfl ?_
      refine gf_MS_16 rfl d_MS_look_29 h5 ?_
      refine wm_iload_n d_MS_look_32 rfl rfl ?_
      refine wm_iald d_MS_look_33 h30 h31 ?_
      refine wm_iconst d_MS_look_34 ?_
      refine wm_icmp_eq (tgt := 114) d_MS_look_35 rfl (hO _ _).1 ⟨by decide, by decide⟩ (fun c32 => ?_) (fun c32 => ?_)
      · exact hE0 (Or.inr c32)
      · exact hE1 (fun z38 => Or.elim z38 c33 c32)
theorem k_MS_look_47 {G : mG} {d : Nat} {a0 : Nat} {l1 : Int} {l2 : Int} {l3 : Int} {l4 : Int} {l5 : Int} {M : mM} {Q : Int → mM → Prop} (hO : mOk M) (hi_l1 : i32 l1) (hi_l2 : i32 l2) (hi_l3 : i32 l3) (hi_l4 : i32 l4) (hi_l5 : i32 l5)
    (h : mK M a0 = 17 ∧ Ci G y_MS_many d [vr a0, vi l3] M (fun x42 M41 => i32 x42 ∧ mOk M41 ∧ (((x42 ≤ l5) → (Ci G y_MS_weight d [vl l4] M41 (fun x47 M46 => i32 x47 ∧ mOk M46 ∧ (h_MS_look_11 G d a0 l1 (l2 + x47) (l3 + 1) M46 Q)))) ∧ (¬ (x42 ≤ l5) → (mK M41 a0 = 17 ∧ mK M41 (mR M41 a0 5) = 30 ∧ ((0 : Int) ≤ l3 ∧ l3 < (mN M41 (mR M41 a0 5) : Int)) ∧ mK M41 (mR M41 a0 6) = 30 ∧ ((0 : Int) ≤ (mI M41 (mR M41 a0 5) (Int.toNat l3)) + l5 ∧ (mI M41 (mR M41 a0 5) (Int.toNat l3)) + l5 < (mN M41 (mR M41 a0 6) : Int)) ∧ Ci G y_MS_may d [vr a0, vi l3, vi l5] M41 (fun x55 M54 => i32 x55 ∧ mOk M54 ∧ (∀ v59 : Int, v59 = (if ((x55 = 0) ∨ (mI M41 (mR M41 a0 6) (Int.toNat ((mI M41 (mR M41 a0 5) (Int.toNat l3)) + l5)) ≤ l4)) then l4 else mI M41 (mR M41 a0 6) (Int.toNat ((mI M41 (mR M41 a0 5) (Int.toNat l3)) + l5))) → h_MS_look_47 G d a0 l1 l2 l3 v59 (l5 + 1) M54 Q))))))) :
    h_MS_look_47 G d a0 l1 l2 l3 l4 l5 M Q := by
  unfold h_MS_look_47
  obtain ⟨h40, h⟩ := h
  refine wm_iload d_MS_look_47 rfl ?_
  refine wm_aload_n d_MS_look_49 rfl rfl ?_
  refine wm_iload_n d_MS_look_50 rfl rfl ?_
  refine cf_MS_116 rfl d_MS_look_51 h40 (Nat.le_of_ble_eq_true rfl) (Ci.mono h (fun x42 M41 h => ?_))
  obtain ⟨h43, hOM41, h⟩ := h
  refine wm_icmp_ge (tgt := 105) d_MS_look_54 rfl hi_l5 h43 (fun c45 => ?_) (fun c45 => ?_)
  · replace h := h.1 c45
    refine wm_iload_n d_MS_look_105 rfl rfl ?_
    refine wm_iload d_MS_look_106 rfl ?_
    refine wm_i2l d_MS_look_108 hi_l4 ?_
    refine cf_MS_137 rfl d_MS_look_109 (Nat.le_of_ble_eq_true rfl) (Ci.mono h (fun x47 M46 h => ?_))
    obtain ⟨h48, hOM46, h⟩ := h
    refine wm_iadd d_MS_look_112 ?_
    refine wm_istore_n d_MS_look_113 rfl (by decide) (L' := [vr a0, vi l1, vi (l2 + x47), vi l3, vi l4, vi l5, vd]) rfl ?_
    refine wm_iinc d_MS_look_114 (by decide) rfl (L' := [vr a0, vi l1, vi (l2 + x47), vi (l3 + 1), vi l4, vi l5, vd]) rfl ?_
    refine wm_goto (tgt := 11) d_MS_look_117 rfl ?_
    refine wm_less (L' := [vr a0, vi l1, vi (l2 + x47), vi (l3 + 1), vd, vd, vd]) ⟨Or.inr rfl, Or.inr rfl, Or.inr rfl, Or.inr rfl, Or.inl rfl, Or.inl rfl, Or.inl rfl, trivial⟩ ?_
    exact h
  · replace h := h.2 c45
    obtain ⟨h49, h⟩ := h
    obtain ⟨h50, h⟩ := h
    obtain ⟨h51, h⟩ := h
    obtain ⟨h52, h⟩ := h
    obtain ⟨h53, h⟩ := h
    refine wm_aload_n d_MS_look_57 rfl rfl ?_
    refine gf_MS_23 rfl d_MS_look_58 h49 ?_
    refine wm_aload_n d_MS_look_61 rfl rfl ?_
    refine gf_MS_20 rfl d_MS_look_62 h49 ?_
    refine wm_iload_n d_MS_look_65 rfl rfl ?_
    refine wm_iald d_MS_look_66 h50 h51 ?_
    refine wm_iload d_MS_look_67 rfl ?_
    refine wm_iadd d_MS_look_69 ?_
    refine wm_iald d_MS_look_70 h52 h53 ?_
    refine wm_istore d_MS_look_71 (by decide) (L' := [vr a0, vi l1, vi l2, vi l3, vi l4, vi l5, vi (mI M41 (mR M41 a0 6) (Int.toNat ((mI M41 (mR M41 a0 5) (Int.toNat l3)) + l5)))]) rfl ?_
    refine wm_aload_n d_MS_look_73 rfl rfl ?_
    refine wm_iload_n d_MS_look_74 rfl rfl ?_
    refine wm_iload d_MS_look_75 rfl ?_
    refine cf_MS_120 rfl d_MS_look_77 h49 (Nat.le_of_ble_eq_true rfl) (Ci.mono h (fun x55 M54 h => ?_))
    obtain ⟨h56, hOM54, h⟩ := h
    have hJ : ∀ v59 : Int, v59 = (if ((x55 = 0) ∨ (mI M41 (mR M41 a0 6) (Int.toNat ((mI M41 (mR M41 a0 5) (Int.toNat l3)) + l5)) ≤ l4)) then l4 else mI M41 (mR M41 a0 6) (Int.toNat ((mI M41 (mR M41 a0 5) (Int.toNat l3)) + l5))) → mWm G y_MS_look (d + 1) 97 [vr a0, vi l1, vi l2, vi l3, vd, vi l5, vd] [vi v59] M54 (fun r9 M9 => ∃ x9, r9 = some (vi x9) ∧ Q x9 M9) := by
      intro v59 e61
      have h := h v59 e61
      have h62 : i32 v59 := by rw [e61]; (repeat' split) <;> first | exact hi_l4 | exact (hOM41 _ _).1
      refine wm_istore d_MS_look_97 (by decide) (L' := [vr a0, vi l1, vi l2, vi l3, vi v59, vi l5, vd]) rfl ?_
      refine wm_iinc d_MS_look_99 (by decide) rfl (L' := [vr a0, vi l1, vi l2, vi l3, vi v59, vi (l5 + 1), vd]) rfl ?_
      refine wm_goto (tgt := 47) d_MS_look_102 rfl ?_
      exact h
    clear h
    refine wm_if_eq (tgt := 95) d_MS_look_80 rfl h56 (fun c57 => ?_) (fun c57 => ?_)
    · refine wm_iload d_MS_look_95 rfl ?_
      refine wm_less (L' := [vr a0, vi l1, vi l2, vi l3, vd, vi l5, vd]) ⟨Or.inr rfl, Or.inr rfl, Or.inr rfl, Or.inr rfl, Or.inl rfl, Or.inr rfl, Or.inl rfl, trivial⟩ ?_
      exact hJ l4 (if_pos (Or.inl c57)).symm
    · refine wm_iload d_MS_look_83 rfl ?_
      refine wm_iload d_MS_look_85 rfl ?_
      refine wm_icmp_le (tgt := 95) d_MS_look_87 rfl (hOM41 _ _).1 hi_l4 (fun c58 => ?_) (fun c58 => ?_)
      · refine wm_iload d_MS_look_95 rfl ?_
        refine wm_less (L' := [vr a0, vi l1, vi l2, vi l3, vd, vi l5, vd]) ⟨Or.inr rfl, Or.inr rfl, Or.inr rfl, Or.inr rfl, Or.inl rfl, Or.inr rfl, Or.inl rfl, trivial⟩ ?_
        exact hJ l4 (if_pos (Or.inr c58)).symm
      · refine wm_iload d_MS_look_90 rfl ?_
        refine wm_goto (tgt := 97) d_MS_look_92 rfl ?_
        refine wm_less (L' := [vr a0, vi l1, vi l2, vi l3, vd, vi l5, vd]) ⟨Or.inr rfl, Or.inr rfl, Or.inr rfl, Or.inr rfl, Or.inl rfl, Or.inr rfl, Or.inl rfl, trivial⟩ ?_
        exact hJ (mI M41 (mR M41 a0 6) (Int.toNat ((mI M41 (mR M41 a0 5) (Int.toNat l3)) + l5))) (if_neg (fun z63 => Or.elim z63 c57 c58)).symm
theorem d_MS_worthOf_0 : decode y_MS_worthOf.2.1 0 = .ok (.aload_n 0, 1) := dc9_42 (by decide +kernel)
theorem d_MS_worthOf_1 : decode y_MS_worthOf.2.1 1 = .ok (.getfield 20, 3) := dc9_180 (by decide +kernel)
theorem d_MS_worthOf_4 : decode y_MS_worthOf.2.1 4 = .ok (.iload_n 1, 1) := dc9_27 (by decide +kernel)
theorem d_MS_worthOf_5 : decode y_MS_worthOf.2.1 5 = .ok (.iaload, 1) := dc9_46 (by decide +kernel)
theorem d_MS_worthOf_6 : decode y_MS_worthOf.2.1 6 = .ok (.iload_n 2, 1) := dc9_28 (by decide +kernel)
theorem d_MS_worthOf_7 : decode y_MS_worthOf.2.1 7 = .ok (.iadd, 1) := dc9_96 (by decide +kernel)
theorem d_MS_worthOf_8 : decode y_MS_worthOf.2.1 8 = .ok (.istore 6, 2) := dc9_54 (by decide +kernel)
theorem d_MS_worthOf_10 : decode y_MS_worthOf.2.1 10 = .ok (.aload_n 0, 1) := dc9_42 (by decide +kernel)
theorem d_MS_worthOf_11 : decode y_MS_worthOf.2.1 11 = .ok (.getfield 91, 3) := dc9_180 (by decide +kernel)
theorem d_MS_worthOf_14 : decode y_MS_worthOf.2.1 14 = .ok (.lconst 0, 1) := dc9_9 (by decide +kernel)
theorem d_MS_worthOf_15 : decode y_MS_worthOf.2.1 15 = .ok (.lconst 1, 1) := dc9_10 (by decide +kernel)
theorem d_MS_worthOf_16 : decode y_MS_worthOf.2.1 16 = .ok (.invokevirtual 141, 3) := dc9_182 (by decide +kernel)
theorem d_MS_worthOf_19 : decode y_MS_worthOf.2.1 19 = .ok (.aload_n 0, 1) := dc9_42 (by decide +kernel)
theorem d_MS_worthOf_20 : decode y_MS_worthOf.2.1 20 = .ok (.getfield 26, 3) := dc9_180 (by decide +kernel)
theorem d_MS_worthOf_23 : decode y_MS_worthOf.2.1 23 = .ok (.iload 6, 2) := dc9_21 (by decide +kernel)
theorem d_MS_worthOf_25 : decode y_MS_worthOf.2.1 25 = .ok (.iaload, 1) := dc9_46 (by decide +kernel)
theorem d_MS_worthOf_26 : decode y_MS_worthOf.2.1 26 = .ok (.istore 7, 2) := dc9_54 (by decide +kernel)
theorem d_MS_worthOf_28 : decode y_MS_worthOf.2.1 28 = .ok (.iload 7, 2) := dc9_21 (by decide +kernel)
theorem d_MS_worthOf_30 : decode y_MS_worthOf.2.1 30 = .ok (.aload_n 0, 1) := dc9_42 (by decide +kernel)
theorem d_MS_worthOf_31 : decode y_MS_worthOf.2.1 31 = .ok (.getfield 26, 3) := dc9_180 (by decide +kernel)
theorem d_MS_worthOf_34 : decode y_MS_worthOf.2.1 34 = .ok (.iload 6, 2) := dc9_21 (by decide +kernel)
theorem d_MS_worthOf_36 : decode y_MS_worthOf.2.1 36 = .ok (.iconst 1, 1) := dc9_4 (by decide +kernel)
theorem d_MS_worthOf_37 : decode y_MS_worthOf.2.1 37 = .ok (.iadd, 1) := dc9_96 (by decide +kernel)
theorem d_MS_worthOf_38 : decode y_MS_worthOf.2.1 38 = .ok (.iaload, 1) := dc9_46 (by decide +kernel)
theorem d_MS_worthOf_39 : decode y_MS_worthOf.2.1 39 = .ok (.if_icmp .ge 102, 3) := dc9_162 (by decide +kernel)
theorem d_MS_worthOf_141 : decode y_MS_worthOf.2.1 141 = .ok (.return_, 1) := dc9_177 (by decide +kernel)
theorem d_MS_worthOf_42 : decode y_MS_worthOf.2.1 42 = .ok (.aload_n 0, 1) := dc9_42 (by decide +kernel)
theorem d_MS_worthOf_43 : decode y_MS_worthOf.2.1 43 = .ok (.getfield 84, 3) := dc9_180 (by decide +kernel)
theorem d_MS_worthOf_46 : decode y_MS_worthOf.2.1 46 = .ok (.aload_n 0, 1) := dc9_42 (by decide +kernel)
theorem d_MS_worthOf_47 : decode y_MS_worthOf.2.1 47 = .ok (.getfield 32, 3) := dc9_180 (by decide +kernel)
theorem d_MS_worthOf_50 : decode y_MS_worthOf.2.1 50 = .ok (.iload 7, 2) := dc9_21 (by decide +kernel)
theorem d_MS_worthOf_52 : decode y_MS_worthOf.2.1 52 = .ok (.iaload, 1) := dc9_46 (by decide +kernel)
theorem d_MS_worthOf_53 : decode y_MS_worthOf.2.1 53 = .ok (.i2l, 1) := dc9_133 (by decide +kernel)
theorem d_MS_worthOf_54 : decode y_MS_worthOf.2.1 54 = .ok (.aload_n 0, 1) := dc9_42 (by decide +kernel)
theorem d_MS_worthOf_55 : decode y_MS_worthOf.2.1 55 = .ok (.getfield 35, 3) := dc9_180 (by decide +kernel)
theorem d_MS_worthOf_58 : decode y_MS_worthOf.2.1 58 = .ok (.iload 7, 2) := dc9_21 (by decide +kernel)
theorem d_MS_worthOf_60 : decode y_MS_worthOf.2.1 60 = .ok (.iaload, 1) := dc9_46 (by decide +kernel)
theorem d_MS_worthOf_61 : decode y_MS_worthOf.2.1 61 = .ok (.i2l, 1) := dc9_133 (by decide +kernel)
theorem d_MS_worthOf_62 : decode y_MS_worthOf.2.1 62 = .ok (.invokevirtual 141, 3) := dc9_182 (by decide +kernel)
theorem d_MS_worthOf_65 : decode y_MS_worthOf.2.1 65 = .ok (.aload_n 0, 1) := dc9_42 (by decide +kernel)
theorem d_MS_worthOf_66 : decode y_MS_worthOf.2.1 66 = .ok (.getfield 10, 3) := dc9_180 (by decide +kernel)
theorem d_MS_worthOf_69 : decode y_MS_worthOf.2.1 69 = .ok (.aload_n 0, 1) := dc9_42 (by decide +kernel)
theorem d_MS_worthOf_70 : decode y_MS_worthOf.2.1 70 = .ok (.getfield 84, 3) := dc9_180 (by decide +kernel)
theorem d_MS_worthOf_73 : decode y_MS_worthOf.2.1 73 = .ok (.aload_n 3, 1) := dc9_45 (by decide +kernel)
theorem d_MS_worthOf_74 : decode y_MS_worthOf.2.1 74 = .ok (.iload 5, 2) := dc9_21 (by decide +kernel)
theorem d_MS_worthOf_76 : decode y_MS_worthOf.2.1 76 = .ok (.aload_n 0, 1) := dc9_42 (by decide +kernel)
theorem d_MS_worthOf_77 : decode y_MS_worthOf.2.1 77 = .ok (.getfield 29, 3) := dc9_180 (by decide +kernel)
theorem d_MS_worthOf_80 : decode y_MS_worthOf.2.1 80 = .ok (.iload 7, 2) := dc9_21 (by decide +kernel)
theorem d_MS_worthOf_82 : decode y_MS_worthOf.2.1 82 = .ok (.iaload, 1) := dc9_46 (by decide +kernel)
theorem d_MS_worthOf_83 : decode y_MS_worthOf.2.1 83 = .ok (.imul, 1) := dc9_104 (by decide +kernel)
theorem d_MS_worthOf_84 : decode y_MS_worthOf.2.1 84 = .ok (.iload 4, 2) := dc9_21 (by decide +kernel)
theorem d_MS_worthOf_86 : decode y_MS_worthOf.2.1 86 = .ok (.iadd, 1) := dc9_96 (by decide +kernel)
theorem d_MS_worthOf_87 : decode y_MS_worthOf.2.1 87 = .ok (.aaload, 1) := dc9_50 (by decide +kernel)
theorem d_MS_worthOf_88 : decode y_MS_worthOf.2.1 88 = .ok (.invokevirtual 145, 3) := dc9_182 (by decide +kernel)
theorem d_MS_worthOf_91 : decode y_MS_worthOf.2.1 91 = .ok (.aload_n 0, 1) := dc9_42 (by decide +kernel)
theorem d_MS_worthOf_92 : decode y_MS_worthOf.2.1 92 = .ok (.getfield 94, 3) := dc9_180 (by decide +kernel)
theorem d_MS_worthOf_95 : decode y_MS_worthOf.2.1 95 = .ok (.aload_n 0, 1) := dc9_42 (by decide +kernel)
theorem d_MS_worthOf_96 : decode y_MS_worthOf.2.1 96 = .ok (.getfield 10, 3) := dc9_180 (by decide +kernel)
theorem d_MS_worthOf_99 : decode y_MS_worthOf.2.1 99 = .ok (.getfield 149, 3) := dc9_180 (by decide +kernel)
theorem d_MS_worthOf_102 : decode y_MS_worthOf.2.1 102 = .ok (.invokevirtual 152, 3) := dc9_182 (by decide +kernel)
theorem d_MS_worthOf_105 : decode y_MS_worthOf.2.1 105 = .ok (.aload_n 0, 1) := dc9_42 (by decide +kernel)
theorem d_MS_worthOf_106 : decode y_MS_worthOf.2.1 106 = .ok (.getfield 10, 3) := dc9_180 (by decide +kernel)
theorem d_MS_worthOf_109 : decode y_MS_worthOf.2.1 109 = .ok (.aload_n 0, 1) := dc9_42 (by decide +kernel)
theorem d_MS_worthOf_110 : decode y_MS_worthOf.2.1 110 = .ok (.getfield 91, 3) := dc9_180 (by decide +kernel)
theorem d_MS_worthOf_113 : decode y_MS_worthOf.2.1 113 = .ok (.aload_n 0, 1) := dc9_42 (by decide +kernel)
theorem d_MS_worthOf_114 : decode y_MS_worthOf.2.1 114 = .ok (.getfield 94, 3) := dc9_180 (by decide +kernel)
theorem d_MS_worthOf_117 : decode y_MS_worthOf.2.1 117 = .ok (.iconst 0, 1) := dc9_3 (by decide +kernel)
theorem d_MS_worthOf_118 : decode y_MS_worthOf.2.1 118 = .ok (.invokevirtual 156, 3) := dc9_182 (by decide +kernel)
theorem d_MS_worthOf_121 : decode y_MS_worthOf.2.1 121 = .ok (.aload_n 0, 1) := dc9_42 (by decide +kernel)
theorem d_MS_worthOf_122 : decode y_MS_worthOf.2.1 122 = .ok (.getfield 91, 3) := dc9_180 (by decide +kernel)
theorem d_MS_worthOf_125 : decode y_MS_worthOf.2.1 125 = .ok (.aload_n 0, 1) := dc9_42 (by decide +kernel)
theorem d_MS_worthOf_126 : decode y_MS_worthOf.2.1 126 = .ok (.getfield 10, 3) := dc9_180 (by decide +kernel)
theorem d_MS_worthOf_129 : decode y_MS_worthOf.2.1 129 = .ok (.getfield 149, 3) := dc9_180 (by decide +kernel)
theorem d_MS_worthOf_132 : decode y_MS_worthOf.2.1 132 = .ok (.invokevirtual 152, 3) := dc9_182 (by decide +kernel)
theorem d_MS_worthOf_135 : decode y_MS_worthOf.2.1 135 = .ok (.iinc 7 1, 3) := by decide +kernel
theorem d_MS_worthOf_138 : decode y_MS_worthOf.2.1 138 = .ok (.goto (-110), 3) := dc9_167 (by decide +kernel)
def h_MS_worthOf_28 (G : mG) (d : Nat) (a0 : Nat) (a3 : Nat) (l4 : Int) (l5 : Int) (l6 : Int) (l7 : Int) (M : mM) (Q : mM → Prop) : Prop := mWm G y_MS_worthOf (d + 1) 28 [vr a0, vd, vd, vr a3, vi l4, vi l5, vi l6, vi l7] [] M (fun r9 M9 => r9 = none ∧ Q M9)
theorem k_MS_worthOf {G : mG} {d : Nat} {a0 : Nat} {l1 : Int} {l2 : Int} {a3 : Nat} {l4 : Int} {l5 : Int} {M : mM} {Q : mM → Prop} (hO : mOk M) (hi_l1 : i32 l1) (hi_l2 : i32 l2) (hi_l4 : i32 l4) (hi_l5 : i32 l5)
    (h : mK M a0 = 17 ∧ mK M (mR M a0 5) = 30 ∧ ((0 : Int) ≤ l1 ∧ l1 < (mN M (mR M a0 5) : Int)) ∧ mK M (mR M a0 28) = 19 ∧ Cv G y_MF_set d [vr (mR M a0 28), vl 0, vl 1] M (fun M5 => mOk M5 ∧ (mK M5 a0 = 17 ∧ mK M5 (mR M5 a0 7) = 30 ∧ ((0 : Int) ≤ (mI M (mR M a0 5) (Int.toNat l1)) + l2 ∧ (mI M (mR M a0 5) (Int.toNat l1)) + l2 < (mN M5 (mR M5 a0 7) : Int)) ∧ h_MS_worthOf_28 G d a0 a3 l4 l5 ((mI M (mR M a0 5) (Int.toNat l1)) + l2) (mI M5 (mR M5 a0 7) (Int.toNat ((mI M (mR M a0 5) (Int.toNat l1)) + l2))) M5 Q))) :
    Cv G y_MS_worthOf (d + 1) [vr a0, vi l1, vi l2, vr a3, vi l4, vi l5] M Q := by
  refine wm_open (y := y_MS_worthOf) rfl (Nat.le_of_ble_eq_true rfl) (L := [vr a0, vi l1, vi l2, vr a3, vi l4, vi l5, vd, vd]) rfl ?_
  obtain ⟨h1, h⟩ := h
  obtain ⟨h2, h⟩ := h
  obtain ⟨h3, h⟩ := h
  obtain ⟨h4, h⟩ := h
  refine wm_aload_n d_MS_worthOf_0 rfl rfl ?_
  refine gf_MS_20 rfl d_MS_worthOf_1 h1 ?_
  refine wm_iload_n d_MS_worthOf_4 rfl rfl ?_
  refine wm_iald d_MS_worthOf_5 h2 h3 ?_
  refine wm_iload_n d_MS_worthOf_6 rfl rfl ?_
  refine wm_iadd d_MS_worthOf_7 ?_
  refine wm_istore d_MS_worthOf_8 (by decide) (L' := [vr a0, vi l1, vi l2, vr a3, vi l4, vi l5, vi ((mI M (mR M a0 5) (Int.toNat l1)) + l2), vd]) rfl ?_
  refine wm_aload_n d_MS_worthOf_10 rfl rfl ?_
  refine gf_MS_91 rfl d_MS_worthOf_11 h1 ?_
  refine wm_lconst (x := 0) d_MS_worthOf_14 rfl ?_
  refine wm_lconst (x := 1) d_MS_worthOf_15 rfl ?_
  refine cf_MS_141 rfl d_MS_worthOf_16 h4 (Nat.le_of_ble_eq_true rfl) (Cv.mono h (fun M5 h => ?_))
  obtain ⟨hOM5, h⟩ := h
  obtain ⟨h8, h⟩ := h
  obtain ⟨h9, h⟩ := h
  obtain ⟨h10, h⟩ := h
  refine wm_aload_n d_MS_worthOf_19 rfl rfl ?_
  refine gf_MS_26 rfl d_MS_worthOf_20 h8 ?_
  refine wm_iload d_MS_worthOf_23 rfl ?_
  refine wm_iald d_MS_worthOf_25 h9 h10 ?_
  refine wm_istore d_MS_worthOf_26 (by decide) (L' := [vr a0, vi l1, vi l2, vr a3, vi l4, vi l5, vi ((mI M (mR M a0 5) (Int.toNat l1)) + l2), vi (mI M5 (mR M5 a0 7) (Int.toNat ((mI M (mR M a0 5) (Int.toNat l1)) + l2)))]) rfl ?_
  refine wm_less (L' := [vr a0, vd, vd, vr a3, vi l4, vi l5, vi ((mI M (mR M a0 5) (Int.toNat l1)) + l2), vi (mI M5 (mR M5 a0 7) (Int.toNat ((mI M (mR M a0 5) (Int.toNat l1)) + l2)))]) ⟨Or.inr rfl, Or.inl rfl, Or.inl rfl, Or.inr rfl, Or.inr rfl, Or.inr rfl, Or.inr rfl, Or.inr rfl, trivial⟩ ?_
  exact h
theorem k_MS_worthOf_28 {G : mG} {d : Nat} {a0 : Nat} {a3 : Nat} {l4 : Int} {l5 : Int} {l6 : Int} {l7 : Int} {M : mM} {Q : mM → Prop} (hO : mOk M) (hi_l4 : i32 l4) (hi_l5 : i32 l5) (hi_l6 : i32 l6) (hi_l7 : i32 l7)
    (h : mK M a0 = 17 ∧ mK M (mR M a0 7) = 30 ∧ ((0 : Int) ≤ l6 + 1 ∧ l6 + 1 < (mN M (mR M a0 7) : Int)) ∧ ((mI M (mR M a0 7) (Int.toNat (l6 + 1)) ≤ l7) → (Q M)) ∧ (¬ (mI M (mR M a0 7) (Int.toNat (l6 + 1)) ≤ l7) → (mK M (mR M a0 9) = 30 ∧ ((0 : Int) ≤ l7 ∧ l7 < (mN M (mR M a0 9) : Int)) ∧ mK M (mR M a0 10) = 30 ∧ ((0 : Int) ≤ l7 ∧ l7 < (mN M (mR M a0 10) : Int)) ∧ mK M (mR M a0 26) = 19 ∧ Cv G y_MF_set d [vr (mR M a0 26), vl (mI M (mR M a0 9) (Int.toNat l7)), vl (mI M (mR M a0 10) (Int.toNat l7))] M (fun M21 => mOk M21 ∧ (mK M21 a0 = 17 ∧ mK M21 (mR M21 a0 8) = 30 ∧ ((0 : Int) ≤ l7 ∧ l7 < (mN M21 (mR M21 a0 8) : Int)) ∧ mK M21 a3 = 36 ∧ ((0 : Int) ≤ (l5 * (mI M21 (mR M21 a0 8) (Int.toNat l7))) + l4 ∧ (l5 * (mI M21 (mR M21 a0 8) (Int.toNat l7))) + l4 < (mN M21 a3 : Int)) ∧ mK M21 (mR M21 a0 0) = 18 ∧ Cv G y_MU_multiply d [vr (mR M21 a0 0), vr (mR M21 a0 26), vr (mR M21 a3 (Int.toNat ((l5 * (mI M21 (mR M21 a0 8) (Int.toNat l7))) + l4)))] M21 (fun M30 => mOk M30 ∧ (mK M30 a0 = 17 ∧ mK M30 (mR M30 a0 0) = 18 ∧ mK M30 (mR M30 a0 29) = 19 ∧ Cv G y_MF_copy d [vr (mR M30 a0 29), vr (mR M30 (mR M30 a0 0) 0)] M30 (fun M36 => mOk M36 ∧ (mK M36 a0 = 17 ∧ mK M36 (mR M36 a0 0) = 18 ∧ Cv G y_MU_add d [vr (mR M36 a0 0), vr (mR M36 a0 28), vr (mR M36 a0 29), vi 0] M36 (fun M41 => mOk M41 ∧ (mK M41 a0 = 17 ∧ mK M41 (mR M41 a0 0) = 18 ∧ mK M41 (mR M41 a0 28) = 19 ∧ Cv G y_MF_copy d [vr (mR M41 a0 28), vr (mR M41 (mR M41 a0 0) 0)] M41 (fun M47 => mOk M47 ∧ (h_MS_worthOf_28 G d a0 a3 l4 l5 l6 (l7 + 1) M47 Q))))))))))))) :
    h_MS_worthOf_28 G d a0 a3 l4 l5 l6 l7 M Q := by
  unfold h_MS_worthOf_28
  obtain ⟨h11, h⟩ := h
  obtain ⟨h12, h⟩ := h
  obtain ⟨h13, h⟩ := h
  refine wm_iload d_MS_worthOf_28 rfl ?_
  refine wm_aload_n d_MS_worthOf_30 rfl rfl ?_
  refine gf_MS_26 rfl d_MS_worthOf_31 h11 ?_
  refine wm_iload d_MS_worthOf_34 rfl ?_
  refine wm_iconst d_MS_worthOf_36 ?_
  refine wm_iadd d_MS_worthOf_37 ?_
  refine wm_iald d_MS_worthOf_38 h12 h13 ?_
  refine wm_icmp_ge (tgt := 141) d_MS_worthOf_39 rfl hi_l7 (hO _ _).1 (fun c15 => ?_) (fun c15 => ?_)
  · replace h := h.1 c15
    refine wm_return d_MS_worthOf_141 rfl ?_
    exact ⟨rfl, h⟩
  · replace h := h.2 c15
    obtain ⟨h16, h⟩ := h
    obtain ⟨h17, h⟩ := h
    obtain ⟨h18, h⟩ := h
    obtain ⟨h19, h⟩ := h
    obtain ⟨h20, h⟩ := h
    refine wm_aload_n d_MS_worthOf_42 rfl rfl ?_
    refine gf_MS_84 rfl d_MS_worthOf_43 h11 ?_
    refine wm_aload_n d_MS_worthOf_46 rfl rfl ?_
    refine gf_MS_32 rfl d_MS_worthOf_47 h11 ?_
    refine wm_iload d_MS_worthOf_50 rfl ?_
    refine wm_iald d_MS_worthOf_52 h16 h17 ?_
    refine wm_i2l d_MS_worthOf_53 (hO _ _).1 ?_
    refine wm_aload_n d_MS_worthOf_54 rfl rfl ?_
    refine gf_MS_35 rfl d_MS_worthOf_55 h11 ?_
    refine wm_iload d_MS_worthOf_58 rfl ?_
    refine wm_iald d_MS_worthOf_60 h18 h19 ?_
    refine wm_i2l d_MS_worthOf_61 (hO _ _).1 ?_
    refine cf_MS_141 rfl d_MS_worthOf_62 h20 (Nat.le_of_ble_eq_true rfl) (Cv.mono h (fun M21 h => ?_))
    obtain ⟨hOM21, h⟩ := h
    obtain ⟨h24, h⟩ := h
    obtain ⟨h25, h⟩ := h
    obtain ⟨h26, h⟩ := h
    obtain ⟨h27, h⟩ := h
    obtain ⟨h28, h⟩ := h
    obtain ⟨h29, h⟩ := h
    refine wm_aload_n d_MS_worthOf_65 rfl rfl ?_
    refine gf_MS_10 rfl d_MS_worthOf_66 h24 ?_
    refine wm_aload_n d_MS_worthOf_69 rfl rfl ?_
    refine gf_MS_84 rfl d_MS_worthOf_70 h24 ?_
    refine wm_aload_n d_MS_worthOf_73 rfl rfl ?_
    refine wm_iload d_MS_worthOf_74 rfl ?_
    refine wm_aload_n d_MS_worthOf_76 rfl rfl ?_
    refine gf_MS_29 rfl d_MS_worthOf_77 h24 ?_
    refine wm_iload d_MS_worthOf_80 rfl ?_
    refine wm_iald d_MS_worthOf_82 h25 h26 ?_
    refine wm_imul d_MS_worthOf_83 ?_
    refine wm_iload d_MS_worthOf_84 rfl ?_
    refine wm_iadd d_MS_worthOf_86 ?_
    refine wm_aald6 d_MS_worthOf_87 h27 h28 ?_
    refine cf_MS_145 rfl d_MS_worthOf_88 h29 (Nat.le_of_ble_eq_true rfl) (Cv.mono h (fun M30 h => ?_))
    obtain ⟨hOM30, h⟩ := h
    obtain ⟨h33, h⟩ := h
    obtain ⟨h34, h⟩ := h
    obtain ⟨h35, h⟩ := h
    refine wm_aload_n d_MS_worthOf_91 rfl rfl ?_
    refine gf_MS_94 rfl d_MS_worthOf_92 h33 ?_
    refine wm_aload_n d_MS_worthOf_95 rfl rfl ?_
    refine gf_MS_10 rfl d_MS_worthOf_96 h33 ?_
    refine gf_MS_149 rfl d_MS_worthOf_99 h34 ?_
    refine cf_MS_152 rfl d_MS_worthOf_102 h35 (Nat.le_of_ble_eq_true rfl) (Cv.mono h (fun M36 h => ?_))
    obtain ⟨hOM36, h⟩ := h
    obtain ⟨h39, h⟩ := h
    obtain ⟨h40, h⟩ := h
    refine wm_aload_n d_MS_worthOf_105 rfl rfl ?_
    refine gf_MS_10 rfl d_MS_worthOf_106 h39 ?_
    refine wm_aload_n d_MS_worthOf_109 rfl rfl ?_
    refine gf_MS_91 rfl d_MS_worthOf_110 h39 ?_
    refine wm_aload_n d_MS_worthOf_113 rfl rfl ?_
    refine gf_MS_94 rfl d_MS_worthOf_114 h39 ?_
    refine wm_iconst d_MS_worthOf_117 ?_
    refine cf_MS_156 rfl d_MS_worthOf_118 h40 (Nat.le_of_ble_eq_true rfl) (Cv.mono h (fun M41 h => ?_))
    obtain ⟨hOM41, h⟩ := h
    obtain ⟨h44, h⟩ := h
    obtain ⟨h45, h⟩ := h
    obtain ⟨h46, h⟩ := h
    refine wm_aload_n d_MS_worthOf_121 rfl rfl ?_
    refine gf_MS_91 rfl d_MS_worthOf_122 h44 ?_
    refine wm_aload_n d_MS_worthOf_125 rfl rfl ?_
    refine gf_MS_10 rfl d_MS_worthOf_126 h44 ?_
    refine gf_MS_149 rfl d_MS_worthOf_129 h45 ?_
    refine cf_MS_152 rfl d_MS_worthOf_132 h46 (Nat.le_of_ble_eq_true rfl) (Cv.mono h (fun M47 h => ?_))
    obtain ⟨hOM47, h⟩ := h
    refine wm_iinc d_MS_worthOf_135 (by decide) rfl (L' := [vr a0, vd, vd, vr a3, vi l4, vi l5, vi l6, vi (l7 + 1)]) rfl ?_
    refine wm_goto (tgt := 28) d_MS_worthOf_138 rfl ?_
    exact h
theorem d_MS_cell_0 : decode y_MS_cell.2.1 0 = .ok (.aload_n 0, 1) := dc9_42 (by decide +kernel)
theorem d_MS_cell_1 : decode y_MS_cell.2.1 1 = .ok (.getfield 78, 3) := dc9_180 (by decide +kernel)
theorem d_MS_cell_4 : decode y_MS_cell.2.1 4 = .ok (.bipush 41, 2) := dc9_16 (by decide +kernel)
theorem d_MS_cell_6 : decode y_MS_cell.2.1 6 = .ok (.iload_n 1, 1) := dc9_27 (by decide +kernel)
theorem d_MS_cell_7 : decode y_MS_cell.2.1 7 = .ok (.imul, 1) := dc9_104 (by decide +kernel)
theorem d_MS_cell_8 : decode y_MS_cell.2.1 8 = .ok (.iload_n 2, 1) := dc9_28 (by decide +kernel)
theorem d_MS_cell_9 : decode y_MS_cell.2.1 9 = .ok (.iadd, 1) := dc9_96 (by decide +kernel)
theorem d_MS_cell_10 : decode y_MS_cell.2.1 10 = .ok (.aaload, 1) := dc9_50 (by decide +kernel)
theorem d_MS_cell_11 : decode y_MS_cell.2.1 11 = .ok (.areturn, 1) := dc9_176 (by decide +kernel)
theorem k_MS_cell {G : mG} {d : Nat} {a0 : Nat} {l1 : Int} {l2 : Int} {M : mM} {Q : Nat → mM → Prop} (hO : mOk M) (hi_l1 : i32 l1) (hi_l2 : i32 l2)
    (h : mK M a0 = 17 ∧ mK M (mR M a0 25) = 36 ∧ ((0 : Int) ≤ (41 * l1) + l2 ∧ (41 * l1) + l2 < (mN M (mR M a0 25) : Int)) ∧ Q (mR M (mR M a0 25) (Int.toNat ((41 * l1) + l2))) M) :
    Cr G y_MS_cell d [vr a0, vi l1, vi l2] M Q := by
  refine wm_open (y := y_MS_cell) rfl (Nat.le_of_ble_eq_true rfl) (L := [vr a0, vi l1, vi l2]) rfl ?_
  obtain ⟨h1, h⟩ := h
  obtain ⟨h2, h⟩ := h
  obtain ⟨h3, h⟩ := h
  refine wm_aload_n d_MS_cell_0 rfl rfl ?_
  refine gf_MS_78 rfl d_MS_cell_1 h1 ?_
  refine wm_bipush d_MS_cell_4 (by decide) ?_
  refine wm_iload_n d_MS_cell_6 rfl rfl ?_
  refine wm_imul d_MS_cell_7 ?_
  refine wm_iload_n d_MS_cell_8 rfl rfl ?_
  refine wm_iadd d_MS_cell_9 ?_
  refine wm_aald6 d_MS_cell_10 h2 h3 ?_
  refine wm_areturn d_MS_cell_11 rfl (Or.inl ⟨_, rfl⟩) ?_
  exact ⟨_, rfl, h⟩
theorem d_MS_writeRows_0 : decode y_MS_writeRows.2.1 0 = .ok (.iconst 0, 1) := dc9_3 (by decide +kernel)
theorem d_MS_writeRows_1 : decode y_MS_writeRows.2.1 1 = .ok (.istore_n 1, 1) := dc9_60 (by decide +kernel)
theorem d_MS_writeRows_2 : decode y_MS_writeRows.2.1 2 = .ok (.iload_n 1, 1) := dc9_27 (by decide +kernel)
theorem d_MS_writeRows_3 : decode y_MS_writeRows.2.1 3 = .ok (.aload_n 0, 1) := dc9_42 (by decide +kernel)
theorem d_MS_writeRows_4 : decode y_MS_writeRows.2.1 4 = .ok (.getfield 160, 3) := dc9_180 (by decide +kernel)
theorem d_MS_writeRows_7 : decode y_MS_writeRows.2.1 7 = .ok (.if_icmp .ge 212, 3) := dc9_162 (by decide +kernel)
theorem d_MS_writeRows_219 : decode y_MS_writeRows.2.1 219 = .ok (.return_, 1) := dc9_177 (by decide +kernel)
theorem d_MS_writeRows_10 : decode y_MS_writeRows.2.1 10 = .ok (.iconst 0, 1) := dc9_3 (by decide +kernel)
theorem d_MS_writeRows_11 : decode y_MS_writeRows.2.1 11 = .ok (.istore_n 2, 1) := dc9_61 (by decide +kernel)
theorem d_MS_writeRows_12 : decode y_MS_writeRows.2.1 12 = .ok (.iload_n 2, 1) := dc9_28 (by decide +kernel)
theorem d_MS_writeRows_13 : decode y_MS_writeRows.2.1 13 = .ok (.aload_n 0, 1) := dc9_42 (by decide +kernel)
theorem d_MS_writeRows_14 : decode y_MS_writeRows.2.1 14 = .ok (.getfield 160, 3) := dc9_180 (by decide +kernel)
theorem d_MS_writeRows_17 : decode y_MS_writeRows.2.1 17 = .ok (.if_icmp .gt 29, 3) := dc9_163 (by decide +kernel)
theorem d_MS_writeRows_46 : decode y_MS_writeRows.2.1 46 = .ok (.aload_n 0, 1) := dc9_42 (by decide +kernel)
theorem d_MS_writeRows_47 : decode y_MS_writeRows.2.1 47 = .ok (.getfield 20, 3) := dc9_180 (by decide +kernel)
theorem d_MS_writeRows_50 : decode y_MS_writeRows.2.1 50 = .ok (.aload_n 0, 1) := dc9_42 (by decide +kernel)
theorem d_MS_writeRows_51 : decode y_MS_writeRows.2.1 51 = .ok (.getfield 72, 3) := dc9_180 (by decide +kernel)
theorem d_MS_writeRows_54 : decode y_MS_writeRows.2.1 54 = .ok (.iload_n 1, 1) := dc9_27 (by decide +kernel)
theorem d_MS_writeRows_55 : decode y_MS_writeRows.2.1 55 = .ok (.iaload, 1) := dc9_46 (by decide +kernel)
theorem d_MS_writeRows_56 : decode y_MS_writeRows.2.1 56 = .ok (.iaload, 1) := dc9_46 (by decide +kernel)
theorem d_MS_writeRows_57 : decode y_MS_writeRows.2.1 57 = .ok (.aload_n 0, 1) := dc9_42 (by decide +kernel)
theorem d_MS_writeRows_58 : decode y_MS_writeRows.2.1 58 = .ok (.getfield 60, 3) := dc9_180 (by decide +kernel)
theorem d_MS_writeRows_61 : decode y_MS_writeRows.2.1 61 = .ok (.aload_n 0, 1) := dc9_42 (by decide +kernel)
theorem d_MS_writeRows_62 : decode y_MS_writeRows.2.1 62 = .ok (.getfield 72, 3) := dc9_180 (by decide +kernel)
theorem d_MS_writeRows_65 : decode y_MS_writeRows.2.1 65 = .ok (.iload_n 1, 1) := dc9_27 (by decide +kernel)
theorem d_MS_writeRows_66 : decode y_MS_writeRows.2.1 66 = .ok (.iaload, 1) := dc9_46 (by decide +kernel)
theorem d_MS_writeRows_67 : decode y_MS_writeRows.2.1 67 = .ok (.iaload, 1) := dc9_46 (by decide +kernel)
theorem d_MS_writeRows_68 : decode y_MS_writeRows.2.1 68 = .ok (.iadd, 1) := dc9_96 (by decide +kernel)
theorem d_MS_writeRows_69 : decode y_MS_writeRows.2.1 69 = .ok (.istore_n 2, 1) := dc9_61 (by decide +kernel)
theorem d_MS_writeRows_70 : decode y_MS_writeRows.2.1 70 = .ok (.aload_n 0, 1) := dc9_42 (by decide +kernel)
theorem d_MS_writeRows_71 : decode y_MS_writeRows.2.1 71 = .ok (.getfield 26, 3) := dc9_180 (by decide +kernel)
theorem d_MS_writeRows_74 : decode y_MS_writeRows.2.1 74 = .ok (.iload_n 2, 1) := dc9_28 (by decide +kernel)
theorem d_MS_writeRows_75 : decode y_MS_writeRows.2.1 75 = .ok (.iaload, 1) := dc9_46 (by decide +kernel)
theorem d_MS_writeRows_76 : decode y_MS_writeRows.2.1 76 = .ok (.istore_n 3, 1) := dc9_62 (by decide +kernel)
theorem d_MS_writeRows_20 : decode y_MS_writeRows.2.1 20 = .ok (.aload_n 0, 1) := dc9_42 (by decide +kernel)
theorem d_MS_writeRows_21 : decode y_MS_writeRows.2.1 21 = .ok (.iload_n 1, 1) := dc9_27 (by decide +kernel)
theorem d_MS_writeRows_22 : decode y_MS_writeRows.2.1 22 = .ok (.iload_n 2, 1) := dc9_28 (by decide +kernel)
theorem d_MS_writeRows_23 : decode y_MS_writeRows.2.1 23 = .ok (.invokevirtual 163, 3) := dc9_182 (by decide +kernel)
theorem d_MS_writeRows_26 : decode y_MS_writeRows.2.1 26 = .ok (.iload_n 1, 1) := dc9_27 (by decide +kernel)
theorem d_MS_writeRows_27 : decode y_MS_writeRows.2.1 27 = .ok (.iload_n 2, 1) := dc9_28 (by decide +kernel)
theorem d_MS_writeRows_28 : decode y_MS_writeRows.2.1 28 = .ok (.if_icmp .ne 7, 3) := dc9_160 (by decide +kernel)
theorem d_MS_writeRows_31 : decode y_MS_writeRows.2.1 31 = .ok (.lconst 1, 1) := dc9_10 (by decide +kernel)
theorem d_MS_writeRows_32 : decode y_MS_writeRows.2.1 32 = .ok (.goto 4, 3) := dc9_167 (by decide +kernel)
theorem d_MS_writeRows_35 : decode y_MS_writeRows.2.1 35 = .ok (.lconst 0, 1) := dc9_9 (by decide +kernel)
theorem d_MS_writeRows_36 : decode y_MS_writeRows.2.1 36 = .ok (.lconst 1, 1) := dc9_10 (by decide +kernel)
theorem d_MS_writeRows_37 : decode y_MS_writeRows.2.1 37 = .ok (.invokevirtual 141, 3) := dc9_182 (by decide +kernel)
theorem d_MS_writeRows_40 : decode y_MS_writeRows.2.1 40 = .ok (.iinc 2 1, 3) := by decide +kernel
theorem d_MS_writeRows_43 : decode y_MS_writeRows.2.1 43 = .ok (.goto (-31), 3) := dc9_167 (by decide +kernel)
theorem d_MS_writeRows_77 : decode y_MS_writeRows.2.1 77 = .ok (.iload_n 3, 1) := dc9_29 (by decide +kernel)
theorem d_MS_writeRows_78 : decode y_MS_writeRows.2.1 78 = .ok (.aload_n 0, 1) := dc9_42 (by decide +kernel)
theorem d_MS_writeRows_79 : decode y_MS_writeRows.2.1 79 = .ok (.getfield 26, 3) := dc9_180 (by decide +kernel)
theorem d_MS_writeRows_82 : decode y_MS_writeRows.2.1 82 = .ok (.iload_n 2, 1) := dc9_28 (by decide +kernel)
theorem d_MS_writeRows_83 : decode y_MS_writeRows.2.1 83 = .ok (.iconst 1, 1) := dc9_4 (by decide +kernel)
theorem d_MS_writeRows_84 : decode y_MS_writeRows.2.1 84 = .ok (.iadd, 1) := dc9_96 (by decide +kernel)
theorem d_MS_writeRows_85 : decode y_MS_writeRows.2.1 85 = .ok (.iaload, 1) := dc9_46 (by decide +kernel)
theorem d_MS_writeRows_86 : decode y_MS_writeRows.2.1 86 = .ok (.if_icmp .ge 127, 3) := dc9_162 (by decide +kernel)
theorem d_MS_writeRows_213 : decode y_MS_writeRows.2.1 213 = .ok (.iinc 1 1, 3) := by decide +kernel
theorem d_MS_writeRows_216 : decode y_MS_writeRows.2.1 216 = .ok (.goto (-214), 3) := dc9_167 (by decide +kernel)
theorem d_MS_writeRows_89 : decode y_MS_writeRows.2.1 89 = .ok (.aload_n 0, 1) := dc9_42 (by decide +kernel)
theorem d_MS_writeRows_90 : decode y_MS_writeRows.2.1 90 = .ok (.getfield 29, 3) := dc9_180 (by decide +kernel)
theorem d_MS_writeRows_93 : decode y_MS_writeRows.2.1 93 = .ok (.iload_n 3, 1) := dc9_29 (by decide +kernel)
theorem d_MS_writeRows_94 : decode y_MS_writeRows.2.1 94 = .ok (.iaload, 1) := dc9_46 (by decide +kernel)
theorem d_MS_writeRows_95 : decode y_MS_writeRows.2.1 95 = .ok (.istore 4, 2) := dc9_54 (by decide +kernel)
theorem d_MS_writeRows_97 : decode y_MS_writeRows.2.1 97 = .ok (.aload_n 0, 1) := dc9_42 (by decide +kernel)
theorem d_MS_writeRows_98 : decode y_MS_writeRows.2.1 98 = .ok (.getfield 63, 3) := dc9_180 (by decide +kernel)
theorem d_MS_writeRows_101 : decode y_MS_writeRows.2.1 101 = .ok (.iload 4, 2) := dc9_21 (by decide +kernel)
theorem d_MS_writeRows_103 : decode y_MS_writeRows.2.1 103 = .ok (.baload, 1) := dc9_51 (by decide +kernel)
theorem d_MS_writeRows_104 : decode y_MS_writeRows.2.1 104 = .ok (.ifCond .eq 103, 3) := dc9_153 (by decide +kernel)
theorem d_MS_writeRows_107 : decode y_MS_writeRows.2.1 107 = .ok (.aload_n 0, 1) := dc9_42 (by decide +kernel)
theorem d_MS_writeRows_108 : decode y_MS_writeRows.2.1 108 = .ok (.getfield 16, 3) := dc9_180 (by decide +kernel)
theorem d_MS_writeRows_111 : decode y_MS_writeRows.2.1 111 = .ok (.iload 4, 2) := dc9_21 (by decide +kernel)
theorem d_MS_writeRows_113 : decode y_MS_writeRows.2.1 113 = .ok (.iaload, 1) := dc9_46 (by decide +kernel)
theorem d_MS_writeRows_114 : decode y_MS_writeRows.2.1 114 = .ok (.iconst 3, 1) := dc9_6 (by decide +kernel)
theorem d_MS_writeRows_115 : decode y_MS_writeRows.2.1 115 = .ok (.if_icmp .ne 7, 3) := dc9_160 (by decide +kernel)
theorem d_MS_writeRows_118 : decode y_MS_writeRows.2.1 118 = .ok (.iconst 1, 1) := dc9_4 (by decide +kernel)
theorem d_MS_writeRows_119 : decode y_MS_writeRows.2.1 119 = .ok (.goto 4, 3) := dc9_167 (by decide +kernel)
theorem d_MS_writeRows_123 : decode y_MS_writeRows.2.1 123 = .ok (.istore 5, 2) := dc9_54 (by decide +kernel)
theorem d_MS_writeRows_125 : decode y_MS_writeRows.2.1 125 = .ok (.aload_n 0, 1) := dc9_42 (by decide +kernel)
theorem d_MS_writeRows_126 : decode y_MS_writeRows.2.1 126 = .ok (.iload_n 1, 1) := dc9_27 (by decide +kernel)
theorem d_MS_writeRows_127 : decode y_MS_writeRows.2.1 127 = .ok (.iload 5, 2) := dc9_21 (by decide +kernel)
theorem d_MS_writeRows_122 : decode y_MS_writeRows.2.1 122 = .ok (.iconst 0, 1) := dc9_3 (by decide +kernel)
theorem d_MS_writeRows_129 : decode y_MS_writeRows.2.1 129 = .ok (.ifCond .eq 10, 3) := dc9_153 (by decide +kernel)
theorem d_MS_writeRows_139 : decode y_MS_writeRows.2.1 139 = .ok (.aload_n 0, 1) := dc9_42 (by decide +kernel)
theorem d_MS_writeRows_140 : decode y_MS_writeRows.2.1 140 = .ok (.getfield 75, 3) := dc9_180 (by decide +kernel)
theorem d_MS_writeRows_143 : decode y_MS_writeRows.2.1 143 = .ok (.iload 4, 2) := dc9_21 (by decide +kernel)
theorem d_MS_writeRows_145 : decode y_MS_writeRows.2.1 145 = .ok (.iaload, 1) := dc9_46 (by decide +kernel)
theorem d_MS_writeRows_132 : decode y_MS_writeRows.2.1 132 = .ok (.aload_n 0, 1) := dc9_42 (by decide +kernel)
theorem d_MS_writeRows_133 : decode y_MS_writeRows.2.1 133 = .ok (.getfield 160, 3) := dc9_180 (by decide +kernel)
theorem d_MS_writeRows_136 : decode y_MS_writeRows.2.1 136 = .ok (.goto 10, 3) := dc9_167 (by decide +kernel)
theorem d_MS_writeRows_146 : decode y_MS_writeRows.2.1 146 = .ok (.invokevirtual 163, 3) := dc9_182 (by decide +kernel)
theorem d_MS_writeRows_149 : decode y_MS_writeRows.2.1 149 = .ok (.astore 6, 2) := dc9_58 (by decide +kernel)
theorem d_MS_writeRows_151 : decode y_MS_writeRows.2.1 151 = .ok (.aload_n 0, 1) := dc9_42 (by decide +kernel)
theorem d_MS_writeRows_152 : decode y_MS_writeRows.2.1 152 = .ok (.getfield 84, 3) := dc9_180 (by decide +kernel)
theorem d_MS_writeRows_155 : decode y_MS_writeRows.2.1 155 = .ok (.aload_n 0, 1) := dc9_42 (by decide +kernel)
theorem d_MS_writeRows_156 : decode y_MS_writeRows.2.1 156 = .ok (.getfield 32, 3) := dc9_180 (by decide +kernel)
theorem d_MS_writeRows_159 : decode y_MS_writeRows.2.1 159 = .ok (.iload_n 3, 1) := dc9_29 (by decide +kernel)
theorem d_MS_writeRows_160 : decode y_MS_writeRows.2.1 160 = .ok (.iaload, 1) := dc9_46 (by decide +kernel)
theorem d_MS_writeRows_161 : decode y_MS_writeRows.2.1 161 = .ok (.i2l, 1) := dc9_133 (by decide +kernel)
theorem d_MS_writeRows_162 : decode y_MS_writeRows.2.1 162 = .ok (.aload_n 0, 1) := dc9_42 (by decide +kernel)
theorem d_MS_writeRows_163 : decode y_MS_writeRows.2.1 163 = .ok (.getfield 35, 3) := dc9_180 (by decide +kernel)
theorem d_MS_writeRows_166 : decode y_MS_writeRows.2.1 166 = .ok (.iload_n 3, 1) := dc9_29 (by decide +kernel)
theorem d_MS_writeRows_167 : decode y_MS_writeRows.2.1 167 = .ok (.iaload, 1) := dc9_46 (by decide +kernel)
theorem d_MS_writeRows_168 : decode y_MS_writeRows.2.1 168 = .ok (.i2l, 1) := dc9_133 (by decide +kernel)
theorem d_MS_writeRows_169 : decode y_MS_writeRows.2.1 169 = .ok (.invokevirtual 141, 3) := dc9_182 (by decide +kernel)
theorem d_MS_writeRows_172 : decode y_MS_writeRows.2.1 172 = .ok (.aload_n 0, 1) := dc9_42 (by decide +kernel)
theorem d_MS_writeRows_173 : decode y_MS_writeRows.2.1 173 = .ok (.getfield 10, 3) := dc9_180 (by decide +kernel)
theorem d_MS_writeRows_176 : decode y_MS_writeRows.2.1 176 = .ok (.aload 6, 2) := dc9_25 (by decide +kernel)
theorem d_MS_writeRows_178 : decode y_MS_writeRows.2.1 178 = .ok (.aload_n 0, 1) := dc9_42 (by decide +kernel)
theorem d_MS_writeRows_179 : decode y_MS_writeRows.2.1 179 = .ok (.getfield 84, 3) := dc9_180 (by decide +kernel)
theorem d_MS_writeRows_182 : decode y_MS_writeRows.2.1 182 = .ok (.iload 5, 2) := dc9_21 (by decide +kernel)
theorem d_MS_writeRows_184 : decode y_MS_writeRows.2.1 184 = .ok (.ifCond .ne 7, 3) := dc9_154 (by decide +kernel)
theorem d_MS_writeRows_187 : decode y_MS_writeRows.2.1 187 = .ok (.iconst 1, 1) := dc9_4 (by decide +kernel)
theorem d_MS_writeRows_188 : decode y_MS_writeRows.2.1 188 = .ok (.goto 4, 3) := dc9_167 (by decide +kernel)
theorem d_MS_writeRows_191 : decode y_MS_writeRows.2.1 191 = .ok (.iconst 0, 1) := dc9_3 (by decide +kernel)
theorem d_MS_writeRows_192 : decode y_MS_writeRows.2.1 192 = .ok (.invokevirtual 156, 3) := dc9_182 (by decide +kernel)
theorem d_MS_writeRows_195 : decode y_MS_writeRows.2.1 195 = .ok (.aload 6, 2) := dc9_25 (by decide +kernel)
theorem d_MS_writeRows_197 : decode y_MS_writeRows.2.1 197 = .ok (.aload_n 0, 1) := dc9_42 (by decide +kernel)
theorem d_MS_writeRows_198 : decode y_MS_writeRows.2.1 198 = .ok (.getfield 10, 3) := dc9_180 (by decide +kernel)
theorem d_MS_writeRows_201 : decode y_MS_writeRows.2.1 201 = .ok (.getfield 149, 3) := dc9_180 (by decide +kernel)
theorem d_MS_writeRows_204 : decode y_MS_writeRows.2.1 204 = .ok (.invokevirtual 152, 3) := dc9_182 (by decide +kernel)
theorem d_MS_writeRows_207 : decode y_MS_writeRows.2.1 207 = .ok (.iinc 3 1, 3) := by decide +kernel
theorem d_MS_writeRows_210 : decode y_MS_writeRows.2.1 210 = .ok (.goto (-133), 3) := dc9_167 (by decide +kernel)
def h_MS_writeRows_2 (G : mG) (d : Nat) (a0 : Nat) (l1 : Int) (M : mM) (Q : mM → Prop) : Prop := mWm G y_MS_writeRows (d + 1) 2 [vr a0, vi l1, vd, vd, vd, vd, vd] [] M (fun r9 M9 => r9 = none ∧ Q M9)
def h_MS_writeRows_12 (G : mG) (d : Nat) (a0 : Nat) (l1 : Int) (l2 : Int) (M : mM) (Q : mM → Prop) : Prop := mWm G y_MS_writeRows (d + 1) 12 [vr a0, vi l1, vi l2, vd, vd, vd, vd] [] M (fun r9 M9 => r9 = none ∧ Q M9)
def h_MS_writeRows_77 (G : mG) (d : Nat) (a0 : Nat) (l1 : Int) (l2 : Int) (l3 : Int) (M : mM) (Q : mM → Prop) : Prop := mWm G y_MS_writeRows (d + 1) 77 [vr a0, vi l1, vi l2, vi l3, vd, vd, vd] [] M (fun r9 M9 => r9 = none ∧ Q M9)
def h_MS_writeRows_207 (G : mG) (d : Nat) (a0 : Nat) (l1 : Int) (l2 : Int) (l3 : Int) (M : mM) (Q : mM → Prop) : Prop := mWm G y_MS_writeRows (d + 1) 207 [vr a0, vi l1, vi l2, vi l3, vd, vd, vd] [] M (fun r9 M9 => r9 = none ∧ Q M9)
theorem k_MS_writeRows {G : mG} {d : Nat} {a0 : Nat} {M : mM} {Q : mM → Prop} (hO : mOk M)
    (h : h_MS_writeRows_2 G d a0 0 M Q) :
    Cv G y_MS_writeRows (d + 1) [vr a0] M Q := by
  refine wm_open (y := y_MS_writeRows) rfl (Nat.le_of_ble_eq_true rfl) (L := [vr a0, vd, vd, vd, vd, vd, vd]) rfl ?_
  refine wm_iconst d_MS_writeRows_0 ?_
  refine wm_istore_n d_MS_writeRows_1 rfl (by decide) (L' := [vr a0, vi 0, vd, vd, vd, vd, vd]) rfl ?_
  exact h
theorem k_MS_writeRows_2 {G : mG} {d : Nat} {a0 : Nat} {l1 : Int} {M : mM} {Q : mM → Prop} (hO : mOk M) (hi_l1 : i32 l1)
    (h : mK M a0 = 17 ∧ ((mI M a0 24 ≤ l1) → (Q M)) ∧ (¬ (mI M a0 24 ≤ l1) → (h_MS_writeRows_12 G d a0 l1 0 M Q))) :
    h_MS_writeRows_2 G d a0 l1 M Q := by
  unfold h_MS_writeRows_2
  obtain ⟨h1, h⟩ := h
  refine wm_iload_n d_MS_writeRows_2 rfl rfl ?_
  refine wm_aload_n d_MS_writeRows_3 rfl rfl ?_
  refine gf_MS_160 rfl d_MS_writeRows_4 h1 ?_
  refine wm_icmp_ge (tgt := 219) d_MS_writeRows_7 rfl hi_l1 (hO _ _).1 (fun c3 => ?_) (fun c3 => ?_)
  · replace h := h.1 c3
    refine wm_return d_MS_writeRows_219 rfl ?_
    exact ⟨rfl, h⟩
  · replace h := h.2 c3
    refine wm_iconst d_MS_writeRows_10 ?_
    refine wm_istore_n d_MS_writeRows_11 rfl (by decide) (L' := [vr a0, vi l1, vi 0, vd, vd, vd, vd]) rfl ?_
    exact h
theorem k_MS_writeRows_12 {G : mG} {d : Nat} {a0 : Nat} {l1 : Int} {l2 : Int} {M : mM} {Q : mM → Prop} (hO : mOk M) (hi_l1 : i32 l1) (hi_l2 : i32 l2)
    (h : mK M a0 = 17 ∧ ((mI M a0 24 < l2) → (mK M (mR M a0 22) = 30 ∧ ((0 : Int) ≤ l1 ∧ l1 < (mN M (mR M a0 22) : Int)) ∧ mK M (mR M a0 5) = 30 ∧ ((0 : Int) ≤ mI M (mR M a0 22) (Int.toNat l1) ∧ mI M (mR M a0 22) (Int.toNat l1) < (mN M (mR M a0 5) : Int)) ∧ ((0 : Int) ≤ l1 ∧ l1 < (mN M (mR M a0 22) : Int)) ∧ mK M (mR M a0 18) = 30 ∧ ((0 : Int) ≤ mI M (mR M a0 22) (Int.toNat l1) ∧ mI M (mR M a0 22) (Int.toNat l1) < (mN M (mR M a0 18) : Int)) ∧ mK M (mR M a0 7) = 30 ∧ ((0 : Int) ≤ (mI M (mR M a0 5) (Int.toNat (mI M (mR M a0 22) (Int.toNat l1)))) + (mI M (mR M a0 18) (Int.toNat (mI M (mR M a0 22) (Int.toNat l1)))) ∧ (mI M (mR M a0 5) (Int.toNat (mI M (mR M a0 22) (Int.toNat l1)))) + (mI M (mR M a0 18) (Int.toNat (mI M (mR M a0 22) (Int.toNat l1)))) < (mN M (mR M a0 7) : Int)) ∧ h_MS_writeRows_77 G d a0 l1 ((mI M (mR M a0 5) (Int.toNat (mI M (mR M a0 22) (Int.toNat l1)))) + (mI M (mR M a0 18) (Int.toNat (mI M (mR M a0 22) (Int.toNat l1))))) (mI M (mR M a0 7) (Int.toNat ((mI M (mR M a0 5) (Int.toNat (mI M (mR M a0 22) (Int.toNat l1)))) + (mI M (mR M a0 18) (Int.toNat (mI M (mR M a0 22) (Int.toNat l1))))))) M Q)) ∧ (¬ (mI M a0 24 < l2) → (Cr G y_MS_cell d [vr a0, vi l1, vi l2] M (fun x26 M25 => mOk M25 ∧ (∀ v29 : Int, v29 = (if (l1 = l2) then 1 else 0) → mK M25 x26 = 19 ∧ Cv G y_MF_set d [vr x26, vl v29, vl 1] M25 (fun M34 => mOk M34 ∧ (h_MS_writeRows_12 G d a0 l1 (l2 + 1) M34 Q))))))) :
    h_MS_writeRows_12 G d a0 l1 l2 M Q := by
  unfold h_MS_writeRows_12
  obtain ⟨h4, h⟩ := h
  refine wm_iload_n d_MS_writeRows_12 rfl rfl ?_
  refine wm_aload_n d_MS_writeRows_13 rfl rfl ?_
  refine gf_MS_160 rfl d_MS_writeRows_14 h4 ?_
  refine wm_icmp_gt (tgt := 46) d_MS_writeRows_17 rfl hi_l2 (hO _ _).1 (fun c15 => ?_) (fun c15 => ?_)
  · replace h := h.1 c15
    obtain ⟨h16, h⟩ := h
    obtain ⟨h17, h⟩ := h
    obtain ⟨h18, h⟩ := h
    obtain ⟨h19, h⟩ := h
    obtain ⟨h20, h⟩ := h
    obtain ⟨h21, h⟩ := h
    obtain ⟨h22, h⟩ := h
    obtain ⟨h23, h⟩ := h
    obtain ⟨h24, h⟩ := h
    refine wm_aload_n d_MS_writeRows_46 rfl rfl ?_
    refine gf_MS_20 rfl d_MS_writeRows_47 h4 ?_
    refine wm_aload_n d_MS_writeRows_50 rfl rfl ?_
    refine gf_MS_72 rfl d_MS_writeRows_51 h4 ?_
    refine wm_iload_n d_MS_writeRows_54 rfl rfl ?_
    refine wm_iald d_MS_writeRows_55 h16 h17 ?_
    refine wm_iald d_MS_writeRows_56 h18 h19 ?_
    refine wm_aload_n d_MS_writeRows_57 rfl rfl ?_
    refine gf_MS_60 rfl d_MS_writeRows_58 h4 ?_
    refine wm_aload_n d_MS_writeRows_61 rfl rfl ?_
    refine gf_MS_72 rfl d_MS_writeRows_62 h4 ?_
    refine wm_iload_n d_MS_writeRows_65 rfl rfl ?_
    refine wm_iald d_MS_writeRows_66 h16 h20 ?_
    refine wm_iald d_MS_writeRows_67 h21 h22 ?_
    refine wm_iadd d_MS_writeRows_68 ?_
    refine wm_istore_n d_MS_writeRows_69 rfl (by decide) (L' := [vr a0, vi l1, vi ((mI M (mR M a0 5) (Int.toNat (mI M (mR M a0 22) (Int.toNat l1)))) + (mI M (mR M a0 18) (Int.toNat (mI M (mR M a0 22) (Int.toNat l1))))), vd, vd, vd, vd]) rfl ?_
    refine wm_aload_n d_MS_writeRows_70 rfl rfl ?_
    refine gf_MS_26 rfl d_MS_writeRows_71 h4 ?_
    refine wm_iload_n d_MS_writeRows_74 rfl rfl ?_
    refine wm_iald d_MS_writeRows_75 h23 h24 ?_
    refine wm_istore_n d_MS_writeRows_76 rfl (by decide) (L' := [vr a0, vi l1, vi ((mI M (mR M a0 5) (Int.toNat (mI M (mR M a0 22) (Int.toNat l1)))) + (mI M (mR M a0 18) (Int.toNat (mI M (mR M a0 22) (Int.toNat l1))))), vi (mI M (mR M a0 7) (Int.toNat ((mI M (mR M a0 5) (Int.toNat (mI M (mR M a0 22) (Int.toNat l1)))) + (mI M (mR M a0 18) (Int.toNat (mI M (mR M a0 22) (Int.toNat l1))))))), vd, vd, vd]) rfl ?_
    exact h
  · replace h := h.2 c15
    refine wm_aload_n d_MS_writeRows_20 rfl rfl ?_
    refine wm_iload_n d_MS_writeRows_21 rfl rfl ?_
    refine wm_iload_n d_MS_writeRows_22 rfl rfl ?_
    refine cf_MS_163 rfl d_MS_writeRows_23 h4 (Nat.le_of_ble_eq_true rfl) (Cr.mono h (fun x26 M25 h => ?_))
    obtain ⟨hOM25, h⟩ := h
    refine wm_iload_n d_MS_writeRows_26 rfl rfl ?_
    refine wm_iload_n d_MS_writeRows_27 rfl rfl ?_
    have hJ : ∀ v29 : Int, v29 = (if (l1 = l2) then 1 else 0) → mWm G y_MS_writeRows (d + 1) 36 [vr a0, vi l1, vi l2, vd, vd, vd, vd] [vl v29, vr x26] M25 (fun r9 M9 => r9 = none ∧ Q M9) := by
      intro v29 e31
      have h := h v29 e31
      have h32 : (v29 = 0 ∨ v29 = 1) := by rw [e31]; (repeat' split) <;> decide
      obtain ⟨h33, h⟩ := h
      refine wm_lconst (x := 1) d_MS_writeRows_36 rfl ?_
      refine cf_MS_141 rfl d_MS_writeRows_37 h33 (Nat.le_of_ble_eq_true rfl) (Cv.mono h (fun M34 h => ?_))
      obtain ⟨hOM34, h⟩ := h
      refine wm_iinc d_MS_writeRows_40 (by decide) rfl (L' := [vr a0, vi l1, vi (l2 + 1), vd, vd, vd, vd]) rfl ?_
      refine wm_goto (tgt := 12) d_MS_writeRows_43 rfl ?_
      exact h
    clear h
    refine wm_icmp_ne (tgt := 35) d_MS_writeRows_28 rfl hi_l1 hi_l2 (fun c28 => ?_) (fun c28 => ?_)
    · refine wm_lconst (x := 0) d_MS_writeRows_35 rfl ?_
      exact hJ 0 (if_neg c28).symm
    · replace c28 := Classical.not_not.mp c28
      refine wm_lconst (x := 1) d_MS_writeRows_31 rfl ?_
      refine wm_goto (tgt := 36) d_MS_writeRows_32 rfl ?_
      exact hJ 1 (if_pos c28).symm
theorem k_MS_writeRows_77 {G : mG} {d : Nat} {a0 : Nat} {l1 : Int} {l2 : Int} {l3 : Int} {M : mM} {Q : mM → Prop} (hO : mOk M) (hi_l1 : i32 l1) (hi_l2 : i32 l2) (hi_l3 : i32 l3)
    (h : mK M a0 = 17 ∧ mK M (mR M a0 7) = 30 ∧ ((0 : Int) ≤ l2 + 1 ∧ l2 + 1 < (mN M (mR M a0 7) : Int)) ∧ ((mI M (mR M a0 7) (Int.toNat (l2 + 1)) ≤ l3) → (h_MS_writeRows_2 G d a0 (l1 + 1) M Q)) ∧ (¬ (mI M (mR M a0 7) (Int.toNat (l2 + 1)) ≤ l3) → (mK M (mR M a0 8) = 30 ∧ ((0 : Int) ≤ l3 ∧ l3 < (mN M (mR M a0 8) : Int)) ∧ mK M (mR M a0 19) = 31 ∧ ((0 : Int) ≤ mI M (mR M a0 8) (Int.toNat l3) ∧ mI M (mR M a0 8) (Int.toNat l3) < (mN M (mR M a0 19) : Int)) ∧ ((mI M (mR M a0 19) (Int.toNat (mI M (mR M a0 8) (Int.toNat l3))) = 0) → (h_MS_writeRows_207 G d a0 l1 l2 l3 M Q)) ∧ (¬ (mI M (mR M a0 19) (Int.toNat (mI M (mR M a0 8) (Int.toNat l3))) = 0) → (mK M (mR M a0 4) = 30 ∧ ((0 : Int) ≤ mI M (mR M a0 8) (Int.toNat l3) ∧ mI M (mR M a0 8) (Int.toNat l3) < (mN M (mR M a0 4) : Int)) ∧ ∀ v59 : Int, v59 = (if (mI M (mR M a0 4) (Int.toNat (mI M (mR M a0 8) (Int.toNat l3))) = 3) then 1 else 0) → ((v59 = 0) → (mK M (mR M a0 23) = 30 ∧ ((0 : Int) ≤ mI M (mR M a0 8) (Int.toNat l3) ∧ mI M (mR M a0 8) (Int.toNat l3) < (mN M (mR M a0 23) : Int)))) ∧ ∀ v67 : Int, v67 = (if (v59 = 0) then mI M (mR M a0 23) (Int.toNat (mI M (mR M a0 8) (Int.toNat l3))) else mI M a0 24) → Cr G y_MS_cell d [vr a0, vi l1, vi v67] M (fun x71 M70 => mOk M70 ∧ (mK M70 a0 = 17 ∧ mK M70 (mR M70 a0 9) = 30 ∧ ((0 : Int) ≤ l3 ∧ l3 < (mN M70 (mR M70 a0 9) : Int)) ∧ mK M70 (mR M70 a0 10) = 30 ∧ ((0 : Int) ≤ l3 ∧ l3 < (mN M70 (mR M70 a0 10) : Int)) ∧ mK M70 (mR M70 a0 26) = 19 ∧ Cv G y_MF_set d [vr (mR M70 a0 26), vl (mI M70 (mR M70 a0 9) (Int.toNat l3)), vl (mI M70 (mR M70 a0 10) (Int.toNat l3))] M70 (fun M79 => mOk M79 ∧ (mK M79 a0 = 17 ∧ ∀ v84 : Int, v84 = (if (v59 = 0) then 1 else 0) → mK M79 (mR M79 a0 0) = 18 ∧ Cv G y_MU_add d [vr (mR M79 a0 0), vr x71, vr (mR M79 a0 26), vi v84] M79 (fun M90 => mOk M90 ∧ (mK M90 a0 = 17 ∧ mK M90 (mR M90 a0 0) = 18 ∧ mK M90 x71 = 19 ∧ Cv G y_MF_copy d [vr x71, vr (mR M90 (mR M90 a0 0) 0)] M90 (fun M96 => mOk M96 ∧ (h_MS_writeRows_207 G d a0 l1 l2 l3 M96 Q))))))))))))) :
    h_MS_writeRows_77 G d a0 l1 l2 l3 M Q := by
  unfold h_MS_writeRows_77
  obtain ⟨h38, h⟩ := h
  obtain ⟨h39, h⟩ := h
  obtain ⟨h40, h⟩ := h
  refine wm_iload_n d_MS_writeRows_77 rfl rfl ?_
  refine wm_aload_n d_MS_writeRows_78 rfl rfl ?_
  refine gf_MS_26 rfl d_MS_writeRows_79 h38 ?_
  refine wm_iload_n d_MS_writeRows_82 rfl rfl ?_
  refine wm_iconst d_MS_writeRows_83 ?_
  refine wm_iadd d_MS_writeRows_84 ?_
  refine wm_iald d_MS_writeRows_85 h39 h40 ?_
  refine wm_icmp_ge (tgt := 213) d_MS_writeRows_86 rfl hi_l3 (hO _ _).1 (fun c46 => ?_) (fun c46 => ?_)
  · replace h := h.1 c46
    refine wm_iinc d_MS_writeRows_213 (by decide) rfl (L' := [vr a0, vi (l1 + 1), vi l2, vi l3, vd, vd, vd]) rfl ?_
    refine wm_goto (tgt := 2) d_MS_writeRows_216 rfl ?_
    refine wm_less (L' := [vr a0, vi (l1 + 1), vd, vd, vd, vd, vd]) ⟨Or.inr rfl, Or.inr rfl, Or.inl rfl, Or.inl rfl, Or.inl rfl, Or.inl rfl, Or.inl rfl, trivial⟩ ?_
    exact h
  · replace h := h.2 c46
    obtain ⟨h47, h⟩ := h
    obtain ⟨h48, h⟩ := h
    obtain ⟨h49, h⟩ := h
    obtain ⟨h50, h⟩ := h
    refine wm_aload_n d_MS_writeRows_89 rfl rfl ?_
    refine gf_MS_29 rfl d_MS_writeRows_90 h38 ?_
    refine wm_iload_n d_MS_writeRows_93 rfl rfl ?_
    refine wm_iald d_MS_writeRows_94 h47 h48 ?_
    refine wm_istore d_MS_writeRows_95 (by decide) (L' := [vr a0, vi l1, vi l2, vi l3, vi (mI M (mR M a0 8) (Int.toNat l3)), vd, vd]) rfl ?_
    refine wm_aload_n d_MS_writeRows_97 rfl rfl ?_
    refine gf_MS_63 rfl d_MS_writeRows_98 h38 ?_
    refine wm_iload d_MS_writeRows_101 rfl ?_
    refine wm_zald d_MS_writeRows_103 h49 h50 ?_
    refine wm_if_eq (tgt := 207) d_MS_writeRows_104 rfl (hO _ _).1 (fun c55 => ?_) (fun c55 => ?_)
    · replace h := h.1 c55
      refine wm_less (L' := [vr a0, vi l1, vi l2, vi l3, vd, vd, vd]) ⟨Or.inr rfl, Or.inr rfl, Or.inr rfl, Or.inr rfl, Or.inl rfl, Or.inl rfl, Or.inl rfl, trivial⟩ ?_
      exact h
    · replace h := h.2 c55
      obtain ⟨h56, h⟩ := h
      obtain ⟨h57, h⟩ := h
      refine wm_aload_n d_MS_writeRows_107 rfl rfl ?_
      refine gf_MS_16 rfl d_MS_writeRows_108 h38 ?_
      refine wm_iload d_MS_writeRows_111 rfl ?_
      refine wm_iald d_MS_writeRows_113 h56 h57 ?_
      refine wm_iconst d_MS_writeRows_114 ?_
      have hJ : ∀ v59 : Int, v59 = (if (mI M (mR M a0 4) (Int.toNat (mI M (mR M a0 8) (Int.toNat l3))) = 3) then 1 else 0) → mWm G y_MS_writeRows (d + 1) 123 [vr a0, vi l1, vi l2, vi l3, vi (mI M (mR M a0 8) (Int.toNat l3)), vd, vd] [vi v59] M (fun r9 M9 => r9 = none ∧ Q M9) := by
        intro v59 e61
        have h := h v59 e61
        have h62 : i32 v59 := by rw [e61]; (repeat' split) <;> first | exact ⟨by decide, by decide⟩ | exact ⟨by decide, by decide⟩
        have h63 : (v59 = 0 ∨ v59 = 1) := by rw [e61]; (repeat' split) <;> decide
        refine wm_istore d_MS_writeRows_123 (by decide) (L' := [vr a0, vi l1, vi l2, vi l3, vi (mI M (mR M a0 8) (Int.toNat l3)), vi v59, vd]) rfl ?_
        refine wm_aload_n d_MS_writeRows_125 rfl rfl ?_
        refine wm_iload_n d_MS_writeRows_126 rfl rfl ?_
        refine wm_iload d_MS_writeRows_127 rfl ?_
        obtain ⟨s68, h⟩ := h
        have hJ : ∀ v67 : Int, v67 = (if (v59 = 0) then mI M (mR M a0 23) (Int.toNat (mI M (mR M a0 8) (Int.toNat l3))) else mI M a0 24) → mWm G y_MS_writeRows (d + 1) 146 [vr a0, vi l1, vi l2, vi l3, vd, vi v59, vd] [vi v67, vi l1, vr a0] M (fun r9 M9 => r9 = none ∧ Q M9) := by
          intro v67 e69
          have h := h v67 e69
          refine cf_MS_163 rfl d_MS_writeRows_146 h38 (Nat.le_of_ble_eq_true rfl) (Cr.mono h (fun x71 M70 h => ?_))
          obtain ⟨hOM70, h⟩ := h
          obtain ⟨h73, h⟩ := h
          obtain ⟨h74, h⟩ := h
          obtain ⟨h75, h⟩ := h
          obtain ⟨h76, h⟩ := h
          obtain ⟨h77, h⟩ := h
          obtain ⟨h78, h⟩ := h
          refine wm_astore d_MS_writeRows_149 (by decide) (L' := [vr a0, vi l1, vi l2, vi l3, vd, vi v59, vr x71]) rfl ?_
          refine wm_aload_n d_MS_writeRows_151 rfl rfl ?_
          refine gf_MS_84 rfl d_MS_writeRows_152 h73 ?_
          refine wm_aload_n d_MS_writeRows_155 rfl rfl ?_
          refine gf_MS_32 rfl d_MS_writeRows_156 h73 ?_
          refine wm_iload_n d_MS_writeRows_159 rfl rfl ?_
          refine wm_iald d_MS_writeRows_160 h74 h75 ?_
          refine wm_i2l d_MS_writeRows_161 (hOM70 _ _).1 ?_
          refine wm_aload_n d_MS_writeRows_162 rfl rfl ?_
          refine gf_MS_35 rfl d_MS_writeRows_163 h73 ?_
          refine wm_iload_n d_MS_writeRows_166 rfl rfl ?_
          refine wm_iald d_MS_writeRows_167 h76 h77 ?_
          refine wm_i2l d_MS_writeRows_168 (hOM70 _ _).1 ?_
          refine cf_MS_141 rfl d_MS_writeRows_169 h78 (Nat.le_of_ble_eq_true rfl) (Cv.mono h (fun M79 h => ?_))
          obtain ⟨hOM79, h⟩ := h
          obtain ⟨h82, h⟩ := h
          refine wm_aload_n d_MS_writeRows_172 rfl rfl ?_
          refine gf_MS_10 rfl d_MS_writeRows_173 h82 ?_
          refine wm_aload d_MS_writeRows_176 rfl ?_
          refine wm_aload_n d_MS_writeRows_178 rfl rfl ?_
          refine gf_MS_84 rfl d_MS_writeRows_179 h82 ?_
          refine wm_iload d_MS_writeRows_182 rfl ?_
          have hJ : ∀ v84 : Int, v84 = (if (v59 = 0) then 1 else 0) → mWm G y_MS_writeRows (d + 1) 192 [vr a0, vi l1, vi l2, vi l3, vd, vd, vr x71] [vi v84, vr (mR M79 a0 26), vr x71, vr (mR M79 a0 0)] M79 (fun r9 M9 => r9 = none ∧ Q M9) := by
            intro v84 e86
            have h := h v84 e86
            have h87 : i32 v84 := by rw [e86]; (repeat' split) <;> first | exact ⟨by decide, by decide⟩ | exact ⟨by decide, by decide⟩
            have h88 : (v84 = 0 ∨ v84 = 1) := by rw [e86]; (repeat' split) <;> decide
            obtain ⟨h89, h⟩ := h
            refine cf_MS_156 rfl d_MS_writeRows_192 h89 (Nat.le_of_ble_eq_true rfl) (Cv.mono h (fun M90 h => ?_))
            obtain ⟨hOM90, h⟩ := h
            obtain ⟨h93, h⟩ := h
            obtain ⟨h94, h⟩ := h
            obtain ⟨h95, h⟩ := h
            refine wm_aload d_MS_writeRows_195 rfl ?_
            refine wm_aload_n d_MS_writeRows_197 rfl rfl ?_
            refine gf_MS_10 rfl d_MS_writeRows_198 h93 ?_
            refine gf_MS_149 rfl d_MS_writeRows_201 h94 ?_
            refine cf_MS_152 rfl d_MS_writeRows_204 h95 (Nat.le_of_ble_eq_true rfl) (Cv.mono h (fun M96 h => ?_))
            obtain ⟨hOM96, h⟩ := h
            refine wm_less (L' := [vr a0, vi l1, vi l2, vi l3, vd, vd, vd]) ⟨Or.inr rfl, Or.inr rfl, Or.inr rfl, Or.inr rfl, Or.inl rfl, Or.inl rfl, Or.inl rfl, trivial⟩ ?_
            exact h
          clear h
          refine wm_if_ne (tgt := 191) d_MS_writeRows_184 rfl h62 (fun c83 => ?_) (fun c83 => ?_)
          · refine wm_iconst d_MS_writeRows_191 ?_
            refine wm_less (L' := [vr a0, vi l1, vi l2, vi l3, vd, vd, vr x71]) ⟨Or.inr rfl, Or.inr rfl, Or.inr rfl, Or.inr rfl, Or.inl rfl, Or.inl rfl, Or.inr rfl, trivial⟩ ?_
            exact hJ 0 (if_neg c83).symm
          · replace c83 := Classical.not_not.mp c83
            refine wm_iconst d_MS_writeRows_187 ?_
            refine wm_goto (tgt := 192) d_MS_writeRows_188 rfl ?_
            refine wm_less (L' := [vr a0, vi l1, vi l2, vi l3, vd, vd, vr x71]) ⟨Or.inr rfl, Or.inr rfl, Or.inr rfl, Or.inr rfl, Or.inl rfl, Or.inl rfl, Or.inr rfl, trivial⟩ ?_
            exact hJ 1 (if_pos c83).symm
        clear h
        have s100 := s68
        refine wm_if_eq (tgt := 139) d_MS_writeRows_129 rfl h62 (fun c64 => ?_) (fun c64 => ?_)
        · have s100 := s100 c64
          obtain ⟨h65, h66⟩ := s100
          refine wm_aload_n d_MS_writeRows_139 rfl rfl ?_
          refine gf_MS_75 rfl d_MS_writeRows_140 h38 ?_
          refine wm_iload d_MS_writeRows_143 rfl ?_
          refine wm_iald d_MS_writeRows_145 h65 h66 ?_
          refine wm_less (L' := [vr a0, vi l1, vi l2, vi l3, vd, vi v59, vd]) ⟨Or.inr rfl, Or.inr rfl, Or.inr rfl, Or.inr rfl, Or.inl rfl, Or.inr rfl, Or.inl rfl, trivial⟩ ?_
          exact hJ (mI M (mR M a0 23) (Int.toNat (mI M (mR M a0 8) (Int.toNat l3)))) (if_pos c64).symm
        · refine wm_aload_n d_MS_writeRows_132 rfl rfl ?_
          refine gf_MS_160 rfl d_MS_writeRows_133 h38 ?_
          refine wm_goto (tgt := 146) d_MS_writeRows_136 rfl ?_
          refine wm_less (L' := [vr a0, vi l1, vi l2, vi l3, vd, vi v59, vd]) ⟨Or.inr rfl, Or.inr rfl, Or.inr rfl, Or.inr rfl, Or.inl rfl, Or.inr rfl, Or.inl rfl, trivial⟩ ?_
          exact hJ (mI M a0 24) (if_neg c64).symm
      clear h
      refine wm_icmp_ne (tgt := 122) d_MS_writeRows_115 rfl (hO _ _).1 ⟨by decide, by decide⟩ (fun c58 => ?_) (fun c58 => ?_)
      · refine wm_iconst d_MS_writeRows_122 ?_
        exact hJ 0 (if_neg c58).symm
      · replace c58 := Classical.not_not.mp c58
        refine wm_iconst d_MS_writeRows_118 ?_
        refine wm_goto (tgt := 123) d_MS_writeRows_119 rfl ?_
        exact hJ 1 (if_pos c58).symm
theorem k_MS_writeRows_207 {G : mG} {d : Nat} {a0 : Nat} {l1 : Int} {l2 : Int} {l3 : Int} {M : mM} {Q : mM → Prop} (hO : mOk M) (hi_l1 : i32 l1) (hi_l2 : i32 l2) (hi_l3 : i32 l3)
    (h : h_MS_writeRows_77 G d a0 l1 l2 (l3 + 1) M Q) :
    h_MS_writeRows_207 G d a0 l1 l2 l3 M Q := by
  unfold h_MS_writeRows_207
  refine wm_iinc d_MS_writeRows_207 (by decide) rfl (L' := [vr a0, vi l1, vi l2, vi (l3 + 1), vd, vd, vd]) rfl ?_
  refine wm_goto (tgt := 77) d_MS_writeRows_210 rfl ?_
  exact h
theorem d_MS_solveRows_0 : decode y_MS_solveRows.2.1 0 = .ok (.iconst 0, 1) := dc9_3 (by decide +kernel)
theorem d_MS_solveRows_1 : decode y_MS_solveRows.2.1 1 = .ok (.istore_n 1, 1) := dc9_60 (by decide +kernel)
theorem d_MS_solveRows_2 : decode y_MS_solveRows.2.1 2 = .ok (.iload_n 1, 1) := dc9_27 (by decide +kernel)
theorem d_MS_solveRows_3 : decode y_MS_solveRows.2.1 3 = .ok (.aload_n 0, 1) := dc9_42 (by decide +kernel)
theorem d_MS_solveRows_4 : decode y_MS_solveRows.2.1 4 = .ok (.getfield 160, 3) := dc9_180 (by decide +kernel)
theorem d_MS_solveRows_7 : decode y_MS_solveRows.2.1 7 = .ok (.if_icmp .ge 99, 3) := dc9_162 (by decide +kernel)
theorem d_MS_solveRows_106 : decode y_MS_solveRows.2.1 106 = .ok (.return_, 1) := dc9_177 (by decide +kernel)
theorem d_MS_solveRows_10 : decode y_MS_solveRows.2.1 10 = .ok (.aload_n 0, 1) := dc9_42 (by decide +kernel)
theorem d_MS_solveRows_11 : decode y_MS_solveRows.2.1 11 = .ok (.getfield 160, 3) := dc9_180 (by decide +kernel)
theorem d_MS_solveRows_14 : decode y_MS_solveRows.2.1 14 = .ok (.istore_n 2, 1) := dc9_61 (by decide +kernel)
theorem d_MS_solveRows_15 : decode y_MS_solveRows.2.1 15 = .ok (.iload_n 2, 1) := dc9_28 (by decide +kernel)
theorem d_MS_solveRows_16 : decode y_MS_solveRows.2.1 16 = .ok (.iload_n 1, 1) := dc9_27 (by decide +kernel)
theorem d_MS_solveRows_17 : decode y_MS_solveRows.2.1 17 = .ok (.if_icmp .lt 44, 3) := dc9_161 (by decide +kernel)
theorem d_MS_solveRows_61 : decode y_MS_solveRows.2.1 61 = .ok (.iconst 0, 1) := dc9_3 (by decide +kernel)
theorem d_MS_solveRows_62 : decode y_MS_solveRows.2.1 62 = .ok (.istore_n 2, 1) := dc9_61 (by decide +kernel)
theorem d_MS_solveRows_20 : decode y_MS_solveRows.2.1 20 = .ok (.aload_n 0, 1) := dc9_42 (by decide +kernel)
theorem d_MS_solveRows_21 : decode y_MS_solveRows.2.1 21 = .ok (.getfield 10, 3) := dc9_180 (by decide +kernel)
theorem d_MS_solveRows_24 : decode y_MS_solveRows.2.1 24 = .ok (.aload_n 0, 1) := dc9_42 (by decide +kernel)
theorem d_MS_solveRows_25 : decode y_MS_solveRows.2.1 25 = .ok (.iload_n 1, 1) := dc9_27 (by decide +kernel)
theorem d_MS_solveRows_26 : decode y_MS_solveRows.2.1 26 = .ok (.iload_n 2, 1) := dc9_28 (by decide +kernel)
theorem d_MS_solveRows_27 : decode y_MS_solveRows.2.1 27 = .ok (.invokevirtual 163, 3) := dc9_182 (by decide +kernel)
theorem d_MS_solveRows_30 : decode y_MS_solveRows.2.1 30 = .ok (.aload_n 0, 1) := dc9_42 (by decide +kernel)
theorem d_MS_solveRows_31 : decode y_MS_solveRows.2.1 31 = .ok (.iload_n 1, 1) := dc9_27 (by decide +kernel)
theorem d_MS_solveRows_32 : decode y_MS_solveRows.2.1 32 = .ok (.iload_n 1, 1) := dc9_27 (by decide +kernel)
theorem d_MS_solveRows_33 : decode y_MS_solveRows.2.1 33 = .ok (.invokevirtual 163, 3) := dc9_182 (by decide +kernel)
theorem d_MS_solveRows_36 : decode y_MS_solveRows.2.1 36 = .ok (.invokevirtual 167, 3) := dc9_182 (by decide +kernel)
theorem d_MS_solveRows_39 : decode y_MS_solveRows.2.1 39 = .ok (.aload_n 0, 1) := dc9_42 (by decide +kernel)
theorem d_MS_solveRows_40 : decode y_MS_solveRows.2.1 40 = .ok (.iload_n 1, 1) := dc9_27 (by decide +kernel)
theorem d_MS_solveRows_41 : decode y_MS_solveRows.2.1 41 = .ok (.iload_n 2, 1) := dc9_28 (by decide +kernel)
theorem d_MS_solveRows_42 : decode y_MS_solveRows.2.1 42 = .ok (.invokevirtual 163, 3) := dc9_182 (by decide +kernel)
theorem d_MS_solveRows_45 : decode y_MS_solveRows.2.1 45 = .ok (.aload_n 0, 1) := dc9_42 (by decide +kernel)
theorem d_MS_solveRows_46 : decode y_MS_solveRows.2.1 46 = .ok (.getfield 10, 3) := dc9_180 (by decide +kernel)
theorem d_MS_solveRows_49 : decode y_MS_solveRows.2.1 49 = .ok (.getfield 149, 3) := dc9_180 (by decide +kernel)
theorem d_MS_solveRows_52 : decode y_MS_solveRows.2.1 52 = .ok (.invokevirtual 152, 3) := dc9_182 (by decide +kernel)
theorem d_MS_solveRows_55 : decode y_MS_solveRows.2.1 55 = .ok (.iinc 2 (-1), 3) := by decide +kernel
theorem d_MS_solveRows_58 : decode y_MS_solveRows.2.1 58 = .ok (.goto (-43), 3) := dc9_167 (by decide +kernel)
theorem d_MS_solveRows_63 : decode y_MS_solveRows.2.1 63 = .ok (.iload_n 2, 1) := dc9_28 (by decide +kernel)
theorem d_MS_solveRows_64 : decode y_MS_solveRows.2.1 64 = .ok (.aload_n 0, 1) := dc9_42 (by decide +kernel)
theorem d_MS_solveRows_65 : decode y_MS_solveRows.2.1 65 = .ok (.getfield 160, 3) := dc9_180 (by decide +kernel)
theorem d_MS_solveRows_68 : decode y_MS_solveRows.2.1 68 = .ok (.if_icmp .ge 32, 3) := dc9_162 (by decide +kernel)
theorem d_MS_solveRows_100 : decode y_MS_solveRows.2.1 100 = .ok (.iinc 1 1, 3) := by decide +kernel
theorem d_MS_solveRows_103 : decode y_MS_solveRows.2.1 103 = .ok (.goto (-101), 3) := dc9_167 (by decide +kernel)
theorem d_MS_solveRows_71 : decode y_MS_solveRows.2.1 71 = .ok (.iload_n 2, 1) := dc9_28 (by decide +kernel)
theorem d_MS_solveRows_72 : decode y_MS_solveRows.2.1 72 = .ok (.iload_n 1, 1) := dc9_27 (by decide +kernel)
theorem d_MS_solveRows_73 : decode y_MS_solveRows.2.1 73 = .ok (.if_icmp .eq 21, 3) := dc9_159 (by decide +kernel)
theorem d_MS_solveRows_76 : decode y_MS_solveRows.2.1 76 = .ok (.aload_n 0, 1) := dc9_42 (by decide +kernel)
theorem d_MS_solveRows_77 : decode y_MS_solveRows.2.1 77 = .ok (.iload_n 2, 1) := dc9_28 (by decide +kernel)
theorem d_MS_solveRows_78 : decode y_MS_solveRows.2.1 78 = .ok (.iload_n 1, 1) := dc9_27 (by decide +kernel)
theorem d_MS_solveRows_94 : decode y_MS_solveRows.2.1 94 = .ok (.iinc 2 1, 3) := by decide +kernel
theorem d_MS_solveRows_97 : decode y_MS_solveRows.2.1 97 = .ok (.goto (-34), 3) := dc9_167 (by decide +kernel)
theorem d_MS_solveRows_79 : decode y_MS_solveRows.2.1 79 = .ok (.invokevirtual 163, 3) := dc9_182 (by decide +kernel)
theorem d_MS_solveRows_82 : decode y_MS_solveRows.2.1 82 = .ok (.invokevirtual 170, 3) := dc9_182 (by decide +kernel)
theorem d_MS_solveRows_85 : decode y_MS_solveRows.2.1 85 = .ok (.ifCond .ne 9, 3) := dc9_154 (by decide +kernel)
theorem d_MS_solveRows_88 : decode y_MS_solveRows.2.1 88 = .ok (.aload_n 0, 1) := dc9_42 (by decide +kernel)
theorem d_MS_solveRows_89 : decode y_MS_solveRows.2.1 89 = .ok (.iload_n 2, 1) := dc9_28 (by decide +kernel)
theorem d_MS_solveRows_90 : decode y_MS_solveRows.2.1 90 = .ok (.iload_n 1, 1) := dc9_27 (by decide +kernel)
theorem d_MS_solveRows_91 : decode y_MS_solveRows.2.1 91 = .ok (.invokevirtual 174, 3) := dc9_182 (by decide +kernel)
def h_MS_solveRows_2 (G : mG) (d : Nat) (a0 : Nat) (l1 : Int) (M : mM) (Q : mM → Prop) : Prop := mWm G y_MS_solveRows (d + 1) 2 [vr a0, vi l1, vd] [] M (fun r9 M9 => r9 = none ∧ Q M9)
def h_MS_solveRows_15 (G : mG) (d : Nat) (a0 : Nat) (l1 : Int) (l2 : Int) (M : mM) (Q : mM → Prop) : Prop := mWm G y_MS_solveRows (d + 1) 15 [vr a0, vi l1, vi l2] [] M (fun r9 M9 => r9 = none ∧ Q M9)
def h_MS_solveRows_63 (G : mG) (d : Nat) (a0 : Nat) (l1 : Int) (l2 : Int) (M : mM) (Q : mM → Prop) : Prop := mWm G y_MS_solveRows (d + 1) 63 [vr a0, vi l1, vi l2] [] M (fun r9 M9 => r9 = none ∧ Q M9)
theorem k_MS_solveRows {G : mG} {d : Nat} {a0 : Nat} {M : mM} {Q : mM → Prop} (hO : mOk M)
    (h : h_MS_solveRows_2 G d a0 0 M Q) :
    Cv G y_MS_solveRows (d + 1) [vr a0] M Q := by
  refine wm_open (y := y_MS_solveRows) rfl (Nat.le_of_ble_eq_true rfl) (L := [vr a0, vd, vd]) rfl ?_
  refine wm_iconst d_MS_solveRows_0 ?_
  refine wm_istore_n d_MS_solveRows_1 rfl (by decide) (L' := [vr a0, vi 0, vd]) rfl ?_
  exact h
theorem k_MS_solveRows_2 {G : mG} {d : Nat} {a0 : Nat} {l1 : Int} {M : mM} {Q : mM → Prop} (hO : mOk M) (hi_l1 : i32 l1)
    (h : mK M a0 = 17 ∧ ((mI M a0 24 ≤ l1) → (Q M)) ∧ (¬ (mI M a0 24 ≤ l1) → (h_MS_solveRows_15 G d a0 l1 (mI M a0 24) M Q))) :
    h_MS_solveRows_2 G d a0 l1 M Q := by
  unfold h_MS_solveRows_2
  obtain ⟨h1, h⟩ := h
  refine wm_iload_n d_MS_solveRows_2 rfl rfl ?_
  refine wm_aload_n d_MS_solveRows_3 rfl rfl ?_
  refine gf_MS_160 rfl d_MS_solveRows_4 h1 ?_
  refine wm_icmp_ge (tgt := 106) d_MS_solveRows_7 rfl hi_l1 (hO _ _).1 (fun c3 => ?_) (fun c3 => ?_)
  · replace h := h.1 c3
    refine wm_return d_MS_solveRows_106 rfl ?_
    exact ⟨rfl, h⟩
  · replace h := h.2 c3
    refine wm_aload_n d_MS_solveRows_10 rfl rfl ?_
    refine gf_MS_160 rfl d_MS_solveRows_11 h1 ?_
    refine wm_istore_n d_MS_solveRows_14 rfl (by decide) (L' := [vr a0, vi l1, vi (mI M a0 24)]) rfl ?_
    exact h
theorem k_MS_solveRows_15 {G : mG} {d : Nat} {a0 : Nat} {l1 : Int} {l2 : Int} {M : mM} {Q : mM → Prop} (hO : mOk M) (hi_l1 : i32 l1) (hi_l2 : i32 l2)
    (h : ((l2 < l1) → (h_MS_solveRows_63 G d a0 l1 0 M Q)) ∧ (¬ (l2 < l1) → (mK M a0 = 17 ∧ Cr G y_MS_cell d [vr a0, vi l1, vi l2] M (fun x8 M7 => mOk M7 ∧ (mK M7 a0 = 17 ∧ Cr G y_MS_cell d [vr a0, vi l1, vi l1] M7 (fun x12 M11 => mOk M11 ∧ (mK M11 (mR M a0 0) = 18 ∧ Cv G y_MU_divide1 d [vr (mR M a0 0), vr x8, vr x12] M11 (fun M15 => mOk M15 ∧ (mK M15 a0 = 17 ∧ Cr G y_MS_cell d [vr a0, vi l1, vi l2] M15 (fun x20 M19 => mOk M19 ∧ (mK M19 a0 = 17 ∧ mK M19 (mR M19 a0 0) = 18 ∧ mK M19 x20 = 19 ∧ Cv G y_MF_copy d [vr x20, vr (mR M19 (mR M19 a0 0) 0)] M19 (fun M25 => mOk M25 ∧ (h_MS_solveRows_15 G d a0 l1 (l2 + (-1)) M25 Q))))))))))))) :
    h_MS_solveRows_15 G d a0 l1 l2 M Q := by
  unfold h_MS_solveRows_15
  refine wm_iload_n d_MS_solveRows_15 rfl rfl ?_
  refine wm_iload_n d_MS_solveRows_16 rfl rfl ?_
  refine wm_icmp_lt (tgt := 61) d_MS_solveRows_17 rfl hi_l2 hi_l1 (fun c5 => ?_) (fun c5 => ?_)
  · replace h := h.1 c5
    refine wm_iconst d_MS_solveRows_61 ?_
    refine wm_istore_n d_MS_solveRows_62 rfl (by decide) (L' := [vr a0, vi l1, vi 0]) rfl ?_
    exact h
  · replace h := h.2 c5
    obtain ⟨h6, h⟩ := h
    refine wm_aload_n d_MS_solveRows_20 rfl rfl ?_
    refine gf_MS_10 rfl d_MS_solveRows_21 h6 ?_
    refine wm_aload_n d_MS_solveRows_24 rfl rfl ?_
    refine wm_iload_n d_MS_solveRows_25 rfl rfl ?_
    refine wm_iload_n d_MS_solveRows_26 rfl rfl ?_
    refine cf_MS_163 rfl d_MS_solveRows_27 h6 (Nat.le_of_ble_eq_true rfl) (Cr.mono h (fun x8 M7 h => ?_))
    obtain ⟨hOM7, h⟩ := h
    obtain ⟨h10, h⟩ := h
    refine wm_aload_n d_MS_solveRows_30 rfl rfl ?_
    refine wm_iload_n d_MS_solveRows_31 rfl rfl ?_
    refine wm_iload_n d_MS_solveRows_32 rfl rfl ?_
    refine cf_MS_163 rfl d_MS_solveRows_33 h10 (Nat.le_of_ble_eq_true rfl) (Cr.mono h (fun x12 M11 h => ?_))
    obtain ⟨hOM11, h⟩ := h
    obtain ⟨h14, h⟩ := h
    refine cf_MS_167 rfl d_MS_solveRows_36 h14 (Nat.le_of_ble_eq_true rfl) (Cv.mono h (fun M15 h => ?_))
    obtain ⟨hOM15, h⟩ := h
    obtain ⟨h18, h⟩ := h
    refine wm_aload_n d_MS_solveRows_39 rfl rfl ?_
    refine wm_iload_n d_MS_solveRows_40 rfl rfl ?_
    refine wm_iload_n d_MS_solveRows_41 rfl rfl ?_
    refine cf_MS_163 rfl d_MS_solveRows_42 h18 (Nat.le_of_ble_eq_true rfl) (Cr.mono h (fun x20 M19 h => ?_))
    obtain ⟨hOM19, h⟩ := h
    obtain ⟨h22, h⟩ := h
    obtain ⟨h23, h⟩ := h
    obtain ⟨h24, h⟩ := h
    refine wm_aload_n d_MS_solveRows_45 rfl rfl ?_
    refine gf_MS_10 rfl d_MS_solveRows_46 h22 ?_
    refine gf_MS_149 rfl d_MS_solveRows_49 h23 ?_
    refine cf_MS_152 rfl d_MS_solveRows_52 h24 (Nat.le_of_ble_eq_true rfl) (Cv.mono h (fun M25 h => ?_))
    obtain ⟨hOM25, h⟩ := h
    refine wm_iinc d_MS_solveRows_55 (by decide) rfl (L' := [vr a0, vi l1, vi (l2 + (-1))]) rfl ?_
    refine wm_goto (tgt := 15) d_MS_solveRows_58 rfl ?_
    exact h
theorem k_MS_solveRows_63 {G : mG} {d : Nat} {a0 : Nat} {l1 : Int} {l2 : Int} {M : mM} {Q : mM → Prop} (hO : mOk M) (hi_l1 : i32 l1) (hi_l2 : i32 l2)
    (h : mK M a0 = 17 ∧ ((mI M a0 24 ≤ l2) → (h_MS_solveRows_2 G d a0 (l1 + 1) M Q)) ∧ (¬ (mI M a0 24 ≤ l2) → (((l2 = l1) → (h_MS_solveRows_63 G d a0 l1 (l2 + 1) M Q)) ∧ (¬ (l2 = l1) → (Cr G y_MS_cell d [vr a0, vi l2, vi l1] M (fun x36 M35 => mOk M35 ∧ (mK M35 x36 = 19 ∧ Ci G y_MF_isZero d [vr x36] M35 (fun x40 M39 => i32 x40 ∧ mOk M39 ∧ (((x40 = 0) → (mK M39 a0 = 17 ∧ Cv G y_MS_clearColumn d [vr a0, vi l2, vi l1] M39 (fun M46 => mOk M46 ∧ (h_MS_solveRows_63 G d a0 l1 (l2 + 1) M46 Q)))) ∧ (¬ (x40 = 0) → (h_MS_solveRows_63 G d a0 l1 (l2 + 1) M39 Q))))))))))) :
    h_MS_solveRows_63 G d a0 l1 l2 M Q := by
  unfold h_MS_solveRows_63
  obtain ⟨h28, h⟩ := h
  refine wm_iload_n d_MS_solveRows_63 rfl rfl ?_
  refine wm_aload_n d_MS_solveRows_64 rfl rfl ?_
  refine gf_MS_160 rfl d_MS_solveRows_65 h28 ?_
  refine wm_icmp_ge (tgt := 100) d_MS_solveRows_68 rfl hi_l2 (hO _ _).1 (fun c31 => ?_) (fun c31 => ?_)
  · replace h := h.1 c31
    refine wm_iinc d_MS_solveRows_100 (by decide) rfl (L' := [vr a0, vi (l1 + 1), vi l2]) rfl ?_
    refine wm_goto (tgt := 2) d_MS_solveRows_103 rfl ?_
    refine wm_less (L' := [vr a0, vi (l1 + 1), vd]) ⟨Or.inr rfl, Or.inr rfl, Or.inl rfl, trivial⟩ ?_
    exact h
  · replace h := h.2 c31
    refine wm_iload_n d_MS_solveRows_71 rfl rfl ?_
    refine wm_iload_n d_MS_solveRows_72 rfl rfl ?_
    refine wm_icmp_eq (tgt := 94) d_MS_solveRows_73 rfl hi_l2 hi_l1 (fun c34 => ?_) (fun c34 => ?_)
    · replace h := h.1 c34
      refine wm_iinc d_MS_solveRows_94 (by decide) rfl (L' := [vr a0, vi l1, vi (l2 + 1)]) rfl ?_
      refine wm_goto (tgt := 63) d_MS_solveRows_97 rfl ?_
      exact h
    · replace h := h.2 c34
      refine wm_aload_n d_MS_solveRows_76 rfl rfl ?_
      refine wm_iload_n d_MS_solveRows_77 rfl rfl ?_
      refine wm_iload_n d_MS_solveRows_78 rfl rfl ?_
      refine cf_MS_163 rfl d_MS_solveRows_79 h28 (Nat.le_of_ble_eq_true rfl) (Cr.mono h (fun x36 M35 h => ?_))
      obtain ⟨hOM35, h⟩ := h
      obtain ⟨h38, h⟩ := h
      refine cf_MS_170 rfl d_MS_solveRows_82 h38 (Nat.le_of_ble_eq_true rfl) (Ci.mono h (fun x40 M39 h => ?_))
      obtain ⟨h41, hOM39, h⟩ := h
      refine wm_if_ne (tgt := 94) d_MS_solveRows_85 rfl h41 (fun c44 => ?_) (fun c44 => ?_)
      · replace h := h.2 c44
        refine wm_iinc d_MS_solveRows_94 (by decide) rfl (L' := [vr a0, vi l1, vi (l2 + 1)]) rfl ?_
        refine wm_goto (tgt := 63) d_MS_solveRows_97 rfl ?_
        exact h
      · replace c44 := Classical.not_not.mp c44
        replace h := h.1 c44
        obtain ⟨h45, h⟩ := h
        refine wm_aload_n d_MS_solveRows_88 rfl rfl ?_
        refine wm_iload_n d_MS_solveRows_89 rfl rfl ?_
        refine wm_iload_n d_MS_solveRows_90 rfl rfl ?_
        refine cf_MS_174 rfl d_MS_solveRows_91 h45 (Nat.le_of_ble_eq_true rfl) (Cv.mono h (fun M46 h => ?_))
        obtain ⟨hOM46, h⟩ := h
        refine wm_iinc d_MS_solveRows_94 (by decide) rfl (L' := [vr a0, vi l1, vi (l2 + 1)]) rfl ?_
        refine wm_goto (tgt := 63) d_MS_solveRows_97 rfl ?_
        exact h
theorem d_MS_clearColumn_0 : decode y_MS_clearColumn.2.1 0 = .ok (.aload_n 0, 1) := dc9_42 (by decide +kernel)
theorem d_MS_clearColumn_1 : decode y_MS_clearColumn.2.1 1 = .ok (.getfield 88, 3) := dc9_180 (by decide +kernel)
theorem d_MS_clearColumn_4 : decode y_MS_clearColumn.2.1 4 = .ok (.aload_n 0, 1) := dc9_42 (by decide +kernel)
theorem d_MS_clearColumn_5 : decode y_MS_clearColumn.2.1 5 = .ok (.iload_n 1, 1) := dc9_27 (by decide +kernel)
theorem d_MS_clearColumn_6 : decode y_MS_clearColumn.2.1 6 = .ok (.iload_n 2, 1) := dc9_28 (by decide +kernel)
theorem d_MS_clearColumn_7 : decode y_MS_clearColumn.2.1 7 = .ok (.invokevirtual 163, 3) := dc9_182 (by decide +kernel)
theorem d_MS_clearColumn_10 : decode y_MS_clearColumn.2.1 10 = .ok (.invokevirtual 152, 3) := dc9_182 (by decide +kernel)
theorem d_MS_clearColumn_13 : decode y_MS_clearColumn.2.1 13 = .ok (.iload_n 2, 1) := dc9_28 (by decide +kernel)
theorem d_MS_clearColumn_14 : decode y_MS_clearColumn.2.1 14 = .ok (.istore_n 3, 1) := dc9_62 (by decide +kernel)
theorem d_MS_clearColumn_15 : decode y_MS_clearColumn.2.1 15 = .ok (.iload_n 3, 1) := dc9_29 (by decide +kernel)
theorem d_MS_clearColumn_16 : decode y_MS_clearColumn.2.1 16 = .ok (.aload_n 0, 1) := dc9_42 (by decide +kernel)
theorem d_MS_clearColumn_17 : decode y_MS_clearColumn.2.1 17 = .ok (.getfield 160, 3) := dc9_180 (by decide +kernel)
theorem d_MS_clearColumn_20 : decode y_MS_clearColumn.2.1 20 = .ok (.if_icmp .gt 86, 3) := dc9_163 (by decide +kernel)
theorem d_MS_clearColumn_106 : decode y_MS_clearColumn.2.1 106 = .ok (.return_, 1) := dc9_177 (by decide +kernel)
theorem d_MS_clearColumn_23 : decode y_MS_clearColumn.2.1 23 = .ok (.aload_n 0, 1) := dc9_42 (by decide +kernel)
theorem d_MS_clearColumn_24 : decode y_MS_clearColumn.2.1 24 = .ok (.iload_n 2, 1) := dc9_28 (by decide +kernel)
theorem d_MS_clearColumn_25 : decode y_MS_clearColumn.2.1 25 = .ok (.iload_n 3, 1) := dc9_29 (by decide +kernel)
theorem d_MS_clearColumn_26 : decode y_MS_clearColumn.2.1 26 = .ok (.invokevirtual 163, 3) := dc9_182 (by decide +kernel)
theorem d_MS_clearColumn_29 : decode y_MS_clearColumn.2.1 29 = .ok (.invokevirtual 170, 3) := dc9_182 (by decide +kernel)
theorem d_MS_clearColumn_32 : decode y_MS_clearColumn.2.1 32 = .ok (.ifCond .ne 68, 3) := dc9_154 (by decide +kernel)
theorem d_MS_clearColumn_35 : decode y_MS_clearColumn.2.1 35 = .ok (.aload_n 0, 1) := dc9_42 (by decide +kernel)
theorem d_MS_clearColumn_36 : decode y_MS_clearColumn.2.1 36 = .ok (.getfield 10, 3) := dc9_180 (by decide +kernel)
theorem d_MS_clearColumn_39 : decode y_MS_clearColumn.2.1 39 = .ok (.aload_n 0, 1) := dc9_42 (by decide +kernel)
theorem d_MS_clearColumn_40 : decode y_MS_clearColumn.2.1 40 = .ok (.getfield 88, 3) := dc9_180 (by decide +kernel)
theorem d_MS_clearColumn_43 : decode y_MS_clearColumn.2.1 43 = .ok (.aload_n 0, 1) := dc9_42 (by decide +kernel)
theorem d_MS_clearColumn_44 : decode y_MS_clearColumn.2.1 44 = .ok (.iload_n 2, 1) := dc9_28 (by decide +kernel)
theorem d_MS_clearColumn_45 : decode y_MS_clearColumn.2.1 45 = .ok (.iload_n 3, 1) := dc9_29 (by decide +kernel)
theorem d_MS_clearColumn_46 : decode y_MS_clearColumn.2.1 46 = .ok (.invokevirtual 163, 3) := dc9_182 (by decide +kernel)
theorem d_MS_clearColumn_49 : decode y_MS_clearColumn.2.1 49 = .ok (.invokevirtual 145, 3) := dc9_182 (by decide +kernel)
theorem d_MS_clearColumn_52 : decode y_MS_clearColumn.2.1 52 = .ok (.aload_n 0, 1) := dc9_42 (by decide +kernel)
theorem d_MS_clearColumn_53 : decode y_MS_clearColumn.2.1 53 = .ok (.getfield 94, 3) := dc9_180 (by decide +kernel)
theorem d_MS_clearColumn_56 : decode y_MS_clearColumn.2.1 56 = .ok (.aload_n 0, 1) := dc9_42 (by decide +kernel)
theorem d_MS_clearColumn_57 : decode y_MS_clearColumn.2.1 57 = .ok (.getfield 10, 3) := dc9_180 (by decide +kernel)
theorem d_MS_clearColumn_60 : decode y_MS_clearColumn.2.1 60 = .ok (.getfield 149, 3) := dc9_180 (by decide +kernel)
theorem d_MS_clearColumn_63 : decode y_MS_clearColumn.2.1 63 = .ok (.invokevirtual 152, 3) := dc9_182 (by decide +kernel)
theorem d_MS_clearColumn_66 : decode y_MS_clearColumn.2.1 66 = .ok (.aload_n 0, 1) := dc9_42 (by decide +kernel)
theorem d_MS_clearColumn_67 : decode y_MS_clearColumn.2.1 67 = .ok (.getfield 10, 3) := dc9_180 (by decide +kernel)
theorem d_MS_clearColumn_70 : decode y_MS_clearColumn.2.1 70 = .ok (.aload_n 0, 1) := dc9_42 (by decide +kernel)
theorem d_MS_clearColumn_71 : decode y_MS_clearColumn.2.1 71 = .ok (.iload_n 1, 1) := dc9_27 (by decide +kernel)
theorem d_MS_clearColumn_72 : decode y_MS_clearColumn.2.1 72 = .ok (.iload_n 3, 1) := dc9_29 (by decide +kernel)
theorem d_MS_clearColumn_73 : decode y_MS_clearColumn.2.1 73 = .ok (.invokevirtual 163, 3) := dc9_182 (by decide +kernel)
theorem d_MS_clearColumn_76 : decode y_MS_clearColumn.2.1 76 = .ok (.aload_n 0, 1) := dc9_42 (by decide +kernel)
theorem d_MS_clearColumn_77 : decode y_MS_clearColumn.2.1 77 = .ok (.getfield 94, 3) := dc9_180 (by decide +kernel)
theorem d_MS_clearColumn_80 : decode y_MS_clearColumn.2.1 80 = .ok (.iconst 1, 1) := dc9_4 (by decide +kernel)
theorem d_MS_clearColumn_81 : decode y_MS_clearColumn.2.1 81 = .ok (.invokevirtual 156, 3) := dc9_182 (by decide +kernel)
theorem d_MS_clearColumn_84 : decode y_MS_clearColumn.2.1 84 = .ok (.aload_n 0, 1) := dc9_42 (by decide +kernel)
theorem d_MS_clearColumn_85 : decode y_MS_clearColumn.2.1 85 = .ok (.iload_n 1, 1) := dc9_27 (by decide +kernel)
theorem d_MS_clearColumn_86 : decode y_MS_clearColumn.2.1 86 = .ok (.iload_n 3, 1) := dc9_29 (by decide +kernel)
theorem d_MS_clearColumn_87 : decode y_MS_clearColumn.2.1 87 = .ok (.invokevirtual 163, 3) := dc9_182 (by decide +kernel)
theorem d_MS_clearColumn_90 : decode y_MS_clearColumn.2.1 90 = .ok (.aload_n 0, 1) := dc9_42 (by decide +kernel)
theorem d_MS_clearColumn_91 : decode y_MS_clearColumn.2.1 91 = .ok (.getfield 10, 3) := dc9_180 (by decide +kernel)
theorem d_MS_clearColumn_94 : decode y_MS_clearColumn.2.1 94 = .ok (.getfield 149, 3) := dc9_180 (by decide +kernel)
theorem d_MS_clearColumn_97 : decode y_MS_clearColumn.2.1 97 = .ok (.invokevirtual 152, 3) := dc9_182 (by decide +kernel)
theorem d_MS_clearColumn_100 : decode y_MS_clearColumn.2.1 100 = .ok (.iinc 3 1, 3) := by decide +kernel
theorem d_MS_clearColumn_103 : decode y_MS_clearColumn.2.1 103 = .ok (.goto (-88), 3) := dc9_167 (by decide +kernel)
def h_MS_clearColumn_15 (G : mG) (d : Nat) (a0 : Nat) (l1 : Int) (l2 : Int) (l3 : Int) (M : mM) (Q : mM → Prop) : Prop := mWm G y_MS_clearColumn (d + 1) 15 [vr a0, vi l1, vi l2, vi l3] [] M (fun r9 M9 => r9 = none ∧ Q M9)
theorem k_MS_clearColumn {G : mG} {d : Nat} {a0 : Nat} {l1 : Int} {l2 : Int} {M : mM} {Q : mM → Prop} (hO : mOk M) (hi_l1 : i32 l1) (hi_l2 : i32 l2)
    (h : mK M a0 = 17 ∧ Cr G y_MS_cell d [vr a0, vi l1, vi l2] M (fun x3 M2 => mOk M2 ∧ (mK M2 (mR M a0 27) = 19 ∧ Cv G y_MF_copy d [vr (mR M a0 27), vr x3] M2 (fun M6 => mOk M6 ∧ (h_MS_clearColumn_15 G d a0 l1 l2 l2 M6 Q))))) :
    Cv G y_MS_clearColumn (d + 1) [vr a0, vi l1, vi l2] M Q := by
  refine wm_open (y := y_MS_clearColumn) rfl (Nat.le_of_ble_eq_true rfl) (L := [vr a0, vi l1, vi l2, vd]) rfl ?_
  obtain ⟨h1, h⟩ := h
  refine wm_aload_n d_MS_clearColumn_0 rfl rfl ?_
  refine gf_MS_88 rfl d_MS_clearColumn_1 h1 ?_
  refine wm_aload_n d_MS_clearColumn_4 rfl rfl ?_
  refine wm_iload_n d_MS_clearColumn_5 rfl rfl ?_
  refine wm_iload_n d_MS_clearColumn_6 rfl rfl ?_
  refine cf_MS_163 rfl d_MS_clearColumn_7 h1 (Nat.le_of_ble_eq_true rfl) (Cr.mono h (fun x3 M2 h => ?_))
  obtain ⟨hOM2, h⟩ := h
  obtain ⟨h5, h⟩ := h
  refine cf_MS_152 rfl d_MS_clearColumn_10 h5 (Nat.le_of_ble_eq_true rfl) (Cv.mono h (fun M6 h => ?_))
  obtain ⟨hOM6, h⟩ := h
  refine wm_iload_n d_MS_clearColumn_13 rfl rfl ?_
  refine wm_istore_n d_MS_clearColumn_14 rfl (by decide) (L' := [vr a0, vi l1, vi l2, vi l2]) rfl ?_
  exact h
theorem k_MS_clearColumn_15 {G : mG} {d : Nat} {a0 : Nat} {l1 : Int} {l2 : Int} {l3 : Int} {M : mM} {Q : mM → Prop} (hO : mOk M) (hi_l1 : i32 l1) (hi_l2 : i32 l2) (hi_l3 : i32 l3)
    (h : mK M a0 = 17 ∧ ((mI M a0 24 < l3) → (Q M)) ∧ (¬ (mI M a0 24 < l3) → (Cr G y_MS_cell d [vr a0, vi l2, vi l3] M (fun x13 M12 => mOk M12 ∧ (mK M12 x13 = 19 ∧ Ci G y_MF_isZero d [vr x13] M12 (fun x17 M16 => i32 x17 ∧ mOk M16 ∧ (((x17 = 0) → (mK M16 a0 = 17 ∧ Cr G y_MS_cell d [vr a0, vi l2, vi l3] M16 (fun x25 M24 => mOk M24 ∧ (mK M24 (mR M16 a0 0) = 18 ∧ Cv G y_MU_multiply d [vr (mR M16 a0 0), vr (mR M16 a0 27), vr x25] M24 (fun M28 => mOk M28 ∧ (mK M28 a0 = 17 ∧ mK M28 (mR M28 a0 0) = 18 ∧ mK M28 (mR M28 a0 29) = 19 ∧ Cv G y_MF_copy d [vr (mR M28 a0 29), vr (mR M28 (mR M28 a0 0) 0)] M28 (fun M34 => mOk M34 ∧ (mK M34 a0 = 17 ∧ Cr G y_MS_cell d [vr a0, vi l1, vi l3] M34 (fun x39 M38 => mOk M38 ∧ (mK M38 a0 = 17 ∧ mK M38 (mR M34 a0 0) = 18 ∧ Cv G y_MU_add d [vr (mR M34 a0 0), vr x39, vr (mR M38 a0 29), vi 1] M38 (fun M43 => mOk M43 ∧ (mK M43 a0 = 17 ∧ Cr G y_MS_cell d [vr a0, vi l1, vi l3] M43 (fun x48 M47 => mOk M47 ∧ (mK M47 a0 = 17 ∧ mK M47 (mR M47 a0 0) = 18 ∧ mK M47 x48 = 19 ∧ Cv G y_MF_copy d [vr x48, vr (mR M47 (mR M47 a0 0) 0)] M47 (fun M53 => mOk M53 ∧ (h_MS_clearColumn_15 G d a0 l1 l2 (l3 + 1) M53 Q)))))))))))))))) ∧ (¬ (x17 = 0) → (h_MS_clearColumn_15 G d a0 l1 l2 (l3 + 1) M16 Q))))))))) :
    h_MS_clearColumn_15 G d a0 l1 l2 l3 M Q := by
  unfold h_MS_clearColumn_15
  obtain ⟨h9, h⟩ := h
  refine wm_iload_n d_MS_clearColumn_15 rfl rfl ?_
  refine wm_aload_n d_MS_clearColumn_16 rfl rfl ?_
  refine gf_MS_160 rfl d_MS_clearColumn_17 h9 ?_
  refine wm_icmp_gt (tgt := 106) d_MS_clearColumn_20 rfl hi_l3 (hO _ _).1 (fun c11 => ?_) (fun c11 => ?_)
  · replace h := h.1 c11
    refine wm_return d_MS_clearColumn_106 rfl ?_
    exact ⟨rfl, h⟩
  · replace h := h.2 c11
    refine wm_aload_n d_MS_clearColumn_23 rfl rfl ?_
    refine wm_iload_n d_MS_clearColumn_24 rfl rfl ?_
    refine wm_iload_n d_MS_clearColumn_25 rfl rfl ?_
    refine cf_MS_163 rfl d_MS_clearColumn_26 h9 (Nat.le_of_ble_eq_true rfl) (Cr.mono h (fun x13 M12 h => ?_))
    obtain ⟨hOM12, h⟩ := h
    obtain ⟨h15, h⟩ := h
    refine cf_MS_170 rfl d_MS_clearColumn_29 h15 (Nat.le_of_ble_eq_true rfl) (Ci.mono h (fun x17 M16 h => ?_))
    obtain ⟨h18, hOM16, h⟩ := h
    refine wm_if_ne (tgt := 100) d_MS_clearColumn_32 rfl h18 (fun c22 => ?_) (fun c22 => ?_)
    · replace h := h.2 c22
      refine wm_iinc d_MS_clearColumn_100 (by decide) rfl (L' := [vr a0, vi l1, vi l2, vi (l3 + 1)]) rfl ?_
      refine wm_goto (tgt := 15) d_MS_clearColumn_103 rfl ?_
      exact h
    · replace c22 := Classical.not_not.mp c22
      replace h := h.1 c22
      obtain ⟨h23, h⟩ := h
      refine wm_aload_n d_MS_clearColumn_35 rfl rfl ?_
      refine gf_MS_10 rfl d_MS_clearColumn_36 h23 ?_
      refine wm_aload_n d_MS_clearColumn_39 rfl rfl ?_
      refine gf_MS_88 rfl d_MS_clearColumn_40 h23 ?_
      refine wm_aload_n d_MS_clearColumn_43 rfl rfl ?_
      refine wm_iload_n d_MS_clearColumn_44 rfl rfl ?_
      refine wm_iload_n d_MS_clearColumn_45 rfl rfl ?_
      refine cf_MS_163 rfl d_MS_clearColumn_46 h23 (Nat.le_of_ble_eq_true rfl) (Cr.mono h (fun x25 M24 h => ?_))
      obtain ⟨hOM24, h⟩ := h
      obtain ⟨h27, h⟩ := h
      refine cf_MS_145 rfl d_MS_clearColumn_49 h27 (Nat.le_of_ble_eq_true rfl) (Cv.mono h (fun M28 h => ?_))
      obtain ⟨hOM28, h⟩ := h
      obtain ⟨h31, h⟩ := h
      obtain ⟨h32, h⟩ := h
      obtain ⟨h33, h⟩ := h
      refine wm_aload_n d_MS_clearColumn_52 rfl rfl ?_
      refine gf_MS_94 rfl d_MS_clearColumn_53 h31 ?_
      refine wm_aload_n d_MS_clearColumn_56 rfl rfl ?_
      refine gf_MS_10 rfl d_MS_clearColumn_57 h31 ?_
      refine gf_MS_149 rfl d_MS_clearColumn_60 h32 ?_
      refine cf_MS_152 rfl d_MS_clearColumn_63 h33 (Nat.le_of_ble_eq_true rfl) (Cv.mono h (fun M34 h => ?_))
      obtain ⟨hOM34, h⟩ := h
      obtain ⟨h37, h⟩ := h
      refine wm_aload_n d_MS_clearColumn_66 rfl rfl ?_
      refine gf_MS_10 rfl d_MS_clearColumn_67 h37 ?_
      refine wm_aload_n d_MS_clearColumn_70 rfl rfl ?_
      refine wm_iload_n d_MS_clearColumn_71 rfl rfl ?_
      refine wm_iload_n d_MS_clearColumn_72 rfl rfl ?_
      refine cf_MS_163 rfl d_MS_clearColumn_73 h37 (Nat.le_of_ble_eq_true rfl) (Cr.mono h (fun x39 M38 h => ?_))
      obtain ⟨hOM38, h⟩ := h
      obtain ⟨h41, h⟩ := h
      obtain ⟨h42, h⟩ := h
      refine wm_aload_n d_MS_clearColumn_76 rfl rfl ?_
      refine gf_MS_94 rfl d_MS_clearColumn_77 h41 ?_
      refine wm_iconst d_MS_clearColumn_80 ?_
      refine cf_MS_156 rfl d_MS_clearColumn_81 h42 (Nat.le_of_ble_eq_true rfl) (Cv.mono h (fun M43 h => ?_))
      obtain ⟨hOM43, h⟩ := h
      obtain ⟨h46, h⟩ := h
      refine wm_aload_n d_MS_clearColumn_84 rfl rfl ?_
      refine wm_iload_n d_MS_clearColumn_85 rfl rfl ?_
      refine wm_iload_n d_MS_clearColumn_86 rfl rfl ?_
      refine cf_MS_163 rfl d_MS_clearColumn_87 h46 (Nat.le_of_ble_eq_true rfl) (Cr.mono h (fun x48 M47 h => ?_))
      obtain ⟨hOM47, h⟩ := h
      obtain ⟨h50, h⟩ := h
      obtain ⟨h51, h⟩ := h
      obtain ⟨h52, h⟩ := h
      refine wm_aload_n d_MS_clearColumn_90 rfl rfl ?_
      refine gf_MS_10 rfl d_MS_clearColumn_91 h50 ?_
      refine gf_MS_149 rfl d_MS_clearColumn_94 h51 ?_
      refine cf_MS_152 rfl d_MS_clearColumn_97 h52 (Nat.le_of_ble_eq_true rfl) (Cv.mono h (fun M53 h => ?_))
      obtain ⟨hOM53, h⟩ := h
      refine wm_iinc d_MS_clearColumn_100 (by decide) rfl (L' := [vr a0, vi l1, vi l2, vi (l3 + 1)]) rfl ?_
      refine wm_goto (tgt := 15) d_MS_clearColumn_103 rfl ?_
      exact h
theorem d_MS_settle_0 : decode y_MS_settle.2.1 0 = .ok (.aload_n 0, 1) := dc9_42 (by decide +kernel)
theorem d_MS_settle_1 : decode y_MS_settle.2.1 1 = .ok (.invokevirtual 178, 3) := dc9_182 (by decide +kernel)
theorem d_MS_settle_4 : decode y_MS_settle.2.1 4 = .ok (.aload_n 0, 1) := dc9_42 (by decide +kernel)
theorem d_MS_settle_5 : decode y_MS_settle.2.1 5 = .ok (.invokevirtual 181, 3) := dc9_182 (by decide +kernel)
theorem d_MS_settle_8 : decode y_MS_settle.2.1 8 = .ok (.iconst 0, 1) := dc9_3 (by decide +kernel)
theorem d_MS_settle_9 : decode y_MS_settle.2.1 9 = .ok (.istore_n 1, 1) := dc9_60 (by decide +kernel)
theorem d_MS_settle_10 : decode y_MS_settle.2.1 10 = .ok (.iload_n 1, 1) := dc9_27 (by decide +kernel)
theorem d_MS_settle_11 : decode y_MS_settle.2.1 11 = .ok (.aload_n 0, 1) := dc9_42 (by decide +kernel)
theorem d_MS_settle_12 : decode y_MS_settle.2.1 12 = .ok (.getfield 103, 3) := dc9_180 (by decide +kernel)
theorem d_MS_settle_15 : decode y_MS_settle.2.1 15 = .ok (.if_icmp .ge 34, 3) := dc9_162 (by decide +kernel)
theorem d_MS_settle_49 : decode y_MS_settle.2.1 49 = .ok (.iconst 0, 1) := dc9_3 (by decide +kernel)
theorem d_MS_settle_50 : decode y_MS_settle.2.1 50 = .ok (.istore_n 1, 1) := dc9_60 (by decide +kernel)
theorem d_MS_settle_18 : decode y_MS_settle.2.1 18 = .ok (.aload_n 0, 1) := dc9_42 (by decide +kernel)
theorem d_MS_settle_19 : decode y_MS_settle.2.1 19 = .ok (.getfield 69, 3) := dc9_180 (by decide +kernel)
theorem d_MS_settle_22 : decode y_MS_settle.2.1 22 = .ok (.iload_n 1, 1) := dc9_27 (by decide +kernel)
theorem d_MS_settle_23 : decode y_MS_settle.2.1 23 = .ok (.aaload, 1) := dc9_50 (by decide +kernel)
theorem d_MS_settle_24 : decode y_MS_settle.2.1 24 = .ok (.aload_n 0, 1) := dc9_42 (by decide +kernel)
theorem d_MS_settle_25 : decode y_MS_settle.2.1 25 = .ok (.getfield 16, 3) := dc9_180 (by decide +kernel)
theorem d_MS_settle_28 : decode y_MS_settle.2.1 28 = .ok (.iload_n 1, 1) := dc9_27 (by decide +kernel)
theorem d_MS_settle_29 : decode y_MS_settle.2.1 29 = .ok (.iaload, 1) := dc9_46 (by decide +kernel)
theorem d_MS_settle_30 : decode y_MS_settle.2.1 30 = .ok (.iconst 3, 1) := dc9_6 (by decide +kernel)
theorem d_MS_settle_31 : decode y_MS_settle.2.1 31 = .ok (.if_icmp .ne 7, 3) := dc9_160 (by decide +kernel)
theorem d_MS_settle_34 : decode y_MS_settle.2.1 34 = .ok (.lconst 1, 1) := dc9_10 (by decide +kernel)
theorem d_MS_settle_35 : decode y_MS_settle.2.1 35 = .ok (.goto 4, 3) := dc9_167 (by decide +kernel)
theorem d_MS_settle_38 : decode y_MS_settle.2.1 38 = .ok (.lconst 0, 1) := dc9_9 (by decide +kernel)
theorem d_MS_settle_39 : decode y_MS_settle.2.1 39 = .ok (.lconst 1, 1) := dc9_10 (by decide +kernel)
theorem d_MS_settle_40 : decode y_MS_settle.2.1 40 = .ok (.invokevirtual 141, 3) := dc9_182 (by decide +kernel)
theorem d_MS_settle_43 : decode y_MS_settle.2.1 43 = .ok (.iinc 1 1, 3) := by decide +kernel
theorem d_MS_settle_46 : decode y_MS_settle.2.1 46 = .ok (.goto (-36), 3) := dc9_167 (by decide +kernel)
theorem d_MS_settle_51 : decode y_MS_settle.2.1 51 = .ok (.iload_n 1, 1) := dc9_27 (by decide +kernel)
theorem d_MS_settle_52 : decode y_MS_settle.2.1 52 = .ok (.aload_n 0, 1) := dc9_42 (by decide +kernel)
theorem d_MS_settle_53 : decode y_MS_settle.2.1 53 = .ok (.getfield 160, 3) := dc9_180 (by decide +kernel)
theorem d_MS_settle_56 : decode y_MS_settle.2.1 56 = .ok (.if_icmp .ge 32, 3) := dc9_162 (by decide +kernel)
theorem d_MS_settle_88 : decode y_MS_settle.2.1 88 = .ok (.return_, 1) := dc9_177 (by decide +kernel)
theorem d_MS_settle_59 : decode y_MS_settle.2.1 59 = .ok (.aload_n 0, 1) := dc9_42 (by decide +kernel)
theorem d_MS_settle_60 : decode y_MS_settle.2.1 60 = .ok (.getfield 69, 3) := dc9_180 (by decide +kernel)
theorem d_MS_settle_63 : decode y_MS_settle.2.1 63 = .ok (.aload_n 0, 1) := dc9_42 (by decide +kernel)
theorem d_MS_settle_64 : decode y_MS_settle.2.1 64 = .ok (.getfield 72, 3) := dc9_180 (by decide +kernel)
theorem d_MS_settle_67 : decode y_MS_settle.2.1 67 = .ok (.iload_n 1, 1) := dc9_27 (by decide +kernel)
theorem d_MS_settle_68 : decode y_MS_settle.2.1 68 = .ok (.iaload, 1) := dc9_46 (by decide +kernel)
theorem d_MS_settle_69 : decode y_MS_settle.2.1 69 = .ok (.aaload, 1) := dc9_50 (by decide +kernel)
theorem d_MS_settle_70 : decode y_MS_settle.2.1 70 = .ok (.aload_n 0, 1) := dc9_42 (by decide +kernel)
theorem d_MS_settle_71 : decode y_MS_settle.2.1 71 = .ok (.iload_n 1, 1) := dc9_27 (by decide +kernel)
theorem d_MS_settle_72 : decode y_MS_settle.2.1 72 = .ok (.aload_n 0, 1) := dc9_42 (by decide +kernel)
theorem d_MS_settle_73 : decode y_MS_settle.2.1 73 = .ok (.getfield 160, 3) := dc9_180 (by decide +kernel)
theorem d_MS_settle_76 : decode y_MS_settle.2.1 76 = .ok (.invokevirtual 163, 3) := dc9_182 (by decide +kernel)
theorem d_MS_settle_79 : decode y_MS_settle.2.1 79 = .ok (.invokevirtual 152, 3) := dc9_182 (by decide +kernel)
theorem d_MS_settle_82 : decode y_MS_settle.2.1 82 = .ok (.iinc 1 1, 3) := by decide +kernel
theorem d_MS_settle_85 : decode y_MS_settle.2.1 85 = .ok (.goto (-34), 3) := dc9_167 (by decide +kernel)
def h_MS_settle_10 (G : mG) (d : Nat) (a0 : Nat) (l1 : Int) (M : mM) (Q : mM → Prop) : Prop := mWm G y_MS_settle (d + 1) 10 [vr a0, vi l1] [] M (fun r9 M9 => r9 = none ∧ Q M9)
def h_MS_settle_51 (G : mG) (d : Nat) (a0 : Nat) (l1 : Int) (M : mM) (Q : mM → Prop) : Prop := mWm G y_MS_settle (d + 1) 51 [vr a0, vi l1] [] M (fun r9 M9 => r9 = none ∧ Q M9)
theorem k_MS_settle {G : mG} {d : Nat} {a0 : Nat} {M : mM} {Q : mM → Prop} (hO : mOk M)
    (h : mK M a0 = 17 ∧ Cv G y_MS_writeRows d [vr a0] M (fun M2 => mOk M2 ∧ (mK M2 a0 = 17 ∧ Cv G y_MS_solveRows d [vr a0] M2 (fun M6 => mOk M6 ∧ (h_MS_settle_10 G d a0 0 M6 Q))))) :
    Cv G y_MS_settle (d + 1) [vr a0] M Q := by
  refine wm_open (y := y_MS_settle) rfl (Nat.le_of_ble_eq_true rfl) (L := [vr a0, vd]) rfl ?_
  obtain ⟨h1, h⟩ := h
  refine wm_aload_n d_MS_settle_0 rfl rfl ?_
  refine cf_MS_178 rfl d_MS_settle_1 h1 (Nat.le_of_ble_eq_true rfl) (Cv.mono h (fun M2 h => ?_))
  obtain ⟨hOM2, h⟩ := h
  obtain ⟨h5, h⟩ := h
  refine wm_aload_n d_MS_settle_4 rfl rfl ?_
  refine cf_MS_181 rfl d_MS_settle_5 h5 (Nat.le_of_ble_eq_true rfl) (Cv.mono h (fun M6 h => ?_))
  obtain ⟨hOM6, h⟩ := h
  refine wm_iconst d_MS_settle_8 ?_
  refine wm_istore_n d_MS_settle_9 rfl (by decide) (L' := [vr a0, vi 0]) rfl ?_
  exact h
theorem k_MS_settle_10 {G : mG} {d : Nat} {a0 : Nat} {l1 : Int} {M : mM} {Q : mM → Prop} (hO : mOk M) (hi_l1 : i32 l1)
    (h : mK M a0 = 17 ∧ ((mI M a0 1 ≤ l1) → (h_MS_settle_51 G d a0 0 M Q)) ∧ (¬ (mI M a0 1 ≤ l1) → (mK M (mR M a0 21) = 36 ∧ ((0 : Int) ≤ l1 ∧ l1 < (mN M (mR M a0 21) : Int)) ∧ mK M (mR M a0 4) = 30 ∧ ((0 : Int) ≤ l1 ∧ l1 < (mN M (mR M a0 4) : Int)) ∧ ∀ v21 : Int, v21 = (if (mI M (mR M a0 4) (Int.toNat l1) = 3) then 1 else 0) → mK M (mR M (mR M a0 21) (Int.toNat l1)) = 19 ∧ Cv G y_MF_set d [vr (mR M (mR M a0 21) (Int.toNat l1)), vl v21, vl 1] M (fun M26 => mOk M26 ∧ (h_MS_settle_10 G d a0 (l1 + 1) M26 Q))))) :
    h_MS_settle_10 G d a0 l1 M Q := by
  unfold h_MS_settle_10
  obtain ⟨h9, h⟩ := h
  refine wm_iload_n d_MS_settle_10 rfl rfl ?_
  refine wm_aload_n d_MS_settle_11 rfl rfl ?_
  refine gf_MS_103 rfl d_MS_settle_12 h9 ?_
  refine wm_icmp_ge (tgt := 49) d_MS_settle_15 rfl hi_l1 (hO _ _).1 (fun c15 => ?_) (fun c15 => ?_)
  · replace h := h.1 c15
    refine wm_iconst d_MS_settle_49 ?_
    refine wm_istore_n d_MS_settle_50 rfl (by decide) (L' := [vr a0, vi 0]) rfl ?_
    exact h
  · replace h := h.2 c15
    obtain ⟨h16, h⟩ := h
    obtain ⟨h17, h⟩ := h
    obtain ⟨h18, h⟩ := h
    obtain ⟨h19, h⟩ := h
    refine wm_aload_n d_MS_settle_18 rfl rfl ?_
    refine gf_MS_69 rfl d_MS_settle_19 h9 ?_
    refine wm_iload_n d_MS_settle_22 rfl rfl ?_
    refine wm_aald6 d_MS_settle_23 h16 h17 ?_
    refine wm_aload_n d_MS_settle_24 rfl rfl ?_
    refine gf_MS_16 rfl d_MS_settle_25 h9 ?_
    refine wm_iload_n d_MS_settle_28 rfl rfl ?_
    refine wm_iald d_MS_settle_29 h18 h19 ?_
    refine wm_iconst d_MS_settle_30 ?_
    have hJ : ∀ v21 : Int, v21 = (if (mI M (mR M a0 4) (Int.toNat l1) = 3) then 1 else 0) → mWm G y_MS_settle (d + 1) 39 [vr a0, vi l1] [vl v21, vr (mR M (mR M a0 21) (Int.toNat l1))] M (fun r9 M9 => r9 = none ∧ Q M9) := by
      intro v21 e23
      have h := h v21 e23
      have h24 : (v21 = 0 ∨ v21 = 1) := by rw [e23]; (repeat' split) <;> decide
      obtain ⟨h25, h⟩ := h
      refine wm_lconst (x := 1) d_MS_settle_39 rfl ?_
      refine cf_MS_141 rfl d_MS_settle_40 h25 (Nat.le_of_ble_eq_true rfl) (Cv.mono h (fun M26 h => ?_))
      obtain ⟨hOM26, h⟩ := h
      refine wm_iinc d_MS_settle_43 (by decide) rfl (L' := [vr a0, vi (l1 + 1)]) rfl ?_
      refine wm_goto (tgt := 10) d_MS_settle_46 rfl ?_
      exact h
    clear h
    refine wm_icmp_ne (tgt := 38) d_MS_settle_31 rfl (hO _ _).1 ⟨by decide, by decide⟩ (fun c20 => ?_) (fun c20 => ?_)
    · refine wm_lconst (x := 0) d_MS_settle_38 rfl ?_
      exact hJ 0 (if_neg c20).symm
    · replace c20 := Classical.not_not.mp c20
      refine wm_lconst (x := 1) d_MS_settle_34 rfl ?_
      refine wm_goto (tgt := 39) d_MS_settle_35 rfl ?_
      exact hJ 1 (if_pos c20).symm
theorem k_MS_settle_51 {G : mG} {d : Nat} {a0 : Nat} {l1 : Int} {M : mM} {Q : mM → Prop} (hO : mOk M) (hi_l1 : i32 l1)
    (h : mK M a0 = 17 ∧ ((mI M a0 24 ≤ l1) → (Q M)) ∧ (¬ (mI M a0 24 ≤ l1) → (mK M (mR M a0 22) = 30 ∧ ((0 : Int) ≤ l1 ∧ l1 < (mN M (mR M a0 22) : Int)) ∧ mK M (mR M a0 21) = 36 ∧ ((0 : Int) ≤ mI M (mR M a0 22) (Int.toNat l1) ∧ mI M (mR M a0 22) (Int.toNat l1) < (mN M (mR M a0 21) : Int)) ∧ Cr G y_MS_cell d [vr a0, vi l1, vi (mI M a0 24)] M (fun x38 M37 => mOk M37 ∧ (mK M37 (mR M (mR M a0 21) (Int.toNat (mI M (mR M a0 22) (Int.toNat l1)))) = 19 ∧ Cv G y_MF_copy d [vr (mR M (mR M a0 21) (Int.toNat (mI M (mR M a0 22) (Int.toNat l1)))), vr x38] M37 (fun M41 => mOk M41 ∧ (h_MS_settle_51 G d a0 (l1 + 1) M41 Q))))))) :
    h_MS_settle_51 G d a0 l1 M Q := by
  unfold h_MS_settle_51
  obtain ⟨h30, h⟩ := h
  refine wm_iload_n d_MS_settle_51 rfl rfl ?_
  refine wm_aload_n d_MS_settle_52 rfl rfl ?_
  refine gf_MS_160 rfl d_MS_settle_53 h30 ?_
  refine wm_icmp_ge (tgt := 88) d_MS_settle_56 rfl hi_l1 (hO _ _).1 (fun c32 => ?_) (fun c32 => ?_)
  · replace h := h.1 c32
    refine wm_return d_MS_settle_88 rfl ?_
    exact ⟨rfl, h⟩
  · replace h := h.2 c32
    obtain ⟨h33, h⟩ := h
    obtain ⟨h34, h⟩ := h
    obtain ⟨h35, h⟩ := h
    obtain ⟨h36, h⟩ := h
    refine wm_aload_n d_MS_settle_59 rfl rfl ?_
    refine gf_MS_69 rfl d_MS_settle_60 h30 ?_
    refine wm_aload_n d_MS_settle_63 rfl rfl ?_
    refine gf_MS_72 rfl d_MS_settle_64 h30 ?_
    refine wm_iload_n d_MS_settle_67 rfl rfl ?_
    refine wm_iald d_MS_settle_68 h33 h34 ?_
    refine wm_aald6 d_MS_settle_69 h35 h36 ?_
    refine wm_aload_n d_MS_settle_70 rfl rfl ?_
    refine wm_iload_n d_MS_settle_71 rfl rfl ?_
    refine wm_aload_n d_MS_settle_72 rfl rfl ?_
    refine gf_MS_160 rfl d_MS_settle_73 h30 ?_
    refine cf_MS_163 rfl d_MS_settle_76 h30 (Nat.le_of_ble_eq_true rfl) (Cr.mono h (fun x38 M37 h => ?_))
    obtain ⟨hOM37, h⟩ := h
    obtain ⟨h40, h⟩ := h
    refine cf_MS_152 rfl d_MS_settle_79 h40 (Nat.le_of_ble_eq_true rfl) (Cv.mono h (fun M41 h => ?_))
    obtain ⟨hOM41, h⟩ := h
    refine wm_iinc d_MS_settle_82 (by decide) rfl (L' := [vr a0, vi (l1 + 1)]) rfl ?_
    refine wm_goto (tgt := 51) d_MS_settle_85 rfl ?_
    exact h
end
section
theorem d_MS_answer_0 : decode y_MS_answer.2.1 0 = .ok (.aload_n 0, 1) := dc9_42 (by decide +kernel)
theorem d_MS_answer_1 : decode y_MS_answer.2.1 1 = .ok (.iconst 1, 1) := dc9_4 (by decide +kernel)
theorem d_MS_answer_2 : decode y_MS_answer.2.1 2 = .ok (.invokevirtual 133, 3) := dc9_182 (by decide +kernel)
theorem d_MS_answer_5 : decode y_MS_answer.2.1 5 = .ok (.aload_n 0, 1) := dc9_42 (by decide +kernel)
theorem d_MS_answer_6 : decode y_MS_answer.2.1 6 = .ok (.iconst 0, 1) := dc9_3 (by decide +kernel)
theorem d_MS_answer_7 : decode y_MS_answer.2.1 7 = .ok (.putfield 160, 3) := dc9_181 (by decide +kernel)
theorem d_MS_answer_10 : decode y_MS_answer.2.1 10 = .ok (.iconst 0, 1) := dc9_3 (by decide +kernel)
theorem d_MS_answer_11 : decode y_MS_answer.2.1 11 = .ok (.istore_n 1, 1) := dc9_60 (by decide +kernel)
theorem d_MS_answer_12 : decode y_MS_answer.2.1 12 = .ok (.iload_n 1, 1) := dc9_27 (by decide +kernel)
theorem d_MS_answer_13 : decode y_MS_answer.2.1 13 = .ok (.aload_n 0, 1) := dc9_42 (by decide +kernel)
theorem d_MS_answer_14 : decode y_MS_answer.2.1 14 = .ok (.getfield 103, 3) := dc9_180 (by decide +kernel)
theorem d_MS_answer_17 : decode y_MS_answer.2.1 17 = .ok (.if_icmp .ge 58, 3) := dc9_162 (by decide +kernel)
theorem d_MS_answer_75 : decode y_MS_answer.2.1 75 = .ok (.iconst 1, 1) := dc9_4 (by decide +kernel)
theorem d_MS_answer_76 : decode y_MS_answer.2.1 76 = .ok (.istore_n 1, 1) := dc9_60 (by decide +kernel)
theorem d_MS_answer_20 : decode y_MS_answer.2.1 20 = .ok (.aload_n 0, 1) := dc9_42 (by decide +kernel)
theorem d_MS_answer_21 : decode y_MS_answer.2.1 21 = .ok (.getfield 63, 3) := dc9_180 (by decide +kernel)
theorem d_MS_answer_24 : decode y_MS_answer.2.1 24 = .ok (.iload_n 1, 1) := dc9_27 (by decide +kernel)
theorem d_MS_answer_25 : decode y_MS_answer.2.1 25 = .ok (.baload, 1) := dc9_51 (by decide +kernel)
theorem d_MS_answer_26 : decode y_MS_answer.2.1 26 = .ok (.ifCond .eq 43, 3) := dc9_153 (by decide +kernel)
theorem d_MS_answer_29 : decode y_MS_answer.2.1 29 = .ok (.aload_n 0, 1) := dc9_42 (by decide +kernel)
theorem d_MS_answer_30 : decode y_MS_answer.2.1 30 = .ok (.getfield 16, 3) := dc9_180 (by decide +kernel)
theorem d_MS_answer_33 : decode y_MS_answer.2.1 33 = .ok (.iload_n 1, 1) := dc9_27 (by decide +kernel)
theorem d_MS_answer_34 : decode y_MS_answer.2.1 34 = .ok (.iaload, 1) := dc9_46 (by decide +kernel)
theorem d_MS_answer_35 : decode y_MS_answer.2.1 35 = .ok (.iconst 3, 1) := dc9_6 (by decide +kernel)
theorem d_MS_answer_36 : decode y_MS_answer.2.1 36 = .ok (.if_icmp .eq 33, 3) := dc9_159 (by decide +kernel)
theorem d_MS_answer_39 : decode y_MS_answer.2.1 39 = .ok (.aload_n 0, 1) := dc9_42 (by decide +kernel)
theorem d_MS_answer_40 : decode y_MS_answer.2.1 40 = .ok (.getfield 72, 3) := dc9_180 (by decide +kernel)
theorem d_MS_answer_43 : decode y_MS_answer.2.1 43 = .ok (.aload_n 0, 1) := dc9_42 (by decide +kernel)
theorem d_MS_answer_44 : decode y_MS_answer.2.1 44 = .ok (.getfield 160, 3) := dc9_180 (by decide +kernel)
theorem d_MS_answer_47 : decode y_MS_answer.2.1 47 = .ok (.iload_n 1, 1) := dc9_27 (by decide +kernel)
theorem d_MS_answer_48 : decode y_MS_answer.2.1 48 = .ok (.iastore, 1) := dc9_79 (by decide +kernel)
theorem d_MS_answer_49 : decode y_MS_answer.2.1 49 = .ok (.aload_n 0, 1) := dc9_42 (by decide +kernel)
theorem d_MS_answer_50 : decode y_MS_answer.2.1 50 = .ok (.getfield 75, 3) := dc9_180 (by decide +kernel)
theorem d_MS_answer_53 : decode y_MS_answer.2.1 53 = .ok (.iload_n 1, 1) := dc9_27 (by decide +kernel)
theorem d_MS_answer_54 : decode y_MS_answer.2.1 54 = .ok (.aload_n 0, 1) := dc9_42 (by decide +kernel)
theorem d_MS_answer_55 : decode y_MS_answer.2.1 55 = .ok (.getfield 160, 3) := dc9_180 (by decide +kernel)
theorem d_MS_answer_58 : decode y_MS_answer.2.1 58 = .ok (.iastore, 1) := dc9_79 (by decide +kernel)
theorem d_MS_answer_69 : decode y_MS_answer.2.1 69 = .ok (.iinc 1 1, 3) := by decide +kernel
theorem d_MS_answer_72 : decode y_MS_answer.2.1 72 = .ok (.goto (-60), 3) := dc9_167 (by decide +kernel)
theorem d_MS_answer_59 : decode y_MS_answer.2.1 59 = .ok (.aload_n 0, 1) := dc9_42 (by decide +kernel)
theorem d_MS_answer_60 : decode y_MS_answer.2.1 60 = .ok (.dup, 1) := dc9_89 (by decide +kernel)
theorem d_MS_answer_61 : decode y_MS_answer.2.1 61 = .ok (.getfield 160, 3) := dc9_180 (by decide +kernel)
theorem d_MS_answer_64 : decode y_MS_answer.2.1 64 = .ok (.iconst 1, 1) := dc9_4 (by decide +kernel)
theorem d_MS_answer_65 : decode y_MS_answer.2.1 65 = .ok (.iadd, 1) := dc9_96 (by decide +kernel)
theorem d_MS_answer_66 : decode y_MS_answer.2.1 66 = .ok (.putfield 160, 3) := dc9_181 (by decide +kernel)
theorem d_MS_answer_77 : decode y_MS_answer.2.1 77 = .ok (.iload_n 1, 1) := dc9_27 (by decide +kernel)
theorem d_MS_answer_78 : decode y_MS_answer.2.1 78 = .ok (.ifCond .eq 52, 3) := dc9_153 (by decide +kernel)
theorem d_MS_answer_130 : decode y_MS_answer.2.1 130 = .ok (.return_, 1) := dc9_177 (by decide +kernel)
theorem d_MS_answer_81 : decode y_MS_answer.2.1 81 = .ok (.aload_n 0, 1) := dc9_42 (by decide +kernel)
theorem d_MS_answer_82 : decode y_MS_answer.2.1 82 = .ok (.invokevirtual 184, 3) := dc9_182 (by decide +kernel)
theorem d_MS_answer_85 : decode y_MS_answer.2.1 85 = .ok (.iconst 0, 1) := dc9_3 (by decide +kernel)
theorem d_MS_answer_86 : decode y_MS_answer.2.1 86 = .ok (.istore_n 1, 1) := dc9_60 (by decide +kernel)
theorem d_MS_answer_87 : decode y_MS_answer.2.1 87 = .ok (.iconst 0, 1) := dc9_3 (by decide +kernel)
theorem d_MS_answer_88 : decode y_MS_answer.2.1 88 = .ok (.istore_n 2, 1) := dc9_61 (by decide +kernel)
theorem d_MS_answer_89 : decode y_MS_answer.2.1 89 = .ok (.iload_n 2, 1) := dc9_28 (by decide +kernel)
theorem d_MS_answer_90 : decode y_MS_answer.2.1 90 = .ok (.aload_n 0, 1) := dc9_42 (by decide +kernel)
theorem d_MS_answer_91 : decode y_MS_answer.2.1 91 = .ok (.getfield 160, 3) := dc9_180 (by decide +kernel)
theorem d_MS_answer_94 : decode y_MS_answer.2.1 94 = .ok (.if_icmp .ge 33, 3) := dc9_162 (by decide +kernel)
theorem d_MS_answer_127 : decode y_MS_answer.2.1 127 = .ok (.goto (-50), 3) := dc9_167 (by decide +kernel)
theorem d_MS_answer_97 : decode y_MS_answer.2.1 97 = .ok (.aload_n 0, 1) := dc9_42 (by decide +kernel)
theorem d_MS_answer_98 : decode y_MS_answer.2.1 98 = .ok (.aload_n 0, 1) := dc9_42 (by decide +kernel)
theorem d_MS_answer_99 : decode y_MS_answer.2.1 99 = .ok (.getfield 72, 3) := dc9_180 (by decide +kernel)
theorem d_MS_answer_102 : decode y_MS_answer.2.1 102 = .ok (.iload_n 2, 1) := dc9_28 (by decide +kernel)
theorem d_MS_answer_103 : decode y_MS_answer.2.1 103 = .ok (.iaload, 1) := dc9_46 (by decide +kernel)
theorem d_MS_answer_104 : decode y_MS_answer.2.1 104 = .ok (.iconst 2, 1) := dc9_5 (by decide +kernel)
theorem d_MS_answer_105 : decode y_MS_answer.2.1 105 = .ok (.invokevirtual 187, 3) := dc9_182 (by decide +kernel)
theorem d_MS_answer_108 : decode y_MS_answer.2.1 108 = .ok (.ifCond .ne 7, 3) := dc9_154 (by decide +kernel)
theorem d_MS_answer_111 : decode y_MS_answer.2.1 111 = .ok (.iload_n 1, 1) := dc9_27 (by decide +kernel)
theorem d_MS_answer_112 : decode y_MS_answer.2.1 112 = .ok (.ifCond .eq 7, 3) := dc9_153 (by decide +kernel)
theorem d_MS_answer_119 : decode y_MS_answer.2.1 119 = .ok (.iconst 0, 1) := dc9_3 (by decide +kernel)
theorem d_MS_answer_115 : decode y_MS_answer.2.1 115 = .ok (.iconst 1, 1) := dc9_4 (by decide +kernel)
theorem d_MS_answer_116 : decode y_MS_answer.2.1 116 = .ok (.goto 4, 3) := dc9_167 (by decide +kernel)
theorem d_MS_answer_120 : decode y_MS_answer.2.1 120 = .ok (.istore_n 1, 1) := dc9_60 (by decide +kernel)
theorem d_MS_answer_121 : decode y_MS_answer.2.1 121 = .ok (.iinc 2 1, 3) := by decide +kernel
theorem d_MS_answer_124 : decode y_MS_answer.2.1 124 = .ok (.goto (-35), 3) := dc9_167 (by decide +kernel)
def h_MS_answer_12 (G : mG) (d : Nat) (a0 : Nat) (l1 : Int) (M : mM) (Q : mM → Prop) : Prop := mWm G y_MS_answer (d + 1) 12 [vr a0, vi l1, vd] [] M (fun r9 M9 => r9 = none ∧ Q M9)
def h_MS_answer_77 (G : mG) (d : Nat) (a0 : Nat) (l1 : Int) (M : mM) (Q : mM → Prop) : Prop := mWm G y_MS_answer (d + 1) 77 [vr a0, vi l1, vd] [] M (fun r9 M9 => r9 = none ∧ Q M9)
def h_MS_answer_89 (G : mG) (d : Nat) (a0 : Nat) (l1 : Int) (l2 : Int) (M : mM) (Q : mM → Prop) : Prop := mWm G y_MS_answer (d + 1) 89 [vr a0, vi l1, vi l2] [] M (fun r9 M9 => r9 = none ∧ Q M9)
theorem k_MS_answer {G : mG} {d : Nat} {a0 : Nat} {M : mM} {Q : mM → Prop} (hO : mOk M)
    (h : mK M a0 = 17 ∧ Cv G y_MS_grow d [vr a0, vi 1] M (fun M2 => mOk M2 ∧ (mK M2 a0 = 17 ∧ ∀ M6, M6 = mUI M2 a0 24 0 → h_MS_answer_12 G d a0 0 M6 Q))) :
    Cv G y_MS_answer (d + 1) [vr a0] M Q := by
  refine wm_open (y := y_MS_answer) rfl (Nat.le_of_ble_eq_true rfl) (L := [vr a0, vd, vd]) rfl ?_
  obtain ⟨h1, h⟩ := h
  refine wm_aload_n d_MS_answer_0 rfl rfl ?_
  refine wm_iconst d_MS_answer_1 ?_
  refine cf_MS_133 rfl d_MS_answer_2 h1 (Nat.le_of_ble_eq_true rfl) (Cv.mono h (fun M2 h => ?_))
  obtain ⟨hOM2, h⟩ := h
  obtain ⟨h5, h⟩ := h
  obtain ⟨M6, e7⟩ : ∃ M6, M6 = mUI M2 a0 24 0 := ⟨_, rfl⟩
  replace h := h M6 e7
  refine wm_aload_n d_MS_answer_5 rfl rfl ?_
  refine wm_iconst d_MS_answer_6 ?_
  have hOM6 : mOk M6 := by rw [e7]; exact mOk_UI hOM2 ⟨by decide, by decide⟩
  refine pf_MS_160 rfl d_MS_answer_7 h5 ⟨by decide, by decide⟩ e7 ?_
  refine wm_iconst d_MS_answer_10 ?_
  refine wm_istore_n d_MS_answer_11 rfl (by decide) (L' := [vr a0, vi 0, vd]) rfl ?_
  exact h
theorem k_MS_answer_12 {G : mG} {d : Nat} {a0 : Nat} {l1 : Int} {M : mM} {Q : mM → Prop} (hO : mOk M) (hi_l1 : i32 l1)
    (h : mK M a0 = 17 ∧ ((mI M a0 1 ≤ l1) → (h_MS_answer_77 G d a0 1 M Q)) ∧ (¬ (mI M a0 1 ≤ l1) → (mK M (mR M a0 19) = 31 ∧ ((0 : Int) ≤ l1 ∧ l1 < (mN M (mR M a0 19) : Int)) ∧ (¬ (mI M (mR M a0 19) (Int.toNat l1) = 0) → (mK M (mR M a0 4) = 30 ∧ ((0 : Int) ≤ l1 ∧ l1 < (mN M (mR M a0 4) : Int)))) ∧ (((mI M (mR M a0 19) (Int.toNat l1) = 0) ∨ (mI M (mR M a0 4) (Int.toNat l1) = 3)) → (h_MS_answer_12 G d a0 (l1 + 1) M Q)) ∧ (¬ ((mI M (mR M a0 19) (Int.toNat l1) = 0) ∨ (mI M (mR M a0 4) (Int.toNat l1) = 3)) → (mK M (mR M a0 22) = 30 ∧ ((0 : Int) ≤ mI M a0 24 ∧ mI M a0 24 < (mN M (mR M a0 22) : Int)) ∧ ∀ M37, M37 = mUI M (mR M a0 22) (Int.toNat (mI M a0 24)) l1 → mK M37 (mR M37 a0 23) = 30 ∧ ((0 : Int) ≤ l1 ∧ l1 < (mN M37 (mR M37 a0 23) : Int)) ∧ ∀ M41, M41 = mUI M37 (mR M37 a0 23) (Int.toNat l1) (mI M37 a0 24) → i32 ((mI M41 a0 24) + 1) ∧ ∀ M44, M44 = mUI M41 a0 24 ((mI M41 a0 24) + 1) → h_MS_answer_12 G d a0 (l1 + 1) M44 Q))))) :
    h_MS_answer_12 G d a0 l1 M Q := by
  unfold h_MS_answer_12
  obtain ⟨h8, h⟩ := h
  refine wm_iload_n d_MS_answer_12 rfl rfl ?_
  refine wm_aload_n d_MS_answer_13 rfl rfl ?_
  refine gf_MS_103 rfl d_MS_answer_14 h8 ?_
  refine wm_icmp_ge (tgt := 75) d_MS_answer_17 rfl hi_l1 (hO _ _).1 (fun c16 => ?_) (fun c16 => ?_)
  · replace h := h.1 c16
    refine wm_iconst d_MS_answer_75 ?_
    refine wm_istore_n d_MS_answer_76 rfl (by decide) (L' := [vr a0, vi 1, vd]) rfl ?_
    exact h
  · replace h := h.2 c16
    obtain ⟨h17, h⟩ := h
    obtain ⟨h18, h⟩ := h
    refine wm_aload_n d_MS_answer_20 rfl rfl ?_
    refine gf_MS_63 rfl d_MS_answer_21 h8 ?_
    refine wm_iload_n d_MS_answer_24 rfl rfl ?_
    refine wm_zald d_MS_answer_25 h17 h18 ?_
    obtain ⟨s32, h⟩ := h
    have hE0 : ((mI M (mR M a0 19) (Int.toNat l1) = 0) ∨ (mI M (mR M a0 4) (Int.toNat l1) = 3)) → mWm G y_MS_answer (d + 1) 69 [vr a0, vi l1, vd] [] M (fun r9 M9 => r9 = none ∧ Q M9) := by
      intro q33
      have h := h.1 q33
      refine wm_iinc d_MS_answer_69 (by decide) rfl (L' := [vr a0, vi (l1 + 1), vd]) rfl ?_
      refine wm_goto (tgt := 12) d_MS_answer_72 rfl ?_
      exact h
    have hE1 : ¬ ((mI M (mR M a0 19) (Int.toNat l1) = 0) ∨ (mI M (mR M a0 4) (Int.toNat l1) = 3)) → mWm G y_MS_answer (d + 1) 39 [vr a0, vi l1, vd] [] M (fun r9 M9 => r9 = none ∧ Q M9) := by
      intro q34
      have h := h.2 q34
      obtain ⟨h35, h⟩ := h
      obtain ⟨h36, h⟩ := h
      obtain ⟨M37, e38⟩ : ∃ M37, M37 = mUI M (mR M a0 22) (Int.toNat (mI M a0 24)) l1 := ⟨_, rfl⟩
      replace h := h M37 e38
      obtain ⟨h39, h⟩ := h
      obtain ⟨h40, h⟩ := h
      obtain ⟨M41, e42⟩ : ∃ M41, M41 = mUI M37 (mR M37 a0 23) (Int.toNat l1) (mI M37 a0 24) := ⟨_, rfl⟩
      replace h := h M41 e42
      obtain ⟨h43, h⟩ := h
      obtain ⟨M44, e45⟩ : ∃ M44, M44 = mUI M41 a0 24 ((mI M41 a0 24) + 1) := ⟨_, rfl⟩
      replace h := h M44 e45
      refine wm_aload_n d_MS_answer_39 rfl rfl ?_
      refine gf_MS_72 rfl d_MS_answer_40 h8 ?_
      refine wm_aload_n d_MS_answer_43 rfl rfl ?_
      refine gf_MS_160 rfl d_MS_answer_44 h8 ?_
      refine wm_iload_n d_MS_answer_47 rfl rfl ?_
      have hOM37 : mOk M37 := by rw [e38]; exact mOk_UI hO hi_l1
      refine wm_iastE d_MS_answer_48 h35 h36 hi_l1 e38 ?_
      refine wm_aload_n d_MS_answer_49 rfl rfl ?_
      refine gf_MS_75 rfl d_MS_answer_50 (by rw [e38]; exact h8) ?_
      refine wm_iload_n d_MS_answer_53 rfl rfl ?_
      refine wm_aload_n d_MS_answer_54 rfl rfl ?_
      refine gf_MS_160 rfl d_MS_answer_55 (by rw [e38]; exact h8) ?_
      have hOM41 : mOk M41 := by rw [e42]; exact mOk_UI hOM37 (hOM37 _ _).1
      refine wm_iastE d_MS_answer_58 h39 h40 (hOM37 _ _).1 e42 ?_
      refine wm_aload_n d_MS_answer_59 rfl rfl ?_
      refine wm_dup d_MS_answer_60 rfl ?_
      refine gf_MS_160 rfl d_MS_answer_61 (by rw [e42, e38]; exact h8) ?_
      refine wm_iconst d_MS_answer_64 ?_
      refine wm_iadd d_MS_answer_65 ?_
      have hOM44 : mOk M44 := by rw [e45]; exact mOk_UI hOM41 h43
      refine pf_MS_160 rfl d_MS_answer_66 (by rw [e42, e38]; exact h8) h43 e45 ?_
      refine wm_iinc d_MS_answer_69 (by decide) rfl (L' := [vr a0, vi (l1 + 1), vd]) rfl ?_
      refine wm_goto (tgt := 12) d_MS_answer_72 rfl ?_
      exact h
    clear h
    have s46 := s32
    refine wm_if_eq (tgt := 69) d_MS_answer_26 rfl (hO _ _).1 (fun c31 => ?_) (fun c31 => ?_)
    · exact hE0 (Or.inl c31)
    · have s46 := s46 c31
      obtain ⟨h28, h29⟩ := s46
      refine wm_aload_n d_MS_answer_29 rfl rfl ?_
      refine gf_MS_16 rfl d_MS_answer_30 h8 ?_
      refine wm_iload_n d_MS_answer_33 rfl rfl ?_
      refine wm_iald d_MS_answer_34 h28 h29 ?_
      refine wm_iconst d_MS_answer_35 ?_
      refine wm_icmp_eq (tgt := 69) d_MS_answer_36 rfl (hO _ _).1 ⟨by decide, by decide⟩ (fun c30 => ?_) (fun c30 => ?_)
      · exact hE0 (Or.inr c30)
      · exact hE1 (fun z47 => Or.elim z47 c31 c30)
theorem k_MS_answer_77 {G : mG} {d : Nat} {a0 : Nat} {l1 : Int} {M : mM} {Q : mM → Prop} (hO : mOk M) (hi_l1 : i32 l1)
    (h : ((l1 = 0) → (Q M)) ∧ (¬ (l1 = 0) → (mK M a0 = 17 ∧ Cv G y_MS_settle d [vr a0] M (fun M52 => mOk M52 ∧ (h_MS_answer_89 G d a0 0 0 M52 Q))))) :
    h_MS_answer_77 G d a0 l1 M Q := by
  unfold h_MS_answer_77
  refine wm_iload_n d_MS_answer_77 rfl rfl ?_
  refine wm_if_eq (tgt := 130) d_MS_answer_78 rfl hi_l1 (fun c50 => ?_) (fun c50 => ?_)
  · replace h := h.1 c50
    refine wm_return d_MS_answer_130 rfl ?_
    exact ⟨rfl, h⟩
  · replace h := h.2 c50
    obtain ⟨h51, h⟩ := h
    refine wm_aload_n d_MS_answer_81 rfl rfl ?_
    refine cf_MS_184 rfl d_MS_answer_82 h51 (Nat.le_of_ble_eq_true rfl) (Cv.mono h (fun M52 h => ?_))
    obtain ⟨hOM52, h⟩ := h
    refine wm_iconst d_MS_answer_85 ?_
    refine wm_istore_n d_MS_answer_86 rfl (by decide) (L' := [vr a0, vi 0, vd]) rfl ?_
    refine wm_iconst d_MS_answer_87 ?_
    refine wm_istore_n d_MS_answer_88 rfl (by decide) (L' := [vr a0, vi 0, vi 0]) rfl ?_
    exact h
theorem k_MS_answer_89 {G : mG} {d : Nat} {a0 : Nat} {l1 : Int} {l2 : Int} {M : mM} {Q : mM → Prop} (hO : mOk M) (hi_l1 : i32 l1) (hi_l2 : i32 l2)
    (h : mK M a0 = 17 ∧ ((mI M a0 24 ≤ l2) → (h_MS_answer_77 G d a0 l1 M Q)) ∧ (¬ (mI M a0 24 ≤ l2) → (mK M (mR M a0 22) = 30 ∧ ((0 : Int) ≤ l2 ∧ l2 < (mN M (mR M a0 22) : Int)) ∧ Ci G y_MS_improve d [vr a0, vi (mI M (mR M a0 22) (Int.toNat l2)), vi 2] M (fun x61 M60 => i32 x61 ∧ mOk M60 ∧ (∀ v65 : Int, v65 = (if ((x61 = 0) ∧ (l1 = 0)) then 0 else 1) → h_MS_answer_89 G d a0 v65 (l2 + 1) M60 Q))))) :
    h_MS_answer_89 G d a0 l1 l2 M Q := by
  unfold h_MS_answer_89
  obtain ⟨h55, h⟩ := h
  refine wm_iload_n d_MS_answer_89 rfl rfl ?_
  refine wm_aload_n d_MS_answer_90 rfl rfl ?_
  refine gf_MS_160 rfl d_MS_answer_91 h55 ?_
  refine wm_icmp_ge (tgt := 127) d_MS_answer_94 rfl hi_l2 (hO _ _).1 (fun c57 => ?_) (fun c57 => ?_)
  · replace h := h.1 c57
    refine wm_goto (tgt := 77) d_MS_answer_127 rfl ?_
    refine wm_less (L' := [vr a0, vi l1, vd]) ⟨Or.inr rfl, Or.inr rfl, Or.inl rfl, trivial⟩ ?_
    exact h
  · replace h := h.2 c57
    obtain ⟨h58, h⟩ := h
    obtain ⟨h59, h⟩ := h
    refine wm_aload_n d_MS_answer_97 rfl rfl ?_
    refine wm_aload_n d_MS_answer_98 rfl rfl ?_
    refine gf_MS_72 rfl d_MS_answer_99 h55 ?_
    refine wm_iload_n d_MS_answer_102 rfl rfl ?_
    refine wm_iald d_MS_answer_103 h58 h59 ?_
    refine wm_iconst d_MS_answer_104 ?_
    refine cf_MS_187 rfl d_MS_answer_105 h55 (Nat.le_of_ble_eq_true rfl) (Ci.mono h (fun x61 M60 h => ?_))
    obtain ⟨h62, hOM60, h⟩ := h
    have hJ : ∀ v65 : Int, v65 = (if ((x61 = 0) ∧ (l1 = 0)) then 0 else 1) → mWm G y_MS_answer (d + 1) 120 [vr a0, vd, vi l2] [vi v65] M60 (fun r9 M9 => r9 = none ∧ Q M9) := by
      intro v65 e67
      have h := h v65 e67
      have h68 : i32 v65 := by rw [e67]; (repeat' split) <;> first | exact ⟨by decide, by decide⟩ | exact ⟨by decide, by decide⟩
      have h69 : (v65 = 0 ∨ v65 = 1) := by rw [e67]; (repeat' split) <;> decide
      refine wm_istore_n d_MS_answer_120 rfl (by decide) (L' := [vr a0, vi v65, vi l2]) rfl ?_
      refine wm_iinc d_MS_answer_121 (by decide) rfl (L' := [vr a0, vi v65, vi (l2 + 1)]) rfl ?_
      refine wm_goto (tgt := 89) d_MS_answer_124 rfl ?_
      exact h
    clear h
    refine wm_if_ne (tgt := 115) d_MS_answer_108 rfl h62 (fun c63 => ?_) (fun c63 => ?_)
    · refine wm_iconst d_MS_answer_115 ?_
      refine wm_goto (tgt := 120) d_MS_answer_116 rfl ?_
      refine wm_less (L' := [vr a0, vd, vi l2]) ⟨Or.inr rfl, Or.inl rfl, Or.inr rfl, trivial⟩ ?_
      exact hJ 1 (if_neg (fun z72 => c63 z72.1)).symm
    · replace c63 := Classical.not_not.mp c63
      refine wm_iload_n d_MS_answer_111 rfl rfl ?_
      refine wm_if_eq (tgt := 119) d_MS_answer_112 rfl hi_l1 (fun c64 => ?_) (fun c64 => ?_)
      · refine wm_iconst d_MS_answer_119 ?_
        refine wm_less (L' := [vr a0, vd, vi l2]) ⟨Or.inr rfl, Or.inl rfl, Or.inr rfl, trivial⟩ ?_
        exact hJ 0 (if_pos ⟨c63, c64⟩).symm
      · refine wm_iconst d_MS_answer_115 ?_
        refine wm_goto (tgt := 120) d_MS_answer_116 rfl ?_
        refine wm_less (L' := [vr a0, vd, vi l2]) ⟨Or.inr rfl, Or.inl rfl, Or.inr rfl, trivial⟩ ?_
        exact hJ 1 (if_neg (fun z70 => c64 z70.2)).symm
theorem d_MS_improve_0 : decode y_MS_improve.2.1 0 = .ok (.iconst 0, 1) := dc9_3 (by decide +kernel)
theorem d_MS_improve_1 : decode y_MS_improve.2.1 1 = .ok (.istore_n 3, 1) := dc9_62 (by decide +kernel)
theorem d_MS_improve_2 : decode y_MS_improve.2.1 2 = .ok (.aload_n 0, 1) := dc9_42 (by decide +kernel)
theorem d_MS_improve_3 : decode y_MS_improve.2.1 3 = .ok (.getfield 16, 3) := dc9_180 (by decide +kernel)
theorem d_MS_improve_6 : decode y_MS_improve.2.1 6 = .ok (.iload_n 1, 1) := dc9_27 (by decide +kernel)
theorem d_MS_improve_7 : decode y_MS_improve.2.1 7 = .ok (.iaload, 1) := dc9_46 (by decide +kernel)
theorem d_MS_improve_8 : decode y_MS_improve.2.1 8 = .ok (.iload_n 2, 1) := dc9_28 (by decide +kernel)
theorem d_MS_improve_9 : decode y_MS_improve.2.1 9 = .ok (.if_icmp .ne 85, 3) := dc9_160 (by decide +kernel)
theorem d_MS_improve_12 : decode y_MS_improve.2.1 12 = .ok (.iload_n 3, 1) := dc9_29 (by decide +kernel)
theorem d_MS_improve_13 : decode y_MS_improve.2.1 13 = .ok (.aload_n 0, 1) := dc9_42 (by decide +kernel)
theorem d_MS_improve_14 : decode y_MS_improve.2.1 14 = .ok (.iload_n 1, 1) := dc9_27 (by decide +kernel)
theorem d_MS_improve_15 : decode y_MS_improve.2.1 15 = .ok (.invokevirtual 116, 3) := dc9_182 (by decide +kernel)
theorem d_MS_improve_18 : decode y_MS_improve.2.1 18 = .ok (.if_icmp .ge 76, 3) := dc9_162 (by decide +kernel)
theorem d_MS_improve_21 : decode y_MS_improve.2.1 21 = .ok (.aload_n 0, 1) := dc9_42 (by decide +kernel)
theorem d_MS_improve_22 : decode y_MS_improve.2.1 22 = .ok (.iload_n 1, 1) := dc9_27 (by decide +kernel)
theorem d_MS_improve_23 : decode y_MS_improve.2.1 23 = .ok (.iload_n 3, 1) := dc9_29 (by decide +kernel)
theorem d_MS_improve_94 : decode y_MS_improve.2.1 94 = .ok (.iconst 0, 1) := dc9_3 (by decide +kernel)
theorem d_MS_improve_95 : decode y_MS_improve.2.1 95 = .ok (.ireturn, 1) := dc9_172 (by decide +kernel)
theorem d_MS_improve_24 : decode y_MS_improve.2.1 24 = .ok (.invokevirtual 120, 3) := dc9_182 (by decide +kernel)
theorem d_MS_improve_27 : decode y_MS_improve.2.1 27 = .ok (.ifCond .eq 61, 3) := dc9_153 (by decide +kernel)
theorem d_MS_improve_30 : decode y_MS_improve.2.1 30 = .ok (.aload_n 0, 1) := dc9_42 (by decide +kernel)
theorem d_MS_improve_31 : decode y_MS_improve.2.1 31 = .ok (.iload_n 1, 1) := dc9_27 (by decide +kernel)
theorem d_MS_improve_32 : decode y_MS_improve.2.1 32 = .ok (.iload_n 3, 1) := dc9_29 (by decide +kernel)
theorem d_MS_improve_33 : decode y_MS_improve.2.1 33 = .ok (.aload_n 0, 1) := dc9_42 (by decide +kernel)
theorem d_MS_improve_34 : decode y_MS_improve.2.1 34 = .ok (.getfield 69, 3) := dc9_180 (by decide +kernel)
theorem d_MS_improve_37 : decode y_MS_improve.2.1 37 = .ok (.iconst 0, 1) := dc9_3 (by decide +kernel)
theorem d_MS_improve_38 : decode y_MS_improve.2.1 38 = .ok (.iconst 1, 1) := dc9_4 (by decide +kernel)
theorem d_MS_improve_88 : decode y_MS_improve.2.1 88 = .ok (.iinc 3 1, 3) := by decide +kernel
theorem d_MS_improve_91 : decode y_MS_improve.2.1 91 = .ok (.goto (-89), 3) := dc9_167 (by decide +kernel)
theorem d_MS_improve_39 : decode y_MS_improve.2.1 39 = .ok (.invokevirtual 190, 3) := dc9_182 (by decide +kernel)
theorem d_MS_improve_42 : decode y_MS_improve.2.1 42 = .ok (.aload_n 0, 1) := dc9_42 (by decide +kernel)
theorem d_MS_improve_43 : decode y_MS_improve.2.1 43 = .ok (.getfield 10, 3) := dc9_180 (by decide +kernel)
theorem d_MS_improve_46 : decode y_MS_improve.2.1 46 = .ok (.aload_n 0, 1) := dc9_42 (by decide +kernel)
theorem d_MS_improve_47 : decode y_MS_improve.2.1 47 = .ok (.getfield 91, 3) := dc9_180 (by decide +kernel)
theorem d_MS_improve_50 : decode y_MS_improve.2.1 50 = .ok (.aload_n 0, 1) := dc9_42 (by decide +kernel)
theorem d_MS_improve_51 : decode y_MS_improve.2.1 51 = .ok (.getfield 69, 3) := dc9_180 (by decide +kernel)
theorem d_MS_improve_54 : decode y_MS_improve.2.1 54 = .ok (.iload_n 1, 1) := dc9_27 (by decide +kernel)
theorem d_MS_improve_55 : decode y_MS_improve.2.1 55 = .ok (.aaload, 1) := dc9_50 (by decide +kernel)
theorem d_MS_improve_56 : decode y_MS_improve.2.1 56 = .ok (.invokevirtual 194, 3) := dc9_182 (by decide +kernel)
theorem d_MS_improve_59 : decode y_MS_improve.2.1 59 = .ok (.istore 4, 2) := dc9_54 (by decide +kernel)
theorem d_MS_improve_61 : decode y_MS_improve.2.1 61 = .ok (.iload_n 2, 1) := dc9_28 (by decide +kernel)
theorem d_MS_improve_62 : decode y_MS_improve.2.1 62 = .ok (.iconst 1, 1) := dc9_4 (by decide +kernel)
theorem d_MS_improve_63 : decode y_MS_improve.2.1 63 = .ok (.if_icmp .ne 11, 3) := dc9_160 (by decide +kernel)
theorem d_MS_improve_66 : decode y_MS_improve.2.1 66 = .ok (.iload 4, 2) := dc9_21 (by decide +kernel)
theorem d_MS_improve_74 : decode y_MS_improve.2.1 74 = .ok (.iload 4, 2) := dc9_21 (by decide +kernel)
theorem d_MS_improve_68 : decode y_MS_improve.2.1 68 = .ok (.ifCond .le 20, 3) := dc9_158 (by decide +kernel)
theorem d_MS_improve_71 : decode y_MS_improve.2.1 71 = .ok (.goto 8, 3) := dc9_167 (by decide +kernel)
theorem d_MS_improve_79 : decode y_MS_improve.2.1 79 = .ok (.aload_n 0, 1) := dc9_42 (by decide +kernel)
theorem d_MS_improve_80 : decode y_MS_improve.2.1 80 = .ok (.getfield 60, 3) := dc9_180 (by decide +kernel)
theorem d_MS_improve_83 : decode y_MS_improve.2.1 83 = .ok (.iload_n 1, 1) := dc9_27 (by decide +kernel)
theorem d_MS_improve_84 : decode y_MS_improve.2.1 84 = .ok (.iload_n 3, 1) := dc9_29 (by decide +kernel)
theorem d_MS_improve_85 : decode y_MS_improve.2.1 85 = .ok (.iastore, 1) := dc9_79 (by decide +kernel)
theorem d_MS_improve_86 : decode y_MS_improve.2.1 86 = .ok (.iconst 1, 1) := dc9_4 (by decide +kernel)
theorem d_MS_improve_87 : decode y_MS_improve.2.1 87 = .ok (.ireturn, 1) := dc9_172 (by decide +kernel)
theorem d_MS_improve_76 : decode y_MS_improve.2.1 76 = .ok (.ifCond .ge 12, 3) := dc9_156 (by decide +kernel)
def h_MS_improve_2 (G : mG) (d : Nat) (a0 : Nat) (l1 : Int) (l2 : Int) (l3 : Int) (M : mM) (Q : Int → mM → Prop) : Prop := mWm G y_MS_improve (d + 1) 2 [vr a0, vi l1, vi l2, vi l3, vd] [] M (fun r9 M9 => ∃ x9, r9 = some (vi x9) ∧ Q x9 M9)
theorem k_MS_improve {G : mG} {d : Nat} {a0 : Nat} {l1 : Int} {l2 : Int} {M : mM} {Q : Int → mM → Prop} (hO : mOk M) (hi_l1 : i32 l1) (hi_l2 : i32 l2)
    (h : h_MS_improve_2 G d a0 l1 l2 0 M Q) :
    Ci G y_MS_improve (d + 1) [vr a0, vi l1, vi l2] M Q := by
  refine wm_open (y := y_MS_improve) rfl (Nat.le_of_ble_eq_true rfl) (L := [vr a0, vi l1, vi l2, vd, vd]) rfl ?_
  refine wm_iconst d_MS_improve_0 ?_
  refine wm_istore_n d_MS_improve_1 rfl (by decide) (L' := [vr a0, vi l1, vi l2, vi 0, vd]) rfl ?_
  exact h
theorem k_MS_improve_2 {G : mG} {d : Nat} {a0 : Nat} {l1 : Int} {l2 : Int} {l3 : Int} {M : mM} {Q : Int → mM → Prop} (hO : mOk M) (hi_l1 : i32 l1) (hi_l2 : i32 l2) (hi_l3 : i32 l3)
    (h : mK M a0 = 17 ∧ mK M (mR M a0 4) = 30 ∧ ((0 : Int) ≤ l1 ∧ l1 < (mN M (mR M a0 4) : Int)) ∧ ((mI M (mR M a0 4) (Int.toNat l1) = l2) → (Ci G y_MS_many d [vr a0, vi l1] M (fun x7 M6 => i32 x7 ∧ mOk M6 ∧ (((x7 ≤ l3) → (Q 0 M6)) ∧ (¬ (x7 ≤ l3) → (mK M6 a0 = 17 ∧ Ci G y_MS_may d [vr a0, vi l1, vi l3] M6 (fun x13 M12 => i32 x13 ∧ mOk M12 ∧ (((x13 = 0) → (h_MS_improve_2 G d a0 l1 l2 (l3 + 1) M12 Q)) ∧ (¬ (x13 = 0) → (mK M12 a0 = 17 ∧ Cv G y_MS_worthOf d [vr a0, vi l1, vi l3, vr (mR M12 a0 21), vi 0, vi 1] M12 (fun M18 => mOk M18 ∧ (mK M18 a0 = 17 ∧ mK M18 (mR M18 a0 21) = 36 ∧ ((0 : Int) ≤ l1 ∧ l1 < (mN M18 (mR M18 a0 21) : Int)) ∧ mK M18 (mR M18 a0 0) = 18 ∧ Ci G y_MU_compare d [vr (mR M18 a0 0), vr (mR M18 a0 28), vr (mR M18 (mR M18 a0 21) (Int.toNat l1))] M18 (fun x26 M25 => i32 x26 ∧ mOk M25 ∧ (((l2 = 1) → (((x26 ≤ 0) → (h_MS_improve_2 G d a0 l1 l2 (l3 + 1) M25 Q)) ∧ (¬ (x26 ≤ 0) → (mK M25 a0 = 17 ∧ mK M25 (mR M25 a0 18) = 30 ∧ ((0 : Int) ≤ l1 ∧ l1 < (mN M25 (mR M25 a0 18) : Int)) ∧ ∀ M48, M48 = mUI M25 (mR M25 a0 18) (Int.toNat l1) l3 → Q 1 M48)))) ∧ (¬ (l2 = 1) → (((0 ≤ x26) → (h_MS_improve_2 G d a0 l1 l2 (l3 + 1) M25 Q)) ∧ (¬ (0 ≤ x26) → (mK M25 a0 = 17 ∧ mK M25 (mR M25 a0 18) = 30 ∧ ((0 : Int) ≤ l1 ∧ l1 < (mN M25 (mR M25 a0 18) : Int)) ∧ ∀ M55, M55 = mUI M25 (mR M25 a0 18) (Int.toNat l1) l3 → Q 1 M55)))))))))))))))))) ∧ (¬ (mI M (mR M a0 4) (Int.toNat l1) = l2) → (Q 0 M))) :
    h_MS_improve_2 G d a0 l1 l2 l3 M Q := by
  unfold h_MS_improve_2
  obtain ⟨h1, h⟩ := h
  obtain ⟨h2, h⟩ := h
  obtain ⟨h3, h⟩ := h
  refine wm_aload_n d_MS_improve_2 rfl rfl ?_
  refine gf_MS_16 rfl d_MS_improve_3 h1 ?_
  refine wm_iload_n d_MS_improve_6 rfl rfl ?_
  refine wm_iald d_MS_improve_7 h2 h3 ?_
  refine wm_iload_n d_MS_improve_8 rfl rfl ?_
  refine wm_icmp_ne (tgt := 94) d_MS_improve_9 rfl (hO _ _).1 hi_l2 (fun c5 => ?_) (fun c5 => ?_)
  · replace h := h.2 c5
    refine wm_iconst d_MS_improve_94 ?_
    refine wm_ireturn d_MS_improve_95 rfl (m_nb (by decide)) ?_
    exact ⟨_, rfl, h⟩
  · replace c5 := Classical.not_not.mp c5
    replace h := h.1 c5
    refine wm_iload_n d_MS_improve_12 rfl rfl ?_
    refine wm_aload_n d_MS_improve_13 rfl rfl ?_
    refine wm_iload_n d_MS_improve_14 rfl rfl ?_
    refine cf_MS_116 rfl d_MS_improve_15 h1 (Nat.le_of_ble_eq_true rfl) (Ci.mono h (fun x7 M6 h => ?_))
    obtain ⟨h8, hOM6, h⟩ := h
    refine wm_icmp_ge (tgt := 94) d_MS_improve_18 rfl hi_l3 h8 (fun c10 => ?_) (fun c10 => ?_)
    · replace h := h.1 c10
      refine wm_iconst d_MS_improve_94 ?_
      refine wm_ireturn d_MS_improve_95 rfl (m_nb (by decide)) ?_
      exact ⟨_, rfl, h⟩
    · replace h := h.2 c10
      obtain ⟨h11, h⟩ := h
      refine wm_aload_n d_MS_improve_21 rfl rfl ?_
      refine wm_iload_n d_MS_improve_22 rfl rfl ?_
      refine wm_iload_n d_MS_improve_23 rfl rfl ?_
      refine cf_MS_120 rfl d_MS_improve_24 h11 (Nat.le_of_ble_eq_true rfl) (Ci.mono h (fun x13 M12 h => ?_))
      obtain ⟨h14, hOM12, h⟩ := h
      refine wm_if_eq (tgt := 88) d_MS_improve_27 rfl h14 (fun c16 => ?_) (fun c16 => ?_)
      · replace h := h.1 c16
        refine wm_iinc d_MS_improve_88 (by decide) rfl (L' := [vr a0, vi l1, vi l2, vi (l3 + 1), vd]) rfl ?_
        refine wm_goto (tgt := 2) d_MS_improve_91 rfl ?_
        exact h
      · replace h := h.2 c16
        obtain ⟨h17, h⟩ := h
        refine wm_aload_n d_MS_improve_30 rfl rfl ?_
        refine wm_iload_n d_MS_improve_31 rfl rfl ?_
        refine wm_iload_n d_MS_improve_32 rfl rfl ?_
        refine wm_aload_n d_MS_improve_33 rfl rfl ?_
        refine gf_MS_69 rfl d_MS_improve_34 h17 ?_
        refine wm_iconst d_MS_improve_37 ?_
        refine wm_iconst d_MS_improve_38 ?_
        refine cf_MS_190 rfl d_MS_improve_39 h17 (Nat.le_of_ble_eq_true rfl) (Cv.mono h (fun M18 h => ?_))
        obtain ⟨hOM18, h⟩ := h
        obtain ⟨h21, h⟩ := h
        obtain ⟨h22, h⟩ := h
        obtain ⟨h23, h⟩ := h
        obtain ⟨h24, h⟩ := h
        refine wm_aload_n d_MS_improve_42 rfl rfl ?_
        refine gf_MS_10 rfl d_MS_improve_43 h21 ?_
        refine wm_aload_n d_MS_improve_46 rfl rfl ?_
        refine gf_MS_91 rfl d_MS_improve_47 h21 ?_
        refine wm_aload_n d_MS_improve_50 rfl rfl ?_
        refine gf_MS_69 rfl d_MS_improve_51 h21 ?_
        refine wm_iload_n d_MS_improve_54 rfl rfl ?_
        refine wm_aald6 d_MS_improve_55 h22 h23 ?_
        refine cf_MS_194 rfl d_MS_improve_56 h24 (Nat.le_of_ble_eq_true rfl) (Ci.mono h (fun x26 M25 h => ?_))
        obtain ⟨h27, hOM25, h⟩ := h
        refine wm_istore d_MS_improve_59 (by decide) (L' := [vr a0, vi l1, vi l2, vi l3, vi x26]) rfl ?_
        refine wm_iload_n d_MS_improve_61 rfl rfl ?_
        refine wm_iconst d_MS_improve_62 ?_
        refine wm_icmp_ne (tgt := 74) d_MS_improve_63 rfl hi_l2 ⟨by decide, by decide⟩ (fun c39 => ?_) (fun c39 => ?_)
        · replace h := h.2 c39
          refine wm_iload d_MS_improve_74 rfl ?_
          refine wm_if_ge (tgt := 88) d_MS_improve_76 rfl h27 (fun c51 => ?_) (fun c51 => ?_)
          · replace h := h.1 c51
            refine wm_iinc d_MS_improve_88 (by decide) rfl (L' := [vr a0, vi l1, vi l2, vi (l3 + 1), vi x26]) rfl ?_
            refine wm_goto (tgt := 2) d_MS_improve_91 rfl ?_
            refine wm_less (L' := [vr a0, vi l1, vi l2, vi (l3 + 1), vd]) ⟨Or.inr rfl, Or.inr rfl, Or.inr rfl, Or.inr rfl, Or.inl rfl, trivial⟩ ?_
            exact h
          · replace h := h.2 c51
            obtain ⟨h52, h⟩ := h
            obtain ⟨h53, h⟩ := h
            obtain ⟨h54, h⟩ := h
            obtain ⟨M55, e56⟩ : ∃ M55, M55 = mUI M25 (mR M25 a0 18) (Int.toNat l1) l3 := ⟨_, rfl⟩
            replace h := h M55 e56
            refine wm_aload_n d_MS_improve_79 rfl rfl ?_
            refine gf_MS_60 rfl d_MS_improve_80 h52 ?_
            refine wm_iload_n d_MS_improve_83 rfl rfl ?_
            refine wm_iload_n d_MS_improve_84 rfl rfl ?_
            have hOM55 : mOk M55 := by rw [e56]; exact mOk_UI hOM25 hi_l3
            refine wm_iastE d_MS_improve_85 h53 h54 hi_l3 e56 ?_
            refine wm_iconst d_MS_improve_86 ?_
            refine wm_ireturn d_MS_improve_87 rfl (m_nb (by decide)) ?_
            exact ⟨_, rfl, h⟩
        · replace c39 := Classical.not_not.mp c39
          replace h := h.1 c39
          refine wm_iload d_MS_improve_66 rfl ?_
          refine wm_if_le (tgt := 88) d_MS_improve_68 rfl h27 (fun c44 => ?_) (fun c44 => ?_)
          · replace h := h.1 c44
            refine wm_iinc d_MS_improve_88 (by decide) rfl (L' := [vr a0, vi l1, vi l2, vi (l3 + 1), vi x26]) rfl ?_
            refine wm_goto (tgt := 2) d_MS_improve_91 rfl ?_
            refine wm_less (L' := [vr a0, vi l1, vi l2, vi (l3 + 1), vd]) ⟨Or.inr rfl, Or.inr rfl, Or.inr rfl, Or.inr rfl, Or.inl rfl, trivial⟩ ?_
            exact h
          · replace h := h.2 c44
            obtain ⟨h45, h⟩ := h
            obtain ⟨h46, h⟩ := h
            obtain ⟨h47, h⟩ := h
            obtain ⟨M48, e49⟩ : ∃ M48, M48 = mUI M25 (mR M25 a0 18) (Int.toNat l1) l3 := ⟨_, rfl⟩
            replace h := h M48 e49
            refine wm_goto (tgt := 79) d_MS_improve_71 rfl ?_
            refine wm_aload_n d_MS_improve_79 rfl rfl ?_
            refine gf_MS_60 rfl d_MS_improve_80 h45 ?_
            refine wm_iload_n d_MS_improve_83 rfl rfl ?_
            refine wm_iload_n d_MS_improve_84 rfl rfl ?_
            have hOM48 : mOk M48 := by rw [e49]; exact mOk_UI hOM25 hi_l3
            refine wm_iastE d_MS_improve_85 h46 h47 hi_l3 e49 ?_
            refine wm_iconst d_MS_improve_86 ?_
            refine wm_ireturn d_MS_improve_87 rfl (m_nb (by decide)) ?_
            exact ⟨_, rfl, h⟩
theorem d_MS_firstThatMay_0 : decode y_MS_firstThatMay.2.1 0 = .ok (.aload_n 0, 1) := dc9_42 (by decide +kernel)
theorem d_MS_firstThatMay_1 : decode y_MS_firstThatMay.2.1 1 = .ok (.getfield 113, 3) := dc9_180 (by decide +kernel)
theorem d_MS_firstThatMay_4 : decode y_MS_firstThatMay.2.1 4 = .ok (.aload_n 0, 1) := dc9_42 (by decide +kernel)
theorem d_MS_firstThatMay_5 : decode y_MS_firstThatMay.2.1 5 = .ok (.getfield 16, 3) := dc9_180 (by decide +kernel)
theorem d_MS_firstThatMay_8 : decode y_MS_firstThatMay.2.1 8 = .ok (.iload_n 1, 1) := dc9_27 (by decide +kernel)
theorem d_MS_firstThatMay_9 : decode y_MS_firstThatMay.2.1 9 = .ok (.iaload, 1) := dc9_46 (by decide +kernel)
theorem d_MS_firstThatMay_10 : decode y_MS_firstThatMay.2.1 10 = .ok (.if_icmp .ne 12, 3) := dc9_160 (by decide +kernel)
theorem d_MS_firstThatMay_13 : decode y_MS_firstThatMay.2.1 13 = .ok (.aload_n 0, 1) := dc9_42 (by decide +kernel)
theorem d_MS_firstThatMay_14 : decode y_MS_firstThatMay.2.1 14 = .ok (.getfield 51, 3) := dc9_180 (by decide +kernel)
theorem d_MS_firstThatMay_17 : decode y_MS_firstThatMay.2.1 17 = .ok (.iload_n 1, 1) := dc9_27 (by decide +kernel)
theorem d_MS_firstThatMay_18 : decode y_MS_firstThatMay.2.1 18 = .ok (.iaload, 1) := dc9_46 (by decide +kernel)
theorem d_MS_firstThatMay_19 : decode y_MS_firstThatMay.2.1 19 = .ok (.goto 4, 3) := dc9_167 (by decide +kernel)
theorem d_MS_firstThatMay_22 : decode y_MS_firstThatMay.2.1 22 = .ok (.iconst 0, 1) := dc9_3 (by decide +kernel)
theorem d_MS_firstThatMay_23 : decode y_MS_firstThatMay.2.1 23 = .ok (.ireturn, 1) := dc9_172 (by decide +kernel)
theorem k_MS_firstThatMay {G : mG} {d : Nat} {a0 : Nat} {l1 : Int} {M : mM} {Q : Int → mM → Prop} (hO : mOk M) (hi_l1 : i32 l1)
    (h : mK M a0 = 17 ∧ mK M (mR M a0 4) = 30 ∧ ((0 : Int) ≤ l1 ∧ l1 < (mN M (mR M a0 4) : Int)) ∧ ((mI M a0 17 = mI M (mR M a0 4) (Int.toNat l1)) → (mK M (mR M a0 14) = 30 ∧ ((0 : Int) ≤ l1 ∧ l1 < (mN M (mR M a0 14) : Int)))) ∧ ∀ v7 : Int, v7 = (if (mI M a0 17 = mI M (mR M a0 4) (Int.toNat l1)) then mI M (mR M a0 14) (Int.toNat l1) else 0) → Q v7 M) :
    Ci G y_MS_firstThatMay d [vr a0, vi l1] M Q := by
  refine wm_open (y := y_MS_firstThatMay) rfl (Nat.le_of_ble_eq_true rfl) (L := [vr a0, vi l1]) rfl ?_
  obtain ⟨h1, h⟩ := h
  obtain ⟨h2, h⟩ := h
  obtain ⟨h3, h⟩ := h
  refine wm_aload_n d_MS_firstThatMay_0 rfl rfl ?_
  refine gf_MS_113 rfl d_MS_firstThatMay_1 h1 ?_
  refine wm_aload_n d_MS_firstThatMay_4 rfl rfl ?_
  refine gf_MS_16 rfl d_MS_firstThatMay_5 h1 ?_
  refine wm_iload_n d_MS_firstThatMay_8 rfl rfl ?_
  refine wm_iald d_MS_firstThatMay_9 h2 h3 ?_
  obtain ⟨s8, h⟩ := h
  have hJ : ∀ v7 : Int, v7 = (if (mI M a0 17 = mI M (mR M a0 4) (Int.toNat l1)) then mI M (mR M a0 14) (Int.toNat l1) else 0) → mWm G y_MS_firstThatMay d 23 [vd, vd] [vi v7] M (fun r9 M9 => ∃ x9, r9 = some (vi x9) ∧ Q x9 M9) := by
    intro v7 e9
    have h := h v7 e9
    refine wm_ireturn d_MS_firstThatMay_23 rfl rfl ?_
    exact ⟨_, rfl, h⟩
  clear h
  have s10 := s8
  refine wm_icmp_ne (tgt := 22) d_MS_firstThatMay_10 rfl (hO _ _).1 (hO _ _).1 (fun c4 => ?_) (fun c4 => ?_)
  · refine wm_iconst d_MS_firstThatMay_22 ?_
    refine wm_less (L' := [vd, vd]) ⟨Or.inl rfl, Or.inl rfl, trivial⟩ ?_
    exact hJ 0 (if_neg c4).symm
  · replace c4 := Classical.not_not.mp c4
    have s10 := s10 c4
    obtain ⟨h5, h6⟩ := s10
    refine wm_aload_n d_MS_firstThatMay_13 rfl rfl ?_
    refine gf_MS_51 rfl d_MS_firstThatMay_14 h1 ?_
    refine wm_iload_n d_MS_firstThatMay_17 rfl rfl ?_
    refine wm_iald d_MS_firstThatMay_18 h5 h6 ?_
    refine wm_goto (tgt := 23) d_MS_firstThatMay_19 rfl ?_
    refine wm_less (L' := [vd, vd]) ⟨Or.inl rfl, Or.inl rfl, trivial⟩ ?_
    exact hJ (mI M (mR M a0 14) (Int.toNat l1)) (if_pos c4).symm
theorem d_MS_work_0 : decode y_MS_work.2.1 0 = .ok (.aload_n 0, 1) := dc9_42 (by decide +kernel)
theorem d_MS_work_1 : decode y_MS_work.2.1 1 = .ok (.iload_n 1, 1) := dc9_27 (by decide +kernel)
theorem d_MS_work_2 : decode y_MS_work.2.1 2 = .ok (.putfield 113, 3) := dc9_181 (by decide +kernel)
theorem d_MS_work_5 : decode y_MS_work.2.1 5 = .ok (.aload_n 0, 1) := dc9_42 (by decide +kernel)
theorem d_MS_work_6 : decode y_MS_work.2.1 6 = .ok (.getfield 44, 3) := dc9_180 (by decide +kernel)
theorem d_MS_work_9 : decode y_MS_work.2.1 9 = .ok (.iload_n 2, 1) := dc9_28 (by decide +kernel)
theorem d_MS_work_10 : decode y_MS_work.2.1 10 = .ok (.iconst 0, 1) := dc9_3 (by decide +kernel)
theorem d_MS_work_11 : decode y_MS_work.2.1 11 = .ok (.bastore, 1) := dc9_84 (by decide +kernel)
theorem d_MS_work_12 : decode y_MS_work.2.1 12 = .ok (.aload_n 0, 1) := dc9_42 (by decide +kernel)
theorem d_MS_work_13 : decode y_MS_work.2.1 13 = .ok (.invokevirtual 198, 3) := dc9_182 (by decide +kernel)
theorem d_MS_work_16 : decode y_MS_work.2.1 16 = .ok (.istore_n 3, 1) := dc9_62 (by decide +kernel)
theorem d_MS_work_17 : decode y_MS_work.2.1 17 = .ok (.iload_n 3, 1) := dc9_29 (by decide +kernel)
theorem d_MS_work_18 : decode y_MS_work.2.1 18 = .ok (.ifCond .eq 5, 3) := dc9_153 (by decide +kernel)
theorem d_MS_work_23 : decode y_MS_work.2.1 23 = .ok (.iconst 0, 1) := dc9_3 (by decide +kernel)
theorem d_MS_work_24 : decode y_MS_work.2.1 24 = .ok (.istore 4, 2) := dc9_54 (by decide +kernel)
theorem d_MS_work_21 : decode y_MS_work.2.1 21 = .ok (.iload_n 3, 1) := dc9_29 (by decide +kernel)
theorem d_MS_work_22 : decode y_MS_work.2.1 22 = .ok (.ireturn, 1) := dc9_172 (by decide +kernel)
theorem d_MS_work_26 : decode y_MS_work.2.1 26 = .ok (.iload 4, 2) := dc9_21 (by decide +kernel)
theorem d_MS_work_28 : decode y_MS_work.2.1 28 = .ok (.aload_n 0, 1) := dc9_42 (by decide +kernel)
theorem d_MS_work_29 : decode y_MS_work.2.1 29 = .ok (.getfield 103, 3) := dc9_180 (by decide +kernel)
theorem d_MS_work_32 : decode y_MS_work.2.1 32 = .ok (.if_icmp .ge 22, 3) := dc9_162 (by decide +kernel)
theorem d_MS_work_54 : decode y_MS_work.2.1 54 = .ok (.iconst 1, 1) := dc9_4 (by decide +kernel)
theorem d_MS_work_55 : decode y_MS_work.2.1 55 = .ok (.istore 4, 2) := dc9_54 (by decide +kernel)
theorem d_MS_work_35 : decode y_MS_work.2.1 35 = .ok (.aload_n 0, 1) := dc9_42 (by decide +kernel)
theorem d_MS_work_36 : decode y_MS_work.2.1 36 = .ok (.getfield 60, 3) := dc9_180 (by decide +kernel)
theorem d_MS_work_39 : decode y_MS_work.2.1 39 = .ok (.iload 4, 2) := dc9_21 (by decide +kernel)
theorem d_MS_work_41 : decode y_MS_work.2.1 41 = .ok (.aload_n 0, 1) := dc9_42 (by decide +kernel)
theorem d_MS_work_42 : decode y_MS_work.2.1 42 = .ok (.iload 4, 2) := dc9_21 (by decide +kernel)
theorem d_MS_work_44 : decode y_MS_work.2.1 44 = .ok (.invokevirtual 202, 3) := dc9_182 (by decide +kernel)
theorem d_MS_work_47 : decode y_MS_work.2.1 47 = .ok (.iastore, 1) := dc9_79 (by decide +kernel)
theorem d_MS_work_48 : decode y_MS_work.2.1 48 = .ok (.iinc 4 1, 3) := by decide +kernel
theorem d_MS_work_51 : decode y_MS_work.2.1 51 = .ok (.goto (-25), 3) := dc9_167 (by decide +kernel)
theorem d_MS_work_57 : decode y_MS_work.2.1 57 = .ok (.iload 4, 2) := dc9_21 (by decide +kernel)
theorem d_MS_work_59 : decode y_MS_work.2.1 59 = .ok (.ifCond .eq 45, 3) := dc9_153 (by decide +kernel)
theorem d_MS_work_104 : decode y_MS_work.2.1 104 = .ok (.iconst 0, 1) := dc9_3 (by decide +kernel)
theorem d_MS_work_105 : decode y_MS_work.2.1 105 = .ok (.istore 5, 2) := dc9_54 (by decide +kernel)
theorem d_MS_work_62 : decode y_MS_work.2.1 62 = .ok (.aload_n 0, 1) := dc9_42 (by decide +kernel)
theorem d_MS_work_63 : decode y_MS_work.2.1 63 = .ok (.invokevirtual 205, 3) := dc9_182 (by decide +kernel)
theorem d_MS_work_66 : decode y_MS_work.2.1 66 = .ok (.iconst 0, 1) := dc9_3 (by decide +kernel)
theorem d_MS_work_67 : decode y_MS_work.2.1 67 = .ok (.istore 4, 2) := dc9_54 (by decide +kernel)
theorem d_MS_work_69 : decode y_MS_work.2.1 69 = .ok (.iconst 0, 1) := dc9_3 (by decide +kernel)
theorem d_MS_work_70 : decode y_MS_work.2.1 70 = .ok (.istore 5, 2) := dc9_54 (by decide +kernel)
theorem d_MS_work_72 : decode y_MS_work.2.1 72 = .ok (.iload 5, 2) := dc9_21 (by decide +kernel)
theorem d_MS_work_74 : decode y_MS_work.2.1 74 = .ok (.aload_n 0, 1) := dc9_42 (by decide +kernel)
theorem d_MS_work_75 : decode y_MS_work.2.1 75 = .ok (.getfield 103, 3) := dc9_180 (by decide +kernel)
theorem d_MS_work_78 : decode y_MS_work.2.1 78 = .ok (.if_icmp .ge 23, 3) := dc9_162 (by decide +kernel)
theorem d_MS_work_81 : decode y_MS_work.2.1 81 = .ok (.iload 4, 2) := dc9_21 (by decide +kernel)
theorem d_MS_work_83 : decode y_MS_work.2.1 83 = .ok (.ifCond .ne 18, 3) := dc9_154 (by decide +kernel)
theorem d_MS_work_86 : decode y_MS_work.2.1 86 = .ok (.aload_n 0, 1) := dc9_42 (by decide +kernel)
theorem d_MS_work_87 : decode y_MS_work.2.1 87 = .ok (.iload 5, 2) := dc9_21 (by decide +kernel)
theorem d_MS_work_89 : decode y_MS_work.2.1 89 = .ok (.iconst 1, 1) := dc9_4 (by decide +kernel)
theorem d_MS_work_101 : decode y_MS_work.2.1 101 = .ok (.goto (-44), 3) := dc9_167 (by decide +kernel)
theorem d_MS_work_90 : decode y_MS_work.2.1 90 = .ok (.invokevirtual 187, 3) := dc9_182 (by decide +kernel)
theorem d_MS_work_93 : decode y_MS_work.2.1 93 = .ok (.istore 4, 2) := dc9_54 (by decide +kernel)
theorem d_MS_work_95 : decode y_MS_work.2.1 95 = .ok (.iinc 5 1, 3) := by decide +kernel
theorem d_MS_work_98 : decode y_MS_work.2.1 98 = .ok (.goto (-26), 3) := dc9_167 (by decide +kernel)
theorem d_MS_work_107 : decode y_MS_work.2.1 107 = .ok (.iload 5, 2) := dc9_21 (by decide +kernel)
theorem d_MS_work_109 : decode y_MS_work.2.1 109 = .ok (.aload_n 0, 1) := dc9_42 (by decide +kernel)
theorem d_MS_work_110 : decode y_MS_work.2.1 110 = .ok (.getfield 103, 3) := dc9_180 (by decide +kernel)
theorem d_MS_work_113 : decode y_MS_work.2.1 113 = .ok (.if_icmp .ge 30, 3) := dc9_162 (by decide +kernel)
theorem d_MS_work_143 : decode y_MS_work.2.1 143 = .ok (.aload_n 0, 1) := dc9_42 (by decide +kernel)
theorem d_MS_work_144 : decode y_MS_work.2.1 144 = .ok (.getfield 44, 3) := dc9_180 (by decide +kernel)
theorem d_MS_work_147 : decode y_MS_work.2.1 147 = .ok (.iload_n 2, 1) := dc9_28 (by decide +kernel)
theorem d_MS_work_148 : decode y_MS_work.2.1 148 = .ok (.iconst 1, 1) := dc9_4 (by decide +kernel)
theorem d_MS_work_149 : decode y_MS_work.2.1 149 = .ok (.bastore, 1) := dc9_84 (by decide +kernel)
theorem d_MS_work_150 : decode y_MS_work.2.1 150 = .ok (.iconst 0, 1) := dc9_3 (by decide +kernel)
theorem d_MS_work_151 : decode y_MS_work.2.1 151 = .ok (.ireturn, 1) := dc9_172 (by decide +kernel)
theorem d_MS_work_116 : decode y_MS_work.2.1 116 = .ok (.aload_n 0, 1) := dc9_42 (by decide +kernel)
theorem d_MS_work_117 : decode y_MS_work.2.1 117 = .ok (.getfield 40, 3) := dc9_180 (by decide +kernel)
theorem d_MS_work_120 : decode y_MS_work.2.1 120 = .ok (.iconst 3, 1) := dc9_6 (by decide +kernel)
theorem d_MS_work_121 : decode y_MS_work.2.1 121 = .ok (.iload 5, 2) := dc9_21 (by decide +kernel)
theorem d_MS_work_123 : decode y_MS_work.2.1 123 = .ok (.imul, 1) := dc9_104 (by decide +kernel)
theorem d_MS_work_124 : decode y_MS_work.2.1 124 = .ok (.iload_n 2, 1) := dc9_28 (by decide +kernel)
theorem d_MS_work_125 : decode y_MS_work.2.1 125 = .ok (.iadd, 1) := dc9_96 (by decide +kernel)
theorem d_MS_work_126 : decode y_MS_work.2.1 126 = .ok (.aaload, 1) := dc9_50 (by decide +kernel)
theorem d_MS_work_127 : decode y_MS_work.2.1 127 = .ok (.aload_n 0, 1) := dc9_42 (by decide +kernel)
theorem d_MS_work_128 : decode y_MS_work.2.1 128 = .ok (.getfield 69, 3) := dc9_180 (by decide +kernel)
theorem d_MS_work_131 : decode y_MS_work.2.1 131 = .ok (.iload 5, 2) := dc9_21 (by decide +kernel)
theorem d_MS_work_133 : decode y_MS_work.2.1 133 = .ok (.aaload, 1) := dc9_50 (by decide +kernel)
theorem d_MS_work_134 : decode y_MS_work.2.1 134 = .ok (.invokevirtual 152, 3) := dc9_182 (by decide +kernel)
theorem d_MS_work_137 : decode y_MS_work.2.1 137 = .ok (.iinc 5 1, 3) := by decide +kernel
theorem d_MS_work_140 : decode y_MS_work.2.1 140 = .ok (.goto (-33), 3) := dc9_167 (by decide +kernel)
def h_MS_work_26 (G : mG) (d : Nat) (a0 : Nat) (l2 : Int) (l4 : Int) (M : mM) (Q : Int → mM → Prop) : Prop := mWm G y_MS_work (d + 1) 26 [vr a0, vd, vi l2, vd, vi l4, vd] [] M (fun r9 M9 => ∃ x9, r9 = some (vi x9) ∧ Q x9 M9)
def h_MS_work_57 (G : mG) (d : Nat) (a0 : Nat) (l2 : Int) (l4 : Int) (M : mM) (Q : Int → mM → Prop) : Prop := mWm G y_MS_work (d + 1) 57 [vr a0, vd, vi l2, vd, vi l4, vd] [] M (fun r9 M9 => ∃ x9, r9 = some (vi x9) ∧ Q x9 M9)
def h_MS_work_72 (G : mG) (d : Nat) (a0 : Nat) (l2 : Int) (l4 : Int) (l5 : Int) (M : mM) (Q : Int → mM → Prop) : Prop := mWm G y_MS_work (d + 1) 72 [vr a0, vd, vi l2, vd, vi l4, vi l5] [] M (fun r9 M9 => ∃ x9, r9 = some (vi x9) ∧ Q x9 M9)
def h_MS_work_107 (G : mG) (d : Nat) (a0 : Nat) (l2 : Int) (l5 : Int) (M : mM) (Q : Int → mM → Prop) : Prop := mWm G y_MS_work (d + 1) 107 [vr a0, vd, vi l2, vd, vd, vi l5] [] M (fun r9 M9 => ∃ x9, r9 = some (vi x9) ∧ Q x9 M9)
theorem k_MS_work {G : mG} {d : Nat} {a0 : Nat} {l1 : Int} {l2 : Int} {M : mM} {Q : Int → mM → Prop} (hO : mOk M) (hi_l1 : i32 l1) (hi_l2 : i32 l2)
    (h : mK M a0 = 17 ∧ ∀ M2, M2 = mUI M a0 17 l1 → mK M2 (mR M2 a0 12) = 31 ∧ ((0 : Int) ≤ l2 ∧ l2 < (mN M2 (mR M2 a0 12) : Int)) ∧ ∀ M6, M6 = mUI M2 (mR M2 a0 12) (Int.toNat l2) 0 → Ci G y_MS_look d [vr a0] M6 (fun x9 M8 => i32 x9 ∧ mOk M8 ∧ (((x9 = 0) → (h_MS_work_26 G d a0 l2 0 M8 Q)) ∧ (¬ (x9 = 0) → (Q x9 M8))))) :
    Ci G y_MS_work (d + 1) [vr a0, vi l1, vi l2] M Q := by
  refine wm_open (y := y_MS_work) rfl (Nat.le_of_ble_eq_true rfl) (L := [vr a0, vi l1, vi l2, vd, vd, vd]) rfl ?_
  obtain ⟨h1, h⟩ := h
  obtain ⟨M2, e3⟩ : ∃ M2, M2 = mUI M a0 17 l1 := ⟨_, rfl⟩
  replace h := h M2 e3
  obtain ⟨h4, h⟩ := h
  obtain ⟨h5, h⟩ := h
  obtain ⟨M6, e7⟩ : ∃ M6, M6 = mUI M2 (mR M2 a0 12) (Int.toNat l2) 0 := ⟨_, rfl⟩
  replace h := h M6 e7
  refine wm_aload_n d_MS_work_0 rfl rfl ?_
  refine wm_iload_n d_MS_work_1 rfl rfl ?_
  have hOM2 : mOk M2 := by rw [e3]; exact mOk_UI hO hi_l1
  refine pf_MS_113 rfl d_MS_work_2 h1 hi_l1 e3 ?_
  refine wm_aload_n d_MS_work_5 rfl rfl ?_
  refine gf_MS_44 rfl d_MS_work_6 (by rw [e3]; exact h1) ?_
  refine wm_iload_n d_MS_work_9 rfl rfl ?_
  refine wm_iconst d_MS_work_10 ?_
  have hOM6 : mOk M6 := by rw [e7]; exact mOk_UI hOM2 (m_b32 (by decide))
  refine wm_zastE d_MS_work_11 h4 h5 (by decide) e7 ?_
  refine wm_aload_n d_MS_work_12 rfl rfl ?_
  refine cf_MS_198 rfl d_MS_work_13 (by rw [e7, e3]; exact h1) (Nat.le_of_ble_eq_true rfl) (Ci.mono h (fun x9 M8 h => ?_))
  obtain ⟨h10, hOM8, h⟩ := h
  refine wm_istore_n d_MS_work_16 rfl (by decide) (L' := [vr a0, vi l1, vi l2, vi x9, vd, vd]) rfl ?_
  refine wm_iload_n d_MS_work_17 rfl rfl ?_
  refine wm_if_eq (tgt := 23) d_MS_work_18 rfl h10 (fun c12 => ?_) (fun c12 => ?_)
  · replace h := h.1 c12
    refine wm_iconst d_MS_work_23 ?_
    refine wm_istore d_MS_work_24 (by decide) (L' := [vr a0, vi l1, vi l2, vi x9, vi 0, vd]) rfl ?_
    refine wm_less (L' := [vr a0, vd, vi l2, vd, vi 0, vd]) ⟨Or.inr rfl, Or.inl rfl, Or.inr rfl, Or.inl rfl, Or.inr rfl, Or.inl rfl, trivial⟩ ?_
    exact h
  · replace h := h.2 c12
    refine wm_iload_n d_MS_work_21 rfl rfl ?_
    refine wm_ireturn d_MS_work_22 rfl rfl ?_
    exact ⟨_, rfl, h⟩
theorem k_MS_work_26 {G : mG} {d : Nat} {a0 : Nat} {l2 : Int} {l4 : Int} {M : mM} {Q : Int → mM → Prop} (hO : mOk M) (hi_l2 : i32 l2) (hi_l4 : i32 l4)
    (h : mK M a0 = 17 ∧ ((mI M a0 1 ≤ l4) → (h_MS_work_57 G d a0 l2 1 M Q)) ∧ (¬ (mI M a0 1 ≤ l4) → (Ci G y_MS_firstThatMay d [vr a0, vi l4] M (fun x17 M16 => i32 x17 ∧ mOk M16 ∧ (mK M16 (mR M a0 18) = 30 ∧ ((0 : Int) ≤ l4 ∧ l4 < (mN M16 (mR M a0 18) : Int)) ∧ ∀ M21, M21 = mUI M16 (mR M a0 18) (Int.toNat l4) x17 → h_MS_work_26 G d a0 l2 (l4 + 1) M21 Q))))) :
    h_MS_work_26 G d a0 l2 l4 M Q := by
  unfold h_MS_work_26
  obtain ⟨h13, h⟩ := h
  refine wm_iload d_MS_work_26 rfl ?_
  refine wm_aload_n d_MS_work_28 rfl rfl ?_
  refine gf_MS_103 rfl d_MS_work_29 h13 ?_
  refine wm_icmp_ge (tgt := 54) d_MS_work_32 rfl hi_l4 (hO _ _).1 (fun c15 => ?_) (fun c15 => ?_)
  · replace h := h.1 c15
    refine wm_iconst d_MS_work_54 ?_
    refine wm_istore d_MS_work_55 (by decide) (L' := [vr a0, vd, vi l2, vd, vi 1, vd]) rfl ?_
    exact h
  · replace h := h.2 c15
    refine wm_aload_n d_MS_work_35 rfl rfl ?_
    refine gf_MS_60 rfl d_MS_work_36 h13 ?_
    refine wm_iload d_MS_work_39 rfl ?_
    refine wm_aload_n d_MS_work_41 rfl rfl ?_
    refine wm_iload d_MS_work_42 rfl ?_
    refine cf_MS_202 rfl d_MS_work_44 h13 (Nat.le_of_ble_eq_true rfl) (Ci.mono h (fun x17 M16 h => ?_))
    obtain ⟨h18, hOM16, h⟩ := h
    obtain ⟨h19, h⟩ := h
    obtain ⟨h20, h⟩ := h
    obtain ⟨M21, e22⟩ : ∃ M21, M21 = mUI M16 (mR M a0 18) (Int.toNat l4) x17 := ⟨_, rfl⟩
    replace h := h M21 e22
    have hOM21 : mOk M21 := by rw [e22]; exact mOk_UI hOM16 h18
    refine wm_iastE d_MS_work_47 h19 h20 h18 e22 ?_
    refine wm_iinc d_MS_work_48 (by decide) rfl (L' := [vr a0, vd, vi l2, vd, vi (l4 + 1), vd]) rfl ?_
    refine wm_goto (tgt := 26) d_MS_work_51 rfl ?_
    exact h
theorem k_MS_work_57 {G : mG} {d : Nat} {a0 : Nat} {l2 : Int} {l4 : Int} {M : mM} {Q : Int → mM → Prop} (hO : mOk M) (hi_l2 : i32 l2) (hi_l4 : i32 l4)
    (h : ((l4 = 0) → (h_MS_work_107 G d a0 l2 0 M Q)) ∧ (¬ (l4 = 0) → (mK M a0 = 17 ∧ Cv G y_MS_answer d [vr a0] M (fun M26 => mOk M26 ∧ (h_MS_work_72 G d a0 l2 0 0 M26 Q))))) :
    h_MS_work_57 G d a0 l2 l4 M Q := by
  unfold h_MS_work_57
  refine wm_iload d_MS_work_57 rfl ?_
  refine wm_if_eq (tgt := 104) d_MS_work_59 rfl hi_l4 (fun c24 => ?_) (fun c24 => ?_)
  · replace h := h.1 c24
    refine wm_iconst d_MS_work_104 ?_
    refine wm_istore d_MS_work_105 (by decide) (L' := [vr a0, vd, vi l2, vd, vi l4, vi 0]) rfl ?_
    refine wm_less (L' := [vr a0, vd, vi l2, vd, vd, vi 0]) ⟨Or.inr rfl, Or.inl rfl, Or.inr rfl, Or.inl rfl, Or.inl rfl, Or.inr rfl, trivial⟩ ?_
    exact h
  · replace h := h.2 c24
    obtain ⟨h25, h⟩ := h
    refine wm_aload_n d_MS_work_62 rfl rfl ?_
    refine cf_MS_205 rfl d_MS_work_63 h25 (Nat.le_of_ble_eq_true rfl) (Cv.mono h (fun M26 h => ?_))
    obtain ⟨hOM26, h⟩ := h
    refine wm_iconst d_MS_work_66 ?_
    refine wm_istore d_MS_work_67 (by decide) (L' := [vr a0, vd, vi l2, vd, vi 0, vd]) rfl ?_
    refine wm_iconst d_MS_work_69 ?_
    refine wm_istore d_MS_work_70 (by decide) (L' := [vr a0, vd, vi l2, vd, vi 0, vi 0]) rfl ?_
    exact h
theorem k_MS_work_72 {G : mG} {d : Nat} {a0 : Nat} {l2 : Int} {l4 : Int} {l5 : Int} {M : mM} {Q : Int → mM → Prop} (hO : mOk M) (hi_l2 : i32 l2) (hi_l4 : i32 l4) (hi_l5 : i32 l5)
    (h : mK M a0 = 17 ∧ (((mI M a0 1 ≤ l5) ∨ (¬ (l4 = 0))) → (h_MS_work_57 G d a0 l2 l4 M Q)) ∧ (¬ ((mI M a0 1 ≤ l5) ∨ (¬ (l4 = 0))) → (Ci G y_MS_improve d [vr a0, vi l5, vi 1] M (fun x36 M35 => i32 x36 ∧ mOk M35 ∧ (h_MS_work_72 G d a0 l2 x36 (l5 + 1) M35 Q))))) :
    h_MS_work_72 G d a0 l2 l4 l5 M Q := by
  unfold h_MS_work_72
  obtain ⟨h29, h⟩ := h
  refine wm_iload d_MS_work_72 rfl ?_
  refine wm_aload_n d_MS_work_74 rfl rfl ?_
  refine gf_MS_103 rfl d_MS_work_75 h29 ?_
  have hE0 : ((mI M a0 1 ≤ l5) ∨ (¬ (l4 = 0))) → mWm G y_MS_work (d + 1) 101 [vr a0, vd, vi l2, vd, vi l4, vi l5] [] M (fun r9 M9 => ∃ x9, r9 = some (vi x9) ∧ Q x9 M9) := by
    intro q33
    have h := h.1 q33
    refine wm_goto (tgt := 57) d_MS_work_101 rfl ?_
    refine wm_less (L' := [vr a0, vd, vi l2, vd, vi l4, vd]) ⟨Or.inr rfl, Or.inl rfl, Or.inr rfl, Or.inl rfl, Or.inr rfl, Or.inl rfl, trivial⟩ ?_
    exact h
  have hE1 : ¬ ((mI M a0 1 ≤ l5) ∨ (¬ (l4 = 0))) → mWm G y_MS_work (d + 1) 86 [vr a0, vd, vi l2, vd, vi l4, vi l5] [] M (fun r9 M9 => ∃ x9, r9 = some (vi x9) ∧ Q x9 M9) := by
    intro q34
    have h := h.2 q34
    refine wm_aload_n d_MS_work_86 rfl rfl ?_
    refine wm_iload d_MS_work_87 rfl ?_
    refine wm_iconst d_MS_work_89 ?_
    refine cf_MS_187 rfl d_MS_work_90 h29 (Nat.le_of_ble_eq_true rfl) (Ci.mono h (fun x36 M35 h => ?_))
    obtain ⟨h37, hOM35, h⟩ := h
    refine wm_istore d_MS_work_93 (by decide) (L' := [vr a0, vd, vi l2, vd, vi x36, vi l5]) rfl ?_
    refine wm_iinc d_MS_work_95 (by decide) rfl (L' := [vr a0, vd, vi l2, vd, vi x36, vi (l5 + 1)]) rfl ?_
    refine wm_goto (tgt := 72) d_MS_work_98 rfl ?_
    exact h
  clear h
  refine wm_icmp_ge (tgt := 101) d_MS_work_78 rfl hi_l5 (hO _ _).1 (fun c31 => ?_) (fun c31 => ?_)
  · exact hE0 (Or.inl c31)
  · refine wm_iload d_MS_work_81 rfl ?_
    refine wm_if_ne (tgt := 101) d_MS_work_83 rfl hi_l4 (fun c30 => ?_) (fun c30 => ?_)
    · exact hE0 (Or.inr c30)
    · replace c30 := Classical.not_not.mp c30
      exact hE1 (fun z38 => Or.elim z38 c31 (fun z39 => z39 c30))
theorem k_MS_work_107 {G : mG} {d : Nat} {a0 : Nat} {l2 : Int} {l5 : Int} {M : mM} {Q : Int → mM → Prop} (hO : mOk M) (hi_l2 : i32 l2) (hi_l5 : i32 l5)
    (h : mK M a0 = 17 ∧ ((mI M a0 1 ≤ l5) → (mK M (mR M a0 12) = 31 ∧ ((0 : Int) ≤ l2 ∧ l2 < (mN M (mR M a0 12) : Int)) ∧ ∀ M47, M47 = mUI M (mR M a0 12) (Int.toNat l2) 1 → Q 0 M47)) ∧ (¬ (mI M a0 1 ≤ l5) → (mK M (mR M a0 11) = 36 ∧ ((0 : Int) ≤ (3 * l5) + l2 ∧ (3 * l5) + l2 < (mN M (mR M a0 11) : Int)) ∧ mK M (mR M a0 21) = 36 ∧ ((0 : Int) ≤ l5 ∧ l5 < (mN M (mR M a0 21) : Int)) ∧ mK M (mR M (mR M a0 11) (Int.toNat ((3 * l5) + l2))) = 19 ∧ Cv G y_MF_copy d [vr (mR M (mR M a0 11) (Int.toNat ((3 * l5) + l2))), vr (mR M (mR M a0 21) (Int.toNat l5))] M (fun M54 => mOk M54 ∧ (h_MS_work_107 G d a0 l2 (l5 + 1) M54 Q))))) :
    h_MS_work_107 G d a0 l2 l5 M Q := by
  unfold h_MS_work_107
  obtain ⟨h40, h⟩ := h
  refine wm_iload d_MS_work_107 rfl ?_
  refine wm_aload_n d_MS_work_109 rfl rfl ?_
  refine gf_MS_103 rfl d_MS_work_110 h40 ?_
  refine wm_icmp_ge (tgt := 143) d_MS_work_113 rfl hi_l5 (hO _ _).1 (fun c44 => ?_) (fun c44 => ?_)
  · replace h := h.1 c44
    obtain ⟨h45, h⟩ := h
    obtain ⟨h46, h⟩ := h
    obtain ⟨M47, e48⟩ : ∃ M47, M47 = mUI M (mR M a0 12) (Int.toNat l2) 1 := ⟨_, rfl⟩
    replace h := h M47 e48
    refine wm_aload_n d_MS_work_143 rfl rfl ?_
    refine gf_MS_44 rfl d_MS_work_144 h40 ?_
    refine wm_iload_n d_MS_work_147 rfl rfl ?_
    refine wm_iconst d_MS_work_148 ?_
    have hOM47 : mOk M47 := by rw [e48]; exact mOk_UI hO (m_b32 (by decide))
    refine wm_zastE d_MS_work_149 h45 h46 (by decide) e48 ?_
    refine wm_iconst d_MS_work_150 ?_
    refine wm_ireturn d_MS_work_151 rfl rfl ?_
    exact ⟨_, rfl, h⟩
  · replace h := h.2 c44
    obtain ⟨h49, h⟩ := h
    obtain ⟨h50, h⟩ := h
    obtain ⟨h51, h⟩ := h
    obtain ⟨h52, h⟩ := h
    obtain ⟨h53, h⟩ := h
    refine wm_aload_n d_MS_work_116 rfl rfl ?_
    refine gf_MS_40 rfl d_MS_work_117 h40 ?_
    refine wm_iconst d_MS_work_120 ?_
    refine wm_iload d_MS_work_121 rfl ?_
    refine wm_imul d_MS_work_123 ?_
    refine wm_iload_n d_MS_work_124 rfl rfl ?_
    refine wm_iadd d_MS_work_125 ?_
    refine wm_aald6 d_MS_work_126 h49 h50 ?_
    refine wm_aload_n d_MS_work_127 rfl rfl ?_
    refine gf_MS_69 rfl d_MS_work_128 h40 ?_
    refine wm_iload d_MS_work_131 rfl ?_
    refine wm_aald6 d_MS_work_133 h51 h52 ?_
    refine cf_MS_152 rfl d_MS_work_134 h53 (Nat.le_of_ble_eq_true rfl) (Cv.mono h (fun M54 h => ?_))
    obtain ⟨hOM54, h⟩ := h
    refine wm_iinc d_MS_work_137 (by decide) rfl (L' := [vr a0, vd, vi l2, vd, vd, vi (l5 + 1)]) rfl ?_
    refine wm_goto (tgt := 107) d_MS_work_140 rfl ?_
    exact h
theorem d_MS_solve_0 : decode y_MS_solve.2.1 0 = .ok (.aload_n 0, 1) := dc9_42 (by decide +kernel)
theorem d_MS_solve_1 : decode y_MS_solve.2.1 1 = .ok (.iconst 0, 1) := dc9_3 (by decide +kernel)
theorem d_MS_solve_2 : decode y_MS_solve.2.1 2 = .ok (.iconst 0, 1) := dc9_3 (by decide +kernel)
theorem d_MS_solve_3 : decode y_MS_solve.2.1 3 = .ok (.invokevirtual 208, 3) := dc9_182 (by decide +kernel)
theorem d_MS_solve_6 : decode y_MS_solve.2.1 6 = .ok (.istore_n 1, 1) := dc9_60 (by decide +kernel)
theorem d_MS_solve_7 : decode y_MS_solve.2.1 7 = .ok (.iload_n 1, 1) := dc9_27 (by decide +kernel)
theorem d_MS_solve_8 : decode y_MS_solve.2.1 8 = .ok (.ifCond .ne 7, 3) := dc9_154 (by decide +kernel)
theorem d_MS_solve_11 : decode y_MS_solve.2.1 11 = .ok (.aload_n 0, 1) := dc9_42 (by decide +kernel)
theorem d_MS_solve_12 : decode y_MS_solve.2.1 12 = .ok (.invokevirtual 212, 3) := dc9_182 (by decide +kernel)
theorem d_MS_solve_15 : decode y_MS_solve.2.1 15 = .ok (.iload_n 1, 1) := dc9_27 (by decide +kernel)
theorem d_MS_solve_16 : decode y_MS_solve.2.1 16 = .ok (.ireturn, 1) := dc9_172 (by decide +kernel)
theorem k_MS_solve {G : mG} {d : Nat} {a0 : Nat} {M : mM} {Q : Int → mM → Prop} (hO : mOk M)
    (h : mK M a0 = 17 ∧ Ci G y_MS_work d [vr a0, vi 0, vi 0] M (fun x3 M2 => i32 x3 ∧ mOk M2 ∧ (((x3 = 0) → (mK M2 a0 = 17 ∧ Cv G y_MS_rank d [vr a0] M2 (fun M9 => mOk M9 ∧ (Q x3 M9)))) ∧ (¬ (x3 = 0) → (Q x3 M2))))) :
    Ci G y_MS_solve (d + 1) [vr a0] M Q := by
  refine wm_open (y := y_MS_solve) rfl (Nat.le_of_ble_eq_true rfl) (L := [vr a0, vd]) rfl ?_
  obtain ⟨h1, h⟩ := h
  refine wm_aload_n d_MS_solve_0 rfl rfl ?_
  refine wm_iconst d_MS_solve_1 ?_
  refine wm_iconst d_MS_solve_2 ?_
  refine cf_MS_208 rfl d_MS_solve_3 h1 (Nat.le_of_ble_eq_true rfl) (Ci.mono h (fun x3 M2 h => ?_))
  obtain ⟨h4, hOM2, h⟩ := h
  refine wm_istore_n d_MS_solve_6 rfl (by decide) (L' := [vr a0, vi x3]) rfl ?_
  refine wm_iload_n d_MS_solve_7 rfl rfl ?_
  refine wm_if_ne (tgt := 15) d_MS_solve_8 rfl h4 (fun c7 => ?_) (fun c7 => ?_)
  · replace h := h.2 c7
    refine wm_iload_n d_MS_solve_15 rfl rfl ?_
    refine wm_ireturn d_MS_solve_16 rfl rfl ?_
    exact ⟨_, rfl, h⟩
  · replace c7 := Classical.not_not.mp c7
    replace h := h.1 c7
    obtain ⟨h8, h⟩ := h
    refine wm_aload_n d_MS_solve_11 rfl rfl ?_
    refine cf_MS_212 rfl d_MS_solve_12 h8 (Nat.le_of_ble_eq_true rfl) (Cv.mono h (fun M9 h => ?_))
    obtain ⟨hOM9, h⟩ := h
    refine wm_iload_n d_MS_solve_15 rfl rfl ?_
    refine wm_ireturn d_MS_solve_16 rfl rfl ?_
    exact ⟨_, rfl, h⟩
theorem d_MS_judge_0 : decode y_MS_judge.2.1 0 = .ok (.aload_n 0, 1) := dc9_42 (by decide +kernel)
theorem d_MS_judge_1 : decode y_MS_judge.2.1 1 = .ok (.iload_n 1, 1) := dc9_27 (by decide +kernel)
theorem d_MS_judge_2 : decode y_MS_judge.2.1 2 = .ok (.iconst 2, 1) := dc9_5 (by decide +kernel)
theorem d_MS_judge_3 : decode y_MS_judge.2.1 3 = .ok (.invokevirtual 208, 3) := dc9_182 (by decide +kernel)
theorem d_MS_judge_6 : decode y_MS_judge.2.1 6 = .ok (.ireturn, 1) := dc9_172 (by decide +kernel)
theorem k_MS_judge {G : mG} {d : Nat} {a0 : Nat} {l1 : Int} {M : mM} {Q : Int → mM → Prop} (hO : mOk M) (hi_l1 : i32 l1)
    (h : mK M a0 = 17 ∧ Ci G y_MS_work d [vr a0, vi l1, vi 2] M (fun x3 M2 => i32 x3 ∧ mOk M2 ∧ (Q x3 M2))) :
    Ci G y_MS_judge (d + 1) [vr a0, vi l1] M Q := by
  refine wm_open (y := y_MS_judge) rfl (Nat.le_of_ble_eq_true rfl) (L := [vr a0, vi l1]) rfl ?_
  obtain ⟨h1, h⟩ := h
  refine wm_aload_n d_MS_judge_0 rfl rfl ?_
  refine wm_iload_n d_MS_judge_1 rfl rfl ?_
  refine wm_iconst d_MS_judge_2 ?_
  refine cf_MS_208 rfl d_MS_judge_3 h1 (Nat.le_of_ble_eq_true rfl) (Ci.mono h (fun x3 M2 h => ?_))
  obtain ⟨h4, hOM2, h⟩ := h
  refine wm_ireturn d_MS_judge_6 rfl rfl ?_
  exact ⟨_, rfl, h⟩
theorem d_MS_attains_0 : decode y_MS_attains.2.1 0 = .ok (.aload_n 0, 1) := dc9_42 (by decide +kernel)
theorem d_MS_attains_1 : decode y_MS_attains.2.1 1 = .ok (.iload_n 1, 1) := dc9_27 (by decide +kernel)
theorem d_MS_attains_2 : decode y_MS_attains.2.1 2 = .ok (.iload_n 2, 1) := dc9_28 (by decide +kernel)
theorem d_MS_attains_3 : decode y_MS_attains.2.1 3 = .ok (.aload_n 0, 1) := dc9_42 (by decide +kernel)
theorem d_MS_attains_4 : decode y_MS_attains.2.1 4 = .ok (.getfield 40, 3) := dc9_180 (by decide +kernel)
theorem d_MS_attains_7 : decode y_MS_attains.2.1 7 = .ok (.iconst 0, 1) := dc9_3 (by decide +kernel)
theorem d_MS_attains_8 : decode y_MS_attains.2.1 8 = .ok (.iconst 3, 1) := dc9_6 (by decide +kernel)
theorem d_MS_attains_9 : decode y_MS_attains.2.1 9 = .ok (.invokevirtual 190, 3) := dc9_182 (by decide +kernel)
theorem d_MS_attains_12 : decode y_MS_attains.2.1 12 = .ok (.aload_n 0, 1) := dc9_42 (by decide +kernel)
theorem d_MS_attains_13 : decode y_MS_attains.2.1 13 = .ok (.getfield 10, 3) := dc9_180 (by decide +kernel)
theorem d_MS_attains_16 : decode y_MS_attains.2.1 16 = .ok (.aload_n 0, 1) := dc9_42 (by decide +kernel)
theorem d_MS_attains_17 : decode y_MS_attains.2.1 17 = .ok (.getfield 91, 3) := dc9_180 (by decide +kernel)
theorem d_MS_attains_20 : decode y_MS_attains.2.1 20 = .ok (.aload_n 0, 1) := dc9_42 (by decide +kernel)
theorem d_MS_attains_21 : decode y_MS_attains.2.1 21 = .ok (.getfield 40, 3) := dc9_180 (by decide +kernel)
theorem d_MS_attains_24 : decode y_MS_attains.2.1 24 = .ok (.iconst 3, 1) := dc9_6 (by decide +kernel)
theorem d_MS_attains_25 : decode y_MS_attains.2.1 25 = .ok (.iload_n 1, 1) := dc9_27 (by decide +kernel)
theorem d_MS_attains_26 : decode y_MS_attains.2.1 26 = .ok (.imul, 1) := dc9_104 (by decide +kernel)
theorem d_MS_attains_27 : decode y_MS_attains.2.1 27 = .ok (.aaload, 1) := dc9_50 (by decide +kernel)
theorem d_MS_attains_28 : decode y_MS_attains.2.1 28 = .ok (.invokevirtual 194, 3) := dc9_182 (by decide +kernel)
theorem d_MS_attains_31 : decode y_MS_attains.2.1 31 = .ok (.ifCond .ne 7, 3) := dc9_154 (by decide +kernel)
theorem d_MS_attains_34 : decode y_MS_attains.2.1 34 = .ok (.iconst 1, 1) := dc9_4 (by decide +kernel)
theorem d_MS_attains_35 : decode y_MS_attains.2.1 35 = .ok (.goto 4, 3) := dc9_167 (by decide +kernel)
theorem d_MS_attains_38 : decode y_MS_attains.2.1 38 = .ok (.iconst 0, 1) := dc9_3 (by decide +kernel)
theorem d_MS_attains_39 : decode y_MS_attains.2.1 39 = .ok (.ireturn, 1) := dc9_172 (by decide +kernel)
theorem k_MS_attains {G : mG} {d : Nat} {a0 : Nat} {l1 : Int} {l2 : Int} {M : mM} {Q : Int → mM → Prop} (hO : mOk M) (hi_l1 : i32 l1) (hi_l2 : i32 l2)
    (h : mK M a0 = 17 ∧ Cv G y_MS_worthOf d [vr a0, vi l1, vi l2, vr (mR M a0 11), vi 0, vi 3] M (fun M2 => mOk M2 ∧ (mK M2 a0 = 17 ∧ mK M2 (mR M2 a0 11) = 36 ∧ ((0 : Int) ≤ 3 * l1 ∧ 3 * l1 < (mN M2 (mR M2 a0 11) : Int)) ∧ mK M2 (mR M2 a0 0) = 18 ∧ Ci G y_MU_compare d [vr (mR M2 a0 0), vr (mR M2 a0 28), vr (mR M2 (mR M2 a0 11) (Int.toNat (3 * l1)))] M2 (fun x10 M9 => i32 x10 ∧ mOk M9 ∧ (∀ v13 : Int, v13 = (if (x10 = 0) then 1 else 0) → Q v13 M9))))) :
    Ci G y_MS_attains (d + 1) [vr a0, vi l1, vi l2] M Q := by
  refine wm_open (y := y_MS_attains) rfl (Nat.le_of_ble_eq_true rfl) (L := [vr a0, vi l1, vi l2]) rfl ?_
  obtain ⟨h1, h⟩ := h
  refine wm_aload_n d_MS_attains_0 rfl rfl ?_
  refine wm_iload_n d_MS_attains_1 rfl rfl ?_
  refine wm_iload_n d_MS_attains_2 rfl rfl ?_
  refine wm_aload_n d_MS_attains_3 rfl rfl ?_
  refine gf_MS_40 rfl d_MS_attains_4 h1 ?_
  refine wm_iconst d_MS_attains_7 ?_
  refine wm_iconst d_MS_attains_8 ?_
  refine cf_MS_190 rfl d_MS_attains_9 h1 (Nat.le_of_ble_eq_true rfl) (Cv.mono h (fun M2 h => ?_))
  obtain ⟨hOM2, h⟩ := h
  obtain ⟨h5, h⟩ := h
  obtain ⟨h6, h⟩ := h
  obtain ⟨h7, h⟩ := h
  obtain ⟨h8, h⟩ := h
  refine wm_aload_n d_MS_attains_12 rfl rfl ?_
  refine gf_MS_10 rfl d_MS_attains_13 h5 ?_
  refine wm_aload_n d_MS_attains_16 rfl rfl ?_
  refine gf_MS_91 rfl d_MS_attains_17 h5 ?_
  refine wm_aload_n d_MS_attains_20 rfl rfl ?_
  refine gf_MS_40 rfl d_MS_attains_21 h5 ?_
  refine wm_iconst d_MS_attains_24 ?_
  refine wm_iload_n d_MS_attains_25 rfl rfl ?_
  refine wm_imul d_MS_attains_26 ?_
  refine wm_aald6 d_MS_attains_27 h6 h7 ?_
  refine cf_MS_194 rfl d_MS_attains_28 h8 (Nat.le_of_ble_eq_true rfl) (Ci.mono h (fun x10 M9 h => ?_))
  obtain ⟨h11, hOM9, h⟩ := h
  have hJ : ∀ v13 : Int, v13 = (if (x10 = 0) then 1 else 0) → mWm G y_MS_attains (d + 1) 39 [vd, vd, vd] [vi v13] M9 (fun r9 M9 => ∃ x9, r9 = some (vi x9) ∧ Q x9 M9) := by
    intro v13 e15
    have h := h v13 e15
    have h16 : i32 v13 := by rw [e15]; (repeat' split) <;> first | exact ⟨by decide, by decide⟩ | exact ⟨by decide, by decide⟩
    have h17 : (v13 = 0 ∨ v13 = 1) := by rw [e15]; (repeat' split) <;> decide
    refine wm_ireturn d_MS_attains_39 rfl (m_nb h17) ?_
    exact ⟨_, rfl, h⟩
  clear h
  refine wm_if_ne (tgt := 38) d_MS_attains_31 rfl h11 (fun c12 => ?_) (fun c12 => ?_)
  · refine wm_iconst d_MS_attains_38 ?_
    refine wm_less (L' := [vd, vd, vd]) ⟨Or.inl rfl, Or.inl rfl, Or.inl rfl, trivial⟩ ?_
    exact hJ 0 (if_neg c12).symm
  · replace c12 := Classical.not_not.mp c12
    refine wm_iconst d_MS_attains_34 ?_
    refine wm_goto (tgt := 39) d_MS_attains_35 rfl ?_
    refine wm_less (L' := [vd, vd, vd]) ⟨Or.inl rfl, Or.inl rfl, Or.inl rfl, trivial⟩ ?_
    exact hJ 1 (if_pos c12).symm
theorem d_MS_leadsBelow_0 : decode y_MS_leadsBelow.2.1 0 = .ok (.aload_n 0, 1) := dc9_42 (by decide +kernel)
theorem d_MS_leadsBelow_1 : decode y_MS_leadsBelow.2.1 1 = .ok (.getfield 20, 3) := dc9_180 (by decide +kernel)
theorem d_MS_leadsBelow_4 : decode y_MS_leadsBelow.2.1 4 = .ok (.iload_n 1, 1) := dc9_27 (by decide +kernel)
theorem d_MS_leadsBelow_5 : decode y_MS_leadsBelow.2.1 5 = .ok (.iaload, 1) := dc9_46 (by decide +kernel)
theorem d_MS_leadsBelow_6 : decode y_MS_leadsBelow.2.1 6 = .ok (.iload_n 2, 1) := dc9_28 (by decide +kernel)
theorem d_MS_leadsBelow_7 : decode y_MS_leadsBelow.2.1 7 = .ok (.iadd, 1) := dc9_96 (by decide +kernel)
theorem d_MS_leadsBelow_8 : decode y_MS_leadsBelow.2.1 8 = .ok (.istore 4, 2) := dc9_54 (by decide +kernel)
theorem d_MS_leadsBelow_10 : decode y_MS_leadsBelow.2.1 10 = .ok (.iconst 0, 1) := dc9_3 (by decide +kernel)
theorem d_MS_leadsBelow_11 : decode y_MS_leadsBelow.2.1 11 = .ok (.istore 5, 2) := dc9_54 (by decide +kernel)
theorem d_MS_leadsBelow_13 : decode y_MS_leadsBelow.2.1 13 = .ok (.aload_n 0, 1) := dc9_42 (by decide +kernel)
theorem d_MS_leadsBelow_14 : decode y_MS_leadsBelow.2.1 14 = .ok (.getfield 26, 3) := dc9_180 (by decide +kernel)
theorem d_MS_leadsBelow_17 : decode y_MS_leadsBelow.2.1 17 = .ok (.iload 4, 2) := dc9_21 (by decide +kernel)
theorem d_MS_leadsBelow_19 : decode y_MS_leadsBelow.2.1 19 = .ok (.iaload, 1) := dc9_46 (by decide +kernel)
theorem d_MS_leadsBelow_20 : decode y_MS_leadsBelow.2.1 20 = .ok (.istore 6, 2) := dc9_54 (by decide +kernel)
theorem d_MS_leadsBelow_22 : decode y_MS_leadsBelow.2.1 22 = .ok (.iload 6, 2) := dc9_21 (by decide +kernel)
theorem d_MS_leadsBelow_24 : decode y_MS_leadsBelow.2.1 24 = .ok (.aload_n 0, 1) := dc9_42 (by decide +kernel)
theorem d_MS_leadsBelow_25 : decode y_MS_leadsBelow.2.1 25 = .ok (.getfield 26, 3) := dc9_180 (by decide +kernel)
theorem d_MS_leadsBelow_28 : decode y_MS_leadsBelow.2.1 28 = .ok (.iload 4, 2) := dc9_21 (by decide +kernel)
theorem d_MS_leadsBelow_30 : decode y_MS_leadsBelow.2.1 30 = .ok (.iconst 1, 1) := dc9_4 (by decide +kernel)
theorem d_MS_leadsBelow_31 : decode y_MS_leadsBelow.2.1 31 = .ok (.iadd, 1) := dc9_96 (by decide +kernel)
theorem d_MS_leadsBelow_32 : decode y_MS_leadsBelow.2.1 32 = .ok (.iaload, 1) := dc9_46 (by decide +kernel)
theorem d_MS_leadsBelow_33 : decode y_MS_leadsBelow.2.1 33 = .ok (.if_icmp .ge 46, 3) := dc9_162 (by decide +kernel)
theorem d_MS_leadsBelow_79 : decode y_MS_leadsBelow.2.1 79 = .ok (.iload 5, 2) := dc9_21 (by decide +kernel)
theorem d_MS_leadsBelow_81 : decode y_MS_leadsBelow.2.1 81 = .ok (.ireturn, 1) := dc9_172 (by decide +kernel)
theorem d_MS_leadsBelow_36 : decode y_MS_leadsBelow.2.1 36 = .ok (.aload_n 0, 1) := dc9_42 (by decide +kernel)
theorem d_MS_leadsBelow_37 : decode y_MS_leadsBelow.2.1 37 = .ok (.getfield 57, 3) := dc9_180 (by decide +kernel)
theorem d_MS_leadsBelow_40 : decode y_MS_leadsBelow.2.1 40 = .ok (.aload_n 0, 1) := dc9_42 (by decide +kernel)
theorem d_MS_leadsBelow_41 : decode y_MS_leadsBelow.2.1 41 = .ok (.getfield 29, 3) := dc9_180 (by decide +kernel)
theorem d_MS_leadsBelow_44 : decode y_MS_leadsBelow.2.1 44 = .ok (.iload 6, 2) := dc9_21 (by decide +kernel)
theorem d_MS_leadsBelow_46 : decode y_MS_leadsBelow.2.1 46 = .ok (.iaload, 1) := dc9_46 (by decide +kernel)
theorem d_MS_leadsBelow_47 : decode y_MS_leadsBelow.2.1 47 = .ok (.iaload, 1) := dc9_46 (by decide +kernel)
theorem d_MS_leadsBelow_48 : decode y_MS_leadsBelow.2.1 48 = .ok (.istore 7, 2) := dc9_54 (by decide +kernel)
theorem d_MS_leadsBelow_50 : decode y_MS_leadsBelow.2.1 50 = .ok (.iload 5, 2) := dc9_21 (by decide +kernel)
theorem d_MS_leadsBelow_52 : decode y_MS_leadsBelow.2.1 52 = .ok (.ifCond .ne 14, 3) := dc9_154 (by decide +kernel)
theorem d_MS_leadsBelow_55 : decode y_MS_leadsBelow.2.1 55 = .ok (.iload 7, 2) := dc9_21 (by decide +kernel)
theorem d_MS_leadsBelow_57 : decode y_MS_leadsBelow.2.1 57 = .ok (.ifCond .lt 13, 3) := dc9_155 (by decide +kernel)
theorem d_MS_leadsBelow_70 : decode y_MS_leadsBelow.2.1 70 = .ok (.iconst 0, 1) := dc9_3 (by decide +kernel)
theorem d_MS_leadsBelow_60 : decode y_MS_leadsBelow.2.1 60 = .ok (.iload 7, 2) := dc9_21 (by decide +kernel)
theorem d_MS_leadsBelow_62 : decode y_MS_leadsBelow.2.1 62 = .ok (.iload_n 3, 1) := dc9_29 (by decide +kernel)
theorem d_MS_leadsBelow_63 : decode y_MS_leadsBelow.2.1 63 = .ok (.if_icmp .ge 7, 3) := dc9_162 (by decide +kernel)
theorem d_MS_leadsBelow_66 : decode y_MS_leadsBelow.2.1 66 = .ok (.iconst 1, 1) := dc9_4 (by decide +kernel)
theorem d_MS_leadsBelow_67 : decode y_MS_leadsBelow.2.1 67 = .ok (.goto 4, 3) := dc9_167 (by decide +kernel)
theorem d_MS_leadsBelow_71 : decode y_MS_leadsBelow.2.1 71 = .ok (.istore 5, 2) := dc9_54 (by decide +kernel)
theorem d_MS_leadsBelow_73 : decode y_MS_leadsBelow.2.1 73 = .ok (.iinc 6 1, 3) := by decide +kernel
theorem d_MS_leadsBelow_76 : decode y_MS_leadsBelow.2.1 76 = .ok (.goto (-54), 3) := dc9_167 (by decide +kernel)
def h_MS_leadsBelow_22 (G : mG) (d : Nat) (a0 : Nat) (l3 : Int) (l4 : Int) (l5 : Int) (l6 : Int) (M : mM) (Q : Int → mM → Prop) : Prop := mWm G y_MS_leadsBelow d 22 [vr a0, vd, vd, vi l3, vi l4, vi l5, vi l6, vd] [] M (fun r9 M9 => ∃ x9, r9 = some (vi x9) ∧ Q x9 M9)
theorem k_MS_leadsBelow {G : mG} {d : Nat} {a0 : Nat} {l1 : Int} {l2 : Int} {l3 : Int} {M : mM} {Q : Int → mM → Prop} (hO : mOk M) (hi_l1 : i32 l1) (hi_l2 : i32 l2) (hi_l3 : i32 l3)
    (h : mK M a0 = 17 ∧ mK M (mR M a0 5) = 30 ∧ ((0 : Int) ≤ l1 ∧ l1 < (mN M (mR M a0 5) : Int)) ∧ mK M (mR M a0 7) = 30 ∧ ((0 : Int) ≤ (mI M (mR M a0 5) (Int.toNat l1)) + l2 ∧ (mI M (mR M a0 5) (Int.toNat l1)) + l2 < (mN M (mR M a0 7) : Int)) ∧ h_MS_leadsBelow_22 G d a0 l3 ((mI M (mR M a0 5) (Int.toNat l1)) + l2) 0 (mI M (mR M a0 7) (Int.toNat ((mI M (mR M a0 5) (Int.toNat l1)) + l2))) M Q) :
    Ci G y_MS_leadsBelow d [vr a0, vi l1, vi l2, vi l3] M Q := by
  refine wm_open (y := y_MS_leadsBelow) rfl (Nat.le_of_ble_eq_true rfl) (L := [vr a0, vi l1, vi l2, vi l3, vd, vd, vd, vd]) rfl ?_
  obtain ⟨h1, h⟩ := h
  obtain ⟨h2, h⟩ := h
  obtain ⟨h3, h⟩ := h
  obtain ⟨h4, h⟩ := h
  obtain ⟨h5, h⟩ := h
  refine wm_aload_n d_MS_leadsBelow_0 rfl rfl ?_
  refine gf_MS_20 rfl d_MS_leadsBelow_1 h1 ?_
  refine wm_iload_n d_MS_leadsBelow_4 rfl rfl ?_
  refine wm_iald d_MS_leadsBelow_5 h2 h3 ?_
  refine wm_iload_n d_MS_leadsBelow_6 rfl rfl ?_
  refine wm_iadd d_MS_leadsBelow_7 ?_
  refine wm_istore d_MS_leadsBelow_8 (by decide) (L' := [vr a0, vi l1, vi l2, vi l3, vi ((mI M (mR M a0 5) (Int.toNat l1)) + l2), vd, vd, vd]) rfl ?_
  refine wm_iconst d_MS_leadsBelow_10 ?_
  refine wm_istore d_MS_leadsBelow_11 (by decide) (L' := [vr a0, vi l1, vi l2, vi l3, vi ((mI M (mR M a0 5) (Int.toNat l1)) + l2), vi 0, vd, vd]) rfl ?_
  refine wm_aload_n d_MS_leadsBelow_13 rfl rfl ?_
  refine gf_MS_26 rfl d_MS_leadsBelow_14 h1 ?_
  refine wm_iload d_MS_leadsBelow_17 rfl ?_
  refine wm_iald d_MS_leadsBelow_19 h4 h5 ?_
  refine wm_istore d_MS_leadsBelow_20 (by decide) (L' := [vr a0, vi l1, vi l2, vi l3, vi ((mI M (mR M a0 5) (Int.toNat l1)) + l2), vi 0, vi (mI M (mR M a0 7) (Int.toNat ((mI M (mR M a0 5) (Int.toNat l1)) + l2))), vd]) rfl ?_
  refine wm_less (L' := [vr a0, vd, vd, vi l3, vi ((mI M (mR M a0 5) (Int.toNat l1)) + l2), vi 0, vi (mI M (mR M a0 7) (Int.toNat ((mI M (mR M a0 5) (Int.toNat l1)) + l2))), vd]) ⟨Or.inr rfl, Or.inl rfl, Or.inl rfl, Or.inr rfl, Or.inr rfl, Or.inr rfl, Or.inr rfl, Or.inl rfl, trivial⟩ ?_
  exact h
theorem k_MS_leadsBelow_22 {G : mG} {d : Nat} {a0 : Nat} {l3 : Int} {l4 : Int} {l5 : Int} {l6 : Int} {M : mM} {Q : Int → mM → Prop} (hO : mOk M) (hi_l3 : i32 l3) (hi_l4 : i32 l4) (hi_l5 : i32 l5) (hi_l6 : i32 l6)
    (h : mK M a0 = 17 ∧ mK M (mR M a0 7) = 30 ∧ ((0 : Int) ≤ l4 + 1 ∧ l4 + 1 < (mN M (mR M a0 7) : Int)) ∧ ((mI M (mR M a0 7) (Int.toNat (l4 + 1)) ≤ l6) → ((l5 = 0 ∨ l5 = 1) ∧ Q l5 M)) ∧ (¬ (mI M (mR M a0 7) (Int.toNat (l4 + 1)) ≤ l6) → (mK M (mR M a0 8) = 30 ∧ ((0 : Int) ≤ l6 ∧ l6 < (mN M (mR M a0 8) : Int)) ∧ mK M (mR M a0 16) = 30 ∧ ((0 : Int) ≤ mI M (mR M a0 8) (Int.toNat l6) ∧ mI M (mR M a0 8) (Int.toNat l6) < (mN M (mR M a0 16) : Int)) ∧ ∀ v24 : Int, v24 = (if ((l5 = 0) ∧ ((mI M (mR M a0 16) (Int.toNat (mI M (mR M a0 8) (Int.toNat l6))) < 0) ∨ (l3 ≤ mI M (mR M a0 16) (Int.toNat (mI M (mR M a0 8) (Int.toNat l6)))))) then 0 else 1) → h_MS_leadsBelow_22 G d a0 l3 l4 v24 (l6 + 1) M Q))) :
    h_MS_leadsBelow_22 G d a0 l3 l4 l5 l6 M Q := by
  unfold h_MS_leadsBelow_22
  obtain ⟨h6, h⟩ := h
  obtain ⟨h7, h⟩ := h
  obtain ⟨h8, h⟩ := h
  refine wm_iload d_MS_leadsBelow_22 rfl ?_
  refine wm_aload_n d_MS_leadsBelow_24 rfl rfl ?_
  refine gf_MS_26 rfl d_MS_leadsBelow_25 h6 ?_
  refine wm_iload d_MS_leadsBelow_28 rfl ?_
  refine wm_iconst d_MS_leadsBelow_30 ?_
  refine wm_iadd d_MS_leadsBelow_31 ?_
  refine wm_iald d_MS_leadsBelow_32 h7 h8 ?_
  refine wm_icmp_ge (tgt := 79) d_MS_leadsBelow_33 rfl hi_l6 (hO _ _).1 (fun c15 => ?_) (fun c15 => ?_)
  · replace h := h.1 c15
    obtain ⟨h16, h⟩ := h
    refine wm_iload d_MS_leadsBelow_79 rfl ?_
    refine wm_ireturn d_MS_leadsBelow_81 rfl (m_nb h16) ?_
    exact ⟨_, rfl, h⟩
  · replace h := h.2 c15
    obtain ⟨h17, h⟩ := h
    obtain ⟨h18, h⟩ := h
    obtain ⟨h19, h⟩ := h
    obtain ⟨h20, h⟩ := h
    refine wm_aload_n d_MS_leadsBelow_36 rfl rfl ?_
    refine gf_MS_57 rfl d_MS_leadsBelow_37 h6 ?_
    refine wm_aload_n d_MS_leadsBelow_40 rfl rfl ?_
    refine gf_MS_29 rfl d_MS_leadsBelow_41 h6 ?_
    refine wm_iload d_MS_leadsBelow_44 rfl ?_
    refine wm_iald d_MS_leadsBelow_46 h17 h18 ?_
    refine wm_iald d_MS_leadsBelow_47 h19 h20 ?_
    refine wm_istore d_MS_leadsBelow_48 (by decide) (L' := [vr a0, vd, vd, vi l3, vi l4, vi l5, vi l6, vi (mI M (mR M a0 16) (Int.toNat (mI M (mR M a0 8) (Int.toNat l6))))]) rfl ?_
    refine wm_iload d_MS_leadsBelow_50 rfl ?_
    have hJ : ∀ v24 : Int, v24 = (if ((l5 = 0) ∧ ((mI M (mR M a0 16) (Int.toNat (mI M (mR M a0 8) (Int.toNat l6))) < 0) ∨ (l3 ≤ mI M (mR M a0 16) (Int.toNat (mI M (mR M a0 8) (Int.toNat l6)))))) then 0 else 1) → mWm G y_MS_leadsBelow d 71 [vr a0, vd, vd, vi l3, vi l4, vd, vi l6, vd] [vi v24] M (fun r9 M9 => ∃ x9, r9 = some (vi x9) ∧ Q x9 M9) := by
      intro v24 e26
      have h := h v24 e26
      have h27 : i32 v24 := by rw [e26]; (repeat' split) <;> first | exact ⟨by decide, by decide⟩ | exact ⟨by decide, by decide⟩
      have h28 : (v24 = 0 ∨ v24 = 1) := by rw [e26]; (repeat' split) <;> decide
      refine wm_istore d_MS_leadsBelow_71 (by decide) (L' := [vr a0, vd, vd, vi l3, vi l4, vi v24, vi l6, vd]) rfl ?_
      refine wm_iinc d_MS_leadsBelow_73 (by decide) rfl (L' := [vr a0, vd, vd, vi l3, vi l4, vi v24, vi (l6 + 1), vd]) rfl ?_
      refine wm_goto (tgt := 22) d_MS_leadsBelow_76 rfl ?_
      exact h
    clear h
    refine wm_if_ne (tgt := 66) d_MS_leadsBelow_52 rfl hi_l5 (fun c21 => ?_) (fun c21 => ?_)
    · refine wm_iconst d_MS_leadsBelow_66 ?_
      refine wm_goto (tgt := 71) d_MS_leadsBelow_67 rfl ?_
      refine wm_less (L' := [vr a0, vd, vd, vi l3, vi l4, vd, vi l6, vd]) ⟨Or.inr rfl, Or.inl rfl, Or.inl rfl, Or.inr rfl, Or.inr rfl, Or.inl rfl, Or.inr rfl, Or.inl rfl, trivial⟩ ?_
      exact hJ 1 (if_neg (fun z32 => c21 z32.1)).symm
    · replace c21 := Classical.not_not.mp c21
      refine wm_iload d_MS_leadsBelow_55 rfl ?_
      refine wm_if_lt (tgt := 70) d_MS_leadsBelow_57 rfl (hO _ _).1 (fun c22 => ?_) (fun c22 => ?_)
      · refine wm_iconst d_MS_leadsBelow_70 ?_
        refine wm_less (L' := [vr a0, vd, vd, vi l3, vi l4, vd, vi l6, vd]) ⟨Or.inr rfl, Or.inl rfl, Or.inl rfl, Or.inr rfl, Or.inr rfl, Or.inl rfl, Or.inr rfl, Or.inl rfl, trivial⟩ ?_
        exact hJ 0 (if_pos ⟨c21, (Or.inl c22)⟩).symm
      · refine wm_iload d_MS_leadsBelow_60 rfl ?_
        refine wm_iload_n d_MS_leadsBelow_62 rfl rfl ?_
        refine wm_icmp_ge (tgt := 70) d_MS_leadsBelow_63 rfl (hO _ _).1 hi_l3 (fun c23 => ?_) (fun c23 => ?_)
        · refine wm_iconst d_MS_leadsBelow_70 ?_
          refine wm_less (L' := [vr a0, vd, vd, vi l3, vi l4, vd, vi l6, vd]) ⟨Or.inr rfl, Or.inl rfl, Or.inl rfl, Or.inr rfl, Or.inr rfl, Or.inl rfl, Or.inr rfl, Or.inl rfl, trivial⟩ ?_
          exact hJ 0 (if_pos ⟨c21, (Or.inr c23)⟩).symm
        · refine wm_iconst d_MS_leadsBelow_66 ?_
          refine wm_goto (tgt := 71) d_MS_leadsBelow_67 rfl ?_
          refine wm_less (L' := [vr a0, vd, vd, vi l3, vi l4, vd, vi l6, vd]) ⟨Or.inr rfl, Or.inl rfl, Or.inl rfl, Or.inr rfl, Or.inr rfl, Or.inl rfl, Or.inr rfl, Or.inl rfl, trivial⟩ ?_
          exact hJ 1 (if_neg (fun z29 => (fun z30 => Or.elim z30 c22 c23) z29.2)).symm
theorem d_MS_getsRank_0 : decode y_MS_getsRank.2.1 0 = .ok (.iconst 0, 1) := dc9_3 (by decide +kernel)
theorem d_MS_getsRank_1 : decode y_MS_getsRank.2.1 1 = .ok (.istore_n 3, 1) := dc9_62 (by decide +kernel)
theorem d_MS_getsRank_2 : decode y_MS_getsRank.2.1 2 = .ok (.iconst 1, 1) := dc9_4 (by decide +kernel)
theorem d_MS_getsRank_3 : decode y_MS_getsRank.2.1 3 = .ok (.istore 4, 2) := dc9_54 (by decide +kernel)
theorem d_MS_getsRank_5 : decode y_MS_getsRank.2.1 5 = .ok (.iconst 0, 1) := dc9_3 (by decide +kernel)
theorem d_MS_getsRank_6 : decode y_MS_getsRank.2.1 6 = .ok (.istore 5, 2) := dc9_54 (by decide +kernel)
theorem d_MS_getsRank_8 : decode y_MS_getsRank.2.1 8 = .ok (.iload 5, 2) := dc9_21 (by decide +kernel)
theorem d_MS_getsRank_10 : decode y_MS_getsRank.2.1 10 = .ok (.aload_n 0, 1) := dc9_42 (by decide +kernel)
theorem d_MS_getsRank_11 : decode y_MS_getsRank.2.1 11 = .ok (.iload_n 1, 1) := dc9_27 (by decide +kernel)
theorem d_MS_getsRank_12 : decode y_MS_getsRank.2.1 12 = .ok (.invokevirtual 116, 3) := dc9_182 (by decide +kernel)
theorem d_MS_getsRank_15 : decode y_MS_getsRank.2.1 15 = .ok (.if_icmp .ge 61, 3) := dc9_162 (by decide +kernel)
theorem d_MS_getsRank_76 : decode y_MS_getsRank.2.1 76 = .ok (.aload_n 0, 1) := dc9_42 (by decide +kernel)
theorem d_MS_getsRank_77 : decode y_MS_getsRank.2.1 77 = .ok (.getfield 16, 3) := dc9_180 (by decide +kernel)
theorem d_MS_getsRank_80 : decode y_MS_getsRank.2.1 80 = .ok (.iload_n 1, 1) := dc9_27 (by decide +kernel)
theorem d_MS_getsRank_81 : decode y_MS_getsRank.2.1 81 = .ok (.iaload, 1) := dc9_46 (by decide +kernel)
theorem d_MS_getsRank_82 : decode y_MS_getsRank.2.1 82 = .ok (.iconst 1, 1) := dc9_4 (by decide +kernel)
theorem d_MS_getsRank_18 : decode y_MS_getsRank.2.1 18 = .ok (.aload_n 0, 1) := dc9_42 (by decide +kernel)
theorem d_MS_getsRank_19 : decode y_MS_getsRank.2.1 19 = .ok (.iload_n 1, 1) := dc9_27 (by decide +kernel)
theorem d_MS_getsRank_20 : decode y_MS_getsRank.2.1 20 = .ok (.iload 5, 2) := dc9_21 (by decide +kernel)
theorem d_MS_getsRank_83 : decode y_MS_getsRank.2.1 83 = .ok (.if_icmp .ne 7, 3) := dc9_160 (by decide +kernel)
theorem d_MS_getsRank_86 : decode y_MS_getsRank.2.1 86 = .ok (.iload_n 3, 1) := dc9_29 (by decide +kernel)
theorem d_MS_getsRank_87 : decode y_MS_getsRank.2.1 87 = .ok (.goto 5, 3) := dc9_167 (by decide +kernel)
theorem d_MS_getsRank_92 : decode y_MS_getsRank.2.1 92 = .ok (.ireturn, 1) := dc9_172 (by decide +kernel)
theorem d_MS_getsRank_90 : decode y_MS_getsRank.2.1 90 = .ok (.iload 4, 2) := dc9_21 (by decide +kernel)
theorem d_MS_getsRank_22 : decode y_MS_getsRank.2.1 22 = .ok (.invokevirtual 215, 3) := dc9_182 (by decide +kernel)
theorem d_MS_getsRank_25 : decode y_MS_getsRank.2.1 25 = .ok (.ifCond .eq 45, 3) := dc9_153 (by decide +kernel)
theorem d_MS_getsRank_28 : decode y_MS_getsRank.2.1 28 = .ok (.aload_n 0, 1) := dc9_42 (by decide +kernel)
theorem d_MS_getsRank_29 : decode y_MS_getsRank.2.1 29 = .ok (.iload_n 1, 1) := dc9_27 (by decide +kernel)
theorem d_MS_getsRank_30 : decode y_MS_getsRank.2.1 30 = .ok (.iload 5, 2) := dc9_21 (by decide +kernel)
theorem d_MS_getsRank_32 : decode y_MS_getsRank.2.1 32 = .ok (.iload_n 2, 1) := dc9_28 (by decide +kernel)
theorem d_MS_getsRank_70 : decode y_MS_getsRank.2.1 70 = .ok (.iinc 5 1, 3) := by decide +kernel
theorem d_MS_getsRank_73 : decode y_MS_getsRank.2.1 73 = .ok (.goto (-65), 3) := dc9_167 (by decide +kernel)
theorem d_MS_getsRank_33 : decode y_MS_getsRank.2.1 33 = .ok (.invokevirtual 218, 3) := dc9_182 (by decide +kernel)
theorem d_MS_getsRank_36 : decode y_MS_getsRank.2.1 36 = .ok (.istore 6, 2) := dc9_54 (by decide +kernel)
theorem d_MS_getsRank_38 : decode y_MS_getsRank.2.1 38 = .ok (.iload_n 3, 1) := dc9_29 (by decide +kernel)
theorem d_MS_getsRank_39 : decode y_MS_getsRank.2.1 39 = .ok (.ifCond .ne 8, 3) := dc9_154 (by decide +kernel)
theorem d_MS_getsRank_42 : decode y_MS_getsRank.2.1 42 = .ok (.iload 6, 2) := dc9_21 (by decide +kernel)
theorem d_MS_getsRank_44 : decode y_MS_getsRank.2.1 44 = .ok (.ifCond .eq 7, 3) := dc9_153 (by decide +kernel)
theorem d_MS_getsRank_51 : decode y_MS_getsRank.2.1 51 = .ok (.iconst 0, 1) := dc9_3 (by decide +kernel)
theorem d_MS_getsRank_47 : decode y_MS_getsRank.2.1 47 = .ok (.iconst 1, 1) := dc9_4 (by decide +kernel)
theorem d_MS_getsRank_48 : decode y_MS_getsRank.2.1 48 = .ok (.goto 4, 3) := dc9_167 (by decide +kernel)
theorem d_MS_getsRank_52 : decode y_MS_getsRank.2.1 52 = .ok (.istore_n 3, 1) := dc9_62 (by decide +kernel)
theorem d_MS_getsRank_53 : decode y_MS_getsRank.2.1 53 = .ok (.iload 4, 2) := dc9_21 (by decide +kernel)
theorem d_MS_getsRank_55 : decode y_MS_getsRank.2.1 55 = .ok (.ifCond .eq 12, 3) := dc9_153 (by decide +kernel)
theorem d_MS_getsRank_67 : decode y_MS_getsRank.2.1 67 = .ok (.iconst 0, 1) := dc9_3 (by decide +kernel)
theorem d_MS_getsRank_58 : decode y_MS_getsRank.2.1 58 = .ok (.iload 6, 2) := dc9_21 (by decide +kernel)
theorem d_MS_getsRank_60 : decode y_MS_getsRank.2.1 60 = .ok (.ifCond .eq 7, 3) := dc9_153 (by decide +kernel)
theorem d_MS_getsRank_63 : decode y_MS_getsRank.2.1 63 = .ok (.iconst 1, 1) := dc9_4 (by decide +kernel)
theorem d_MS_getsRank_64 : decode y_MS_getsRank.2.1 64 = .ok (.goto 4, 3) := dc9_167 (by decide +kernel)
theorem d_MS_getsRank_68 : decode y_MS_getsRank.2.1 68 = .ok (.istore 4, 2) := dc9_54 (by decide +kernel)
def h_MS_getsRank_8 (G : mG) (d : Nat) (a0 : Nat) (l1 : Int) (l2 : Int) (l3 : Int) (l4 : Int) (l5 : Int) (M : mM) (Q : Int → mM → Prop) : Prop := mWm G y_MS_getsRank (d + 1) 8 [vr a0, vi l1, vi l2, vi l3, vi l4, vi l5, vd] [] M (fun r9 M9 => ∃ x9, r9 = some (vi x9) ∧ Q x9 M9)
theorem k_MS_getsRank {G : mG} {d : Nat} {a0 : Nat} {l1 : Int} {l2 : Int} {M : mM} {Q : Int → mM → Prop} (hO : mOk M) (hi_l1 : i32 l1) (hi_l2 : i32 l2)
    (h : h_MS_getsRank_8 G d a0 l1 l2 0 1 0 M Q) :
    Ci G y_MS_getsRank (d + 1) [vr a0, vi l1, vi l2] M Q := by
  refine wm_open (y := y_MS_getsRank) rfl (Nat.le_of_ble_eq_true rfl) (L := [vr a0, vi l1, vi l2, vd, vd, vd, vd]) rfl ?_
  refine wm_iconst d_MS_getsRank_0 ?_
  refine wm_istore_n d_MS_getsRank_1 rfl (by decide) (L' := [vr a0, vi l1, vi l2, vi 0, vd, vd, vd]) rfl ?_
  refine wm_iconst d_MS_getsRank_2 ?_
  refine wm_istore d_MS_getsRank_3 (by decide) (L' := [vr a0, vi l1, vi l2, vi 0, vi 1, vd, vd]) rfl ?_
  refine wm_iconst d_MS_getsRank_5 ?_
  refine wm_istore d_MS_getsRank_6 (by decide) (L' := [vr a0, vi l1, vi l2, vi 0, vi 1, vi 0, vd]) rfl ?_
  exact h
theorem k_MS_getsRank_8 {G : mG} {d : Nat} {a0 : Nat} {l1 : Int} {l2 : Int} {l3 : Int} {l4 : Int} {l5 : Int} {M : mM} {Q : Int → mM → Prop} (hO : mOk M) (hi_l1 : i32 l1) (hi_l2 : i32 l2) (hi_l3 : i32 l3) (hi_l4 : i32 l4) (hi_l5 : i32 l5)
    (h : mK M a0 = 17 ∧ Ci G y_MS_many d [vr a0, vi l1] M (fun x3 M2 => i32 x3 ∧ mOk M2 ∧ (((x3 ≤ l5) → (mK M2 a0 = 17 ∧ mK M2 (mR M2 a0 4) = 30 ∧ ((0 : Int) ≤ l1 ∧ l1 < (mN M2 (mR M2 a0 4) : Int)) ∧ ∀ v17 : Int, v17 = (if (mI M2 (mR M2 a0 4) (Int.toNat l1) = 1) then l3 else l4) → (v17 = 0 ∨ v17 = 1) ∧ Q v17 M2)) ∧ (¬ (x3 ≤ l5) → (mK M2 a0 = 17 ∧ Ci G y_MS_attains d [vr a0, vi l1, vi l5] M2 (fun x25 M24 => i32 x25 ∧ mOk M24 ∧ (((x25 = 0) → (h_MS_getsRank_8 G d a0 l1 l2 l3 l4 (l5 + 1) M24 Q)) ∧ (¬ (x25 = 0) → (mK M24 a0 = 17 ∧ Ci G y_MS_leadsBelow d [vr a0, vi l1, vi l5, vi l2] M24 (fun x32 M31 => i32 x32 ∧ mOk M31 ∧ (∀ v36 : Int, v36 = (if ((l3 = 0) ∧ (x32 = 0)) then 0 else 1) → ∀ v43 : Int, v43 = (if ((l4 = 0) ∨ (x32 = 0)) then 0 else 1) → h_MS_getsRank_8 G d a0 l1 l2 v36 v43 (l5 + 1) M31 Q))))))))))) :
    h_MS_getsRank_8 G d a0 l1 l2 l3 l4 l5 M Q := by
  unfold h_MS_getsRank_8
  obtain ⟨h1, h⟩ := h
  refine wm_iload d_MS_getsRank_8 rfl ?_
  refine wm_aload_n d_MS_getsRank_10 rfl rfl ?_
  refine wm_iload_n d_MS_getsRank_11 rfl rfl ?_
  refine cf_MS_116 rfl d_MS_getsRank_12 h1 (Nat.le_of_ble_eq_true rfl) (Ci.mono h (fun x3 M2 h => ?_))
  obtain ⟨h4, hOM2, h⟩ := h
  refine wm_icmp_ge (tgt := 76) d_MS_getsRank_15 rfl hi_l5 h4 (fun c12 => ?_) (fun c12 => ?_)
  · replace h := h.1 c12
    obtain ⟨h13, h⟩ := h
    obtain ⟨h14, h⟩ := h
    obtain ⟨h15, h⟩ := h
    refine wm_aload_n d_MS_getsRank_76 rfl rfl ?_
    refine gf_MS_16 rfl d_MS_getsRank_77 h13 ?_
    refine wm_iload_n d_MS_getsRank_80 rfl rfl ?_
    refine wm_iald d_MS_getsRank_81 h14 h15 ?_
    refine wm_iconst d_MS_getsRank_82 ?_
    have hJ : ∀ v17 : Int, v17 = (if (mI M2 (mR M2 a0 4) (Int.toNat l1) = 1) then l3 else l4) → mWm G y_MS_getsRank (d + 1) 92 [vd, vd, vd, vd, vd, vd, vd] [vi v17] M2 (fun r9 M9 => ∃ x9, r9 = some (vi x9) ∧ Q x9 M9) := by
      intro v17 e19
      have h := h v17 e19
      have h20 : i32 v17 := by rw [e19]; (repeat' split) <;> first | exact hi_l3 | exact hi_l4
      obtain ⟨h21, h⟩ := h
      refine wm_ireturn d_MS_getsRank_92 rfl (m_nb h21) ?_
      exact ⟨_, rfl, h⟩
    clear h
    refine wm_icmp_ne (tgt := 90) d_MS_getsRank_83 rfl (hOM2 _ _).1 ⟨by decide, by decide⟩ (fun c16 => ?_) (fun c16 => ?_)
    · refine wm_iload d_MS_getsRank_90 rfl ?_
      refine wm_less (L' := [vd, vd, vd, vd, vd, vd, vd]) ⟨Or.inl rfl, Or.inl rfl, Or.inl rfl, Or.inl rfl, Or.inl rfl, Or.inl rfl, Or.inl rfl, trivial⟩ ?_
      exact hJ l4 (if_neg c16).symm
    · replace c16 := Classical.not_not.mp c16
      refine wm_iload_n d_MS_getsRank_86 rfl rfl ?_
      refine wm_goto (tgt := 92) d_MS_getsRank_87 rfl ?_
      refine wm_less (L' := [vd, vd, vd, vd, vd, vd, vd]) ⟨Or.inl rfl, Or.inl rfl, Or.inl rfl, Or.inl rfl, Or.inl rfl, Or.inl rfl, Or.inl rfl, trivial⟩ ?_
      exact hJ l3 (if_pos c16).symm
  · replace h := h.2 c12
    obtain ⟨h23, h⟩ := h
    refine wm_aload_n d_MS_getsRank_18 rfl rfl ?_
    refine wm_iload_n d_MS_getsRank_19 rfl rfl ?_
    refine wm_iload d_MS_getsRank_20 rfl ?_
    refine cf_MS_215 rfl d_MS_getsRank_22 h23 (Nat.le_of_ble_eq_true rfl) (Ci.mono h (fun x25 M24 h => ?_))
    obtain ⟨h26, hOM24, h⟩ := h
    refine wm_if_eq (tgt := 70) d_MS_getsRank_25 rfl h26 (fun c29 => ?_) (fun c29 => ?_)
    · replace h := h.1 c29
      refine wm_iinc d_MS_getsRank_70 (by decide) rfl (L' := [vr a0, vi l1, vi l2, vi l3, vi l4, vi (l5 + 1), vd]) rfl ?_
      refine wm_goto (tgt := 8) d_MS_getsRank_73 rfl ?_
      exact h
    · replace h := h.2 c29
      obtain ⟨h30, h⟩ := h
      refine wm_aload_n d_MS_getsRank_28 rfl rfl ?_
      refine wm_iload_n d_MS_getsRank_29 rfl rfl ?_
      refine wm_iload d_MS_getsRank_30 rfl ?_
      refine wm_iload_n d_MS_getsRank_32 rfl rfl ?_
      refine cf_MS_218 rfl d_MS_getsRank_33 h30 (Nat.le_of_ble_eq_true rfl) (Ci.mono h (fun x32 M31 h => ?_))
      obtain ⟨h33, hOM31, h⟩ := h
      refine wm_istore d_MS_getsRank_36 (by decide) (L' := [vr a0, vi l1, vi l2, vi l3, vi l4, vi l5, vi x32]) rfl ?_
      refine wm_iload_n d_MS_getsRank_38 rfl rfl ?_
      have hJ : ∀ v36 : Int, v36 = (if ((l3 = 0) ∧ (x32 = 0)) then 0 else 1) → mWm G y_MS_getsRank (d + 1) 52 [vr a0, vi l1, vi l2, vd, vi l4, vi l5, vi x32] [vi v36] M31 (fun r9 M9 => ∃ x9, r9 = some (vi x9) ∧ Q x9 M9) := by
        intro v36 e38
        have h := h v36 e38
        have h39 : i32 v36 := by rw [e38]; (repeat' split) <;> first | exact ⟨by decide, by decide⟩ | exact ⟨by decide, by decide⟩
        have h40 : (v36 = 0 ∨ v36 = 1) := by rw [e38]; (repeat' split) <;> decide
        refine wm_istore_n d_MS_getsRank_52 rfl (by decide) (L' := [vr a0, vi l1, vi l2, vi v36, vi l4, vi l5, vi x32]) rfl ?_
        refine wm_iload d_MS_getsRank_53 rfl ?_
        have hJ : ∀ v43 : Int, v43 = (if ((l4 = 0) ∨ (x32 = 0)) then 0 else 1) → mWm G y_MS_getsRank (d + 1) 68 [vr a0, vi l1, vi l2, vi v36, vd, vi l5, vd] [vi v43] M31 (fun r9 M9 => ∃ x9, r9 = some (vi x9) ∧ Q x9 M9) := by
          intro v43 e45
          have h := h v43 e45
          have h46 : i32 v43 := by rw [e45]; (repeat' split) <;> first | exact ⟨by decide, by decide⟩ | exact ⟨by decide, by decide⟩
          have h47 : (v43 = 0 ∨ v43 = 1) := by rw [e45]; (repeat' split) <;> decide
          refine wm_istore d_MS_getsRank_68 (by decide) (L' := [vr a0, vi l1, vi l2, vi v36, vi v43, vi l5, vd]) rfl ?_
          refine wm_iinc d_MS_getsRank_70 (by decide) rfl (L' := [vr a0, vi l1, vi l2, vi v36, vi v43, vi (l5 + 1), vd]) rfl ?_
          refine wm_goto (tgt := 8) d_MS_getsRank_73 rfl ?_
          exact h
        clear h
        refine wm_if_eq (tgt := 67) d_MS_getsRank_55 rfl hi_l4 (fun c41 => ?_) (fun c41 => ?_)
        · refine wm_iconst d_MS_getsRank_67 ?_
          refine wm_less (L' := [vr a0, vi l1, vi l2, vi v36, vd, vi l5, vd]) ⟨Or.inr rfl, Or.inr rfl, Or.inr rfl, Or.inr rfl, Or.inl rfl, Or.inr rfl, Or.inl rfl, trivial⟩ ?_
          exact hJ 0 (if_pos (Or.inl c41)).symm
        · refine wm_iload d_MS_getsRank_58 rfl ?_
          refine wm_if_eq (tgt := 67) d_MS_getsRank_60 rfl h33 (fun c42 => ?_) (fun c42 => ?_)
          · refine wm_iconst d_MS_getsRank_67 ?_
            refine wm_less (L' := [vr a0, vi l1, vi l2, vi v36, vd, vi l5, vd]) ⟨Or.inr rfl, Or.inr rfl, Or.inr rfl, Or.inr rfl, Or.inl rfl, Or.inr rfl, Or.inl rfl, trivial⟩ ?_
            exact hJ 0 (if_pos (Or.inr c42)).symm
          · refine wm_iconst d_MS_getsRank_63 ?_
            refine wm_goto (tgt := 68) d_MS_getsRank_64 rfl ?_
            refine wm_less (L' := [vr a0, vi l1, vi l2, vi v36, vd, vi l5, vd]) ⟨Or.inr rfl, Or.inr rfl, Or.inr rfl, Or.inr rfl, Or.inl rfl, Or.inr rfl, Or.inl rfl, trivial⟩ ?_
            exact hJ 1 (if_neg (fun z48 => Or.elim z48 c41 c42)).symm
      clear h
      refine wm_if_ne (tgt := 47) d_MS_getsRank_39 rfl hi_l3 (fun c34 => ?_) (fun c34 => ?_)
      · refine wm_iconst d_MS_getsRank_47 ?_
        refine wm_goto (tgt := 52) d_MS_getsRank_48 rfl ?_
        refine wm_less (L' := [vr a0, vi l1, vi l2, vd, vi l4, vi l5, vi x32]) ⟨Or.inr rfl, Or.inr rfl, Or.inr rfl, Or.inl rfl, Or.inr rfl, Or.inr rfl, Or.inr rfl, trivial⟩ ?_
        exact hJ 1 (if_neg (fun z52 => c34 z52.1)).symm
      · replace c34 := Classical.not_not.mp c34
        refine wm_iload d_MS_getsRank_42 rfl ?_
        refine wm_if_eq (tgt := 51) d_MS_getsRank_44 rfl h33 (fun c35 => ?_) (fun c35 => ?_)
        · refine wm_iconst d_MS_getsRank_51 ?_
          refine wm_less (L' := [vr a0, vi l1, vi l2, vd, vi l4, vi l5, vi x32]) ⟨Or.inr rfl, Or.inr rfl, Or.inr rfl, Or.inl rfl, Or.inr rfl, Or.inr rfl, Or.inr rfl, trivial⟩ ?_
          exact hJ 0 (if_pos ⟨c34, c35⟩).symm
        · refine wm_iconst d_MS_getsRank_47 ?_
          refine wm_goto (tgt := 52) d_MS_getsRank_48 rfl ?_
          refine wm_less (L' := [vr a0, vi l1, vi l2, vd, vi l4, vi l5, vi x32]) ⟨Or.inr rfl, Or.inr rfl, Or.inr rfl, Or.inl rfl, Or.inr rfl, Or.inr rfl, Or.inr rfl, trivial⟩ ?_
          exact hJ 1 (if_neg (fun z50 => c35 z50.2)).symm
theorem d_MS_isUnknown_0 : decode y_MS_isUnknown.2.1 0 = .ok (.aload_n 0, 1) := dc9_42 (by decide +kernel)
theorem d_MS_isUnknown_1 : decode y_MS_isUnknown.2.1 1 = .ok (.getfield 16, 3) := dc9_180 (by decide +kernel)
theorem d_MS_isUnknown_4 : decode y_MS_isUnknown.2.1 4 = .ok (.iload_n 1, 1) := dc9_27 (by decide +kernel)
theorem d_MS_isUnknown_5 : decode y_MS_isUnknown.2.1 5 = .ok (.iaload, 1) := dc9_46 (by decide +kernel)
theorem d_MS_isUnknown_6 : decode y_MS_isUnknown.2.1 6 = .ok (.iconst 3, 1) := dc9_6 (by decide +kernel)
theorem d_MS_isUnknown_7 : decode y_MS_isUnknown.2.1 7 = .ok (.if_icmp .eq 21, 3) := dc9_159 (by decide +kernel)
theorem d_MS_isUnknown_28 : decode y_MS_isUnknown.2.1 28 = .ok (.iconst 0, 1) := dc9_3 (by decide +kernel)
theorem d_MS_isUnknown_10 : decode y_MS_isUnknown.2.1 10 = .ok (.aload_n 0, 1) := dc9_42 (by decide +kernel)
theorem d_MS_isUnknown_11 : decode y_MS_isUnknown.2.1 11 = .ok (.getfield 40, 3) := dc9_180 (by decide +kernel)
theorem d_MS_isUnknown_14 : decode y_MS_isUnknown.2.1 14 = .ok (.iconst 3, 1) := dc9_6 (by decide +kernel)
theorem d_MS_isUnknown_15 : decode y_MS_isUnknown.2.1 15 = .ok (.iload_n 1, 1) := dc9_27 (by decide +kernel)
theorem d_MS_isUnknown_16 : decode y_MS_isUnknown.2.1 16 = .ok (.imul, 1) := dc9_104 (by decide +kernel)
theorem d_MS_isUnknown_17 : decode y_MS_isUnknown.2.1 17 = .ok (.aaload, 1) := dc9_50 (by decide +kernel)
theorem d_MS_isUnknown_29 : decode y_MS_isUnknown.2.1 29 = .ok (.ireturn, 1) := dc9_172 (by decide +kernel)
theorem d_MS_isUnknown_18 : decode y_MS_isUnknown.2.1 18 = .ok (.invokevirtual 170, 3) := dc9_182 (by decide +kernel)
theorem d_MS_isUnknown_21 : decode y_MS_isUnknown.2.1 21 = .ok (.ifCond .ne 7, 3) := dc9_154 (by decide +kernel)
theorem d_MS_isUnknown_24 : decode y_MS_isUnknown.2.1 24 = .ok (.iconst 1, 1) := dc9_4 (by decide +kernel)
theorem d_MS_isUnknown_25 : decode y_MS_isUnknown.2.1 25 = .ok (.goto 4, 3) := dc9_167 (by decide +kernel)
theorem k_MS_isUnknown {G : mG} {d : Nat} {a0 : Nat} {l1 : Int} {M : mM} {Q : Int → mM → Prop} (hO : mOk M) (hi_l1 : i32 l1)
    (h : mK M a0 = 17 ∧ mK M (mR M a0 4) = 30 ∧ ((0 : Int) ≤ l1 ∧ l1 < (mN M (mR M a0 4) : Int)) ∧ ((mI M (mR M a0 4) (Int.toNat l1) = 3) → (Q 0 M)) ∧ (¬ (mI M (mR M a0 4) (Int.toNat l1) = 3) → (mK M (mR M a0 11) = 36 ∧ ((0 : Int) ≤ 3 * l1 ∧ 3 * l1 < (mN M (mR M a0 11) : Int)) ∧ mK M (mR M (mR M a0 11) (Int.toNat (3 * l1))) = 19 ∧ Ci G y_MF_isZero d [vr (mR M (mR M a0 11) (Int.toNat (3 * l1)))] M (fun x13 M12 => i32 x13 ∧ mOk M12 ∧ (∀ v16 : Int, v16 = (if (x13 = 0) then 1 else 0) → Q v16 M12))))) :
    Ci G y_MS_isUnknown (d + 1) [vr a0, vi l1] M Q := by
  refine wm_open (y := y_MS_isUnknown) rfl (Nat.le_of_ble_eq_true rfl) (L := [vr a0, vi l1]) rfl ?_
  obtain ⟨h1, h⟩ := h
  obtain ⟨h2, h⟩ := h
  obtain ⟨h3, h⟩ := h
  refine wm_aload_n d_MS_isUnknown_0 rfl rfl ?_
  refine gf_MS_16 rfl d_MS_isUnknown_1 h1 ?_
  refine wm_iload_n d_MS_isUnknown_4 rfl rfl ?_
  refine wm_iald d_MS_isUnknown_5 h2 h3 ?_
  refine wm_iconst d_MS_isUnknown_6 ?_
  refine wm_icmp_eq (tgt := 28) d_MS_isUnknown_7 rfl (hO _ _).1 ⟨by decide, by decide⟩ (fun c8 => ?_) (fun c8 => ?_)
  · replace h := h.1 c8
    refine wm_iconst d_MS_isUnknown_28 ?_
    refine wm_ireturn d_MS_isUnknown_29 rfl (m_nb (by decide)) ?_
    exact ⟨_, rfl, h⟩
  · replace h := h.2 c8
    obtain ⟨h9, h⟩ := h
    obtain ⟨h10, h⟩ := h
    obtain ⟨h11, h⟩ := h
    refine wm_aload_n d_MS_isUnknown_10 rfl rfl ?_
    refine gf_MS_40 rfl d_MS_isUnknown_11 h1 ?_
    refine wm_iconst d_MS_isUnknown_14 ?_
    refine wm_iload_n d_MS_isUnknown_15 rfl rfl ?_
    refine wm_imul d_MS_isUnknown_16 ?_
    refine wm_aald6 d_MS_isUnknown_17 h9 h10 ?_
    refine cf_MS_170 rfl d_MS_isUnknown_18 h11 (Nat.le_of_ble_eq_true rfl) (Ci.mono h (fun x13 M12 h => ?_))
    obtain ⟨h14, hOM12, h⟩ := h
    have hJ : ∀ v16 : Int, v16 = (if (x13 = 0) then 1 else 0) → mWm G y_MS_isUnknown (d + 1) 29 [vd, vd] [vi v16] M12 (fun r9 M9 => ∃ x9, r9 = some (vi x9) ∧ Q x9 M9) := by
      intro v16 e18
      have h := h v16 e18
      have h19 : i32 v16 := by rw [e18]; (repeat' split) <;> first | exact ⟨by decide, by decide⟩ | exact ⟨by decide, by decide⟩
      have h20 : (v16 = 0 ∨ v16 = 1) := by rw [e18]; (repeat' split) <;> decide
      refine wm_ireturn d_MS_isUnknown_29 rfl (m_nb h20) ?_
      exact ⟨_, rfl, h⟩
    clear h
    refine wm_if_ne (tgt := 28) d_MS_isUnknown_21 rfl h14 (fun c15 => ?_) (fun c15 => ?_)
    · refine wm_iconst d_MS_isUnknown_28 ?_
      refine wm_less (L' := [vd, vd]) ⟨Or.inl rfl, Or.inl rfl, trivial⟩ ?_
      exact hJ 0 (if_neg c15).symm
    · replace c15 := Classical.not_not.mp c15
      refine wm_iconst d_MS_isUnknown_24 ?_
      refine wm_goto (tgt := 29) d_MS_isUnknown_25 rfl ?_
      refine wm_less (L' := [vd, vd]) ⟨Or.inl rfl, Or.inl rfl, trivial⟩ ?_
      exact hJ 1 (if_pos c15).symm
theorem d_MS_rank_0 : decode y_MS_rank.2.1 0 = .ok (.iconst 0, 1) := dc9_3 (by decide +kernel)
theorem d_MS_rank_1 : decode y_MS_rank.2.1 1 = .ok (.istore_n 1, 1) := dc9_60 (by decide +kernel)
theorem d_MS_rank_2 : decode y_MS_rank.2.1 2 = .ok (.iload_n 1, 1) := dc9_27 (by decide +kernel)
theorem d_MS_rank_3 : decode y_MS_rank.2.1 3 = .ok (.aload_n 0, 1) := dc9_42 (by decide +kernel)
theorem d_MS_rank_4 : decode y_MS_rank.2.1 4 = .ok (.getfield 103, 3) := dc9_180 (by decide +kernel)
theorem d_MS_rank_7 : decode y_MS_rank.2.1 7 = .ok (.if_icmp .ge 30, 3) := dc9_162 (by decide +kernel)
theorem d_MS_rank_37 : decode y_MS_rank.2.1 37 = .ok (.iconst 1, 1) := dc9_4 (by decide +kernel)
theorem d_MS_rank_38 : decode y_MS_rank.2.1 38 = .ok (.istore_n 1, 1) := dc9_60 (by decide +kernel)
theorem d_MS_rank_39 : decode y_MS_rank.2.1 39 = .ok (.iconst 1, 1) := dc9_4 (by decide +kernel)
theorem d_MS_rank_40 : decode y_MS_rank.2.1 40 = .ok (.istore_n 2, 1) := dc9_61 (by decide +kernel)
theorem d_MS_rank_10 : decode y_MS_rank.2.1 10 = .ok (.aload_n 0, 1) := dc9_42 (by decide +kernel)
theorem d_MS_rank_11 : decode y_MS_rank.2.1 11 = .ok (.getfield 57, 3) := dc9_180 (by decide +kernel)
theorem d_MS_rank_14 : decode y_MS_rank.2.1 14 = .ok (.iload_n 1, 1) := dc9_27 (by decide +kernel)
theorem d_MS_rank_15 : decode y_MS_rank.2.1 15 = .ok (.aload_n 0, 1) := dc9_42 (by decide +kernel)
theorem d_MS_rank_16 : decode y_MS_rank.2.1 16 = .ok (.getfield 16, 3) := dc9_180 (by decide +kernel)
theorem d_MS_rank_19 : decode y_MS_rank.2.1 19 = .ok (.iload_n 1, 1) := dc9_27 (by decide +kernel)
theorem d_MS_rank_20 : decode y_MS_rank.2.1 20 = .ok (.iaload, 1) := dc9_46 (by decide +kernel)
theorem d_MS_rank_21 : decode y_MS_rank.2.1 21 = .ok (.iconst 3, 1) := dc9_6 (by decide +kernel)
theorem d_MS_rank_22 : decode y_MS_rank.2.1 22 = .ok (.if_icmp .ne 7, 3) := dc9_160 (by decide +kernel)
theorem d_MS_rank_25 : decode y_MS_rank.2.1 25 = .ok (.iconst 0, 1) := dc9_3 (by decide +kernel)
theorem d_MS_rank_26 : decode y_MS_rank.2.1 26 = .ok (.goto 4, 3) := dc9_167 (by decide +kernel)
theorem d_MS_rank_29 : decode y_MS_rank.2.1 29 = .ok (.iconst (-1), 1) := dc9_2 (by decide +kernel)
theorem d_MS_rank_30 : decode y_MS_rank.2.1 30 = .ok (.iastore, 1) := dc9_79 (by decide +kernel)
theorem d_MS_rank_31 : decode y_MS_rank.2.1 31 = .ok (.iinc 1 1, 3) := by decide +kernel
theorem d_MS_rank_34 : decode y_MS_rank.2.1 34 = .ok (.goto (-32), 3) := dc9_167 (by decide +kernel)
theorem d_MS_rank_41 : decode y_MS_rank.2.1 41 = .ok (.iload_n 1, 1) := dc9_27 (by decide +kernel)
theorem d_MS_rank_42 : decode y_MS_rank.2.1 42 = .ok (.ifCond .eq 62, 3) := dc9_153 (by decide +kernel)
theorem d_MS_rank_104 : decode y_MS_rank.2.1 104 = .ok (.iconst 0, 1) := dc9_3 (by decide +kernel)
theorem d_MS_rank_105 : decode y_MS_rank.2.1 105 = .ok (.istore_n 2, 1) := dc9_61 (by decide +kernel)
theorem d_MS_rank_45 : decode y_MS_rank.2.1 45 = .ok (.iconst 0, 1) := dc9_3 (by decide +kernel)
theorem d_MS_rank_46 : decode y_MS_rank.2.1 46 = .ok (.istore_n 1, 1) := dc9_60 (by decide +kernel)
theorem d_MS_rank_47 : decode y_MS_rank.2.1 47 = .ok (.iconst 0, 1) := dc9_3 (by decide +kernel)
theorem d_MS_rank_48 : decode y_MS_rank.2.1 48 = .ok (.istore_n 3, 1) := dc9_62 (by decide +kernel)
theorem d_MS_rank_49 : decode y_MS_rank.2.1 49 = .ok (.iload_n 3, 1) := dc9_29 (by decide +kernel)
theorem d_MS_rank_50 : decode y_MS_rank.2.1 50 = .ok (.aload_n 0, 1) := dc9_42 (by decide +kernel)
theorem d_MS_rank_51 : decode y_MS_rank.2.1 51 = .ok (.getfield 103, 3) := dc9_180 (by decide +kernel)
theorem d_MS_rank_54 : decode y_MS_rank.2.1 54 = .ok (.if_icmp .ge 44, 3) := dc9_162 (by decide +kernel)
theorem d_MS_rank_98 : decode y_MS_rank.2.1 98 = .ok (.iinc 2 1, 3) := by decide +kernel
theorem d_MS_rank_101 : decode y_MS_rank.2.1 101 = .ok (.goto (-60), 3) := dc9_167 (by decide +kernel)
theorem d_MS_rank_57 : decode y_MS_rank.2.1 57 = .ok (.aload_n 0, 1) := dc9_42 (by decide +kernel)
theorem d_MS_rank_58 : decode y_MS_rank.2.1 58 = .ok (.getfield 57, 3) := dc9_180 (by decide +kernel)
theorem d_MS_rank_61 : decode y_MS_rank.2.1 61 = .ok (.iload_n 3, 1) := dc9_29 (by decide +kernel)
theorem d_MS_rank_62 : decode y_MS_rank.2.1 62 = .ok (.iaload, 1) := dc9_46 (by decide +kernel)
theorem d_MS_rank_63 : decode y_MS_rank.2.1 63 = .ok (.ifCond .ge 29, 3) := dc9_156 (by decide +kernel)
theorem d_MS_rank_66 : decode y_MS_rank.2.1 66 = .ok (.aload_n 0, 1) := dc9_42 (by decide +kernel)
theorem d_MS_rank_67 : decode y_MS_rank.2.1 67 = .ok (.iload_n 3, 1) := dc9_29 (by decide +kernel)
theorem d_MS_rank_92 : decode y_MS_rank.2.1 92 = .ok (.iinc 3 1, 3) := by decide +kernel
theorem d_MS_rank_95 : decode y_MS_rank.2.1 95 = .ok (.goto (-46), 3) := dc9_167 (by decide +kernel)
theorem d_MS_rank_68 : decode y_MS_rank.2.1 68 = .ok (.invokevirtual 222, 3) := dc9_182 (by decide +kernel)
theorem d_MS_rank_71 : decode y_MS_rank.2.1 71 = .ok (.ifCond .eq 21, 3) := dc9_153 (by decide +kernel)
theorem d_MS_rank_74 : decode y_MS_rank.2.1 74 = .ok (.aload_n 0, 1) := dc9_42 (by decide +kernel)
theorem d_MS_rank_75 : decode y_MS_rank.2.1 75 = .ok (.iload_n 3, 1) := dc9_29 (by decide +kernel)
theorem d_MS_rank_76 : decode y_MS_rank.2.1 76 = .ok (.iload_n 2, 1) := dc9_28 (by decide +kernel)
theorem d_MS_rank_77 : decode y_MS_rank.2.1 77 = .ok (.invokevirtual 226, 3) := dc9_182 (by decide +kernel)
theorem d_MS_rank_80 : decode y_MS_rank.2.1 80 = .ok (.ifCond .eq 12, 3) := dc9_153 (by decide +kernel)
theorem d_MS_rank_83 : decode y_MS_rank.2.1 83 = .ok (.aload_n 0, 1) := dc9_42 (by decide +kernel)
theorem d_MS_rank_84 : decode y_MS_rank.2.1 84 = .ok (.getfield 57, 3) := dc9_180 (by decide +kernel)
theorem d_MS_rank_87 : decode y_MS_rank.2.1 87 = .ok (.iload_n 3, 1) := dc9_29 (by decide +kernel)
theorem d_MS_rank_88 : decode y_MS_rank.2.1 88 = .ok (.iload_n 2, 1) := dc9_28 (by decide +kernel)
theorem d_MS_rank_89 : decode y_MS_rank.2.1 89 = .ok (.iastore, 1) := dc9_79 (by decide +kernel)
theorem d_MS_rank_90 : decode y_MS_rank.2.1 90 = .ok (.iconst 1, 1) := dc9_4 (by decide +kernel)
theorem d_MS_rank_91 : decode y_MS_rank.2.1 91 = .ok (.istore_n 1, 1) := dc9_60 (by decide +kernel)
theorem d_MS_rank_106 : decode y_MS_rank.2.1 106 = .ok (.iload_n 2, 1) := dc9_28 (by decide +kernel)
theorem d_MS_rank_107 : decode y_MS_rank.2.1 107 = .ok (.aload_n 0, 1) := dc9_42 (by decide +kernel)
theorem d_MS_rank_108 : decode y_MS_rank.2.1 108 = .ok (.getfield 103, 3) := dc9_180 (by decide +kernel)
theorem d_MS_rank_111 : decode y_MS_rank.2.1 111 = .ok (.if_icmp .ge 32, 3) := dc9_162 (by decide +kernel)
theorem d_MS_rank_143 : decode y_MS_rank.2.1 143 = .ok (.return_, 1) := dc9_177 (by decide +kernel)
theorem d_MS_rank_114 : decode y_MS_rank.2.1 114 = .ok (.aload_n 0, 1) := dc9_42 (by decide +kernel)
theorem d_MS_rank_115 : decode y_MS_rank.2.1 115 = .ok (.getfield 54, 3) := dc9_180 (by decide +kernel)
theorem d_MS_rank_118 : decode y_MS_rank.2.1 118 = .ok (.iload_n 2, 1) := dc9_28 (by decide +kernel)
theorem d_MS_rank_119 : decode y_MS_rank.2.1 119 = .ok (.aload_n 0, 1) := dc9_42 (by decide +kernel)
theorem d_MS_rank_120 : decode y_MS_rank.2.1 120 = .ok (.iload_n 2, 1) := dc9_28 (by decide +kernel)
theorem d_MS_rank_121 : decode y_MS_rank.2.1 121 = .ok (.invokevirtual 116, 3) := dc9_182 (by decide +kernel)
theorem d_MS_rank_124 : decode y_MS_rank.2.1 124 = .ok (.ifCond .ne 7, 3) := dc9_154 (by decide +kernel)
theorem d_MS_rank_127 : decode y_MS_rank.2.1 127 = .ok (.iconst (-1), 1) := dc9_2 (by decide +kernel)
theorem d_MS_rank_128 : decode y_MS_rank.2.1 128 = .ok (.goto 8, 3) := dc9_167 (by decide +kernel)
theorem d_MS_rank_131 : decode y_MS_rank.2.1 131 = .ok (.aload_n 0, 1) := dc9_42 (by decide +kernel)
theorem d_MS_rank_132 : decode y_MS_rank.2.1 132 = .ok (.iload_n 2, 1) := dc9_28 (by decide +kernel)
theorem d_MS_rank_136 : decode y_MS_rank.2.1 136 = .ok (.iastore, 1) := dc9_79 (by decide +kernel)
theorem d_MS_rank_137 : decode y_MS_rank.2.1 137 = .ok (.iinc 2 1, 3) := by decide +kernel
theorem d_MS_rank_140 : decode y_MS_rank.2.1 140 = .ok (.goto (-34), 3) := dc9_167 (by decide +kernel)
theorem d_MS_rank_133 : decode y_MS_rank.2.1 133 = .ok (.invokevirtual 229, 3) := dc9_182 (by decide +kernel)
def h_MS_rank_2 (G : mG) (d : Nat) (a0 : Nat) (l1 : Int) (M : mM) (Q : mM → Prop) : Prop := mWm G y_MS_rank (d + 1) 2 [vr a0, vi l1, vd, vd] [] M (fun r9 M9 => r9 = none ∧ Q M9)
def h_MS_rank_41 (G : mG) (d : Nat) (a0 : Nat) (l1 : Int) (l2 : Int) (M : mM) (Q : mM → Prop) : Prop := mWm G y_MS_rank (d + 1) 41 [vr a0, vi l1, vi l2, vd] [] M (fun r9 M9 => r9 = none ∧ Q M9)
def h_MS_rank_49 (G : mG) (d : Nat) (a0 : Nat) (l1 : Int) (l2 : Int) (l3 : Int) (M : mM) (Q : mM → Prop) : Prop := mWm G y_MS_rank (d + 1) 49 [vr a0, vi l1, vi l2, vi l3] [] M (fun r9 M9 => r9 = none ∧ Q M9)
def h_MS_rank_106 (G : mG) (d : Nat) (a0 : Nat) (l2 : Int) (M : mM) (Q : mM → Prop) : Prop := mWm G y_MS_rank (d + 1) 106 [vr a0, vd, vi l2, vd] [] M (fun r9 M9 => r9 = none ∧ Q M9)
theorem k_MS_rank {G : mG} {d : Nat} {a0 : Nat} {M : mM} {Q : mM → Prop} (hO : mOk M)
    (h : h_MS_rank_2 G d a0 0 M Q) :
    Cv G y_MS_rank (d + 1) [vr a0] M Q := by
  refine wm_open (y := y_MS_rank) rfl (Nat.le_of_ble_eq_true rfl) (L := [vr a0, vd, vd, vd]) rfl ?_
  refine wm_iconst d_MS_rank_0 ?_
  refine wm_istore_n d_MS_rank_1 rfl (by decide) (L' := [vr a0, vi 0, vd, vd]) rfl ?_
  exact h
theorem k_MS_rank_2 {G : mG} {d : Nat} {a0 : Nat} {l1 : Int} {M : mM} {Q : mM → Prop} (hO : mOk M) (hi_l1 : i32 l1)
    (h : mK M a0 = 17 ∧ ((mI M a0 1 ≤ l1) → (h_MS_rank_41 G d a0 1 1 M Q)) ∧ (¬ (mI M a0 1 ≤ l1) → (mK M (mR M a0 4) = 30 ∧ ((0 : Int) ≤ l1 ∧ l1 < (mN M (mR M a0 4) : Int)) ∧ ∀ v9 : Int, v9 = (if (mI M (mR M a0 4) (Int.toNat l1) = 3) then 0 else (-1)) → mK M (mR M a0 16) = 30 ∧ ((0 : Int) ≤ l1 ∧ l1 < (mN M (mR M a0 16) : Int)) ∧ ∀ M15, M15 = mUI M (mR M a0 16) (Int.toNat l1) v9 → h_MS_rank_2 G d a0 (l1 + 1) M15 Q))) :
    h_MS_rank_2 G d a0 l1 M Q := by
  unfold h_MS_rank_2
  obtain ⟨h1, h⟩ := h
  refine wm_iload_n d_MS_rank_2 rfl rfl ?_
  refine wm_aload_n d_MS_rank_3 rfl rfl ?_
  refine gf_MS_103 rfl d_MS_rank_4 h1 ?_
  refine wm_icmp_ge (tgt := 37) d_MS_rank_7 rfl hi_l1 (hO _ _).1 (fun c5 => ?_) (fun c5 => ?_)
  · replace h := h.1 c5
    refine wm_iconst d_MS_rank_37 ?_
    refine wm_istore_n d_MS_rank_38 rfl (by decide) (L' := [vr a0, vi 1, vd, vd]) rfl ?_
    refine wm_iconst d_MS_rank_39 ?_
    refine wm_istore_n d_MS_rank_40 rfl (by decide) (L' := [vr a0, vi 1, vi 1, vd]) rfl ?_
    exact h
  · replace h := h.2 c5
    obtain ⟨h6, h⟩ := h
    obtain ⟨h7, h⟩ := h
    refine wm_aload_n d_MS_rank_10 rfl rfl ?_
    refine gf_MS_57 rfl d_MS_rank_11 h1 ?_
    refine wm_iload_n d_MS_rank_14 rfl rfl ?_
    refine wm_aload_n d_MS_rank_15 rfl rfl ?_
    refine gf_MS_16 rfl d_MS_rank_16 h1 ?_
    refine wm_iload_n d_MS_rank_19 rfl rfl ?_
    refine wm_iald d_MS_rank_20 h6 h7 ?_
    refine wm_iconst d_MS_rank_21 ?_
    have hJ : ∀ v9 : Int, v9 = (if (mI M (mR M a0 4) (Int.toNat l1) = 3) then 0 else (-1)) → mWm G y_MS_rank (d + 1) 30 [vr a0, vi l1, vd, vd] [vi v9, vi l1, vr (mR M a0 16)] M (fun r9 M9 => r9 = none ∧ Q M9) := by
      intro v9 e11
      have h := h v9 e11
      have h12 : i32 v9 := by rw [e11]; (repeat' split) <;> first | exact ⟨by decide, by decide⟩ | exact ⟨by decide, by decide⟩
      obtain ⟨h13, h⟩ := h
      obtain ⟨h14, h⟩ := h
      obtain ⟨M15, e16⟩ : ∃ M15, M15 = mUI M (mR M a0 16) (Int.toNat l1) v9 := ⟨_, rfl⟩
      replace h := h M15 e16
      have hOM15 : mOk M15 := by rw [e16]; exact mOk_UI hO h12
      refine wm_iastE d_MS_rank_30 h13 h14 h12 e16 ?_
      refine wm_iinc d_MS_rank_31 (by decide) rfl (L' := [vr a0, vi (l1 + 1), vd, vd]) rfl ?_
      refine wm_goto (tgt := 2) d_MS_rank_34 rfl ?_
      exact h
    clear h
    refine wm_icmp_ne (tgt := 29) d_MS_rank_22 rfl (hO _ _).1 ⟨by decide, by decide⟩ (fun c8 => ?_) (fun c8 => ?_)
    · refine wm_iconst d_MS_rank_29 ?_
      exact hJ (-1) (if_neg c8).symm
    · replace c8 := Classical.not_not.mp c8
      refine wm_iconst d_MS_rank_25 ?_
      refine wm_goto (tgt := 30) d_MS_rank_26 rfl ?_
      exact hJ 0 (if_pos c8).symm
theorem k_MS_rank_41 {G : mG} {d : Nat} {a0 : Nat} {l1 : Int} {l2 : Int} {M : mM} {Q : mM → Prop} (hO : mOk M) (hi_l1 : i32 l1) (hi_l2 : i32 l2)
    (h : ((l1 = 0) → (h_MS_rank_106 G d a0 0 M Q)) ∧ (¬ (l1 = 0) → (h_MS_rank_49 G d a0 0 l2 0 M Q))) :
    h_MS_rank_41 G d a0 l1 l2 M Q := by
  unfold h_MS_rank_41
  refine wm_iload_n d_MS_rank_41 rfl rfl ?_
  refine wm_if_eq (tgt := 104) d_MS_rank_42 rfl hi_l1 (fun c19 => ?_) (fun c19 => ?_)
  · replace h := h.1 c19
    refine wm_iconst d_MS_rank_104 ?_
    refine wm_istore_n d_MS_rank_105 rfl (by decide) (L' := [vr a0, vi l1, vi 0, vd]) rfl ?_
    refine wm_less (L' := [vr a0, vd, vi 0, vd]) ⟨Or.inr rfl, Or.inl rfl, Or.inr rfl, Or.inl rfl, trivial⟩ ?_
    exact h
  · replace h := h.2 c19
    refine wm_iconst d_MS_rank_45 ?_
    refine wm_istore_n d_MS_rank_46 rfl (by decide) (L' := [vr a0, vi 0, vi l2, vd]) rfl ?_
    refine wm_iconst d_MS_rank_47 ?_
    refine wm_istore_n d_MS_rank_48 rfl (by decide) (L' := [vr a0, vi 0, vi l2, vi 0]) rfl ?_
    exact h
theorem k_MS_rank_49 {G : mG} {d : Nat} {a0 : Nat} {l1 : Int} {l2 : Int} {l3 : Int} {M : mM} {Q : mM → Prop} (hO : mOk M) (hi_l1 : i32 l1) (hi_l2 : i32 l2) (hi_l3 : i32 l3)
    (h : mK M a0 = 17 ∧ ((mI M a0 1 ≤ l3) → (h_MS_rank_41 G d a0 l1 (l2 + 1) M Q)) ∧ (¬ (mI M a0 1 ≤ l3) → (mK M (mR M a0 16) = 30 ∧ ((0 : Int) ≤ l3 ∧ l3 < (mN M (mR M a0 16) : Int)) ∧ ((0 ≤ mI M (mR M a0 16) (Int.toNat l3)) → (h_MS_rank_49 G d a0 l1 l2 (l3 + 1) M Q)) ∧ (¬ (0 ≤ mI M (mR M a0 16) (Int.toNat l3)) → (Ci G y_MS_isUnknown d [vr a0, vi l3] M (fun x32 M31 => i32 x32 ∧ mOk M31 ∧ (((x32 = 0) → (h_MS_rank_49 G d a0 l1 l2 (l3 + 1) M31 Q)) ∧ (¬ (x32 = 0) → (mK M31 a0 = 17 ∧ Ci G y_MS_getsRank d [vr a0, vi l3, vi l2] M31 (fun x39 M38 => i32 x39 ∧ mOk M38 ∧ ((¬ (x39 = 0) → (mK M38 a0 = 17 ∧ mK M38 (mR M38 a0 16) = 30 ∧ ((0 : Int) ≤ l3 ∧ l3 < (mN M38 (mR M38 a0 16) : Int)))) ∧ ∀ v45 : Int, v45 = (if (x39 = 0) then l1 else 1) → ∀ M46 : mM, M46 = (if (x39 = 0) then M38 else (mUI M38 (mR M38 a0 16) (Int.toNat l3) l2)) → mOk M46 ∧ h_MS_rank_49 G d a0 v45 l2 (l3 + 1) M46 Q))))))))))) :
    h_MS_rank_49 G d a0 l1 l2 l3 M Q := by
  unfold h_MS_rank_49
  obtain ⟨h20, h⟩ := h
  refine wm_iload_n d_MS_rank_49 rfl rfl ?_
  refine wm_aload_n d_MS_rank_50 rfl rfl ?_
  refine gf_MS_103 rfl d_MS_rank_51 h20 ?_
  refine wm_icmp_ge (tgt := 98) d_MS_rank_54 rfl hi_l3 (hO _ _).1 (fun c25 => ?_) (fun c25 => ?_)
  · replace h := h.1 c25
    refine wm_iinc d_MS_rank_98 (by decide) rfl (L' := [vr a0, vi l1, vi (l2 + 1), vi l3]) rfl ?_
    refine wm_goto (tgt := 41) d_MS_rank_101 rfl ?_
    refine wm_less (L' := [vr a0, vi l1, vi (l2 + 1), vd]) ⟨Or.inr rfl, Or.inr rfl, Or.inr rfl, Or.inl rfl, trivial⟩ ?_
    exact h
  · replace h := h.2 c25
    obtain ⟨h26, h⟩ := h
    obtain ⟨h27, h⟩ := h
    refine wm_aload_n d_MS_rank_57 rfl rfl ?_
    refine gf_MS_57 rfl d_MS_rank_58 h20 ?_
    refine wm_iload_n d_MS_rank_61 rfl rfl ?_
    refine wm_iald d_MS_rank_62 h26 h27 ?_
    refine wm_if_ge (tgt := 92) d_MS_rank_63 rfl (hO _ _).1 (fun c30 => ?_) (fun c30 => ?_)
    · replace h := h.1 c30
      refine wm_iinc d_MS_rank_92 (by decide) rfl (L' := [vr a0, vi l1, vi l2, vi (l3 + 1)]) rfl ?_
      refine wm_goto (tgt := 49) d_MS_rank_95 rfl ?_
      exact h
    · replace h := h.2 c30
      refine wm_aload_n d_MS_rank_66 rfl rfl ?_
      refine wm_iload_n d_MS_rank_67 rfl rfl ?_
      refine cf_MS_222 rfl d_MS_rank_68 h20 (Nat.le_of_ble_eq_true rfl) (Ci.mono h (fun x32 M31 h => ?_))
      obtain ⟨h33, hOM31, h⟩ := h
      refine wm_if_eq (tgt := 92) d_MS_rank_71 rfl h33 (fun c36 => ?_) (fun c36 => ?_)
      · replace h := h.1 c36
        refine wm_iinc d_MS_rank_92 (by decide) rfl (L' := [vr a0, vi l1, vi l2, vi (l3 + 1)]) rfl ?_
        refine wm_goto (tgt := 49) d_MS_rank_95 rfl ?_
        exact h
      · replace h := h.2 c36
        obtain ⟨h37, h⟩ := h
        refine wm_aload_n d_MS_rank_74 rfl rfl ?_
        refine wm_iload_n d_MS_rank_75 rfl rfl ?_
        refine wm_iload_n d_MS_rank_76 rfl rfl ?_
        refine cf_MS_226 rfl d_MS_rank_77 h37 (Nat.le_of_ble_eq_true rfl) (Ci.mono h (fun x39 M38 h => ?_))
        obtain ⟨h40, hOM38, h⟩ := h
        obtain ⟨s47, h⟩ := h
        have hJ : ∀ v45 : Int, v45 = (if (x39 = 0) then l1 else 1) → ∀ M46 : mM, M46 = (if (x39 = 0) then M38 else (mUI M38 (mR M38 a0 16) (Int.toNat l3) l2)) → mWm G y_MS_rank (d + 1) 92 [vr a0, vi v45, vi l2, vi l3] [] M46 (fun r9 M9 => r9 = none ∧ Q M9) := by
          intro v45 e48
          intro M46 e49
          have h := h v45 e48 M46 e49
          have h50 : i32 v45 := by rw [e48]; (repeat' split) <;> first | exact hi_l1 | exact ⟨by decide, by decide⟩
          have h51 : mK M46 = mK M38 := by rw [e49]; (repeat' split) <;> rfl
          obtain ⟨hOM46, h⟩ := h
          refine wm_iinc d_MS_rank_92 (by decide) rfl (L' := [vr a0, vi v45, vi l2, vi (l3 + 1)]) rfl ?_
          refine wm_goto (tgt := 49) d_MS_rank_95 rfl ?_
          exact h
        clear h
        have s52 := s47
        refine wm_if_eq (tgt := 92) d_MS_rank_80 rfl h40 (fun c41 => ?_) (fun c41 => ?_)
        · exact hJ l1 (if_pos c41).symm M38 (if_pos c41).symm
        · have s52 := s52 c41
          obtain ⟨h42, h43, h44⟩ := s52
          refine wm_aload_n d_MS_rank_83 rfl rfl ?_
          refine gf_MS_57 rfl d_MS_rank_84 h42 ?_
          refine wm_iload_n d_MS_rank_87 rfl rfl ?_
          refine wm_iload_n d_MS_rank_88 rfl rfl ?_
          refine wm_iastE d_MS_rank_89 h43 h44 hi_l2 rfl ?_
          refine wm_iconst d_MS_rank_90 ?_
          refine wm_istore_n d_MS_rank_91 rfl (by decide) (L' := [vr a0, vi 1, vi l2, vi l3]) rfl ?_
          exact hJ 1 (if_neg c41).symm (mUI M38 (mR M38 a0 16) (Int.toNat l3) l2) (if_neg c41).symm
theorem k_MS_rank_106 {G : mG} {d : Nat} {a0 : Nat} {l2 : Int} {M : mM} {Q : mM → Prop} (hO : mOk M) (hi_l2 : i32 l2)
    (h : mK M a0 = 17 ∧ ((mI M a0 1 ≤ l2) → (Q M)) ∧ (¬ (mI M a0 1 ≤ l2) → (Ci G y_MS_many d [vr a0, vi l2] M (fun x59 M58 => i32 x59 ∧ mOk M58 ∧ (((x59 = 0) → (mK M58 (mR M a0 15) = 30 ∧ ((0 : Int) ≤ l2 ∧ l2 < (mN M58 (mR M a0 15) : Int)) ∧ ∀ M68, M68 = mUI M58 (mR M a0 15) (Int.toNat l2) (-1) → h_MS_rank_106 G d a0 (l2 + 1) M68 Q)) ∧ (¬ (x59 = 0) → (mK M58 a0 = 17 ∧ Ci G y_MS_choose d [vr a0, vi l2] M58 (fun x72 M71 => i32 x72 ∧ mOk M71 ∧ (mK M71 (mR M a0 15) = 30 ∧ ((0 : Int) ≤ l2 ∧ l2 < (mN M71 (mR M a0 15) : Int)) ∧ ∀ M76, M76 = mUI M71 (mR M a0 15) (Int.toNat l2) x72 → h_MS_rank_106 G d a0 (l2 + 1) M76 Q))))))))) :
    h_MS_rank_106 G d a0 l2 M Q := by
  unfold h_MS_rank_106
  obtain ⟨h55, h⟩ := h
  refine wm_iload_n d_MS_rank_106 rfl rfl ?_
  refine wm_aload_n d_MS_rank_107 rfl rfl ?_
  refine gf_MS_103 rfl d_MS_rank_108 h55 ?_
  refine wm_icmp_ge (tgt := 143) d_MS_rank_111 rfl hi_l2 (hO _ _).1 (fun c57 => ?_) (fun c57 => ?_)
  · replace h := h.1 c57
    refine wm_return d_MS_rank_143 rfl ?_
    exact ⟨rfl, h⟩
  · replace h := h.2 c57
    refine wm_aload_n d_MS_rank_114 rfl rfl ?_
    refine gf_MS_54 rfl d_MS_rank_115 h55 ?_
    refine wm_iload_n d_MS_rank_118 rfl rfl ?_
    refine wm_aload_n d_MS_rank_119 rfl rfl ?_
    refine wm_iload_n d_MS_rank_120 rfl rfl ?_
    refine cf_MS_116 rfl d_MS_rank_121 h55 (Nat.le_of_ble_eq_true rfl) (Ci.mono h (fun x59 M58 h => ?_))
    obtain ⟨h60, hOM58, h⟩ := h
    refine wm_if_ne (tgt := 131) d_MS_rank_124 rfl h60 (fun c65 => ?_) (fun c65 => ?_)
    · replace h := h.2 c65
      obtain ⟨h70, h⟩ := h
      refine wm_aload_n d_MS_rank_131 rfl rfl ?_
      refine wm_iload_n d_MS_rank_132 rfl rfl ?_
      refine cf_MS_229 rfl d_MS_rank_133 h70 (Nat.le_of_ble_eq_true rfl) (Ci.mono h (fun x72 M71 h => ?_))
      obtain ⟨h73, hOM71, h⟩ := h
      obtain ⟨h74, h⟩ := h
      obtain ⟨h75, h⟩ := h
      obtain ⟨M76, e77⟩ : ∃ M76, M76 = mUI M71 (mR M a0 15) (Int.toNat l2) x72 := ⟨_, rfl⟩
      replace h := h M76 e77
      have hOM76 : mOk M76 := by rw [e77]; exact mOk_UI hOM71 h73
      refine wm_iastE d_MS_rank_136 h74 h75 h73 e77 ?_
      refine wm_iinc d_MS_rank_137 (by decide) rfl (L' := [vr a0, vd, vi (l2 + 1), vd]) rfl ?_
      refine wm_goto (tgt := 106) d_MS_rank_140 rfl ?_
      exact h
    · replace c65 := Classical.not_not.mp c65
      replace h := h.1 c65
      obtain ⟨h66, h⟩ := h
      obtain ⟨h67, h⟩ := h
      obtain ⟨M68, e69⟩ : ∃ M68, M68 = mUI M58 (mR M a0 15) (Int.toNat l2) (-1) := ⟨_, rfl⟩
      replace h := h M68 e69
      refine wm_iconst d_MS_rank_127 ?_
      refine wm_goto (tgt := 136) d_MS_rank_128 rfl ?_
      have hOM68 : mOk M68 := by rw [e69]; exact mOk_UI hOM58 ⟨by decide, by decide⟩
      refine wm_iastE d_MS_rank_136 h66 h67 ⟨by decide, by decide⟩ e69 ?_
      refine wm_iinc d_MS_rank_137 (by decide) rfl (L' := [vr a0, vd, vi (l2 + 1), vd]) rfl ?_
      refine wm_goto (tgt := 106) d_MS_rank_140 rfl ?_
      exact h
theorem d_MS_choose_0 : decode y_MS_choose.2.1 0 = .ok (.iconst 0, 1) := dc9_3 (by decide +kernel)
theorem d_MS_choose_1 : decode y_MS_choose.2.1 1 = .ok (.istore_n 2, 1) := dc9_61 (by decide +kernel)
theorem d_MS_choose_2 : decode y_MS_choose.2.1 2 = .ok (.iload_n 2, 1) := dc9_28 (by decide +kernel)
theorem d_MS_choose_3 : decode y_MS_choose.2.1 3 = .ok (.aload_n 0, 1) := dc9_42 (by decide +kernel)
theorem d_MS_choose_4 : decode y_MS_choose.2.1 4 = .ok (.iload_n 1, 1) := dc9_27 (by decide +kernel)
theorem d_MS_choose_5 : decode y_MS_choose.2.1 5 = .ok (.invokevirtual 116, 3) := dc9_182 (by decide +kernel)
theorem d_MS_choose_8 : decode y_MS_choose.2.1 8 = .ok (.if_icmp .ge 72, 3) := dc9_162 (by decide +kernel)
theorem d_MS_choose_80 : decode y_MS_choose.2.1 80 = .ok (.iconst 0, 1) := dc9_3 (by decide +kernel)
theorem d_MS_choose_81 : decode y_MS_choose.2.1 81 = .ok (.ireturn, 1) := dc9_172 (by decide +kernel)
theorem d_MS_choose_11 : decode y_MS_choose.2.1 11 = .ok (.aload_n 0, 1) := dc9_42 (by decide +kernel)
theorem d_MS_choose_12 : decode y_MS_choose.2.1 12 = .ok (.getfield 16, 3) := dc9_180 (by decide +kernel)
theorem d_MS_choose_15 : decode y_MS_choose.2.1 15 = .ok (.iload_n 1, 1) := dc9_27 (by decide +kernel)
theorem d_MS_choose_16 : decode y_MS_choose.2.1 16 = .ok (.iaload, 1) := dc9_46 (by decide +kernel)
theorem d_MS_choose_17 : decode y_MS_choose.2.1 17 = .ok (.iconst 2, 1) := dc9_5 (by decide +kernel)
theorem d_MS_choose_18 : decode y_MS_choose.2.1 18 = .ok (.if_icmp .ne 12, 3) := dc9_160 (by decide +kernel)
theorem d_MS_choose_21 : decode y_MS_choose.2.1 21 = .ok (.aload_n 0, 1) := dc9_42 (by decide +kernel)
theorem d_MS_choose_22 : decode y_MS_choose.2.1 22 = .ok (.iload_n 1, 1) := dc9_27 (by decide +kernel)
theorem d_MS_choose_23 : decode y_MS_choose.2.1 23 = .ok (.iload_n 2, 1) := dc9_28 (by decide +kernel)
theorem d_MS_choose_30 : decode y_MS_choose.2.1 30 = .ok (.aload_n 0, 1) := dc9_42 (by decide +kernel)
theorem d_MS_choose_31 : decode y_MS_choose.2.1 31 = .ok (.iload_n 1, 1) := dc9_27 (by decide +kernel)
theorem d_MS_choose_24 : decode y_MS_choose.2.1 24 = .ok (.invokevirtual 215, 3) := dc9_182 (by decide +kernel)
theorem d_MS_choose_27 : decode y_MS_choose.2.1 27 = .ok (.goto 40, 3) := dc9_167 (by decide +kernel)
theorem d_MS_choose_67 : decode y_MS_choose.2.1 67 = .ok (.istore_n 3, 1) := dc9_62 (by decide +kernel)
theorem d_MS_choose_68 : decode y_MS_choose.2.1 68 = .ok (.iload_n 3, 1) := dc9_29 (by decide +kernel)
theorem d_MS_choose_69 : decode y_MS_choose.2.1 69 = .ok (.ifCond .eq 5, 3) := dc9_153 (by decide +kernel)
theorem d_MS_choose_74 : decode y_MS_choose.2.1 74 = .ok (.iinc 2 1, 3) := by decide +kernel
theorem d_MS_choose_77 : decode y_MS_choose.2.1 77 = .ok (.goto (-75), 3) := dc9_167 (by decide +kernel)
theorem d_MS_choose_72 : decode y_MS_choose.2.1 72 = .ok (.iload_n 2, 1) := dc9_28 (by decide +kernel)
theorem d_MS_choose_73 : decode y_MS_choose.2.1 73 = .ok (.ireturn, 1) := dc9_172 (by decide +kernel)
theorem d_MS_choose_32 : decode y_MS_choose.2.1 32 = .ok (.invokevirtual 222, 3) := dc9_182 (by decide +kernel)
theorem d_MS_choose_35 : decode y_MS_choose.2.1 35 = .ok (.ifCond .eq 31, 3) := dc9_153 (by decide +kernel)
theorem d_MS_choose_66 : decode y_MS_choose.2.1 66 = .ok (.iconst 0, 1) := dc9_3 (by decide +kernel)
theorem d_MS_choose_38 : decode y_MS_choose.2.1 38 = .ok (.aload_n 0, 1) := dc9_42 (by decide +kernel)
theorem d_MS_choose_39 : decode y_MS_choose.2.1 39 = .ok (.iload_n 1, 1) := dc9_27 (by decide +kernel)
theorem d_MS_choose_40 : decode y_MS_choose.2.1 40 = .ok (.iload_n 2, 1) := dc9_28 (by decide +kernel)
theorem d_MS_choose_41 : decode y_MS_choose.2.1 41 = .ok (.invokevirtual 215, 3) := dc9_182 (by decide +kernel)
theorem d_MS_choose_44 : decode y_MS_choose.2.1 44 = .ok (.ifCond .eq 22, 3) := dc9_153 (by decide +kernel)
theorem d_MS_choose_47 : decode y_MS_choose.2.1 47 = .ok (.aload_n 0, 1) := dc9_42 (by decide +kernel)
theorem d_MS_choose_48 : decode y_MS_choose.2.1 48 = .ok (.iload_n 1, 1) := dc9_27 (by decide +kernel)
theorem d_MS_choose_49 : decode y_MS_choose.2.1 49 = .ok (.iload_n 2, 1) := dc9_28 (by decide +kernel)
theorem d_MS_choose_50 : decode y_MS_choose.2.1 50 = .ok (.aload_n 0, 1) := dc9_42 (by decide +kernel)
theorem d_MS_choose_51 : decode y_MS_choose.2.1 51 = .ok (.getfield 57, 3) := dc9_180 (by decide +kernel)
theorem d_MS_choose_54 : decode y_MS_choose.2.1 54 = .ok (.iload_n 1, 1) := dc9_27 (by decide +kernel)
theorem d_MS_choose_55 : decode y_MS_choose.2.1 55 = .ok (.iaload, 1) := dc9_46 (by decide +kernel)
theorem d_MS_choose_56 : decode y_MS_choose.2.1 56 = .ok (.invokevirtual 218, 3) := dc9_182 (by decide +kernel)
theorem d_MS_choose_59 : decode y_MS_choose.2.1 59 = .ok (.ifCond .eq 7, 3) := dc9_153 (by decide +kernel)
theorem d_MS_choose_62 : decode y_MS_choose.2.1 62 = .ok (.iconst 1, 1) := dc9_4 (by decide +kernel)
theorem d_MS_choose_63 : decode y_MS_choose.2.1 63 = .ok (.goto 4, 3) := dc9_167 (by decide +kernel)
def h_MS_choose_2 (G : mG) (d : Nat) (a0 : Nat) (l1 : Int) (l2 : Int) (M : mM) (Q : Int → mM → Prop) : Prop := mWm G y_MS_choose (d + 1) 2 [vr a0, vi l1, vi l2, vd] [] M (fun r9 M9 => ∃ x9, r9 = some (vi x9) ∧ Q x9 M9)
theorem k_MS_choose {G : mG} {d : Nat} {a0 : Nat} {l1 : Int} {M : mM} {Q : Int → mM → Prop} (hO : mOk M) (hi_l1 : i32 l1)
    (h : h_MS_choose_2 G d a0 l1 0 M Q) :
    Ci G y_MS_choose (d + 1) [vr a0, vi l1] M Q := by
  refine wm_open (y := y_MS_choose) rfl (Nat.le_of_ble_eq_true rfl) (L := [vr a0, vi l1, vd, vd]) rfl ?_
  refine wm_iconst d_MS_choose_0 ?_
  refine wm_istore_n d_MS_choose_1 rfl (by decide) (L' := [vr a0, vi l1, vi 0, vd]) rfl ?_
  exact h
theorem k_MS_choose_2 {G : mG} {d : Nat} {a0 : Nat} {l1 : Int} {l2 : Int} {M : mM} {Q : Int → mM → Prop} (hO : mOk M) (hi_l1 : i32 l1) (hi_l2 : i32 l2)
    (h : mK M a0 = 17 ∧ Ci G y_MS_many d [vr a0, vi l1] M (fun x3 M2 => i32 x3 ∧ mOk M2 ∧ (((x3 ≤ l2) → (Q 0 M2)) ∧ (¬ (x3 ≤ l2) → (mK M2 a0 = 17 ∧ mK M2 (mR M2 a0 4) = 30 ∧ ((0 : Int) ≤ l1 ∧ l1 < (mN M2 (mR M2 a0 4) : Int)) ∧ ((mI M2 (mR M2 a0 4) (Int.toNat l1) = 2) → (Ci G y_MS_attains d [vr a0, vi l1, vi l2] M2 (fun x18 M17 => i32 x18 ∧ mOk M17 ∧ (((x18 = 0) → (h_MS_choose_2 G d a0 l1 (l2 + 1) M17 Q)) ∧ (¬ (x18 = 0) → (Q l2 M17)))))) ∧ (¬ (mI M2 (mR M2 a0 4) (Int.toNat l1) = 2) → (Ci G y_MS_isUnknown d [vr a0, vi l1] M2 (fun x23 M22 => i32 x23 ∧ mOk M22 ∧ (((x23 = 0) → ((((0 : Int) = 0) → (h_MS_choose_2 G d a0 l1 (l2 + 1) M22 Q)) ∧ (¬ ((0 : Int) = 0) → (Q l2 M22)))) ∧ (¬ (x23 = 0) → (mK M22 a0 = 17 ∧ Ci G y_MS_attains d [vr a0, vi l1, vi l2] M22 (fun x32 M31 => i32 x32 ∧ mOk M31 ∧ (((x32 = 0) → ((((0 : Int) = 0) → (h_MS_choose_2 G d a0 l1 (l2 + 1) M31 Q)) ∧ (¬ ((0 : Int) = 0) → (Q l2 M31)))) ∧ (¬ (x32 = 0) → (mK M31 a0 = 17 ∧ mK M31 (mR M31 a0 16) = 30 ∧ ((0 : Int) ≤ l1 ∧ l1 < (mN M31 (mR M31 a0 16) : Int)) ∧ Ci G y_MS_leadsBelow d [vr a0, vi l1, vi l2, vi (mI M31 (mR M31 a0 16) (Int.toNat l1))] M31 (fun x46 M45 => i32 x46 ∧ mOk M45 ∧ (∀ v49 : Int, v49 = (if (x46 = 0) then 0 else 1) → ((v49 = 0) → (h_MS_choose_2 G d a0 l1 (l2 + 1) M45 Q)) ∧ (¬ (v49 = 0) → (Q l2 M45))))))))))))))))))) :
    h_MS_choose_2 G d a0 l1 l2 M Q := by
  unfold h_MS_choose_2
  obtain ⟨h1, h⟩ := h
  refine wm_iload_n d_MS_choose_2 rfl rfl ?_
  refine wm_aload_n d_MS_choose_3 rfl rfl ?_
  refine wm_iload_n d_MS_choose_4 rfl rfl ?_
  refine cf_MS_116 rfl d_MS_choose_5 h1 (Nat.le_of_ble_eq_true rfl) (Ci.mono h (fun x3 M2 h => ?_))
  obtain ⟨h4, hOM2, h⟩ := h
  refine wm_icmp_ge (tgt := 80) d_MS_choose_8 rfl hi_l2 h4 (fun c10 => ?_) (fun c10 => ?_)
  · replace h := h.1 c10
    refine wm_iconst d_MS_choose_80 ?_
    refine wm_ireturn d_MS_choose_81 rfl rfl ?_
    exact ⟨_, rfl, h⟩
  · replace h := h.2 c10
    obtain ⟨h11, h⟩ := h
    obtain ⟨h12, h⟩ := h
    obtain ⟨h13, h⟩ := h
    refine wm_aload_n d_MS_choose_11 rfl rfl ?_
    refine gf_MS_16 rfl d_MS_choose_12 h11 ?_
    refine wm_iload_n d_MS_choose_15 rfl rfl ?_
    refine wm_iald d_MS_choose_16 h12 h13 ?_
    refine wm_iconst d_MS_choose_17 ?_
    refine wm_icmp_ne (tgt := 30) d_MS_choose_18 rfl (hOM2 _ _).1 ⟨by decide, by decide⟩ (fun c16 => ?_) (fun c16 => ?_)
    · replace h := h.2 c16
      refine wm_aload_n d_MS_choose_30 rfl rfl ?_
      refine wm_iload_n d_MS_choose_31 rfl rfl ?_
      refine cf_MS_222 rfl d_MS_choose_32 h11 (Nat.le_of_ble_eq_true rfl) (Ci.mono h (fun x23 M22 h => ?_))
      obtain ⟨h24, hOM22, h⟩ := h
      refine wm_if_eq (tgt := 66) d_MS_choose_35 rfl h24 (fun c27 => ?_) (fun c27 => ?_)
      · replace h := h.1 c27
        refine wm_iconst d_MS_choose_66 ?_
        refine wm_istore_n d_MS_choose_67 rfl (by decide) (L' := [vr a0, vi l1, vi l2, vi 0]) rfl ?_
        refine wm_iload_n d_MS_choose_68 rfl rfl ?_
        refine wm_if_eq (tgt := 74) d_MS_choose_69 rfl ⟨by decide, by decide⟩ (fun c29 => ?_) (fun c29 => ?_)
        · replace h := h.1 c29
          refine wm_iinc d_MS_choose_74 (by decide) rfl (L' := [vr a0, vi l1, vi (l2 + 1), vi 0]) rfl ?_
          refine wm_goto (tgt := 2) d_MS_choose_77 rfl ?_
          refine wm_less (L' := [vr a0, vi l1, vi (l2 + 1), vd]) ⟨Or.inr rfl, Or.inr rfl, Or.inr rfl, Or.inl rfl, trivial⟩ ?_
          exact h
        · replace h := h.2 c29
          refine wm_iload_n d_MS_choose_72 rfl rfl ?_
          refine wm_ireturn d_MS_choose_73 rfl rfl ?_
          exact ⟨_, rfl, h⟩
      · replace h := h.2 c27
        obtain ⟨h30, h⟩ := h
        refine wm_aload_n d_MS_choose_38 rfl rfl ?_
        refine wm_iload_n d_MS_choose_39 rfl rfl ?_
        refine wm_iload_n d_MS_choose_40 rfl rfl ?_
        refine cf_MS_215 rfl d_MS_choose_41 h30 (Nat.le_of_ble_eq_true rfl) (Ci.mono h (fun x32 M31 h => ?_))
        obtain ⟨h33, hOM31, h⟩ := h
        refine wm_if_eq (tgt := 66) d_MS_choose_44 rfl h33 (fun c39 => ?_) (fun c39 => ?_)
        · replace h := h.1 c39
          refine wm_iconst d_MS_choose_66 ?_
          refine wm_istore_n d_MS_choose_67 rfl (by decide) (L' := [vr a0, vi l1, vi l2, vi 0]) rfl ?_
          refine wm_iload_n d_MS_choose_68 rfl rfl ?_
          refine wm_if_eq (tgt := 74) d_MS_choose_69 rfl ⟨by decide, by decide⟩ (fun c41 => ?_) (fun c41 => ?_)
          · replace h := h.1 c41
            refine wm_iinc d_MS_choose_74 (by decide) rfl (L' := [vr a0, vi l1, vi (l2 + 1), vi 0]) rfl ?_
            refine wm_goto (tgt := 2) d_MS_choose_77 rfl ?_
            refine wm_less (L' := [vr a0, vi l1, vi (l2 + 1), vd]) ⟨Or.inr rfl, Or.inr rfl, Or.inr rfl, Or.inl rfl, trivial⟩ ?_
            exact h
          · replace h := h.2 c41
            refine wm_iload_n d_MS_choose_72 rfl rfl ?_
            refine wm_ireturn d_MS_choose_73 rfl rfl ?_
            exact ⟨_, rfl, h⟩
        · replace h := h.2 c39
          obtain ⟨h42, h⟩ := h
          obtain ⟨h43, h⟩ := h
          obtain ⟨h44, h⟩ := h
          refine wm_aload_n d_MS_choose_47 rfl rfl ?_
          refine wm_iload_n d_MS_choose_48 rfl rfl ?_
          refine wm_iload_n d_MS_choose_49 rfl rfl ?_
          refine wm_aload_n d_MS_choose_50 rfl rfl ?_
          refine gf_MS_57 rfl d_MS_choose_51 h42 ?_
          refine wm_iload_n d_MS_choose_54 rfl rfl ?_
          refine wm_iald d_MS_choose_55 h43 h44 ?_
          refine cf_MS_218 rfl d_MS_choose_56 h42 (Nat.le_of_ble_eq_true rfl) (Ci.mono h (fun x46 M45 h => ?_))
          obtain ⟨h47, hOM45, h⟩ := h
          have hJ : ∀ v49 : Int, v49 = (if (x46 = 0) then 0 else 1) → mWm G y_MS_choose (d + 1) 67 [vr a0, vi l1, vi l2, vd] [vi v49] M45 (fun r9 M9 => ∃ x9, r9 = some (vi x9) ∧ Q x9 M9) := by
            intro v49 e51
            have h := h v49 e51
            have h52 : i32 v49 := by rw [e51]; (repeat' split) <;> first | exact ⟨by decide, by decide⟩ | exact ⟨by decide, by decide⟩
            have h53 : (v49 = 0 ∨ v49 = 1) := by rw [e51]; (repeat' split) <;> decide
            refine wm_istore_n d_MS_choose_67 rfl (by decide) (L' := [vr a0, vi l1, vi l2, vi v49]) rfl ?_
            refine wm_iload_n d_MS_choose_68 rfl rfl ?_
            refine wm_if_eq (tgt := 74) d_MS_choose_69 rfl h52 (fun c55 => ?_) (fun c55 => ?_)
            · replace h := h.1 c55
              refine wm_iinc d_MS_choose_74 (by decide) rfl (L' := [vr a0, vi l1, vi (l2 + 1), vi v49]) rfl ?_
              refine wm_goto (tgt := 2) d_MS_choose_77 rfl ?_
              refine wm_less (L' := [vr a0, vi l1, vi (l2 + 1), vd]) ⟨Or.inr rfl, Or.inr rfl, Or.inr rfl, Or.inl rfl, trivial⟩ ?_
              exact h
            · replace h := h.2 c55
              refine wm_iload_n d_MS_choose_72 rfl rfl ?_
              refine wm_ireturn d_MS_choose_73 rfl rfl ?_
              exact ⟨_, rfl, h⟩
          clear h
          refine wm_if_eq (tgt := 66) d_MS_choose_59 rfl h47 (fun c48 => ?_) (fun c48 => ?_)
          · refine wm_iconst d_MS_choose_66 ?_
            exact hJ 0 (if_pos c48).symm
          · refine wm_iconst d_MS_choose_62 ?_
            refine wm_goto (tgt := 67) d_MS_choose_63 rfl ?_
            exact hJ 1 (if_neg c48).symm
    · replace c16 := Classical.not_not.mp c16
      replace h := h.1 c16
      refine wm_aload_n d_MS_choose_21 rfl rfl ?_
      refine wm_iload_n d_MS_choose_22 rfl rfl ?_
      refine wm_iload_n d_MS_choose_23 rfl rfl ?_
      refine cf_MS_215 rfl d_MS_choose_24 h11 (Nat.le_of_ble_eq_true rfl) (Ci.mono h (fun x18 M17 h => ?_))
      obtain ⟨h19, hOM17, h⟩ := h
      refine wm_goto (tgt := 67) d_MS_choose_27 rfl ?_
      refine wm_istore_n d_MS_choose_67 rfl (by decide) (L' := [vr a0, vi l1, vi l2, vi x18]) rfl ?_
      refine wm_iload_n d_MS_choose_68 rfl rfl ?_
      refine wm_if_eq (tgt := 74) d_MS_choose_69 rfl h19 (fun c21 => ?_) (fun c21 => ?_)
      · replace h := h.1 c21
        refine wm_iinc d_MS_choose_74 (by decide) rfl (L' := [vr a0, vi l1, vi (l2 + 1), vi x18]) rfl ?_
        refine wm_goto (tgt := 2) d_MS_choose_77 rfl ?_
        refine wm_less (L' := [vr a0, vi l1, vi (l2 + 1), vd]) ⟨Or.inr rfl, Or.inr rfl, Or.inr rfl, Or.inl rfl, trivial⟩ ?_
        exact h
      · replace h := h.2 c21
        refine wm_iload_n d_MS_choose_72 rfl rfl ?_
        refine wm_ireturn d_MS_choose_73 rfl rfl ?_
        exact ⟨_, rfl, h⟩
theorem d_MS_move_0 : decode y_MS_move.2.1 0 = .ok (.aload_n 0, 1) := dc9_42 (by decide +kernel)
theorem d_MS_move_1 : decode y_MS_move.2.1 1 = .ok (.getfield 97, 3) := dc9_180 (by decide +kernel)
theorem d_MS_move_4 : decode y_MS_move.2.1 4 = .ok (.aload_n 0, 1) := dc9_42 (by decide +kernel)
theorem d_MS_move_5 : decode y_MS_move.2.1 5 = .ok (.getfield 16, 3) := dc9_180 (by decide +kernel)
theorem d_MS_move_8 : decode y_MS_move.2.1 8 = .ok (.iload_n 1, 1) := dc9_27 (by decide +kernel)
theorem d_MS_move_9 : decode y_MS_move.2.1 9 = .ok (.iaload, 1) := dc9_46 (by decide +kernel)
theorem d_MS_move_10 : decode y_MS_move.2.1 10 = .ok (.iconst 3, 1) := dc9_6 (by decide +kernel)
theorem d_MS_move_11 : decode y_MS_move.2.1 11 = .ok (.if_icmp .ne 7, 3) := dc9_160 (by decide +kernel)
theorem d_MS_move_14 : decode y_MS_move.2.1 14 = .ok (.lconst 1, 1) := dc9_10 (by decide +kernel)
theorem d_MS_move_15 : decode y_MS_move.2.1 15 = .ok (.goto 4, 3) := dc9_167 (by decide +kernel)
theorem d_MS_move_18 : decode y_MS_move.2.1 18 = .ok (.lconst 0, 1) := dc9_9 (by decide +kernel)
theorem d_MS_move_19 : decode y_MS_move.2.1 19 = .ok (.lconst 1, 1) := dc9_10 (by decide +kernel)
theorem d_MS_move_20 : decode y_MS_move.2.1 20 = .ok (.invokevirtual 141, 3) := dc9_182 (by decide +kernel)
theorem d_MS_move_23 : decode y_MS_move.2.1 23 = .ok (.iconst 0, 1) := dc9_3 (by decide +kernel)
theorem d_MS_move_24 : decode y_MS_move.2.1 24 = .ok (.istore_n 2, 1) := dc9_61 (by decide +kernel)
theorem d_MS_move_25 : decode y_MS_move.2.1 25 = .ok (.iload_n 2, 1) := dc9_28 (by decide +kernel)
theorem d_MS_move_26 : decode y_MS_move.2.1 26 = .ok (.aload_n 0, 1) := dc9_42 (by decide +kernel)
theorem d_MS_move_27 : decode y_MS_move.2.1 27 = .ok (.iload_n 1, 1) := dc9_27 (by decide +kernel)
theorem d_MS_move_28 : decode y_MS_move.2.1 28 = .ok (.invokevirtual 116, 3) := dc9_182 (by decide +kernel)
theorem d_MS_move_31 : decode y_MS_move.2.1 31 = .ok (.if_icmp .ge 73, 3) := dc9_162 (by decide +kernel)
theorem d_MS_move_104 : decode y_MS_move.2.1 104 = .ok (.aload_n 0, 1) := dc9_42 (by decide +kernel)
theorem d_MS_move_105 : decode y_MS_move.2.1 105 = .ok (.getfield 97, 3) := dc9_180 (by decide +kernel)
theorem d_MS_move_108 : decode y_MS_move.2.1 108 = .ok (.getfield 232, 3) := dc9_180 (by decide +kernel)
theorem d_MS_move_34 : decode y_MS_move.2.1 34 = .ok (.aload_n 0, 1) := dc9_42 (by decide +kernel)
theorem d_MS_move_35 : decode y_MS_move.2.1 35 = .ok (.iload_n 1, 1) := dc9_27 (by decide +kernel)
theorem d_MS_move_36 : decode y_MS_move.2.1 36 = .ok (.iload_n 2, 1) := dc9_28 (by decide +kernel)
theorem d_MS_move_37 : decode y_MS_move.2.1 37 = .ok (.aload_n 0, 1) := dc9_42 (by decide +kernel)
theorem d_MS_move_38 : decode y_MS_move.2.1 38 = .ok (.getfield 69, 3) := dc9_180 (by decide +kernel)
theorem d_MS_move_41 : decode y_MS_move.2.1 41 = .ok (.iconst 0, 1) := dc9_3 (by decide +kernel)
theorem d_MS_move_42 : decode y_MS_move.2.1 42 = .ok (.iconst 1, 1) := dc9_4 (by decide +kernel)
theorem d_MS_move_111 : decode y_MS_move.2.1 111 = .ok (.invokevirtual 236, 3) := dc9_182 (by decide +kernel)
theorem d_MS_move_114 : decode y_MS_move.2.1 114 = .ok (.sipush 480, 3) := dc9_17 (by decide +kernel)
theorem d_MS_move_117 : decode y_MS_move.2.1 117 = .ok (.if_icmp .gt 23, 3) := dc9_163 (by decide +kernel)
theorem d_MS_move_120 : decode y_MS_move.2.1 120 = .ok (.aload_n 0, 1) := dc9_42 (by decide +kernel)
theorem d_MS_move_121 : decode y_MS_move.2.1 121 = .ok (.getfield 97, 3) := dc9_180 (by decide +kernel)
theorem d_MS_move_124 : decode y_MS_move.2.1 124 = .ok (.getfield 241, 3) := dc9_180 (by decide +kernel)
theorem d_MS_move_140 : decode y_MS_move.2.1 140 = .ok (.iconst 0, 1) := dc9_3 (by decide +kernel)
theorem d_MS_move_127 : decode y_MS_move.2.1 127 = .ok (.invokevirtual 236, 3) := dc9_182 (by decide +kernel)
theorem d_MS_move_130 : decode y_MS_move.2.1 130 = .ok (.sipush 480, 3) := dc9_17 (by decide +kernel)
theorem d_MS_move_133 : decode y_MS_move.2.1 133 = .ok (.if_icmp .gt 7, 3) := dc9_163 (by decide +kernel)
theorem d_MS_move_136 : decode y_MS_move.2.1 136 = .ok (.iconst 1, 1) := dc9_4 (by decide +kernel)
theorem d_MS_move_137 : decode y_MS_move.2.1 137 = .ok (.goto 4, 3) := dc9_167 (by decide +kernel)
theorem d_MS_move_43 : decode y_MS_move.2.1 43 = .ok (.invokevirtual 190, 3) := dc9_182 (by decide +kernel)
theorem d_MS_move_46 : decode y_MS_move.2.1 46 = .ok (.aload_n 0, 1) := dc9_42 (by decide +kernel)
theorem d_MS_move_47 : decode y_MS_move.2.1 47 = .ok (.getfield 10, 3) := dc9_180 (by decide +kernel)
theorem d_MS_move_50 : decode y_MS_move.2.1 50 = .ok (.aload_n 0, 1) := dc9_42 (by decide +kernel)
theorem d_MS_move_51 : decode y_MS_move.2.1 51 = .ok (.getfield 91, 3) := dc9_180 (by decide +kernel)
theorem d_MS_move_54 : decode y_MS_move.2.1 54 = .ok (.aload_n 0, 1) := dc9_42 (by decide +kernel)
theorem d_MS_move_55 : decode y_MS_move.2.1 55 = .ok (.getfield 97, 3) := dc9_180 (by decide +kernel)
theorem d_MS_move_58 : decode y_MS_move.2.1 58 = .ok (.invokevirtual 194, 3) := dc9_182 (by decide +kernel)
theorem d_MS_move_61 : decode y_MS_move.2.1 61 = .ok (.istore_n 3, 1) := dc9_62 (by decide +kernel)
theorem d_MS_move_62 : decode y_MS_move.2.1 62 = .ok (.iload_n 2, 1) := dc9_28 (by decide +kernel)
theorem d_MS_move_63 : decode y_MS_move.2.1 63 = .ok (.ifCond .eq 24, 3) := dc9_153 (by decide +kernel)
theorem d_MS_move_66 : decode y_MS_move.2.1 66 = .ok (.aload_n 0, 1) := dc9_42 (by decide +kernel)
theorem d_MS_move_67 : decode y_MS_move.2.1 67 = .ok (.getfield 16, 3) := dc9_180 (by decide +kernel)
theorem d_MS_move_70 : decode y_MS_move.2.1 70 = .ok (.iload_n 1, 1) := dc9_27 (by decide +kernel)
theorem d_MS_move_71 : decode y_MS_move.2.1 71 = .ok (.iaload, 1) := dc9_46 (by decide +kernel)
theorem d_MS_move_72 : decode y_MS_move.2.1 72 = .ok (.iconst 1, 1) := dc9_4 (by decide +kernel)
theorem d_MS_move_73 : decode y_MS_move.2.1 73 = .ok (.if_icmp .ne 10, 3) := dc9_160 (by decide +kernel)
theorem d_MS_move_76 : decode y_MS_move.2.1 76 = .ok (.iload_n 3, 1) := dc9_29 (by decide +kernel)
theorem d_MS_move_83 : decode y_MS_move.2.1 83 = .ok (.iload_n 3, 1) := dc9_29 (by decide +kernel)
theorem d_MS_move_77 : decode y_MS_move.2.1 77 = .ok (.ifCond .le 21, 3) := dc9_158 (by decide +kernel)
theorem d_MS_move_80 : decode y_MS_move.2.1 80 = .ok (.goto 7, 3) := dc9_167 (by decide +kernel)
theorem d_MS_move_87 : decode y_MS_move.2.1 87 = .ok (.aload_n 0, 1) := dc9_42 (by decide +kernel)
theorem d_MS_move_88 : decode y_MS_move.2.1 88 = .ok (.getfield 97, 3) := dc9_180 (by decide +kernel)
theorem d_MS_move_91 : decode y_MS_move.2.1 91 = .ok (.aload_n 0, 1) := dc9_42 (by decide +kernel)
theorem d_MS_move_92 : decode y_MS_move.2.1 92 = .ok (.getfield 91, 3) := dc9_180 (by decide +kernel)
theorem d_MS_move_84 : decode y_MS_move.2.1 84 = .ok (.ifCond .ge 14, 3) := dc9_156 (by decide +kernel)
theorem d_MS_move_95 : decode y_MS_move.2.1 95 = .ok (.invokevirtual 152, 3) := dc9_182 (by decide +kernel)
theorem d_MS_move_98 : decode y_MS_move.2.1 98 = .ok (.iinc 2 1, 3) := by decide +kernel
theorem d_MS_move_101 : decode y_MS_move.2.1 101 = .ok (.goto (-76), 3) := dc9_167 (by decide +kernel)
theorem d_MS_move_141 : decode y_MS_move.2.1 141 = .ok (.istore_n 2, 1) := dc9_61 (by decide +kernel)
theorem d_MS_move_142 : decode y_MS_move.2.1 142 = .ok (.iload_n 2, 1) := dc9_28 (by decide +kernel)
theorem d_MS_move_143 : decode y_MS_move.2.1 143 = .ok (.ifCond .eq 16, 3) := dc9_153 (by decide +kernel)
theorem d_MS_move_146 : decode y_MS_move.2.1 146 = .ok (.aload_n 0, 1) := dc9_42 (by decide +kernel)
theorem d_MS_move_147 : decode y_MS_move.2.1 147 = .ok (.getfield 48, 3) := dc9_180 (by decide +kernel)
theorem d_MS_move_150 : decode y_MS_move.2.1 150 = .ok (.iload_n 1, 1) := dc9_27 (by decide +kernel)
theorem d_MS_move_151 : decode y_MS_move.2.1 151 = .ok (.aaload, 1) := dc9_50 (by decide +kernel)
theorem d_MS_move_152 : decode y_MS_move.2.1 152 = .ok (.aload_n 0, 1) := dc9_42 (by decide +kernel)
theorem d_MS_move_153 : decode y_MS_move.2.1 153 = .ok (.getfield 97, 3) := dc9_180 (by decide +kernel)
theorem d_MS_move_159 : decode y_MS_move.2.1 159 = .ok (.iload_n 2, 1) := dc9_28 (by decide +kernel)
theorem d_MS_move_160 : decode y_MS_move.2.1 160 = .ok (.ireturn, 1) := dc9_172 (by decide +kernel)
theorem d_MS_move_156 : decode y_MS_move.2.1 156 = .ok (.invokevirtual 152, 3) := dc9_182 (by decide +kernel)
def h_MS_move_25 (G : mG) (d : Nat) (a0 : Nat) (l1 : Int) (l2 : Int) (M : mM) (Q : Int → mM → Prop) : Prop := mWm G y_MS_move (d + 1) 25 [vr a0, vi l1, vi l2, vd] [] M (fun r9 M9 => ∃ x9, r9 = some (vi x9) ∧ Q x9 M9)
def h_MS_move_98 (G : mG) (d : Nat) (a0 : Nat) (l1 : Int) (l2 : Int) (M : mM) (Q : Int → mM → Prop) : Prop := mWm G y_MS_move (d + 1) 98 [vr a0, vi l1, vi l2, vd] [] M (fun r9 M9 => ∃ x9, r9 = some (vi x9) ∧ Q x9 M9)
def h_MS_move_141 (G : mG) (d : Nat) (a0 : Nat) (l1 : Int) (k0 : Int) (M : mM) (Q : Int → mM → Prop) : Prop := mWm G y_MS_move (d + 1) 141 [vr a0, vi l1, vd, vd] [vi k0] M (fun r9 M9 => ∃ x9, r9 = some (vi x9) ∧ Q x9 M9)
theorem k_MS_move {G : mG} {d : Nat} {a0 : Nat} {l1 : Int} {M : mM} {Q : Int → mM → Prop} (hO : mOk M) (hi_l1 : i32 l1)
    (h : mK M a0 = 17 ∧ mK M (mR M a0 4) = 30 ∧ ((0 : Int) ≤ l1 ∧ l1 < (mN M (mR M a0 4) : Int)) ∧ ∀ v5 : Int, v5 = (if (mI M (mR M a0 4) (Int.toNat l1) = 3) then 1 else 0) → mK M (mR M a0 30) = 19 ∧ Cv G y_MF_set d [vr (mR M a0 30), vl v5, vl 1] M (fun M10 => mOk M10 ∧ (h_MS_move_25 G d a0 l1 0 M10 Q))) :
    Ci G y_MS_move (d + 1) [vr a0, vi l1] M Q := by
  refine wm_open (y := y_MS_move) rfl (Nat.le_of_ble_eq_true rfl) (L := [vr a0, vi l1, vd, vd]) rfl ?_
  obtain ⟨h1, h⟩ := h
  obtain ⟨h2, h⟩ := h
  obtain ⟨h3, h⟩ := h
  refine wm_aload_n d_MS_move_0 rfl rfl ?_
  refine gf_MS_97 rfl d_MS_move_1 h1 ?_
  refine wm_aload_n d_MS_move_4 rfl rfl ?_
  refine gf_MS_16 rfl d_MS_move_5 h1 ?_
  refine wm_iload_n d_MS_move_8 rfl rfl ?_
  refine wm_iald d_MS_move_9 h2 h3 ?_
  refine wm_iconst d_MS_move_10 ?_
  have hJ : ∀ v5 : Int, v5 = (if (mI M (mR M a0 4) (Int.toNat l1) = 3) then 1 else 0) → mWm G y_MS_move (d + 1) 19 [vr a0, vi l1, vd, vd] [vl v5, vr (mR M a0 30)] M (fun r9 M9 => ∃ x9, r9 = some (vi x9) ∧ Q x9 M9) := by
    intro v5 e7
    have h := h v5 e7
    have h8 : (v5 = 0 ∨ v5 = 1) := by rw [e7]; (repeat' split) <;> decide
    obtain ⟨h9, h⟩ := h
    refine wm_lconst (x := 1) d_MS_move_19 rfl ?_
    refine cf_MS_141 rfl d_MS_move_20 h9 (Nat.le_of_ble_eq_true rfl) (Cv.mono h (fun M10 h => ?_))
    obtain ⟨hOM10, h⟩ := h
    refine wm_iconst d_MS_move_23 ?_
    refine wm_istore_n d_MS_move_24 rfl (by decide) (L' := [vr a0, vi l1, vi 0, vd]) rfl ?_
    exact h
  clear h
  refine wm_icmp_ne (tgt := 18) d_MS_move_11 rfl (hO _ _).1 ⟨by decide, by decide⟩ (fun c4 => ?_) (fun c4 => ?_)
  · refine wm_lconst (x := 0) d_MS_move_18 rfl ?_
    exact hJ 0 (if_neg c4).symm
  · replace c4 := Classical.not_not.mp c4
    refine wm_lconst (x := 1) d_MS_move_14 rfl ?_
    refine wm_goto (tgt := 19) d_MS_move_15 rfl ?_
    exact hJ 1 (if_pos c4).symm
theorem k_MS_move_25 {G : mG} {d : Nat} {a0 : Nat} {l1 : Int} {l2 : Int} {M : mM} {Q : Int → mM → Prop} (hO : mOk M) (hi_l1 : i32 l1) (hi_l2 : i32 l2)
    (h : mK M a0 = 17 ∧ Ci G y_MS_many d [vr a0, vi l1] M (fun x16 M15 => i32 x16 ∧ mOk M15 ∧ (((x16 ≤ l2) → (mK M15 a0 = 17 ∧ mK M15 (mR M15 a0 30) = 19 ∧ mK M15 (mR M15 (mR M15 a0 30) 0) = 20 ∧ Ci G y_MW_places d [vr (mR M15 (mR M15 a0 30) 0)] M15 (fun x24 M23 => i32 x24 ∧ mOk M23 ∧ (((480 < x24) → (h_MS_move_141 G d a0 l1 0 M23 Q)) ∧ (¬ (480 < x24) → (mK M23 a0 = 17 ∧ mK M23 (mR M23 a0 30) = 19 ∧ mK M23 (mR M23 (mR M23 a0 30) 1) = 20 ∧ Ci G y_MW_places d [vr (mR M23 (mR M23 a0 30) 1)] M23 (fun x32 M31 => i32 x32 ∧ mOk M31 ∧ (((480 < x32) → (h_MS_move_141 G d a0 l1 0 M31 Q)) ∧ (¬ (480 < x32) → (h_MS_move_141 G d a0 l1 1 M31 Q)))))))))) ∧ (¬ (x16 ≤ l2) → (mK M15 a0 = 17 ∧ Cv G y_MS_worthOf d [vr a0, vi l1, vi l2, vr (mR M15 a0 21), vi 0, vi 1] M15 (fun M37 => mOk M37 ∧ (mK M37 a0 = 17 ∧ mK M37 (mR M37 a0 0) = 18 ∧ Ci G y_MU_compare d [vr (mR M37 a0 0), vr (mR M37 a0 28), vr (mR M37 a0 30)] M37 (fun x43 M42 => i32 x43 ∧ mOk M42 ∧ (((l2 = 0) → (mK M42 a0 = 17 ∧ mK M42 (mR M42 a0 30) = 19 ∧ Cv G y_MF_copy d [vr (mR M42 a0 30), vr (mR M42 a0 28)] M42 (fun M57 => mOk M57 ∧ (h_MS_move_98 G d a0 l1 l2 M57 Q)))) ∧ (¬ (l2 = 0) → (mK M42 a0 = 17 ∧ mK M42 (mR M42 a0 4) = 30 ∧ ((0 : Int) ≤ l1 ∧ l1 < (mN M42 (mR M42 a0 4) : Int)) ∧ ((mI M42 (mR M42 a0 4) (Int.toNat l1) = 1) → (((x43 ≤ 0) → (h_MS_move_98 G d a0 l1 l2 M42 Q)) ∧ (¬ (x43 ≤ 0) → (mK M42 (mR M42 a0 30) = 19 ∧ Cv G y_MF_copy d [vr (mR M42 a0 30), vr (mR M42 a0 28)] M42 (fun M72 => mOk M72 ∧ (h_MS_move_98 G d a0 l1 l2 M72 Q)))))) ∧ (¬ (mI M42 (mR M42 a0 4) (Int.toNat l1) = 1) → (((0 ≤ x43) → (h_MS_move_98 G d a0 l1 l2 M42 Q)) ∧ (¬ (0 ≤ x43) → (mK M42 (mR M42 a0 30) = 19 ∧ Cv G y_MF_copy d [vr (mR M42 a0 30), vr (mR M42 a0 28)] M42 (fun M78 => mOk M78 ∧ (h_MS_move_98 G d a0 l1 l2 M78 Q))))))))))))))))) :
    h_MS_move_25 G d a0 l1 l2 M Q := by
  unfold h_MS_move_25
  obtain ⟨h14, h⟩ := h
  refine wm_iload_n d_MS_move_25 rfl rfl ?_
  refine wm_aload_n d_MS_move_26 rfl rfl ?_
  refine wm_iload_n d_MS_move_27 rfl rfl ?_
  refine cf_MS_116 rfl d_MS_move_28 h14 (Nat.le_of_ble_eq_true rfl) (Ci.mono h (fun x16 M15 h => ?_))
  obtain ⟨h17, hOM15, h⟩ := h
  refine wm_icmp_ge (tgt := 104) d_MS_move_31 rfl hi_l2 h17 (fun c19 => ?_) (fun c19 => ?_)
  · replace h := h.1 c19
    obtain ⟨h20, h⟩ := h
    obtain ⟨h21, h⟩ := h
    obtain ⟨h22, h⟩ := h
    refine wm_aload_n d_MS_move_104 rfl rfl ?_
    refine gf_MS_97 rfl d_MS_move_105 h20 ?_
    refine gf_MS_232 rfl d_MS_move_108 h21 ?_
    refine cf_MS_236 rfl d_MS_move_111 h22 (Nat.le_of_ble_eq_true rfl) (Ci.mono h (fun x24 M23 h => ?_))
    obtain ⟨h25, hOM23, h⟩ := h
    refine wm_sipush d_MS_move_114 (by decide) ?_
    refine wm_icmp_gt (tgt := 140) d_MS_move_117 rfl h25 ⟨by decide, by decide⟩ (fun c27 => ?_) (fun c27 => ?_)
    · replace h := h.1 c27
      refine wm_iconst d_MS_move_140 ?_
      refine wm_less (L' := [vr a0, vi l1, vd, vd]) ⟨Or.inr rfl, Or.inr rfl, Or.inl rfl, Or.inl rfl, trivial⟩ ?_
      exact h
    · replace h := h.2 c27
      obtain ⟨h28, h⟩ := h
      obtain ⟨h29, h⟩ := h
      obtain ⟨h30, h⟩ := h
      refine wm_aload_n d_MS_move_120 rfl rfl ?_
      refine gf_MS_97 rfl d_MS_move_121 h28 ?_
      refine gf_MS_241 rfl d_MS_move_124 h29 ?_
      refine cf_MS_236 rfl d_MS_move_127 h30 (Nat.le_of_ble_eq_true rfl) (Ci.mono h (fun x32 M31 h => ?_))
      obtain ⟨h33, hOM31, h⟩ := h
      refine wm_sipush d_MS_move_130 (by decide) ?_
      refine wm_icmp_gt (tgt := 140) d_MS_move_133 rfl h33 ⟨by decide, by decide⟩ (fun c35 => ?_) (fun c35 => ?_)
      · replace h := h.1 c35
        refine wm_iconst d_MS_move_140 ?_
        refine wm_less (L' := [vr a0, vi l1, vd, vd]) ⟨Or.inr rfl, Or.inr rfl, Or.inl rfl, Or.inl rfl, trivial⟩ ?_
        exact h
      · replace h := h.2 c35
        refine wm_iconst d_MS_move_136 ?_
        refine wm_goto (tgt := 141) d_MS_move_137 rfl ?_
        refine wm_less (L' := [vr a0, vi l1, vd, vd]) ⟨Or.inr rfl, Or.inr rfl, Or.inl rfl, Or.inl rfl, trivial⟩ ?_
        exact h
  · replace h := h.2 c19
    obtain ⟨h36, h⟩ := h
    refine wm_aload_n d_MS_move_34 rfl rfl ?_
    refine wm_iload_n d_MS_move_35 rfl rfl ?_
    refine wm_iload_n d_MS_move_36 rfl rfl ?_
    refine wm_aload_n d_MS_move_37 rfl rfl ?_
    refine gf_MS_69 rfl d_MS_move_38 h36 ?_
    refine wm_iconst d_MS_move_41 ?_
    refine wm_iconst d_MS_move_42 ?_
    refine cf_MS_190 rfl d_MS_move_43 h36 (Nat.le_of_ble_eq_true rfl) (Cv.mono h (fun M37 h => ?_))
    obtain ⟨hOM37, h⟩ := h
    obtain ⟨h40, h⟩ := h
    obtain ⟨h41, h⟩ := h
    refine wm_aload_n d_MS_move_46 rfl rfl ?_
    refine gf_MS_10 rfl d_MS_move_47 h40 ?_
    refine wm_aload_n d_MS_move_50 rfl rfl ?_
    refine gf_MS_91 rfl d_MS_move_51 h40 ?_
    refine wm_aload_n d_MS_move_54 rfl rfl ?_
    refine gf_MS_97 rfl d_MS_move_55 h40 ?_
    refine cf_MS_194 rfl d_MS_move_58 h41 (Nat.le_of_ble_eq_true rfl) (Ci.mono h (fun x43 M42 h => ?_))
    obtain ⟨h44, hOM42, h⟩ := h
    refine wm_istore_n d_MS_move_61 rfl (by decide) (L' := [vr a0, vi l1, vi l2, vi x43]) rfl ?_
    refine wm_iload_n d_MS_move_62 rfl rfl ?_
    refine wm_if_eq (tgt := 87) d_MS_move_63 rfl hi_l2 (fun c54 => ?_) (fun c54 => ?_)
    · replace h := h.1 c54
      obtain ⟨h55, h⟩ := h
      obtain ⟨h56, h⟩ := h
      refine wm_aload_n d_MS_move_87 rfl rfl ?_
      refine gf_MS_97 rfl d_MS_move_88 h55 ?_
      refine wm_aload_n d_MS_move_91 rfl rfl ?_
      refine gf_MS_91 rfl d_MS_move_92 h55 ?_
      refine cf_MS_152 rfl d_MS_move_95 h56 (Nat.le_of_ble_eq_true rfl) (Cv.mono h (fun M57 h => ?_))
      obtain ⟨hOM57, h⟩ := h
      refine wm_less (L' := [vr a0, vi l1, vi l2, vd]) ⟨Or.inr rfl, Or.inr rfl, Or.inr rfl, Or.inl rfl, trivial⟩ ?_
      exact h
    · replace h := h.2 c54
      obtain ⟨h60, h⟩ := h
      obtain ⟨h61, h⟩ := h
      obtain ⟨h62, h⟩ := h
      refine wm_aload_n d_MS_move_66 rfl rfl ?_
      refine gf_MS_16 rfl d_MS_move_67 h60 ?_
      refine wm_iload_n d_MS_move_70 rfl rfl ?_
      refine wm_iald d_MS_move_71 h61 h62 ?_
      refine wm_iconst d_MS_move_72 ?_
      refine wm_icmp_ne (tgt := 83) d_MS_move_73 rfl (hOM42 _ _).1 ⟨by decide, by decide⟩ (fun c68 => ?_) (fun c68 => ?_)
      · replace h := h.2 c68
        refine wm_iload_n d_MS_move_83 rfl rfl ?_
        refine wm_if_ge (tgt := 98) d_MS_move_84 rfl h44 (fun c76 => ?_) (fun c76 => ?_)
        · replace h := h.1 c76
          refine wm_less (L' := [vr a0, vi l1, vi l2, vd]) ⟨Or.inr rfl, Or.inr rfl, Or.inr rfl, Or.inl rfl, trivial⟩ ?_
          exact h
        · replace h := h.2 c76
          obtain ⟨h77, h⟩ := h
          refine wm_aload_n d_MS_move_87 rfl rfl ?_
          refine gf_MS_97 rfl d_MS_move_88 h60 ?_
          refine wm_aload_n d_MS_move_91 rfl rfl ?_
          refine gf_MS_91 rfl d_MS_move_92 h60 ?_
          refine cf_MS_152 rfl d_MS_move_95 h77 (Nat.le_of_ble_eq_true rfl) (Cv.mono h (fun M78 h => ?_))
          obtain ⟨hOM78, h⟩ := h
          refine wm_less (L' := [vr a0, vi l1, vi l2, vd]) ⟨Or.inr rfl, Or.inr rfl, Or.inr rfl, Or.inl rfl, trivial⟩ ?_
          exact h
      · replace c68 := Classical.not_not.mp c68
        replace h := h.1 c68
        refine wm_iload_n d_MS_move_76 rfl rfl ?_
        refine wm_if_le (tgt := 98) d_MS_move_77 rfl h44 (fun c70 => ?_) (fun c70 => ?_)
        · replace h := h.1 c70
          refine wm_less (L' := [vr a0, vi l1, vi l2, vd]) ⟨Or.inr rfl, Or.inr rfl, Or.inr rfl, Or.inl rfl, trivial⟩ ?_
          exact h
        · replace h := h.2 c70
          obtain ⟨h71, h⟩ := h
          refine wm_goto (tgt := 87) d_MS_move_80 rfl ?_
          refine wm_aload_n d_MS_move_87 rfl rfl ?_
          refine gf_MS_97 rfl d_MS_move_88 h60 ?_
          refine wm_aload_n d_MS_move_91 rfl rfl ?_
          refine gf_MS_91 rfl d_MS_move_92 h60 ?_
          refine cf_MS_152 rfl d_MS_move_95 h71 (Nat.le_of_ble_eq_true rfl) (Cv.mono h (fun M72 h => ?_))
          obtain ⟨hOM72, h⟩ := h
          refine wm_less (L' := [vr a0, vi l1, vi l2, vd]) ⟨Or.inr rfl, Or.inr rfl, Or.inr rfl, Or.inl rfl, trivial⟩ ?_
          exact h
theorem k_MS_move_98 {G : mG} {d : Nat} {a0 : Nat} {l1 : Int} {l2 : Int} {M : mM} {Q : Int → mM → Prop} (hO : mOk M) (hi_l1 : i32 l1) (hi_l2 : i32 l2)
    (h : h_MS_move_25 G d a0 l1 (l2 + 1) M Q) :
    h_MS_move_98 G d a0 l1 l2 M Q := by
  unfold h_MS_move_98
  refine wm_iinc d_MS_move_98 (by decide) rfl (L' := [vr a0, vi l1, vi (l2 + 1), vd]) rfl ?_
  refine wm_goto (tgt := 25) d_MS_move_101 rfl ?_
  exact h
theorem k_MS_move_141 {G : mG} {d : Nat} {a0 : Nat} {l1 : Int} {k0 : Int} {M : mM} {Q : Int → mM → Prop} (hO : mOk M) (hi_l1 : i32 l1) (hi_k0 : i32 k0)
    (h : ((k0 = 0) → ((k0 = 0 ∨ k0 = 1) ∧ Q k0 M)) ∧ (¬ (k0 = 0) → (mK M a0 = 17 ∧ mK M (mR M a0 13) = 36 ∧ ((0 : Int) ≤ l1 ∧ l1 < (mN M (mR M a0 13) : Int)) ∧ mK M (mR M (mR M a0 13) (Int.toNat l1)) = 19 ∧ Cv G y_MF_copy d [vr (mR M (mR M a0 13) (Int.toNat l1)), vr (mR M a0 30)] M (fun M92 => mOk M92 ∧ ((k0 = 0 ∨ k0 = 1) ∧ Q k0 M92))))) :
    h_MS_move_141 G d a0 l1 k0 M Q := by
  unfold h_MS_move_141
  refine wm_istore_n d_MS_move_141 rfl (by decide) (L' := [vr a0, vi l1, vi k0, vd]) rfl ?_
  refine wm_iload_n d_MS_move_142 rfl rfl ?_
  refine wm_if_eq (tgt := 159) d_MS_move_143 rfl hi_k0 (fun c86 => ?_) (fun c86 => ?_)
  · replace h := h.1 c86
    obtain ⟨h87, h⟩ := h
    refine wm_iload_n d_MS_move_159 rfl rfl ?_
    refine wm_ireturn d_MS_move_160 rfl (m_nb h87) ?_
    exact ⟨_, rfl, h⟩
  · replace h := h.2 c86
    obtain ⟨h88, h⟩ := h
    obtain ⟨h89, h⟩ := h
    obtain ⟨h90, h⟩ := h
    obtain ⟨h91, h⟩ := h
    refine wm_aload_n d_MS_move_146 rfl rfl ?_
    refine gf_MS_48 rfl d_MS_move_147 h88 ?_
    refine wm_iload_n d_MS_move_150 rfl rfl ?_
    refine wm_aald6 d_MS_move_151 h89 h90 ?_
    refine wm_aload_n d_MS_move_152 rfl rfl ?_
    refine gf_MS_97 rfl d_MS_move_153 h88 ?_
    refine cf_MS_152 rfl d_MS_move_156 h91 (Nat.le_of_ble_eq_true rfl) (Cv.mono h (fun M92 h => ?_))
    obtain ⟨hOM92, h⟩ := h
    obtain ⟨h95, h⟩ := h
    refine wm_iload_n d_MS_move_159 rfl rfl ?_
    refine wm_ireturn d_MS_move_160 rfl (m_nb h95) ?_
    exact ⟨_, rfl, h⟩
end
section
theorem d_MS_within_0 : decode y_MS_within.2.1 0 = .ok (.aload_n 0, 1) := dc9_42 (by decide +kernel)
theorem d_MS_within_1 : decode y_MS_within.2.1 1 = .ok (.getfield 44, 3) := dc9_180 (by decide +kernel)
theorem d_MS_within_4 : decode y_MS_within.2.1 4 = .ok (.iconst 1, 1) := dc9_4 (by decide +kernel)
theorem d_MS_within_5 : decode y_MS_within.2.1 5 = .ok (.iconst 0, 1) := dc9_3 (by decide +kernel)
theorem d_MS_within_6 : decode y_MS_within.2.1 6 = .ok (.bastore, 1) := dc9_84 (by decide +kernel)
theorem d_MS_within_7 : decode y_MS_within.2.1 7 = .ok (.iconst 0, 1) := dc9_3 (by decide +kernel)
theorem d_MS_within_8 : decode y_MS_within.2.1 8 = .ok (.istore_n 2, 1) := dc9_61 (by decide +kernel)
theorem d_MS_within_9 : decode y_MS_within.2.1 9 = .ok (.iload_n 2, 1) := dc9_28 (by decide +kernel)
theorem d_MS_within_10 : decode y_MS_within.2.1 10 = .ok (.aload_n 0, 1) := dc9_42 (by decide +kernel)
theorem d_MS_within_11 : decode y_MS_within.2.1 11 = .ok (.getfield 103, 3) := dc9_180 (by decide +kernel)
theorem d_MS_within_14 : decode y_MS_within.2.1 14 = .ok (.if_icmp .ge 34, 3) := dc9_162 (by decide +kernel)
theorem d_MS_within_48 : decode y_MS_within.2.1 48 = .ok (.iconst 0, 1) := dc9_3 (by decide +kernel)
theorem d_MS_within_49 : decode y_MS_within.2.1 49 = .ok (.istore_n 2, 1) := dc9_61 (by decide +kernel)
theorem d_MS_within_17 : decode y_MS_within.2.1 17 = .ok (.aload_n 0, 1) := dc9_42 (by decide +kernel)
theorem d_MS_within_18 : decode y_MS_within.2.1 18 = .ok (.getfield 69, 3) := dc9_180 (by decide +kernel)
theorem d_MS_within_21 : decode y_MS_within.2.1 21 = .ok (.iload_n 2, 1) := dc9_28 (by decide +kernel)
theorem d_MS_within_22 : decode y_MS_within.2.1 22 = .ok (.aaload, 1) := dc9_50 (by decide +kernel)
theorem d_MS_within_23 : decode y_MS_within.2.1 23 = .ok (.aload_n 0, 1) := dc9_42 (by decide +kernel)
theorem d_MS_within_24 : decode y_MS_within.2.1 24 = .ok (.getfield 16, 3) := dc9_180 (by decide +kernel)
theorem d_MS_within_27 : decode y_MS_within.2.1 27 = .ok (.iload_n 2, 1) := dc9_28 (by decide +kernel)
theorem d_MS_within_28 : decode y_MS_within.2.1 28 = .ok (.iaload, 1) := dc9_46 (by decide +kernel)
theorem d_MS_within_29 : decode y_MS_within.2.1 29 = .ok (.iconst 3, 1) := dc9_6 (by decide +kernel)
theorem d_MS_within_30 : decode y_MS_within.2.1 30 = .ok (.if_icmp .ne 7, 3) := dc9_160 (by decide +kernel)
theorem d_MS_within_33 : decode y_MS_within.2.1 33 = .ok (.lconst 1, 1) := dc9_10 (by decide +kernel)
theorem d_MS_within_34 : decode y_MS_within.2.1 34 = .ok (.goto 4, 3) := dc9_167 (by decide +kernel)
theorem d_MS_within_37 : decode y_MS_within.2.1 37 = .ok (.lconst 0, 1) := dc9_9 (by decide +kernel)
theorem d_MS_within_38 : decode y_MS_within.2.1 38 = .ok (.lconst 1, 1) := dc9_10 (by decide +kernel)
theorem d_MS_within_39 : decode y_MS_within.2.1 39 = .ok (.invokevirtual 141, 3) := dc9_182 (by decide +kernel)
theorem d_MS_within_42 : decode y_MS_within.2.1 42 = .ok (.iinc 2 1, 3) := by decide +kernel
theorem d_MS_within_45 : decode y_MS_within.2.1 45 = .ok (.goto (-36), 3) := dc9_167 (by decide +kernel)
theorem d_MS_within_50 : decode y_MS_within.2.1 50 = .ok (.iload_n 2, 1) := dc9_28 (by decide +kernel)
theorem d_MS_within_51 : decode y_MS_within.2.1 51 = .ok (.iload_n 1, 1) := dc9_27 (by decide +kernel)
theorem d_MS_within_52 : decode y_MS_within.2.1 52 = .ok (.if_icmp .ge 67, 3) := dc9_162 (by decide +kernel)
theorem d_MS_within_119 : decode y_MS_within.2.1 119 = .ok (.iconst 0, 1) := dc9_3 (by decide +kernel)
theorem d_MS_within_120 : decode y_MS_within.2.1 120 = .ok (.istore_n 2, 1) := dc9_61 (by decide +kernel)
theorem d_MS_within_55 : decode y_MS_within.2.1 55 = .ok (.iconst 0, 1) := dc9_3 (by decide +kernel)
theorem d_MS_within_56 : decode y_MS_within.2.1 56 = .ok (.istore_n 3, 1) := dc9_62 (by decide +kernel)
theorem d_MS_within_57 : decode y_MS_within.2.1 57 = .ok (.iload_n 3, 1) := dc9_29 (by decide +kernel)
theorem d_MS_within_58 : decode y_MS_within.2.1 58 = .ok (.aload_n 0, 1) := dc9_42 (by decide +kernel)
theorem d_MS_within_59 : decode y_MS_within.2.1 59 = .ok (.getfield 103, 3) := dc9_180 (by decide +kernel)
theorem d_MS_within_62 : decode y_MS_within.2.1 62 = .ok (.if_icmp .ge 20, 3) := dc9_162 (by decide +kernel)
theorem d_MS_within_82 : decode y_MS_within.2.1 82 = .ok (.iconst 0, 1) := dc9_3 (by decide +kernel)
theorem d_MS_within_83 : decode y_MS_within.2.1 83 = .ok (.istore_n 3, 1) := dc9_62 (by decide +kernel)
theorem d_MS_within_65 : decode y_MS_within.2.1 65 = .ok (.aload_n 0, 1) := dc9_42 (by decide +kernel)
theorem d_MS_within_66 : decode y_MS_within.2.1 66 = .ok (.iload_n 3, 1) := dc9_29 (by decide +kernel)
theorem d_MS_within_67 : decode y_MS_within.2.1 67 = .ok (.invokevirtual 244, 3) := dc9_182 (by decide +kernel)
theorem d_MS_within_70 : decode y_MS_within.2.1 70 = .ok (.ifCond .ne 6, 3) := dc9_154 (by decide +kernel)
theorem d_MS_within_73 : decode y_MS_within.2.1 73 = .ok (.bipush 6, 2) := dc9_16 (by decide +kernel)
theorem d_MS_within_75 : decode y_MS_within.2.1 75 = .ok (.ireturn, 1) := dc9_172 (by decide +kernel)
theorem d_MS_within_76 : decode y_MS_within.2.1 76 = .ok (.iinc 3 1, 3) := by decide +kernel
theorem d_MS_within_79 : decode y_MS_within.2.1 79 = .ok (.goto (-22), 3) := dc9_167 (by decide +kernel)
theorem d_MS_within_84 : decode y_MS_within.2.1 84 = .ok (.iload_n 3, 1) := dc9_29 (by decide +kernel)
theorem d_MS_within_85 : decode y_MS_within.2.1 85 = .ok (.aload_n 0, 1) := dc9_42 (by decide +kernel)
theorem d_MS_within_86 : decode y_MS_within.2.1 86 = .ok (.getfield 103, 3) := dc9_180 (by decide +kernel)
theorem d_MS_within_89 : decode y_MS_within.2.1 89 = .ok (.if_icmp .ge 24, 3) := dc9_162 (by decide +kernel)
theorem d_MS_within_113 : decode y_MS_within.2.1 113 = .ok (.iinc 2 1, 3) := by decide +kernel
theorem d_MS_within_116 : decode y_MS_within.2.1 116 = .ok (.goto (-66), 3) := dc9_167 (by decide +kernel)
theorem d_MS_within_92 : decode y_MS_within.2.1 92 = .ok (.aload_n 0, 1) := dc9_42 (by decide +kernel)
theorem d_MS_within_93 : decode y_MS_within.2.1 93 = .ok (.getfield 69, 3) := dc9_180 (by decide +kernel)
theorem d_MS_within_96 : decode y_MS_within.2.1 96 = .ok (.iload_n 3, 1) := dc9_29 (by decide +kernel)
theorem d_MS_within_97 : decode y_MS_within.2.1 97 = .ok (.aaload, 1) := dc9_50 (by decide +kernel)
theorem d_MS_within_98 : decode y_MS_within.2.1 98 = .ok (.aload_n 0, 1) := dc9_42 (by decide +kernel)
theorem d_MS_within_99 : decode y_MS_within.2.1 99 = .ok (.getfield 48, 3) := dc9_180 (by decide +kernel)
theorem d_MS_within_102 : decode y_MS_within.2.1 102 = .ok (.iload_n 3, 1) := dc9_29 (by decide +kernel)
theorem d_MS_within_103 : decode y_MS_within.2.1 103 = .ok (.aaload, 1) := dc9_50 (by decide +kernel)
theorem d_MS_within_104 : decode y_MS_within.2.1 104 = .ok (.invokevirtual 152, 3) := dc9_182 (by decide +kernel)
theorem d_MS_within_107 : decode y_MS_within.2.1 107 = .ok (.iinc 3 1, 3) := by decide +kernel
theorem d_MS_within_110 : decode y_MS_within.2.1 110 = .ok (.goto (-26), 3) := dc9_167 (by decide +kernel)
theorem d_MS_within_121 : decode y_MS_within.2.1 121 = .ok (.iload_n 2, 1) := dc9_28 (by decide +kernel)
theorem d_MS_within_122 : decode y_MS_within.2.1 122 = .ok (.aload_n 0, 1) := dc9_42 (by decide +kernel)
theorem d_MS_within_123 : decode y_MS_within.2.1 123 = .ok (.getfield 103, 3) := dc9_180 (by decide +kernel)
theorem d_MS_within_126 : decode y_MS_within.2.1 126 = .ok (.if_icmp .ge 28, 3) := dc9_162 (by decide +kernel)
theorem d_MS_within_154 : decode y_MS_within.2.1 154 = .ok (.aload_n 0, 1) := dc9_42 (by decide +kernel)
theorem d_MS_within_155 : decode y_MS_within.2.1 155 = .ok (.getfield 44, 3) := dc9_180 (by decide +kernel)
theorem d_MS_within_158 : decode y_MS_within.2.1 158 = .ok (.iconst 1, 1) := dc9_4 (by decide +kernel)
theorem d_MS_within_159 : decode y_MS_within.2.1 159 = .ok (.iconst 1, 1) := dc9_4 (by decide +kernel)
theorem d_MS_within_160 : decode y_MS_within.2.1 160 = .ok (.bastore, 1) := dc9_84 (by decide +kernel)
theorem d_MS_within_161 : decode y_MS_within.2.1 161 = .ok (.iconst 0, 1) := dc9_3 (by decide +kernel)
theorem d_MS_within_162 : decode y_MS_within.2.1 162 = .ok (.ireturn, 1) := dc9_172 (by decide +kernel)
theorem d_MS_within_129 : decode y_MS_within.2.1 129 = .ok (.aload_n 0, 1) := dc9_42 (by decide +kernel)
theorem d_MS_within_130 : decode y_MS_within.2.1 130 = .ok (.getfield 40, 3) := dc9_180 (by decide +kernel)
theorem d_MS_within_133 : decode y_MS_within.2.1 133 = .ok (.iconst 3, 1) := dc9_6 (by decide +kernel)
theorem d_MS_within_134 : decode y_MS_within.2.1 134 = .ok (.iload_n 2, 1) := dc9_28 (by decide +kernel)
theorem d_MS_within_135 : decode y_MS_within.2.1 135 = .ok (.imul, 1) := dc9_104 (by decide +kernel)
theorem d_MS_within_136 : decode y_MS_within.2.1 136 = .ok (.iconst 1, 1) := dc9_4 (by decide +kernel)
theorem d_MS_within_137 : decode y_MS_within.2.1 137 = .ok (.iadd, 1) := dc9_96 (by decide +kernel)
theorem d_MS_within_138 : decode y_MS_within.2.1 138 = .ok (.aaload, 1) := dc9_50 (by decide +kernel)
theorem d_MS_within_139 : decode y_MS_within.2.1 139 = .ok (.aload_n 0, 1) := dc9_42 (by decide +kernel)
theorem d_MS_within_140 : decode y_MS_within.2.1 140 = .ok (.getfield 69, 3) := dc9_180 (by decide +kernel)
theorem d_MS_within_143 : decode y_MS_within.2.1 143 = .ok (.iload_n 2, 1) := dc9_28 (by decide +kernel)
theorem d_MS_within_144 : decode y_MS_within.2.1 144 = .ok (.aaload, 1) := dc9_50 (by decide +kernel)
theorem d_MS_within_145 : decode y_MS_within.2.1 145 = .ok (.invokevirtual 152, 3) := dc9_182 (by decide +kernel)
theorem d_MS_within_148 : decode y_MS_within.2.1 148 = .ok (.iinc 2 1, 3) := by decide +kernel
theorem d_MS_within_151 : decode y_MS_within.2.1 151 = .ok (.goto (-30), 3) := dc9_167 (by decide +kernel)
def h_MS_within_9 (G : mG) (d : Nat) (a0 : Nat) (l1 : Int) (l2 : Int) (M : mM) (Q : Int → mM → Prop) : Prop := mWm G y_MS_within (d + 1) 9 [vr a0, vi l1, vi l2, vd] [] M (fun r9 M9 => ∃ x9, r9 = some (vi x9) ∧ Q x9 M9)
def h_MS_within_50 (G : mG) (d : Nat) (a0 : Nat) (l1 : Int) (l2 : Int) (M : mM) (Q : Int → mM → Prop) : Prop := mWm G y_MS_within (d + 1) 50 [vr a0, vi l1, vi l2, vd] [] M (fun r9 M9 => ∃ x9, r9 = some (vi x9) ∧ Q x9 M9)
def h_MS_within_57 (G : mG) (d : Nat) (a0 : Nat) (l1 : Int) (l2 : Int) (l3 : Int) (M : mM) (Q : Int → mM → Prop) : Prop := mWm G y_MS_within (d + 1) 57 [vr a0, vi l1, vi l2, vi l3] [] M (fun r9 M9 => ∃ x9, r9 = some (vi x9) ∧ Q x9 M9)
def h_MS_within_84 (G : mG) (d : Nat) (a0 : Nat) (l1 : Int) (l2 : Int) (l3 : Int) (M : mM) (Q : Int → mM → Prop) : Prop := mWm G y_MS_within (d + 1) 84 [vr a0, vi l1, vi l2, vi l3] [] M (fun r9 M9 => ∃ x9, r9 = some (vi x9) ∧ Q x9 M9)
def h_MS_within_121 (G : mG) (d : Nat) (a0 : Nat) (l2 : Int) (M : mM) (Q : Int → mM → Prop) : Prop := mWm G y_MS_within (d + 1) 121 [vr a0, vd, vi l2, vd] [] M (fun r9 M9 => ∃ x9, r9 = some (vi x9) ∧ Q x9 M9)
theorem k_MS_within {G : mG} {d : Nat} {a0 : Nat} {l1 : Int} {M : mM} {Q : Int → mM → Prop} (hO : mOk M) (hi_l1 : i32 l1)
    (h : mK M a0 = 17 ∧ mK M (mR M a0 12) = 31 ∧ ((0 : Int) ≤ 1 ∧ 1 < (mN M (mR M a0 12) : Int)) ∧ ∀ M4, M4 = mUI M (mR M a0 12) 1 0 → h_MS_within_9 G d a0 l1 0 M4 Q) :
    Ci G y_MS_within (d + 1) [vr a0, vi l1] M Q := by
  refine wm_open (y := y_MS_within) rfl (Nat.le_of_ble_eq_true rfl) (L := [vr a0, vi l1, vd, vd]) rfl ?_
  obtain ⟨h1, h⟩ := h
  obtain ⟨h2, h⟩ := h
  obtain ⟨h3, h⟩ := h
  obtain ⟨M4, e5⟩ : ∃ M4, M4 = mUI M (mR M a0 12) 1 0 := ⟨_, rfl⟩
  replace h := h M4 e5
  refine wm_aload_n d_MS_within_0 rfl rfl ?_
  refine gf_MS_44 rfl d_MS_within_1 h1 ?_
  refine wm_iconst d_MS_within_4 ?_
  refine wm_iconst d_MS_within_5 ?_
  have hOM4 : mOk M4 := by rw [e5]; exact mOk_UI hO (m_b32 (by decide))
  refine wm_zastE d_MS_within_6 h2 h3 (by decide) e5 ?_
  refine wm_iconst d_MS_within_7 ?_
  refine wm_istore_n d_MS_within_8 rfl (by decide) (L' := [vr a0, vi l1, vi 0, vd]) rfl ?_
  exact h
theorem k_MS_within_9 {G : mG} {d : Nat} {a0 : Nat} {l1 : Int} {l2 : Int} {M : mM} {Q : Int → mM → Prop} (hO : mOk M) (hi_l1 : i32 l1) (hi_l2 : i32 l2)
    (h : mK M a0 = 17 ∧ ((mI M a0 1 ≤ l2) → (h_MS_within_50 G d a0 l1 0 M Q)) ∧ (¬ (mI M a0 1 ≤ l2) → (mK M (mR M a0 21) = 36 ∧ ((0 : Int) ≤ l2 ∧ l2 < (mN M (mR M a0 21) : Int)) ∧ mK M (mR M a0 4) = 30 ∧ ((0 : Int) ≤ l2 ∧ l2 < (mN M (mR M a0 4) : Int)) ∧ ∀ v18 : Int, v18 = (if (mI M (mR M a0 4) (Int.toNat l2) = 3) then 1 else 0) → mK M (mR M (mR M a0 21) (Int.toNat l2)) = 19 ∧ Cv G y_MF_set d [vr (mR M (mR M a0 21) (Int.toNat l2)), vl v18, vl 1] M (fun M23 => mOk M23 ∧ (h_MS_within_9 G d a0 l1 (l2 + 1) M23 Q))))) :
    h_MS_within_9 G d a0 l1 l2 M Q := by
  unfold h_MS_within_9
  obtain ⟨h6, h⟩ := h
  refine wm_iload_n d_MS_within_9 rfl rfl ?_
  refine wm_aload_n d_MS_within_10 rfl rfl ?_
  refine gf_MS_103 rfl d_MS_within_11 h6 ?_
  refine wm_icmp_ge (tgt := 48) d_MS_within_14 rfl hi_l2 (hO _ _).1 (fun c12 => ?_) (fun c12 => ?_)
  · replace h := h.1 c12
    refine wm_iconst d_MS_within_48 ?_
    refine wm_istore_n d_MS_within_49 rfl (by decide) (L' := [vr a0, vi l1, vi 0, vd]) rfl ?_
    exact h
  · replace h := h.2 c12
    obtain ⟨h13, h⟩ := h
    obtain ⟨h14, h⟩ := h
    obtain ⟨h15, h⟩ := h
    obtain ⟨h16, h⟩ := h
    refine wm_aload_n d_MS_within_17 rfl rfl ?_
    refine gf_MS_69 rfl d_MS_within_18 h6 ?_
    refine wm_iload_n d_MS_within_21 rfl rfl ?_
    refine wm_aald6 d_MS_within_22 h13 h14 ?_
    refine wm_aload_n d_MS_within_23 rfl rfl ?_
    refine gf_MS_16 rfl d_MS_within_24 h6 ?_
    refine wm_iload_n d_MS_within_27 rfl rfl ?_
    refine wm_iald d_MS_within_28 h15 h16 ?_
    refine wm_iconst d_MS_within_29 ?_
    have hJ : ∀ v18 : Int, v18 = (if (mI M (mR M a0 4) (Int.toNat l2) = 3) then 1 else 0) → mWm G y_MS_within (d + 1) 38 [vr a0, vi l1, vi l2, vd] [vl v18, vr (mR M (mR M a0 21) (Int.toNat l2))] M (fun r9 M9 => ∃ x9, r9 = some (vi x9) ∧ Q x9 M9) := by
      intro v18 e20
      have h := h v18 e20
      have h21 : (v18 = 0 ∨ v18 = 1) := by rw [e20]; (repeat' split) <;> decide
      obtain ⟨h22, h⟩ := h
      refine wm_lconst (x := 1) d_MS_within_38 rfl ?_
      refine cf_MS_141 rfl d_MS_within_39 h22 (Nat.le_of_ble_eq_true rfl) (Cv.mono h (fun M23 h => ?_))
      obtain ⟨hOM23, h⟩ := h
      refine wm_iinc d_MS_within_42 (by decide) rfl (L' := [vr a0, vi l1, vi (l2 + 1), vd]) rfl ?_
      refine wm_goto (tgt := 9) d_MS_within_45 rfl ?_
      exact h
    clear h
    refine wm_icmp_ne (tgt := 37) d_MS_within_30 rfl (hO _ _).1 ⟨by decide, by decide⟩ (fun c17 => ?_) (fun c17 => ?_)
    · refine wm_lconst (x := 0) d_MS_within_37 rfl ?_
      exact hJ 0 (if_neg c17).symm
    · replace c17 := Classical.not_not.mp c17
      refine wm_lconst (x := 1) d_MS_within_33 rfl ?_
      refine wm_goto (tgt := 38) d_MS_within_34 rfl ?_
      exact hJ 1 (if_pos c17).symm
theorem k_MS_within_50 {G : mG} {d : Nat} {a0 : Nat} {l1 : Int} {l2 : Int} {M : mM} {Q : Int → mM → Prop} (hO : mOk M) (hi_l1 : i32 l1) (hi_l2 : i32 l2)
    (h : ((l1 ≤ l2) → (h_MS_within_121 G d a0 0 M Q)) ∧ (¬ (l1 ≤ l2) → (h_MS_within_57 G d a0 l1 l2 0 M Q))) :
    h_MS_within_50 G d a0 l1 l2 M Q := by
  unfold h_MS_within_50
  refine wm_iload_n d_MS_within_50 rfl rfl ?_
  refine wm_iload_n d_MS_within_51 rfl rfl ?_
  refine wm_icmp_ge (tgt := 119) d_MS_within_52 rfl hi_l2 hi_l1 (fun c28 => ?_) (fun c28 => ?_)
  · replace h := h.1 c28
    refine wm_iconst d_MS_within_119 ?_
    refine wm_istore_n d_MS_within_120 rfl (by decide) (L' := [vr a0, vi l1, vi 0, vd]) rfl ?_
    refine wm_less (L' := [vr a0, vd, vi 0, vd]) ⟨Or.inr rfl, Or.inl rfl, Or.inr rfl, Or.inl rfl, trivial⟩ ?_
    exact h
  · replace h := h.2 c28
    refine wm_iconst d_MS_within_55 ?_
    refine wm_istore_n d_MS_within_56 rfl (by decide) (L' := [vr a0, vi l1, vi l2, vi 0]) rfl ?_
    exact h
theorem k_MS_within_57 {G : mG} {d : Nat} {a0 : Nat} {l1 : Int} {l2 : Int} {l3 : Int} {M : mM} {Q : Int → mM → Prop} (hO : mOk M) (hi_l1 : i32 l1) (hi_l2 : i32 l2) (hi_l3 : i32 l3)
    (h : mK M a0 = 17 ∧ ((mI M a0 1 ≤ l3) → (h_MS_within_84 G d a0 l1 l2 0 M Q)) ∧ (¬ (mI M a0 1 ≤ l3) → (Ci G y_MS_move d [vr a0, vi l3] M (fun x33 M32 => i32 x33 ∧ mOk M32 ∧ (((x33 = 0) → (Q 6 M32)) ∧ (¬ (x33 = 0) → (h_MS_within_57 G d a0 l1 l2 (l3 + 1) M32 Q))))))) :
    h_MS_within_57 G d a0 l1 l2 l3 M Q := by
  unfold h_MS_within_57
  obtain ⟨h29, h⟩ := h
  refine wm_iload_n d_MS_within_57 rfl rfl ?_
  refine wm_aload_n d_MS_within_58 rfl rfl ?_
  refine gf_MS_103 rfl d_MS_within_59 h29 ?_
  refine wm_icmp_ge (tgt := 82) d_MS_within_62 rfl hi_l3 (hO _ _).1 (fun c31 => ?_) (fun c31 => ?_)
  · replace h := h.1 c31
    refine wm_iconst d_MS_within_82 ?_
    refine wm_istore_n d_MS_within_83 rfl (by decide) (L' := [vr a0, vi l1, vi l2, vi 0]) rfl ?_
    exact h
  · replace h := h.2 c31
    refine wm_aload_n d_MS_within_65 rfl rfl ?_
    refine wm_iload_n d_MS_within_66 rfl rfl ?_
    refine cf_MS_244 rfl d_MS_within_67 h29 (Nat.le_of_ble_eq_true rfl) (Ci.mono h (fun x33 M32 h => ?_))
    obtain ⟨h34, hOM32, h⟩ := h
    refine wm_if_ne (tgt := 76) d_MS_within_70 rfl h34 (fun c36 => ?_) (fun c36 => ?_)
    · replace h := h.2 c36
      refine wm_iinc d_MS_within_76 (by decide) rfl (L' := [vr a0, vi l1, vi l2, vi (l3 + 1)]) rfl ?_
      refine wm_goto (tgt := 57) d_MS_within_79 rfl ?_
      exact h
    · replace c36 := Classical.not_not.mp c36
      replace h := h.1 c36
      refine wm_bipush d_MS_within_73 (by decide) ?_
      refine wm_ireturn d_MS_within_75 rfl rfl ?_
      exact ⟨_, rfl, h⟩
theorem k_MS_within_84 {G : mG} {d : Nat} {a0 : Nat} {l1 : Int} {l2 : Int} {l3 : Int} {M : mM} {Q : Int → mM → Prop} (hO : mOk M) (hi_l1 : i32 l1) (hi_l2 : i32 l2) (hi_l3 : i32 l3)
    (h : mK M a0 = 17 ∧ ((mI M a0 1 ≤ l3) → (h_MS_within_50 G d a0 l1 (l2 + 1) M Q)) ∧ (¬ (mI M a0 1 ≤ l3) → (mK M (mR M a0 21) = 36 ∧ ((0 : Int) ≤ l3 ∧ l3 < (mN M (mR M a0 21) : Int)) ∧ mK M (mR M a0 13) = 36 ∧ ((0 : Int) ≤ l3 ∧ l3 < (mN M (mR M a0 13) : Int)) ∧ mK M (mR M (mR M a0 21) (Int.toNat l3)) = 19 ∧ Cv G y_MF_copy d [vr (mR M (mR M a0 21) (Int.toNat l3)), vr (mR M (mR M a0 13) (Int.toNat l3))] M (fun M45 => mOk M45 ∧ (h_MS_within_84 G d a0 l1 l2 (l3 + 1) M45 Q))))) :
    h_MS_within_84 G d a0 l1 l2 l3 M Q := by
  unfold h_MS_within_84
  obtain ⟨h37, h⟩ := h
  refine wm_iload_n d_MS_within_84 rfl rfl ?_
  refine wm_aload_n d_MS_within_85 rfl rfl ?_
  refine gf_MS_103 rfl d_MS_within_86 h37 ?_
  refine wm_icmp_ge (tgt := 113) d_MS_within_89 rfl hi_l3 (hO _ _).1 (fun c39 => ?_) (fun c39 => ?_)
  · replace h := h.1 c39
    refine wm_iinc d_MS_within_113 (by decide) rfl (L' := [vr a0, vi l1, vi (l2 + 1), vi l3]) rfl ?_
    refine wm_goto (tgt := 50) d_MS_within_116 rfl ?_
    refine wm_less (L' := [vr a0, vi l1, vi (l2 + 1), vd]) ⟨Or.inr rfl, Or.inr rfl, Or.inr rfl, Or.inl rfl, trivial⟩ ?_
    exact h
  · replace h := h.2 c39
    obtain ⟨h40, h⟩ := h
    obtain ⟨h41, h⟩ := h
    obtain ⟨h42, h⟩ := h
    obtain ⟨h43, h⟩ := h
    obtain ⟨h44, h⟩ := h
    refine wm_aload_n d_MS_within_92 rfl rfl ?_
    refine gf_MS_69 rfl d_MS_within_93 h37 ?_
    refine wm_iload_n d_MS_within_96 rfl rfl ?_
    refine wm_aald6 d_MS_within_97 h40 h41 ?_
    refine wm_aload_n d_MS_within_98 rfl rfl ?_
    refine gf_MS_48 rfl d_MS_within_99 h37 ?_
    refine wm_iload_n d_MS_within_102 rfl rfl ?_
    refine wm_aald6 d_MS_within_103 h42 h43 ?_
    refine cf_MS_152 rfl d_MS_within_104 h44 (Nat.le_of_ble_eq_true rfl) (Cv.mono h (fun M45 h => ?_))
    obtain ⟨hOM45, h⟩ := h
    refine wm_iinc d_MS_within_107 (by decide) rfl (L' := [vr a0, vi l1, vi l2, vi (l3 + 1)]) rfl ?_
    refine wm_goto (tgt := 84) d_MS_within_110 rfl ?_
    exact h
theorem k_MS_within_121 {G : mG} {d : Nat} {a0 : Nat} {l2 : Int} {M : mM} {Q : Int → mM → Prop} (hO : mOk M) (hi_l2 : i32 l2)
    (h : mK M a0 = 17 ∧ ((mI M a0 1 ≤ l2) → (mK M (mR M a0 12) = 31 ∧ ((0 : Int) ≤ 1 ∧ 1 < (mN M (mR M a0 12) : Int)) ∧ ∀ M55, M55 = mUI M (mR M a0 12) 1 1 → Q 0 M55)) ∧ (¬ (mI M a0 1 ≤ l2) → (mK M (mR M a0 11) = 36 ∧ ((0 : Int) ≤ (3 * l2) + 1 ∧ (3 * l2) + 1 < (mN M (mR M a0 11) : Int)) ∧ mK M (mR M a0 21) = 36 ∧ ((0 : Int) ≤ l2 ∧ l2 < (mN M (mR M a0 21) : Int)) ∧ mK M (mR M (mR M a0 11) (Int.toNat ((3 * l2) + 1))) = 19 ∧ Cv G y_MF_copy d [vr (mR M (mR M a0 11) (Int.toNat ((3 * l2) + 1))), vr (mR M (mR M a0 21) (Int.toNat l2))] M (fun M62 => mOk M62 ∧ (h_MS_within_121 G d a0 (l2 + 1) M62 Q))))) :
    h_MS_within_121 G d a0 l2 M Q := by
  unfold h_MS_within_121
  obtain ⟨h48, h⟩ := h
  refine wm_iload_n d_MS_within_121 rfl rfl ?_
  refine wm_aload_n d_MS_within_122 rfl rfl ?_
  refine gf_MS_103 rfl d_MS_within_123 h48 ?_
  refine wm_icmp_ge (tgt := 154) d_MS_within_126 rfl hi_l2 (hO _ _).1 (fun c52 => ?_) (fun c52 => ?_)
  · replace h := h.1 c52
    obtain ⟨h53, h⟩ := h
    obtain ⟨h54, h⟩ := h
    obtain ⟨M55, e56⟩ : ∃ M55, M55 = mUI M (mR M a0 12) 1 1 := ⟨_, rfl⟩
    replace h := h M55 e56
    refine wm_aload_n d_MS_within_154 rfl rfl ?_
    refine gf_MS_44 rfl d_MS_within_155 h48 ?_
    refine wm_iconst d_MS_within_158 ?_
    refine wm_iconst d_MS_within_159 ?_
    have hOM55 : mOk M55 := by rw [e56]; exact mOk_UI hO (m_b32 (by decide))
    refine wm_zastE d_MS_within_160 h53 h54 (by decide) e56 ?_
    refine wm_iconst d_MS_within_161 ?_
    refine wm_ireturn d_MS_within_162 rfl rfl ?_
    exact ⟨_, rfl, h⟩
  · replace h := h.2 c52
    obtain ⟨h57, h⟩ := h
    obtain ⟨h58, h⟩ := h
    obtain ⟨h59, h⟩ := h
    obtain ⟨h60, h⟩ := h
    obtain ⟨h61, h⟩ := h
    refine wm_aload_n d_MS_within_129 rfl rfl ?_
    refine gf_MS_40 rfl d_MS_within_130 h48 ?_
    refine wm_iconst d_MS_within_133 ?_
    refine wm_iload_n d_MS_within_134 rfl rfl ?_
    refine wm_imul d_MS_within_135 ?_
    refine wm_iconst d_MS_within_136 ?_
    refine wm_iadd d_MS_within_137 ?_
    refine wm_aald6 d_MS_within_138 h57 h58 ?_
    refine wm_aload_n d_MS_within_139 rfl rfl ?_
    refine gf_MS_69 rfl d_MS_within_140 h48 ?_
    refine wm_iload_n d_MS_within_143 rfl rfl ?_
    refine wm_aald6 d_MS_within_144 h59 h60 ?_
    refine cf_MS_152 rfl d_MS_within_145 h61 (Nat.le_of_ble_eq_true rfl) (Cv.mono h (fun M62 h => ?_))
    obtain ⟨hOM62, h⟩ := h
    refine wm_iinc d_MS_within_148 (by decide) rfl (L' := [vr a0, vd, vi (l2 + 1), vd]) rfl ?_
    refine wm_goto (tgt := 121) d_MS_within_151 rfl ?_
    exact h
theorem d_MS_isThere_0 : decode y_MS_isThere.2.1 0 = .ok (.iload_n 1, 1) := dc9_27 (by decide +kernel)
theorem d_MS_isThere_1 : decode y_MS_isThere.2.1 1 = .ok (.ifCond .lt 33, 3) := dc9_155 (by decide +kernel)
theorem d_MS_isThere_34 : decode y_MS_isThere.2.1 34 = .ok (.iconst 0, 1) := dc9_3 (by decide +kernel)
theorem d_MS_isThere_4 : decode y_MS_isThere.2.1 4 = .ok (.iload_n 1, 1) := dc9_27 (by decide +kernel)
theorem d_MS_isThere_5 : decode y_MS_isThere.2.1 5 = .ok (.aload_n 0, 1) := dc9_42 (by decide +kernel)
theorem d_MS_isThere_6 : decode y_MS_isThere.2.1 6 = .ok (.getfield 103, 3) := dc9_180 (by decide +kernel)
theorem d_MS_isThere_9 : decode y_MS_isThere.2.1 9 = .ok (.if_icmp .ge 25, 3) := dc9_162 (by decide +kernel)
theorem d_MS_isThere_12 : decode y_MS_isThere.2.1 12 = .ok (.iload_n 2, 1) := dc9_28 (by decide +kernel)
theorem d_MS_isThere_13 : decode y_MS_isThere.2.1 13 = .ok (.ifCond .lt 21, 3) := dc9_155 (by decide +kernel)
theorem d_MS_isThere_16 : decode y_MS_isThere.2.1 16 = .ok (.iload_n 2, 1) := dc9_28 (by decide +kernel)
theorem d_MS_isThere_17 : decode y_MS_isThere.2.1 17 = .ok (.iconst 2, 1) := dc9_5 (by decide +kernel)
theorem d_MS_isThere_18 : decode y_MS_isThere.2.1 18 = .ok (.if_icmp .gt 16, 3) := dc9_163 (by decide +kernel)
theorem d_MS_isThere_21 : decode y_MS_isThere.2.1 21 = .ok (.aload_n 0, 1) := dc9_42 (by decide +kernel)
theorem d_MS_isThere_22 : decode y_MS_isThere.2.1 22 = .ok (.getfield 44, 3) := dc9_180 (by decide +kernel)
theorem d_MS_isThere_25 : decode y_MS_isThere.2.1 25 = .ok (.iload_n 2, 1) := dc9_28 (by decide +kernel)
theorem d_MS_isThere_26 : decode y_MS_isThere.2.1 26 = .ok (.baload, 1) := dc9_51 (by decide +kernel)
theorem d_MS_isThere_27 : decode y_MS_isThere.2.1 27 = .ok (.ifCond .eq 7, 3) := dc9_153 (by decide +kernel)
theorem d_MS_isThere_30 : decode y_MS_isThere.2.1 30 = .ok (.iconst 1, 1) := dc9_4 (by decide +kernel)
theorem d_MS_isThere_31 : decode y_MS_isThere.2.1 31 = .ok (.goto 4, 3) := dc9_167 (by decide +kernel)
theorem d_MS_isThere_35 : decode y_MS_isThere.2.1 35 = .ok (.ireturn, 1) := dc9_172 (by decide +kernel)
theorem k_MS_isThere {G : mG} {d : Nat} {a0 : Nat} {l1 : Int} {l2 : Int} {M : mM} {Q : Int → mM → Prop} (hO : mOk M) (hi_l1 : i32 l1) (hi_l2 : i32 l2)
    (h : (¬ (l1 < 0) → (mK M a0 = 17 ∧ (¬ (mI M a0 1 ≤ l1) → (¬ (l2 < 0) → (¬ (2 < l2) → (mK M (mR M a0 12) = 31 ∧ ((0 : Int) ≤ l2 ∧ l2 < (mN M (mR M a0 12) : Int)))))))) ∧ ∀ v9 : Int, v9 = (if ((l1 < 0) ∨ ((mI M a0 1 ≤ l1) ∨ ((l2 < 0) ∨ ((2 < l2) ∨ (mI M (mR M a0 12) (Int.toNat l2) = 0))))) then 0 else 1) → Q v9 M) :
    Ci G y_MS_isThere d [vr a0, vi l1, vi l2] M Q := by
  refine wm_open (y := y_MS_isThere) rfl (Nat.le_of_ble_eq_true rfl) (L := [vr a0, vi l1, vi l2]) rfl ?_
  refine wm_iload_n d_MS_isThere_0 rfl rfl ?_
  obtain ⟨s10, h⟩ := h
  have hJ : ∀ v9 : Int, v9 = (if ((l1 < 0) ∨ ((mI M a0 1 ≤ l1) ∨ ((l2 < 0) ∨ ((2 < l2) ∨ (mI M (mR M a0 12) (Int.toNat l2) = 0))))) then 0 else 1) → mWm G y_MS_isThere d 35 [vd, vd, vd] [vi v9] M (fun r9 M9 => ∃ x9, r9 = some (vi x9) ∧ Q x9 M9) := by
    intro v9 e11
    have h := h v9 e11
    have h12 : i32 v9 := by rw [e11]; (repeat' split) <;> first | exact ⟨by decide, by decide⟩ | exact ⟨by decide, by decide⟩
    have h13 : (v9 = 0 ∨ v9 = 1) := by rw [e11]; (repeat' split) <;> decide
    refine wm_ireturn d_MS_isThere_35 rfl (m_nb h13) ?_
    exact ⟨_, rfl, h⟩
  clear h
  have s14 := s10
  refine wm_if_lt (tgt := 34) d_MS_isThere_1 rfl hi_l1 (fun c1 => ?_) (fun c1 => ?_)
  · refine wm_iconst d_MS_isThere_34 ?_
    refine wm_less (L' := [vd, vd, vd]) ⟨Or.inl rfl, Or.inl rfl, Or.inl rfl, trivial⟩ ?_
    exact hJ 0 (if_pos (Or.inl c1)).symm
  · have s14 := s14 c1
    obtain ⟨h2, s15⟩ := s14
    refine wm_iload_n d_MS_isThere_4 rfl rfl ?_
    refine wm_aload_n d_MS_isThere_5 rfl rfl ?_
    refine gf_MS_103 rfl d_MS_isThere_6 h2 ?_
    refine wm_icmp_ge (tgt := 34) d_MS_isThere_9 rfl hi_l1 (hO _ _).1 (fun c3 => ?_) (fun c3 => ?_)
    · refine wm_iconst d_MS_isThere_34 ?_
      refine wm_less (L' := [vd, vd, vd]) ⟨Or.inl rfl, Or.inl rfl, Or.inl rfl, trivial⟩ ?_
      exact hJ 0 (if_pos (Or.inr (Or.inl c3))).symm
    · have s15 := s15 c3
      have s16 := s15
      refine wm_iload_n d_MS_isThere_12 rfl rfl ?_
      refine wm_if_lt (tgt := 34) d_MS_isThere_13 rfl hi_l2 (fun c4 => ?_) (fun c4 => ?_)
      · refine wm_iconst d_MS_isThere_34 ?_
        refine wm_less (L' := [vd, vd, vd]) ⟨Or.inl rfl, Or.inl rfl, Or.inl rfl, trivial⟩ ?_
        exact hJ 0 (if_pos (Or.inr (Or.inr (Or.inl c4)))).symm
      · have s16 := s16 c4
        have s17 := s16
        refine wm_iload_n d_MS_isThere_16 rfl rfl ?_
        refine wm_iconst d_MS_isThere_17 ?_
        refine wm_icmp_gt (tgt := 34) d_MS_isThere_18 rfl hi_l2 ⟨by decide, by decide⟩ (fun c5 => ?_) (fun c5 => ?_)
        · refine wm_iconst d_MS_isThere_34 ?_
          refine wm_less (L' := [vd, vd, vd]) ⟨Or.inl rfl, Or.inl rfl, Or.inl rfl, trivial⟩ ?_
          exact hJ 0 (if_pos (Or.inr (Or.inr (Or.inr (Or.inl c5))))).symm
        · have s17 := s17 c5
          obtain ⟨h6, h7⟩ := s17
          refine wm_aload_n d_MS_isThere_21 rfl rfl ?_
          refine gf_MS_44 rfl d_MS_isThere_22 h2 ?_
          refine wm_iload_n d_MS_isThere_25 rfl rfl ?_
          refine wm_zald d_MS_isThere_26 h6 h7 ?_
          refine wm_if_eq (tgt := 34) d_MS_isThere_27 rfl (hO _ _).1 (fun c8 => ?_) (fun c8 => ?_)
          · refine wm_iconst d_MS_isThere_34 ?_
            refine wm_less (L' := [vd, vd, vd]) ⟨Or.inl rfl, Or.inl rfl, Or.inl rfl, trivial⟩ ?_
            exact hJ 0 (if_pos (Or.inr (Or.inr (Or.inr (Or.inr c8))))).symm
          · refine wm_iconst d_MS_isThere_30 ?_
            refine wm_goto (tgt := 35) d_MS_isThere_31 rfl ?_
            refine wm_less (L' := [vd, vd, vd]) ⟨Or.inl rfl, Or.inl rfl, Or.inl rfl, trivial⟩ ?_
            exact hJ 1 (if_neg (fun z18 => Or.elim z18 c1 (fun z19 => Or.elim z19 c3 (fun z20 => Or.elim z20 c4 (fun z21 => Or.elim z21 c5 c8))))).symm
theorem d_MS_compare_0 : decode y_MS_compare.2.1 0 = .ok (.aload_n 0, 1) := dc9_42 (by decide +kernel)
theorem d_MS_compare_1 : decode y_MS_compare.2.1 1 = .ok (.getfield 10, 3) := dc9_180 (by decide +kernel)
theorem d_MS_compare_4 : decode y_MS_compare.2.1 4 = .ok (.aload_n 0, 1) := dc9_42 (by decide +kernel)
theorem d_MS_compare_5 : decode y_MS_compare.2.1 5 = .ok (.getfield 40, 3) := dc9_180 (by decide +kernel)
theorem d_MS_compare_8 : decode y_MS_compare.2.1 8 = .ok (.iconst 3, 1) := dc9_6 (by decide +kernel)
theorem d_MS_compare_9 : decode y_MS_compare.2.1 9 = .ok (.iload_n 1, 1) := dc9_27 (by decide +kernel)
theorem d_MS_compare_10 : decode y_MS_compare.2.1 10 = .ok (.imul, 1) := dc9_104 (by decide +kernel)
theorem d_MS_compare_11 : decode y_MS_compare.2.1 11 = .ok (.iload_n 2, 1) := dc9_28 (by decide +kernel)
theorem d_MS_compare_12 : decode y_MS_compare.2.1 12 = .ok (.iadd, 1) := dc9_96 (by decide +kernel)
theorem d_MS_compare_13 : decode y_MS_compare.2.1 13 = .ok (.aaload, 1) := dc9_50 (by decide +kernel)
theorem d_MS_compare_14 : decode y_MS_compare.2.1 14 = .ok (.aload_n 0, 1) := dc9_42 (by decide +kernel)
theorem d_MS_compare_15 : decode y_MS_compare.2.1 15 = .ok (.getfield 40, 3) := dc9_180 (by decide +kernel)
theorem d_MS_compare_18 : decode y_MS_compare.2.1 18 = .ok (.iconst 3, 1) := dc9_6 (by decide +kernel)
theorem d_MS_compare_19 : decode y_MS_compare.2.1 19 = .ok (.iload_n 3, 1) := dc9_29 (by decide +kernel)
theorem d_MS_compare_20 : decode y_MS_compare.2.1 20 = .ok (.imul, 1) := dc9_104 (by decide +kernel)
theorem d_MS_compare_21 : decode y_MS_compare.2.1 21 = .ok (.iload 4, 2) := dc9_21 (by decide +kernel)
theorem d_MS_compare_23 : decode y_MS_compare.2.1 23 = .ok (.iadd, 1) := dc9_96 (by decide +kernel)
theorem d_MS_compare_24 : decode y_MS_compare.2.1 24 = .ok (.aaload, 1) := dc9_50 (by decide +kernel)
theorem d_MS_compare_25 : decode y_MS_compare.2.1 25 = .ok (.invokevirtual 194, 3) := dc9_182 (by decide +kernel)
theorem d_MS_compare_28 : decode y_MS_compare.2.1 28 = .ok (.ireturn, 1) := dc9_172 (by decide +kernel)
theorem k_MS_compare {G : mG} {d : Nat} {a0 : Nat} {l1 : Int} {l2 : Int} {l3 : Int} {l4 : Int} {M : mM} {Q : Int → mM → Prop} (hO : mOk M) (hi_l1 : i32 l1) (hi_l2 : i32 l2) (hi_l3 : i32 l3) (hi_l4 : i32 l4)
    (h : mK M a0 = 17 ∧ mK M (mR M a0 11) = 36 ∧ ((0 : Int) ≤ (3 * l1) + l2 ∧ (3 * l1) + l2 < (mN M (mR M a0 11) : Int)) ∧ ((0 : Int) ≤ (3 * l3) + l4 ∧ (3 * l3) + l4 < (mN M (mR M a0 11) : Int)) ∧ mK M (mR M a0 0) = 18 ∧ Ci G y_MU_compare d [vr (mR M a0 0), vr (mR M (mR M a0 11) (Int.toNat ((3 * l1) + l2))), vr (mR M (mR M a0 11) (Int.toNat ((3 * l3) + l4)))] M (fun x7 M6 => i32 x7 ∧ mOk M6 ∧ (Q x7 M6))) :
    Ci G y_MS_compare (d + 1) [vr a0, vi l1, vi l2, vi l3, vi l4] M Q := by
  refine wm_open (y := y_MS_compare) rfl (Nat.le_of_ble_eq_true rfl) (L := [vr a0, vi l1, vi l2, vi l3, vi l4]) rfl ?_
  obtain ⟨h1, h⟩ := h
  obtain ⟨h2, h⟩ := h
  obtain ⟨h3, h⟩ := h
  obtain ⟨h4, h⟩ := h
  obtain ⟨h5, h⟩ := h
  refine wm_aload_n d_MS_compare_0 rfl rfl ?_
  refine gf_MS_10 rfl d_MS_compare_1 h1 ?_
  refine wm_aload_n d_MS_compare_4 rfl rfl ?_
  refine gf_MS_40 rfl d_MS_compare_5 h1 ?_
  refine wm_iconst d_MS_compare_8 ?_
  refine wm_iload_n d_MS_compare_9 rfl rfl ?_
  refine wm_imul d_MS_compare_10 ?_
  refine wm_iload_n d_MS_compare_11 rfl rfl ?_
  refine wm_iadd d_MS_compare_12 ?_
  refine wm_aald6 d_MS_compare_13 h2 h3 ?_
  refine wm_aload_n d_MS_compare_14 rfl rfl ?_
  refine gf_MS_40 rfl d_MS_compare_15 h1 ?_
  refine wm_iconst d_MS_compare_18 ?_
  refine wm_iload_n d_MS_compare_19 rfl rfl ?_
  refine wm_imul d_MS_compare_20 ?_
  refine wm_iload d_MS_compare_21 rfl ?_
  refine wm_iadd d_MS_compare_23 ?_
  refine wm_aald6 d_MS_compare_24 h2 h4 ?_
  refine cf_MS_194 rfl d_MS_compare_25 h5 (Nat.le_of_ble_eq_true rfl) (Ci.mono h (fun x7 M6 h => ?_))
  obtain ⟨h8, hOM6, h⟩ := h
  refine wm_ireturn d_MS_compare_28 rfl rfl ?_
  exact ⟨_, rfl, h⟩
theorem d_MS_billionths_0 : decode y_MS_billionths.2.1 0 = .ok (.aload_n 0, 1) := dc9_42 (by decide +kernel)
theorem d_MS_billionths_1 : decode y_MS_billionths.2.1 1 = .ok (.getfield 10, 3) := dc9_180 (by decide +kernel)
theorem d_MS_billionths_4 : decode y_MS_billionths.2.1 4 = .ok (.aload_n 0, 1) := dc9_42 (by decide +kernel)
theorem d_MS_billionths_5 : decode y_MS_billionths.2.1 5 = .ok (.getfield 40, 3) := dc9_180 (by decide +kernel)
theorem d_MS_billionths_8 : decode y_MS_billionths.2.1 8 = .ok (.iconst 3, 1) := dc9_6 (by decide +kernel)
theorem d_MS_billionths_9 : decode y_MS_billionths.2.1 9 = .ok (.iload_n 1, 1) := dc9_27 (by decide +kernel)
theorem d_MS_billionths_10 : decode y_MS_billionths.2.1 10 = .ok (.imul, 1) := dc9_104 (by decide +kernel)
theorem d_MS_billionths_11 : decode y_MS_billionths.2.1 11 = .ok (.iload_n 2, 1) := dc9_28 (by decide +kernel)
theorem d_MS_billionths_12 : decode y_MS_billionths.2.1 12 = .ok (.iadd, 1) := dc9_96 (by decide +kernel)
theorem d_MS_billionths_13 : decode y_MS_billionths.2.1 13 = .ok (.aaload, 1) := dc9_50 (by decide +kernel)
theorem d_MS_billionths_14 : decode y_MS_billionths.2.1 14 = .ok (.invokevirtual 247, 3) := dc9_182 (by decide +kernel)
theorem d_MS_billionths_17 : decode y_MS_billionths.2.1 17 = .ok (.ireturn, 1) := dc9_172 (by decide +kernel)
theorem k_MS_billionths {G : mG} {d : Nat} {a0 : Nat} {l1 : Int} {l2 : Int} {M : mM} {Q : Int → mM → Prop} (hO : mOk M) (hi_l1 : i32 l1) (hi_l2 : i32 l2)
    (h : mK M a0 = 17 ∧ mK M (mR M a0 11) = 36 ∧ ((0 : Int) ≤ (3 * l1) + l2 ∧ (3 * l1) + l2 < (mN M (mR M a0 11) : Int)) ∧ mK M (mR M a0 0) = 18 ∧ Ci G y_MU_billionths d [vr (mR M a0 0), vr (mR M (mR M a0 11) (Int.toNat ((3 * l1) + l2)))] M (fun x6 M5 => i32 x6 ∧ mOk M5 ∧ (Q x6 M5))) :
    Ci G y_MS_billionths (d + 1) [vr a0, vi l1, vi l2] M Q := by
  refine wm_open (y := y_MS_billionths) rfl (Nat.le_of_ble_eq_true rfl) (L := [vr a0, vi l1, vi l2]) rfl ?_
  obtain ⟨h1, h⟩ := h
  obtain ⟨h2, h⟩ := h
  obtain ⟨h3, h⟩ := h
  obtain ⟨h4, h⟩ := h
  refine wm_aload_n d_MS_billionths_0 rfl rfl ?_
  refine gf_MS_10 rfl d_MS_billionths_1 h1 ?_
  refine wm_aload_n d_MS_billionths_4 rfl rfl ?_
  refine gf_MS_40 rfl d_MS_billionths_5 h1 ?_
  refine wm_iconst d_MS_billionths_8 ?_
  refine wm_iload_n d_MS_billionths_9 rfl rfl ?_
  refine wm_imul d_MS_billionths_10 ?_
  refine wm_iload_n d_MS_billionths_11 rfl rfl ?_
  refine wm_iadd d_MS_billionths_12 ?_
  refine wm_aald6 d_MS_billionths_13 h2 h3 ?_
  refine cf_MS_247 rfl d_MS_billionths_14 h4 (Nat.le_of_ble_eq_true rfl) (Ci.mono h (fun x6 M5 h => ?_))
  obtain ⟨h7, hOM5, h⟩ := h
  refine wm_ireturn d_MS_billionths_17 rfl rfl ?_
  exact ⟨_, rfl, h⟩
theorem d_MS_say_0 : decode y_MS_say.2.1 0 = .ok (.aload_n 0, 1) := dc9_42 (by decide +kernel)
theorem d_MS_say_1 : decode y_MS_say.2.1 1 = .ok (.getfield 10, 3) := dc9_180 (by decide +kernel)
theorem d_MS_say_4 : decode y_MS_say.2.1 4 = .ok (.aload_n 1, 1) := dc9_43 (by decide +kernel)
theorem d_MS_say_5 : decode y_MS_say.2.1 5 = .ok (.aload_n 0, 1) := dc9_42 (by decide +kernel)
theorem d_MS_say_6 : decode y_MS_say.2.1 6 = .ok (.getfield 100, 3) := dc9_180 (by decide +kernel)
theorem d_MS_say_9 : decode y_MS_say.2.1 9 = .ok (.invokevirtual 251, 3) := dc9_182 (by decide +kernel)
theorem d_MS_say_12 : decode y_MS_say.2.1 12 = .ok (.istore 4, 2) := dc9_54 (by decide +kernel)
theorem d_MS_say_14 : decode y_MS_say.2.1 14 = .ok (.iconst 0, 1) := dc9_3 (by decide +kernel)
theorem d_MS_say_15 : decode y_MS_say.2.1 15 = .ok (.istore 5, 2) := dc9_54 (by decide +kernel)
theorem d_MS_say_17 : decode y_MS_say.2.1 17 = .ok (.iload 5, 2) := dc9_21 (by decide +kernel)
theorem d_MS_say_19 : decode y_MS_say.2.1 19 = .ok (.iload 4, 2) := dc9_21 (by decide +kernel)
theorem d_MS_say_21 : decode y_MS_say.2.1 21 = .ok (.if_icmp .ge 30, 3) := dc9_162 (by decide +kernel)
theorem d_MS_say_51 : decode y_MS_say.2.1 51 = .ok (.iload_n 3, 1) := dc9_29 (by decide +kernel)
theorem d_MS_say_52 : decode y_MS_say.2.1 52 = .ok (.iload 4, 2) := dc9_21 (by decide +kernel)
theorem d_MS_say_54 : decode y_MS_say.2.1 54 = .ok (.iadd, 1) := dc9_96 (by decide +kernel)
theorem d_MS_say_55 : decode y_MS_say.2.1 55 = .ok (.ireturn, 1) := dc9_172 (by decide +kernel)
theorem d_MS_say_24 : decode y_MS_say.2.1 24 = .ok (.aload_n 2, 1) := dc9_44 (by decide +kernel)
theorem d_MS_say_25 : decode y_MS_say.2.1 25 = .ok (.iload_n 3, 1) := dc9_29 (by decide +kernel)
theorem d_MS_say_26 : decode y_MS_say.2.1 26 = .ok (.iload 5, 2) := dc9_21 (by decide +kernel)
theorem d_MS_say_28 : decode y_MS_say.2.1 28 = .ok (.iadd, 1) := dc9_96 (by decide +kernel)
theorem d_MS_say_29 : decode y_MS_say.2.1 29 = .ok (.bipush 48, 2) := dc9_16 (by decide +kernel)
theorem d_MS_say_31 : decode y_MS_say.2.1 31 = .ok (.aload_n 0, 1) := dc9_42 (by decide +kernel)
theorem d_MS_say_32 : decode y_MS_say.2.1 32 = .ok (.getfield 100, 3) := dc9_180 (by decide +kernel)
theorem d_MS_say_35 : decode y_MS_say.2.1 35 = .ok (.iload 4, 2) := dc9_21 (by decide +kernel)
theorem d_MS_say_37 : decode y_MS_say.2.1 37 = .ok (.iconst 1, 1) := dc9_4 (by decide +kernel)
theorem d_MS_say_38 : decode y_MS_say.2.1 38 = .ok (.isub, 1) := dc9_100 (by decide +kernel)
theorem d_MS_say_39 : decode y_MS_say.2.1 39 = .ok (.iload 5, 2) := dc9_21 (by decide +kernel)
theorem d_MS_say_41 : decode y_MS_say.2.1 41 = .ok (.isub, 1) := dc9_100 (by decide +kernel)
theorem d_MS_say_42 : decode y_MS_say.2.1 42 = .ok (.iaload, 1) := dc9_46 (by decide +kernel)
theorem d_MS_say_43 : decode y_MS_say.2.1 43 = .ok (.iadd, 1) := dc9_96 (by decide +kernel)
theorem d_MS_say_44 : decode y_MS_say.2.1 44 = .ok (.iastore, 1) := dc9_79 (by decide +kernel)
theorem d_MS_say_45 : decode y_MS_say.2.1 45 = .ok (.iinc 5 1, 3) := by decide +kernel
theorem d_MS_say_48 : decode y_MS_say.2.1 48 = .ok (.goto (-31), 3) := dc9_167 (by decide +kernel)
def h_MS_say_17 (G : mG) (d : Nat) (a0 : Nat) (a2 : Nat) (l3 : Int) (l4 : Int) (l5 : Int) (M : mM) (Q : Int → mM → Prop) : Prop := mWm G y_MS_say (d + 1) 17 [vr a0, vd, vr a2, vi l3, vi l4, vi l5] [] M (fun r9 M9 => ∃ x9, r9 = some (vi x9) ∧ Q x9 M9)
theorem k_MS_say {G : mG} {d : Nat} {a0 : Nat} {a1 : Nat} {a2 : Nat} {l3 : Int} {M : mM} {Q : Int → mM → Prop} (hO : mOk M) (hi_l3 : i32 l3)
    (h : mK M a0 = 17 ∧ mK M (mR M a0 0) = 18 ∧ Ci G y_MU_digits d [vr (mR M a0 0), vr a1, vr (mR M a0 31)] M (fun x4 M3 => i32 x4 ∧ mOk M3 ∧ (h_MS_say_17 G d a0 a2 l3 x4 0 M3 Q))) :
    Ci G y_MS_say (d + 1) [vr a0, vr a1, vr a2, vi l3] M Q := by
  refine wm_open (y := y_MS_say) rfl (Nat.le_of_ble_eq_true rfl) (L := [vr a0, vr a1, vr a2, vi l3, vd, vd]) rfl ?_
  obtain ⟨h1, h⟩ := h
  obtain ⟨h2, h⟩ := h
  refine wm_aload_n d_MS_say_0 rfl rfl ?_
  refine gf_MS_10 rfl d_MS_say_1 h1 ?_
  refine wm_aload_n d_MS_say_4 rfl rfl ?_
  refine wm_aload_n d_MS_say_5 rfl rfl ?_
  refine gf_MS_100 rfl d_MS_say_6 h1 ?_
  refine cf_MS_251 rfl d_MS_say_9 h2 (Nat.le_of_ble_eq_true rfl) (Ci.mono h (fun x4 M3 h => ?_))
  obtain ⟨h5, hOM3, h⟩ := h
  refine wm_istore d_MS_say_12 (by decide) (L' := [vr a0, vr a1, vr a2, vi l3, vi x4, vd]) rfl ?_
  refine wm_iconst d_MS_say_14 ?_
  refine wm_istore d_MS_say_15 (by decide) (L' := [vr a0, vr a1, vr a2, vi l3, vi x4, vi 0]) rfl ?_
  refine wm_less (L' := [vr a0, vd, vr a2, vi l3, vi x4, vi 0]) ⟨Or.inr rfl, Or.inl rfl, Or.inr rfl, Or.inr rfl, Or.inr rfl, Or.inr rfl, trivial⟩ ?_
  exact h
theorem k_MS_say_17 {G : mG} {d : Nat} {a0 : Nat} {a2 : Nat} {l3 : Int} {l4 : Int} {l5 : Int} {M : mM} {Q : Int → mM → Prop} (hO : mOk M) (hi_l3 : i32 l3) (hi_l4 : i32 l4) (hi_l5 : i32 l5)
    (h : ((l4 ≤ l5) → (Q (l3 + l4) M)) ∧ (¬ (l4 ≤ l5) → (mK M a0 = 17 ∧ mK M (mR M a0 31) = 30 ∧ ((0 : Int) ≤ (l4 - 1) - l5 ∧ (l4 - 1) - l5 < (mN M (mR M a0 31) : Int)) ∧ mK M a2 = 30 ∧ ((0 : Int) ≤ l3 + l5 ∧ l3 + l5 < (mN M a2 : Int)) ∧ i32 (48 + (mI M (mR M a0 31) (Int.toNat ((l4 - 1) - l5)))) ∧ ∀ M20, M20 = mUI M a2 (Int.toNat (l3 + l5)) (48 + (mI M (mR M a0 31) (Int.toNat ((l4 - 1) - l5)))) → h_MS_say_17 G d a0 a2 l3 l4 (l5 + 1) M20 Q))) :
    h_MS_say_17 G d a0 a2 l3 l4 l5 M Q := by
  unfold h_MS_say_17
  refine wm_iload d_MS_say_17 rfl ?_
  refine wm_iload d_MS_say_19 rfl ?_
  refine wm_icmp_ge (tgt := 51) d_MS_say_21 rfl hi_l5 hi_l4 (fun c13 => ?_) (fun c13 => ?_)
  · replace h := h.1 c13
    refine wm_iload_n d_MS_say_51 rfl rfl ?_
    refine wm_iload d_MS_say_52 rfl ?_
    refine wm_iadd d_MS_say_54 ?_
    refine wm_ireturn d_MS_say_55 rfl rfl ?_
    exact ⟨_, rfl, h⟩
  · replace h := h.2 c13
    obtain ⟨h14, h⟩ := h
    obtain ⟨h15, h⟩ := h
    obtain ⟨h16, h⟩ := h
    obtain ⟨h17, h⟩ := h
    obtain ⟨h18, h⟩ := h
    obtain ⟨h19, h⟩ := h
    obtain ⟨M20, e21⟩ : ∃ M20, M20 = mUI M a2 (Int.toNat (l3 + l5)) (48 + (mI M (mR M a0 31) (Int.toNat ((l4 - 1) - l5)))) := ⟨_, rfl⟩
    replace h := h M20 e21
    refine wm_aload_n d_MS_say_24 rfl rfl ?_
    refine wm_iload_n d_MS_say_25 rfl rfl ?_
    refine wm_iload d_MS_say_26 rfl ?_
    refine wm_iadd d_MS_say_28 ?_
    refine wm_bipush d_MS_say_29 (by decide) ?_
    refine wm_aload_n d_MS_say_31 rfl rfl ?_
    refine gf_MS_100 rfl d_MS_say_32 h14 ?_
    refine wm_iload d_MS_say_35 rfl ?_
    refine wm_iconst d_MS_say_37 ?_
    refine wm_isub d_MS_say_38 ?_
    refine wm_iload d_MS_say_39 rfl ?_
    refine wm_isub d_MS_say_41 ?_
    refine wm_iald d_MS_say_42 h15 h16 ?_
    refine wm_iadd d_MS_say_43 ?_
    have hOM20 : mOk M20 := by rw [e21]; exact mOk_UI hO h19
    refine wm_iastE d_MS_say_44 h17 h18 h19 e21 ?_
    refine wm_iinc d_MS_say_45 (by decide) rfl (L' := [vr a0, vd, vr a2, vi l3, vi l4, vi (l5 + 1)]) rfl ?_
    refine wm_goto (tgt := 17) d_MS_say_48 rfl ?_
    exact h
theorem d_MS_print_0 : decode y_MS_print.2.1 0 = .ok (.aload_n 0, 1) := dc9_42 (by decide +kernel)
theorem d_MS_print_1 : decode y_MS_print.2.1 1 = .ok (.getfield 40, 3) := dc9_180 (by decide +kernel)
theorem d_MS_print_4 : decode y_MS_print.2.1 4 = .ok (.iconst 3, 1) := dc9_6 (by decide +kernel)
theorem d_MS_print_5 : decode y_MS_print.2.1 5 = .ok (.iload_n 1, 1) := dc9_27 (by decide +kernel)
theorem d_MS_print_6 : decode y_MS_print.2.1 6 = .ok (.imul, 1) := dc9_104 (by decide +kernel)
theorem d_MS_print_7 : decode y_MS_print.2.1 7 = .ok (.iload_n 2, 1) := dc9_28 (by decide +kernel)
theorem d_MS_print_8 : decode y_MS_print.2.1 8 = .ok (.iadd, 1) := dc9_96 (by decide +kernel)
theorem d_MS_print_9 : decode y_MS_print.2.1 9 = .ok (.aaload, 1) := dc9_50 (by decide +kernel)
theorem d_MS_print_10 : decode y_MS_print.2.1 10 = .ok (.astore 4, 2) := dc9_58 (by decide +kernel)
theorem d_MS_print_12 : decode y_MS_print.2.1 12 = .ok (.aload_n 0, 1) := dc9_42 (by decide +kernel)
theorem d_MS_print_13 : decode y_MS_print.2.1 13 = .ok (.aload 4, 2) := dc9_25 (by decide +kernel)
theorem d_MS_print_15 : decode y_MS_print.2.1 15 = .ok (.getfield 232, 3) := dc9_180 (by decide +kernel)
theorem d_MS_print_18 : decode y_MS_print.2.1 18 = .ok (.aload_n 3, 1) := dc9_45 (by decide +kernel)
theorem d_MS_print_19 : decode y_MS_print.2.1 19 = .ok (.iconst 0, 1) := dc9_3 (by decide +kernel)
theorem d_MS_print_20 : decode y_MS_print.2.1 20 = .ok (.invokevirtual 254, 3) := dc9_182 (by decide +kernel)
theorem d_MS_print_23 : decode y_MS_print.2.1 23 = .ok (.istore 5, 2) := dc9_54 (by decide +kernel)
theorem d_MS_print_25 : decode y_MS_print.2.1 25 = .ok (.aload 4, 2) := dc9_25 (by decide +kernel)
theorem d_MS_print_27 : decode y_MS_print.2.1 27 = .ok (.getfield 241, 3) := dc9_180 (by decide +kernel)
theorem d_MS_print_30 : decode y_MS_print.2.1 30 = .ok (.invokevirtual 258, 3) := dc9_182 (by decide +kernel)
theorem d_MS_print_33 : decode y_MS_print.2.1 33 = .ok (.ifCond .ne 25, 3) := dc9_154 (by decide +kernel)
theorem d_MS_print_36 : decode y_MS_print.2.1 36 = .ok (.aload_n 3, 1) := dc9_45 (by decide +kernel)
theorem d_MS_print_37 : decode y_MS_print.2.1 37 = .ok (.iload 5, 2) := dc9_21 (by decide +kernel)
theorem d_MS_print_39 : decode y_MS_print.2.1 39 = .ok (.bipush 47, 2) := dc9_16 (by decide +kernel)
theorem d_MS_print_41 : decode y_MS_print.2.1 41 = .ok (.iastore, 1) := dc9_79 (by decide +kernel)
theorem d_MS_print_42 : decode y_MS_print.2.1 42 = .ok (.aload_n 0, 1) := dc9_42 (by decide +kernel)
theorem d_MS_print_43 : decode y_MS_print.2.1 43 = .ok (.aload 4, 2) := dc9_25 (by decide +kernel)
theorem d_MS_print_45 : decode y_MS_print.2.1 45 = .ok (.getfield 241, 3) := dc9_180 (by decide +kernel)
theorem d_MS_print_48 : decode y_MS_print.2.1 48 = .ok (.aload_n 3, 1) := dc9_45 (by decide +kernel)
theorem d_MS_print_49 : decode y_MS_print.2.1 49 = .ok (.iload 5, 2) := dc9_21 (by decide +kernel)
theorem d_MS_print_51 : decode y_MS_print.2.1 51 = .ok (.iconst 1, 1) := dc9_4 (by decide +kernel)
theorem d_MS_print_52 : decode y_MS_print.2.1 52 = .ok (.iadd, 1) := dc9_96 (by decide +kernel)
theorem d_MS_print_53 : decode y_MS_print.2.1 53 = .ok (.invokevirtual 254, 3) := dc9_182 (by decide +kernel)
theorem d_MS_print_56 : decode y_MS_print.2.1 56 = .ok (.istore 5, 2) := dc9_54 (by decide +kernel)
theorem d_MS_print_58 : decode y_MS_print.2.1 58 = .ok (.iload 5, 2) := dc9_21 (by decide +kernel)
theorem d_MS_print_60 : decode y_MS_print.2.1 60 = .ok (.ireturn, 1) := dc9_172 (by decide +kernel)
theorem k_MS_print {G : mG} {d : Nat} {a0 : Nat} {l1 : Int} {l2 : Int} {a3 : Nat} {M : mM} {Q : Int → mM → Prop} (hO : mOk M) (hi_l1 : i32 l1) (hi_l2 : i32 l2)
    (h : mK M a0 = 17 ∧ mK M (mR M a0 11) = 36 ∧ ((0 : Int) ≤ (3 * l1) + l2 ∧ (3 * l1) + l2 < (mN M (mR M a0 11) : Int)) ∧ mK M (mR M (mR M a0 11) (Int.toNat ((3 * l1) + l2))) = 19 ∧ Ci G y_MS_say d [vr a0, vr (mR M (mR M (mR M a0 11) (Int.toNat ((3 * l1) + l2))) 0), vr a3, vi 0] M (fun x6 M5 => i32 x6 ∧ mOk M5 ∧ (mK M5 (mR M (mR M a0 11) (Int.toNat ((3 * l1) + l2))) = 19 ∧ mK M5 (mR M5 (mR M (mR M a0 11) (Int.toNat ((3 * l1) + l2))) 1) = 20 ∧ Ci G y_MW_isOne d [vr (mR M5 (mR M (mR M a0 11) (Int.toNat ((3 * l1) + l2))) 1)] M5 (fun x11 M10 => i32 x11 ∧ mOk M10 ∧ (((x11 = 0) → (mK M10 a3 = 30 ∧ ((0 : Int) ≤ x6 ∧ x6 < (mN M10 a3 : Int)) ∧ ∀ M21, M21 = mUI M10 a3 (Int.toNat x6) 47 → mK M21 (mR M (mR M a0 11) (Int.toNat ((3 * l1) + l2))) = 19 ∧ mK M21 a0 = 17 ∧ Ci G y_MS_say d [vr a0, vr (mR M21 (mR M (mR M a0 11) (Int.toNat ((3 * l1) + l2))) 1), vr a3, vi (x6 + 1)] M21 (fun x26 M25 => i32 x26 ∧ mOk M25 ∧ (Q x26 M25)))) ∧ (¬ (x11 = 0) → (Q x6 M10))))))) :
    Ci G y_MS_print (d + 1) [vr a0, vi l1, vi l2, vr a3] M Q := by
  refine wm_open (y := y_MS_print) rfl (Nat.le_of_ble_eq_true rfl) (L := [vr a0, vi l1, vi l2, vr a3, vd, vd]) rfl ?_
  obtain ⟨h1, h⟩ := h
  obtain ⟨h2, h⟩ := h
  obtain ⟨h3, h⟩ := h
  obtain ⟨h4, h⟩ := h
  refine wm_aload_n d_MS_print_0 rfl rfl ?_
  refine gf_MS_40 rfl d_MS_print_1 h1 ?_
  refine wm_iconst d_MS_print_4 ?_
  refine wm_iload_n d_MS_print_5 rfl rfl ?_
  refine wm_imul d_MS_print_6 ?_
  refine wm_iload_n d_MS_print_7 rfl rfl ?_
  refine wm_iadd d_MS_print_8 ?_
  refine wm_aald6 d_MS_print_9 h2 h3 ?_
  refine wm_astore d_MS_print_10 (by decide) (L' := [vr a0, vi l1, vi l2, vr a3, vr (mR M (mR M a0 11) (Int.toNat ((3 * l1) + l2))), vd]) rfl ?_
  refine wm_aload_n d_MS_print_12 rfl rfl ?_
  refine wm_aload d_MS_print_13 rfl ?_
  refine gf_MS_232 rfl d_MS_print_15 h4 ?_
  refine wm_aload_n d_MS_print_18 rfl rfl ?_
  refine wm_iconst d_MS_print_19 ?_
  refine cf_MS_254 rfl d_MS_print_20 h1 (Nat.le_of_ble_eq_true rfl) (Ci.mono h (fun x6 M5 h => ?_))
  obtain ⟨h7, hOM5, h⟩ := h
  obtain ⟨h8, h⟩ := h
  obtain ⟨h9, h⟩ := h
  refine wm_istore d_MS_print_23 (by decide) (L' := [vr a0, vi l1, vi l2, vr a3, vr (mR M (mR M a0 11) (Int.toNat ((3 * l1) + l2))), vi x6]) rfl ?_
  refine wm_aload d_MS_print_25 rfl ?_
  refine gf_MS_241 rfl d_MS_print_27 h8 ?_
  refine cf_MS_258 rfl d_MS_print_30 h9 (Nat.le_of_ble_eq_true rfl) (Ci.mono h (fun x11 M10 h => ?_))
  obtain ⟨h12, hOM10, h⟩ := h
  refine wm_if_ne (tgt := 58) d_MS_print_33 rfl h12 (fun c18 => ?_) (fun c18 => ?_)
  · replace h := h.2 c18
    refine wm_iload d_MS_print_58 rfl ?_
    refine wm_ireturn d_MS_print_60 rfl rfl ?_
    exact ⟨_, rfl, h⟩
  · replace c18 := Classical.not_not.mp c18
    replace h := h.1 c18
    obtain ⟨h19, h⟩ := h
    obtain ⟨h20, h⟩ := h
    obtain ⟨M21, e22⟩ : ∃ M21, M21 = mUI M10 a3 (Int.toNat x6) 47 := ⟨_, rfl⟩
    replace h := h M21 e22
    obtain ⟨h23, h⟩ := h
    obtain ⟨h24, h⟩ := h
    refine wm_aload_n d_MS_print_36 rfl rfl ?_
    refine wm_iload d_MS_print_37 rfl ?_
    refine wm_bipush d_MS_print_39 (by decide) ?_
    have hOM21 : mOk M21 := by rw [e22]; exact mOk_UI hOM10 ⟨by decide, by decide⟩
    refine wm_iastE d_MS_print_41 h19 h20 ⟨by decide, by decide⟩ e22 ?_
    refine wm_aload_n d_MS_print_42 rfl rfl ?_
    refine wm_aload d_MS_print_43 rfl ?_
    refine gf_MS_241 rfl d_MS_print_45 h23 ?_
    refine wm_aload_n d_MS_print_48 rfl rfl ?_
    refine wm_iload d_MS_print_49 rfl ?_
    refine wm_iconst d_MS_print_51 ?_
    refine wm_iadd d_MS_print_52 ?_
    refine cf_MS_254 rfl d_MS_print_53 h24 (Nat.le_of_ble_eq_true rfl) (Ci.mono h (fun x26 M25 h => ?_))
    obtain ⟨h27, hOM25, h⟩ := h
    refine wm_istore d_MS_print_56 (by decide) (L' := [vr a0, vi l1, vi l2, vr a3, vr (mR M (mR M a0 11) (Int.toNat ((3 * l1) + l2))), vi x26]) rfl ?_
    refine wm_iload d_MS_print_58 rfl ?_
    refine wm_ireturn d_MS_print_60 rfl rfl ?_
    exact ⟨_, rfl, h⟩
theorem d_MS_tell_0 : decode y_MS_tell.2.1 0 = .ok (.aload_n 0, 1) := dc9_42 (by decide +kernel)
theorem d_MS_tell_1 : decode y_MS_tell.2.1 1 = .ok (.getfield 51, 3) := dc9_180 (by decide +kernel)
theorem d_MS_tell_4 : decode y_MS_tell.2.1 4 = .ok (.iload_n 1, 1) := dc9_27 (by decide +kernel)
theorem d_MS_tell_5 : decode y_MS_tell.2.1 5 = .ok (.iload_n 2, 1) := dc9_28 (by decide +kernel)
theorem d_MS_tell_6 : decode y_MS_tell.2.1 6 = .ok (.iastore, 1) := dc9_79 (by decide +kernel)
theorem d_MS_tell_7 : decode y_MS_tell.2.1 7 = .ok (.return_, 1) := dc9_177 (by decide +kernel)
theorem k_MS_tell {G : mG} {d : Nat} {a0 : Nat} {l1 : Int} {l2 : Int} {M : mM} {Q : mM → Prop} (hO : mOk M) (hi_l1 : i32 l1) (hi_l2 : i32 l2)
    (h : mK M a0 = 17 ∧ mK M (mR M a0 14) = 30 ∧ ((0 : Int) ≤ l1 ∧ l1 < (mN M (mR M a0 14) : Int)) ∧ ∀ M4, M4 = mUI M (mR M a0 14) (Int.toNat l1) l2 → Q M4) :
    Cv G y_MS_tell d [vr a0, vi l1, vi l2] M Q := by
  refine wm_open (y := y_MS_tell) rfl (Nat.le_of_ble_eq_true rfl) (L := [vr a0, vi l1, vi l2]) rfl ?_
  obtain ⟨h1, h⟩ := h
  obtain ⟨h2, h⟩ := h
  obtain ⟨h3, h⟩ := h
  obtain ⟨M4, e5⟩ : ∃ M4, M4 = mUI M (mR M a0 14) (Int.toNat l1) l2 := ⟨_, rfl⟩
  replace h := h M4 e5
  refine wm_aload_n d_MS_tell_0 rfl rfl ?_
  refine gf_MS_51 rfl d_MS_tell_1 h1 ?_
  refine wm_iload_n d_MS_tell_4 rfl rfl ?_
  refine wm_iload_n d_MS_tell_5 rfl rfl ?_
  have hOM4 : mOk M4 := by rw [e5]; exact mOk_UI hO hi_l2
  refine wm_iastE d_MS_tell_6 h2 h3 hi_l2 e5 ?_
  refine wm_return d_MS_tell_7 rfl ?_
  exact ⟨rfl, h⟩
theorem d_MS_adopt_0 : decode y_MS_adopt.2.1 0 = .ok (.iconst 0, 1) := dc9_3 (by decide +kernel)
theorem d_MS_adopt_1 : decode y_MS_adopt.2.1 1 = .ok (.istore_n 1, 1) := dc9_60 (by decide +kernel)
theorem d_MS_adopt_2 : decode y_MS_adopt.2.1 2 = .ok (.iload_n 1, 1) := dc9_27 (by decide +kernel)
theorem d_MS_adopt_3 : decode y_MS_adopt.2.1 3 = .ok (.aload_n 0, 1) := dc9_42 (by decide +kernel)
theorem d_MS_adopt_4 : decode y_MS_adopt.2.1 4 = .ok (.getfield 103, 3) := dc9_180 (by decide +kernel)
theorem d_MS_adopt_7 : decode y_MS_adopt.2.1 7 = .ok (.if_icmp .ge 33, 3) := dc9_162 (by decide +kernel)
theorem d_MS_adopt_40 : decode y_MS_adopt.2.1 40 = .ok (.return_, 1) := dc9_177 (by decide +kernel)
theorem d_MS_adopt_10 : decode y_MS_adopt.2.1 10 = .ok (.aload_n 0, 1) := dc9_42 (by decide +kernel)
theorem d_MS_adopt_11 : decode y_MS_adopt.2.1 11 = .ok (.getfield 51, 3) := dc9_180 (by decide +kernel)
theorem d_MS_adopt_14 : decode y_MS_adopt.2.1 14 = .ok (.iload_n 1, 1) := dc9_27 (by decide +kernel)
theorem d_MS_adopt_15 : decode y_MS_adopt.2.1 15 = .ok (.aload_n 0, 1) := dc9_42 (by decide +kernel)
theorem d_MS_adopt_16 : decode y_MS_adopt.2.1 16 = .ok (.iload_n 1, 1) := dc9_27 (by decide +kernel)
theorem d_MS_adopt_17 : decode y_MS_adopt.2.1 17 = .ok (.invokevirtual 116, 3) := dc9_182 (by decide +kernel)
theorem d_MS_adopt_20 : decode y_MS_adopt.2.1 20 = .ok (.ifCond .ne 7, 3) := dc9_154 (by decide +kernel)
theorem d_MS_adopt_23 : decode y_MS_adopt.2.1 23 = .ok (.iconst 0, 1) := dc9_3 (by decide +kernel)
theorem d_MS_adopt_24 : decode y_MS_adopt.2.1 24 = .ok (.goto 9, 3) := dc9_167 (by decide +kernel)
theorem d_MS_adopt_27 : decode y_MS_adopt.2.1 27 = .ok (.aload_n 0, 1) := dc9_42 (by decide +kernel)
theorem d_MS_adopt_28 : decode y_MS_adopt.2.1 28 = .ok (.getfield 54, 3) := dc9_180 (by decide +kernel)
theorem d_MS_adopt_31 : decode y_MS_adopt.2.1 31 = .ok (.iload_n 1, 1) := dc9_27 (by decide +kernel)
theorem d_MS_adopt_32 : decode y_MS_adopt.2.1 32 = .ok (.iaload, 1) := dc9_46 (by decide +kernel)
theorem d_MS_adopt_33 : decode y_MS_adopt.2.1 33 = .ok (.iastore, 1) := dc9_79 (by decide +kernel)
theorem d_MS_adopt_34 : decode y_MS_adopt.2.1 34 = .ok (.iinc 1 1, 3) := by decide +kernel
theorem d_MS_adopt_37 : decode y_MS_adopt.2.1 37 = .ok (.goto (-35), 3) := dc9_167 (by decide +kernel)
def h_MS_adopt_2 (G : mG) (d : Nat) (a0 : Nat) (l1 : Int) (M : mM) (Q : mM → Prop) : Prop := mWm G y_MS_adopt (d + 1) 2 [vr a0, vi l1] [] M (fun r9 M9 => r9 = none ∧ Q M9)
theorem k_MS_adopt {G : mG} {d : Nat} {a0 : Nat} {M : mM} {Q : mM → Prop} (hO : mOk M)
    (h : h_MS_adopt_2 G d a0 0 M Q) :
    Cv G y_MS_adopt (d + 1) [vr a0] M Q := by
  refine wm_open (y := y_MS_adopt) rfl (Nat.le_of_ble_eq_true rfl) (L := [vr a0, vd]) rfl ?_
  refine wm_iconst d_MS_adopt_0 ?_
  refine wm_istore_n d_MS_adopt_1 rfl (by decide) (L' := [vr a0, vi 0]) rfl ?_
  exact h
theorem k_MS_adopt_2 {G : mG} {d : Nat} {a0 : Nat} {l1 : Int} {M : mM} {Q : mM → Prop} (hO : mOk M) (hi_l1 : i32 l1)
    (h : mK M a0 = 17 ∧ ((mI M a0 1 ≤ l1) → (Q M)) ∧ (¬ (mI M a0 1 ≤ l1) → (Ci G y_MS_many d [vr a0, vi l1] M (fun x5 M4 => i32 x5 ∧ mOk M4 ∧ ((¬ (x5 = 0) → (mK M4 a0 = 17 ∧ mK M4 (mR M4 a0 15) = 30 ∧ ((0 : Int) ≤ l1 ∧ l1 < (mN M4 (mR M4 a0 15) : Int)))) ∧ ∀ v11 : Int, v11 = (if (x5 = 0) then 0 else mI M4 (mR M4 a0 15) (Int.toNat l1)) → mK M4 (mR M a0 14) = 30 ∧ ((0 : Int) ≤ l1 ∧ l1 < (mN M4 (mR M a0 14) : Int)) ∧ i32 v11 ∧ ∀ M17, M17 = mUI M4 (mR M a0 14) (Int.toNat l1) v11 → h_MS_adopt_2 G d a0 (l1 + 1) M17 Q))))) :
    h_MS_adopt_2 G d a0 l1 M Q := by
  unfold h_MS_adopt_2
  obtain ⟨h1, h⟩ := h
  refine wm_iload_n d_MS_adopt_2 rfl rfl ?_
  refine wm_aload_n d_MS_adopt_3 rfl rfl ?_
  refine gf_MS_103 rfl d_MS_adopt_4 h1 ?_
  refine wm_icmp_ge (tgt := 40) d_MS_adopt_7 rfl hi_l1 (hO _ _).1 (fun c3 => ?_) (fun c3 => ?_)
  · replace h := h.1 c3
    refine wm_return d_MS_adopt_40 rfl ?_
    exact ⟨rfl, h⟩
  · replace h := h.2 c3
    refine wm_aload_n d_MS_adopt_10 rfl rfl ?_
    refine gf_MS_51 rfl d_MS_adopt_11 h1 ?_
    refine wm_iload_n d_MS_adopt_14 rfl rfl ?_
    refine wm_aload_n d_MS_adopt_15 rfl rfl ?_
    refine wm_iload_n d_MS_adopt_16 rfl rfl ?_
    refine cf_MS_116 rfl d_MS_adopt_17 h1 (Nat.le_of_ble_eq_true rfl) (Ci.mono h (fun x5 M4 h => ?_))
    obtain ⟨h6, hOM4, h⟩ := h
    obtain ⟨s12, h⟩ := h
    have hJ : ∀ v11 : Int, v11 = (if (x5 = 0) then 0 else mI M4 (mR M4 a0 15) (Int.toNat l1)) → mWm G y_MS_adopt (d + 1) 33 [vr a0, vi l1] [vi v11, vi l1, vr (mR M a0 14)] M4 (fun r9 M9 => r9 = none ∧ Q M9) := by
      intro v11 e13
      have h := h v11 e13
      obtain ⟨h14, h⟩ := h
      obtain ⟨h15, h⟩ := h
      obtain ⟨h16, h⟩ := h
      obtain ⟨M17, e18⟩ : ∃ M17, M17 = mUI M4 (mR M a0 14) (Int.toNat l1) v11 := ⟨_, rfl⟩
      replace h := h M17 e18
      have hOM17 : mOk M17 := by rw [e18]; exact mOk_UI hOM4 h16
      refine wm_iastE d_MS_adopt_33 h14 h15 h16 e18 ?_
      refine wm_iinc d_MS_adopt_34 (by decide) rfl (L' := [vr a0, vi (l1 + 1)]) rfl ?_
      refine wm_goto (tgt := 2) d_MS_adopt_37 rfl ?_
      exact h
    clear h
    have s19 := s12
    refine wm_if_ne (tgt := 27) d_MS_adopt_20 rfl h6 (fun c7 => ?_) (fun c7 => ?_)
    · have s19 := s19 c7
      obtain ⟨h8, h9, h10⟩ := s19
      refine wm_aload_n d_MS_adopt_27 rfl rfl ?_
      refine gf_MS_54 rfl d_MS_adopt_28 h8 ?_
      refine wm_iload_n d_MS_adopt_31 rfl rfl ?_
      refine wm_iald d_MS_adopt_32 h9 h10 ?_
      exact hJ (mI M4 (mR M4 a0 15) (Int.toNat l1)) (if_neg c7).symm
    · replace c7 := Classical.not_not.mp c7
      refine wm_iconst d_MS_adopt_23 ?_
      refine wm_goto (tgt := 33) d_MS_adopt_24 rfl ?_
      exact hJ 0 (if_pos c7).symm
theorem d_MS_hasValues_0 : decode y_MS_hasValues.2.1 0 = .ok (.aload_n 0, 1) := dc9_42 (by decide +kernel)
theorem d_MS_hasValues_1 : decode y_MS_hasValues.2.1 1 = .ok (.getfield 44, 3) := dc9_180 (by decide +kernel)
theorem d_MS_hasValues_4 : decode y_MS_hasValues.2.1 4 = .ok (.iconst 0, 1) := dc9_3 (by decide +kernel)
theorem d_MS_hasValues_5 : decode y_MS_hasValues.2.1 5 = .ok (.baload, 1) := dc9_51 (by decide +kernel)
theorem d_MS_hasValues_6 : decode y_MS_hasValues.2.1 6 = .ok (.ireturn, 1) := dc9_172 (by decide +kernel)
theorem k_MS_hasValues {G : mG} {d : Nat} {a0 : Nat} {M : mM} {Q : Int → mM → Prop} (hO : mOk M)
    (h : mK M a0 = 17 ∧ mK M (mR M a0 12) = 31 ∧ ((0 : Int) ≤ 0 ∧ 0 < (mN M (mR M a0 12) : Int)) ∧ ((mI M (mR M a0 12) 0) = 0 ∨ (mI M (mR M a0 12) 0) = 1) ∧ Q (mI M (mR M a0 12) 0) M) :
    Ci G y_MS_hasValues d [vr a0] M Q := by
  refine wm_open (y := y_MS_hasValues) rfl (Nat.le_of_ble_eq_true rfl) (L := [vr a0]) rfl ?_
  obtain ⟨h1, h⟩ := h
  obtain ⟨h2, h⟩ := h
  obtain ⟨h3, h⟩ := h
  obtain ⟨h4, h⟩ := h
  refine wm_aload_n d_MS_hasValues_0 rfl rfl ?_
  refine gf_MS_44 rfl d_MS_hasValues_1 h1 ?_
  refine wm_iconst d_MS_hasValues_4 ?_
  refine wm_zald d_MS_hasValues_5 h2 h3 ?_
  refine wm_ireturn d_MS_hasValues_6 rfl (m_nb h4) ?_
  exact ⟨_, rfl, h⟩
theorem d_MS_choiceOf_0 : decode y_MS_choiceOf.2.1 0 = .ok (.aload_n 0, 1) := dc9_42 (by decide +kernel)
theorem d_MS_choiceOf_1 : decode y_MS_choiceOf.2.1 1 = .ok (.getfield 54, 3) := dc9_180 (by decide +kernel)
theorem d_MS_choiceOf_4 : decode y_MS_choiceOf.2.1 4 = .ok (.iload_n 1, 1) := dc9_27 (by decide +kernel)
theorem d_MS_choiceOf_5 : decode y_MS_choiceOf.2.1 5 = .ok (.iaload, 1) := dc9_46 (by decide +kernel)
theorem d_MS_choiceOf_6 : decode y_MS_choiceOf.2.1 6 = .ok (.ireturn, 1) := dc9_172 (by decide +kernel)
theorem k_MS_choiceOf {G : mG} {d : Nat} {a0 : Nat} {l1 : Int} {M : mM} {Q : Int → mM → Prop} (hO : mOk M) (hi_l1 : i32 l1)
    (h : mK M a0 = 17 ∧ mK M (mR M a0 15) = 30 ∧ ((0 : Int) ≤ l1 ∧ l1 < (mN M (mR M a0 15) : Int)) ∧ Q (mI M (mR M a0 15) (Int.toNat l1)) M) :
    Ci G y_MS_choiceOf d [vr a0, vi l1] M Q := by
  refine wm_open (y := y_MS_choiceOf) rfl (Nat.le_of_ble_eq_true rfl) (L := [vr a0, vi l1]) rfl ?_
  obtain ⟨h1, h⟩ := h
  obtain ⟨h2, h⟩ := h
  obtain ⟨h3, h⟩ := h
  refine wm_aload_n d_MS_choiceOf_0 rfl rfl ?_
  refine gf_MS_54 rfl d_MS_choiceOf_1 h1 ?_
  refine wm_iload_n d_MS_choiceOf_4 rfl rfl ?_
  refine wm_iald d_MS_choiceOf_5 h2 h3 ?_
  refine wm_ireturn d_MS_choiceOf_6 rfl rfl ?_
  exact ⟨_, rfl, h⟩
theorem d_MS_rankOf_0 : decode y_MS_rankOf.2.1 0 = .ok (.aload_n 0, 1) := dc9_42 (by decide +kernel)
theorem d_MS_rankOf_1 : decode y_MS_rankOf.2.1 1 = .ok (.getfield 57, 3) := dc9_180 (by decide +kernel)
theorem d_MS_rankOf_4 : decode y_MS_rankOf.2.1 4 = .ok (.iload_n 1, 1) := dc9_27 (by decide +kernel)
theorem d_MS_rankOf_5 : decode y_MS_rankOf.2.1 5 = .ok (.iaload, 1) := dc9_46 (by decide +kernel)
theorem d_MS_rankOf_6 : decode y_MS_rankOf.2.1 6 = .ok (.ireturn, 1) := dc9_172 (by decide +kernel)
theorem k_MS_rankOf {G : mG} {d : Nat} {a0 : Nat} {l1 : Int} {M : mM} {Q : Int → mM → Prop} (hO : mOk M) (hi_l1 : i32 l1)
    (h : mK M a0 = 17 ∧ mK M (mR M a0 16) = 30 ∧ ((0 : Int) ≤ l1 ∧ l1 < (mN M (mR M a0 16) : Int)) ∧ Q (mI M (mR M a0 16) (Int.toNat l1)) M) :
    Ci G y_MS_rankOf d [vr a0, vi l1] M Q := by
  refine wm_open (y := y_MS_rankOf) rfl (Nat.le_of_ble_eq_true rfl) (L := [vr a0, vi l1]) rfl ?_
  obtain ⟨h1, h⟩ := h
  obtain ⟨h2, h⟩ := h
  obtain ⟨h3, h⟩ := h
  refine wm_aload_n d_MS_rankOf_0 rfl rfl ?_
  refine gf_MS_57 rfl d_MS_rankOf_1 h1 ?_
  refine wm_iload_n d_MS_rankOf_4 rfl rfl ?_
  refine wm_iald d_MS_rankOf_5 h2 h3 ?_
  refine wm_ireturn d_MS_rankOf_6 rfl rfl ?_
  exact ⟨_, rfl, h⟩
theorem d_MS_nextOf_0 : decode y_MS_nextOf.2.1 0 = .ok (.aload_n 0, 1) := dc9_42 (by decide +kernel)
theorem d_MS_nextOf_1 : decode y_MS_nextOf.2.1 1 = .ok (.iload_n 1, 1) := dc9_27 (by decide +kernel)
theorem d_MS_nextOf_2 : decode y_MS_nextOf.2.1 2 = .ok (.invokevirtual 116, 3) := dc9_182 (by decide +kernel)
theorem d_MS_nextOf_5 : decode y_MS_nextOf.2.1 5 = .ok (.ifCond .ne 5, 3) := dc9_154 (by decide +kernel)
theorem d_MS_nextOf_8 : decode y_MS_nextOf.2.1 8 = .ok (.iload_n 1, 1) := dc9_27 (by decide +kernel)
theorem d_MS_nextOf_9 : decode y_MS_nextOf.2.1 9 = .ok (.ireturn, 1) := dc9_172 (by decide +kernel)
theorem d_MS_nextOf_10 : decode y_MS_nextOf.2.1 10 = .ok (.aload_n 0, 1) := dc9_42 (by decide +kernel)
theorem d_MS_nextOf_11 : decode y_MS_nextOf.2.1 11 = .ok (.getfield 20, 3) := dc9_180 (by decide +kernel)
theorem d_MS_nextOf_14 : decode y_MS_nextOf.2.1 14 = .ok (.iload_n 1, 1) := dc9_27 (by decide +kernel)
theorem d_MS_nextOf_15 : decode y_MS_nextOf.2.1 15 = .ok (.iaload, 1) := dc9_46 (by decide +kernel)
theorem d_MS_nextOf_16 : decode y_MS_nextOf.2.1 16 = .ok (.aload_n 0, 1) := dc9_42 (by decide +kernel)
theorem d_MS_nextOf_17 : decode y_MS_nextOf.2.1 17 = .ok (.getfield 51, 3) := dc9_180 (by decide +kernel)
theorem d_MS_nextOf_20 : decode y_MS_nextOf.2.1 20 = .ok (.iload_n 1, 1) := dc9_27 (by decide +kernel)
theorem d_MS_nextOf_21 : decode y_MS_nextOf.2.1 21 = .ok (.iaload, 1) := dc9_46 (by decide +kernel)
theorem d_MS_nextOf_22 : decode y_MS_nextOf.2.1 22 = .ok (.iadd, 1) := dc9_96 (by decide +kernel)
theorem d_MS_nextOf_23 : decode y_MS_nextOf.2.1 23 = .ok (.istore_n 3, 1) := dc9_62 (by decide +kernel)
theorem d_MS_nextOf_24 : decode y_MS_nextOf.2.1 24 = .ok (.aload_n 0, 1) := dc9_42 (by decide +kernel)
theorem d_MS_nextOf_25 : decode y_MS_nextOf.2.1 25 = .ok (.getfield 23, 3) := dc9_180 (by decide +kernel)
theorem d_MS_nextOf_28 : decode y_MS_nextOf.2.1 28 = .ok (.iload_n 3, 1) := dc9_29 (by decide +kernel)
theorem d_MS_nextOf_29 : decode y_MS_nextOf.2.1 29 = .ok (.iaload, 1) := dc9_46 (by decide +kernel)
theorem d_MS_nextOf_30 : decode y_MS_nextOf.2.1 30 = .ok (.i2l, 1) := dc9_133 (by decide +kernel)
theorem d_MS_nextOf_31 : decode y_MS_nextOf.2.1 31 = .ok (.lstore 4, 2) := dc9_55 (by decide +kernel)
theorem d_MS_nextOf_33 : decode y_MS_nextOf.2.1 33 = .ok (.lconst 0, 1) := dc9_9 (by decide +kernel)
theorem d_MS_nextOf_34 : decode y_MS_nextOf.2.1 34 = .ok (.lstore 6, 2) := dc9_55 (by decide +kernel)
theorem d_MS_nextOf_36 : decode y_MS_nextOf.2.1 36 = .ok (.aload_n 0, 1) := dc9_42 (by decide +kernel)
theorem d_MS_nextOf_37 : decode y_MS_nextOf.2.1 37 = .ok (.getfield 26, 3) := dc9_180 (by decide +kernel)
theorem d_MS_nextOf_40 : decode y_MS_nextOf.2.1 40 = .ok (.iload_n 3, 1) := dc9_29 (by decide +kernel)
theorem d_MS_nextOf_41 : decode y_MS_nextOf.2.1 41 = .ok (.iaload, 1) := dc9_46 (by decide +kernel)
theorem d_MS_nextOf_42 : decode y_MS_nextOf.2.1 42 = .ok (.iconst 1, 1) := dc9_4 (by decide +kernel)
theorem d_MS_nextOf_43 : decode y_MS_nextOf.2.1 43 = .ok (.isub, 1) := dc9_100 (by decide +kernel)
theorem d_MS_nextOf_44 : decode y_MS_nextOf.2.1 44 = .ok (.istore 8, 2) := dc9_54 (by decide +kernel)
theorem d_MS_nextOf_46 : decode y_MS_nextOf.2.1 46 = .ok (.iinc 8 1, 3) := by decide +kernel
theorem d_MS_nextOf_49 : decode y_MS_nextOf.2.1 49 = .ok (.lload 6, 2) := dc9_22 (by decide +kernel)
theorem d_MS_nextOf_51 : decode y_MS_nextOf.2.1 51 = .ok (.aload_n 0, 1) := dc9_42 (by decide +kernel)
theorem d_MS_nextOf_52 : decode y_MS_nextOf.2.1 52 = .ok (.getfield 32, 3) := dc9_180 (by decide +kernel)
theorem d_MS_nextOf_55 : decode y_MS_nextOf.2.1 55 = .ok (.iload 8, 2) := dc9_21 (by decide +kernel)
theorem d_MS_nextOf_57 : decode y_MS_nextOf.2.1 57 = .ok (.iaload, 1) := dc9_46 (by decide +kernel)
theorem d_MS_nextOf_58 : decode y_MS_nextOf.2.1 58 = .ok (.i2l, 1) := dc9_133 (by decide +kernel)
theorem d_MS_nextOf_59 : decode y_MS_nextOf.2.1 59 = .ok (.lload 4, 2) := dc9_22 (by decide +kernel)
theorem d_MS_nextOf_61 : decode y_MS_nextOf.2.1 61 = .ok (.aload_n 0, 1) := dc9_42 (by decide +kernel)
theorem d_MS_nextOf_62 : decode y_MS_nextOf.2.1 62 = .ok (.getfield 35, 3) := dc9_180 (by decide +kernel)
theorem d_MS_nextOf_65 : decode y_MS_nextOf.2.1 65 = .ok (.iload 8, 2) := dc9_21 (by decide +kernel)
theorem d_MS_nextOf_67 : decode y_MS_nextOf.2.1 67 = .ok (.iaload, 1) := dc9_46 (by decide +kernel)
theorem d_MS_nextOf_68 : decode y_MS_nextOf.2.1 68 = .ok (.i2l, 1) := dc9_133 (by decide +kernel)
theorem d_MS_nextOf_69 : decode y_MS_nextOf.2.1 69 = .ok (.ldiv, 1) := dc9_109 (by decide +kernel)
theorem d_MS_nextOf_70 : decode y_MS_nextOf.2.1 70 = .ok (.lmul, 1) := dc9_105 (by decide +kernel)
theorem d_MS_nextOf_71 : decode y_MS_nextOf.2.1 71 = .ok (.ladd, 1) := dc9_97 (by decide +kernel)
theorem d_MS_nextOf_72 : decode y_MS_nextOf.2.1 72 = .ok (.lstore 6, 2) := dc9_55 (by decide +kernel)
theorem d_MS_nextOf_74 : decode y_MS_nextOf.2.1 74 = .ok (.lload 6, 2) := dc9_22 (by decide +kernel)
theorem d_MS_nextOf_76 : decode y_MS_nextOf.2.1 76 = .ok (.ldc2_w 261, 3) := dc9_20 (by decide +kernel)
theorem d_MS_nextOf_79 : decode y_MS_nextOf.2.1 79 = .ok (.lmul, 1) := dc9_105 (by decide +kernel)
theorem d_MS_nextOf_80 : decode y_MS_nextOf.2.1 80 = .ok (.iload_n 2, 1) := dc9_28 (by decide +kernel)
theorem d_MS_nextOf_81 : decode y_MS_nextOf.2.1 81 = .ok (.i2l, 1) := dc9_133 (by decide +kernel)
theorem d_MS_nextOf_82 : decode y_MS_nextOf.2.1 82 = .ok (.lload 4, 2) := dc9_22 (by decide +kernel)
theorem d_MS_nextOf_84 : decode y_MS_nextOf.2.1 84 = .ok (.lmul, 1) := dc9_105 (by decide +kernel)
theorem d_MS_nextOf_85 : decode y_MS_nextOf.2.1 85 = .ok (.lcmp, 1) := dc9_148 (by decide +kernel)
theorem d_MS_nextOf_86 : decode y_MS_nextOf.2.1 86 = .ok (.ifCond .le (-40), 3) := dc9_158 (by decide +kernel)
theorem d_MS_nextOf_89 : decode y_MS_nextOf.2.1 89 = .ok (.aload_n 0, 1) := dc9_42 (by decide +kernel)
theorem d_MS_nextOf_90 : decode y_MS_nextOf.2.1 90 = .ok (.getfield 29, 3) := dc9_180 (by decide +kernel)
theorem d_MS_nextOf_93 : decode y_MS_nextOf.2.1 93 = .ok (.iload 8, 2) := dc9_21 (by decide +kernel)
theorem d_MS_nextOf_95 : decode y_MS_nextOf.2.1 95 = .ok (.iaload, 1) := dc9_46 (by decide +kernel)
theorem d_MS_nextOf_96 : decode y_MS_nextOf.2.1 96 = .ok (.ireturn, 1) := dc9_172 (by decide +kernel)
def h_MS_nextOf_46 (G : mG) (d : Nat) (a0 : Nat) (l2 : Int) (j4 : Int) (j6 : Int) (l8 : Int) (M : mM) (Q : Int → mM → Prop) : Prop := mWm G y_MS_nextOf (d + 1) 46 [vr a0, vd, vi l2, vd, vl j4, vd, vl j6, vd, vi l8] [] M (fun r9 M9 => ∃ x9, r9 = some (vi x9) ∧ Q x9 M9)
theorem k_MS_nextOf {G : mG} {d : Nat} {a0 : Nat} {l1 : Int} {l2 : Int} {M : mM} {Q : Int → mM → Prop} (hO : mOk M) (hi_l1 : i32 l1) (hi_l2 : i32 l2)
    (h : mK M a0 = 17 ∧ Ci G y_MS_many d [vr a0, vi l1] M (fun x3 M2 => i32 x3 ∧ mOk M2 ∧ (((x3 = 0) → (Q l1 M2)) ∧ (¬ (x3 = 0) → (mK M2 a0 = 17 ∧ mK M2 (mR M2 a0 5) = 30 ∧ ((0 : Int) ≤ l1 ∧ l1 < (mN M2 (mR M2 a0 5) : Int)) ∧ mK M2 (mR M2 a0 14) = 30 ∧ ((0 : Int) ≤ l1 ∧ l1 < (mN M2 (mR M2 a0 14) : Int)) ∧ mK M2 (mR M2 a0 6) = 30 ∧ ((0 : Int) ≤ (mI M2 (mR M2 a0 5) (Int.toNat l1)) + (mI M2 (mR M2 a0 14) (Int.toNat l1)) ∧ (mI M2 (mR M2 a0 5) (Int.toNat l1)) + (mI M2 (mR M2 a0 14) (Int.toNat l1)) < (mN M2 (mR M2 a0 6) : Int)) ∧ mK M2 (mR M2 a0 7) = 30 ∧ ((0 : Int) ≤ (mI M2 (mR M2 a0 5) (Int.toNat l1)) + (mI M2 (mR M2 a0 14) (Int.toNat l1)) ∧ (mI M2 (mR M2 a0 5) (Int.toNat l1)) + (mI M2 (mR M2 a0 14) (Int.toNat l1)) < (mN M2 (mR M2 a0 7) : Int)) ∧ h_MS_nextOf_46 G d a0 l2 (mI M2 (mR M2 a0 6) (Int.toNat ((mI M2 (mR M2 a0 5) (Int.toNat l1)) + (mI M2 (mR M2 a0 14) (Int.toNat l1))))) 0 ((mI M2 (mR M2 a0 7) (Int.toNat ((mI M2 (mR M2 a0 5) (Int.toNat l1)) + (mI M2 (mR M2 a0 14) (Int.toNat l1))))) - 1) M2 Q))))) :
    Ci G y_MS_nextOf (d + 1) [vr a0, vi l1, vi l2] M Q := by
  refine wm_open (y := y_MS_nextOf) rfl (Nat.le_of_ble_eq_true rfl) (L := [vr a0, vi l1, vi l2, vd, vd, vd, vd, vd, vd]) rfl ?_
  obtain ⟨h1, h⟩ := h
  refine wm_aload_n d_MS_nextOf_0 rfl rfl ?_
  refine wm_iload_n d_MS_nextOf_1 rfl rfl ?_
  refine cf_MS_116 rfl d_MS_nextOf_2 h1 (Nat.le_of_ble_eq_true rfl) (Ci.mono h (fun x3 M2 h => ?_))
  obtain ⟨h4, hOM2, h⟩ := h
  refine wm_if_ne (tgt := 10) d_MS_nextOf_5 rfl h4 (fun c15 => ?_) (fun c15 => ?_)
  · replace h := h.2 c15
    obtain ⟨h16, h⟩ := h
    obtain ⟨h17, h⟩ := h
    obtain ⟨h18, h⟩ := h
    obtain ⟨h19, h⟩ := h
    obtain ⟨h20, h⟩ := h
    obtain ⟨h21, h⟩ := h
    obtain ⟨h22, h⟩ := h
    obtain ⟨h23, h⟩ := h
    obtain ⟨h24, h⟩ := h
    refine wm_aload_n d_MS_nextOf_10 rfl rfl ?_
    refine gf_MS_20 rfl d_MS_nextOf_11 h16 ?_
    refine wm_iload_n d_MS_nextOf_14 rfl rfl ?_
    refine wm_iald d_MS_nextOf_15 h17 h18 ?_
    refine wm_aload_n d_MS_nextOf_16 rfl rfl ?_
    refine gf_MS_51 rfl d_MS_nextOf_17 h16 ?_
    refine wm_iload_n d_MS_nextOf_20 rfl rfl ?_
    refine wm_iald d_MS_nextOf_21 h19 h20 ?_
    refine wm_iadd d_MS_nextOf_22 ?_
    refine wm_istore_n d_MS_nextOf_23 rfl (by decide) (L' := [vr a0, vi l1, vi l2, vi ((mI M2 (mR M2 a0 5) (Int.toNat l1)) + (mI M2 (mR M2 a0 14) (Int.toNat l1))), vd, vd, vd, vd, vd]) rfl ?_
    refine wm_aload_n d_MS_nextOf_24 rfl rfl ?_
    refine gf_MS_23 rfl d_MS_nextOf_25 h16 ?_
    refine wm_iload_n d_MS_nextOf_28 rfl rfl ?_
    refine wm_iald d_MS_nextOf_29 h21 h22 ?_
    refine wm_i2l d_MS_nextOf_30 (hOM2 _ _).1 ?_
    refine wm_lstore d_MS_nextOf_31 (by decide) (L' := [vr a0, vi l1, vi l2, vi ((mI M2 (mR M2 a0 5) (Int.toNat l1)) + (mI M2 (mR M2 a0 14) (Int.toNat l1))), vl (mI M2 (mR M2 a0 6) (Int.toNat ((mI M2 (mR M2 a0 5) (Int.toNat l1)) + (mI M2 (mR M2 a0 14) (Int.toNat l1))))), vd, vd, vd, vd]) rfl ?_
    refine wm_lconst (x := 0) d_MS_nextOf_33 rfl ?_
    refine wm_lstore d_MS_nextOf_34 (by decide) (L' := [vr a0, vi l1, vi l2, vi ((mI M2 (mR M2 a0 5) (Int.toNat l1)) + (mI M2 (mR M2 a0 14) (Int.toNat l1))), vl (mI M2 (mR M2 a0 6) (Int.toNat ((mI M2 (mR M2 a0 5) (Int.toNat l1)) + (mI M2 (mR M2 a0 14) (Int.toNat l1))))), vd, vl 0, vd, vd]) rfl ?_
    refine wm_aload_n d_MS_nextOf_36 rfl rfl ?_
    refine gf_MS_26 rfl d_MS_nextOf_37 h16 ?_
    refine wm_iload_n d_MS_nextOf_40 rfl rfl ?_
    refine wm_iald d_MS_nextOf_41 h23 h24 ?_
    refine wm_iconst d_MS_nextOf_42 ?_
    refine wm_isub d_MS_nextOf_43 ?_
    refine wm_istore d_MS_nextOf_44 (by decide) (L' := [vr a0, vi l1, vi l2, vi ((mI M2 (mR M2 a0 5) (Int.toNat l1)) + (mI M2 (mR M2 a0 14) (Int.toNat l1))), vl (mI M2 (mR M2 a0 6) (Int.toNat ((mI M2 (mR M2 a0 5) (Int.toNat l1)) + (mI M2 (mR M2 a0 14) (Int.toNat l1))))), vd, vl 0, vd, vi ((mI M2 (mR M2 a0 7) (Int.toNat ((mI M2 (mR M2 a0 5) (Int.toNat l1)) + (mI M2 (mR M2 a0 14) (Int.toNat l1))))) - 1)]) rfl ?_
    refine wm_less (L' := [vr a0, vd, vi l2, vd, vl (mI M2 (mR M2 a0 6) (Int.toNat ((mI M2 (mR M2 a0 5) (Int.toNat l1)) + (mI M2 (mR M2 a0 14) (Int.toNat l1))))), vd, vl 0, vd, vi ((mI M2 (mR M2 a0 7) (Int.toNat ((mI M2 (mR M2 a0 5) (Int.toNat l1)) + (mI M2 (mR M2 a0 14) (Int.toNat l1))))) - 1)]) ⟨Or.inr rfl, Or.inl rfl, Or.inr rfl, Or.inl rfl, Or.inr rfl, Or.inl rfl, Or.inr rfl, Or.inl rfl, Or.inr rfl, trivial⟩ ?_
    exact h
  · replace c15 := Classical.not_not.mp c15
    replace h := h.1 c15
    refine wm_iload_n d_MS_nextOf_8 rfl rfl ?_
    refine wm_ireturn d_MS_nextOf_9 rfl rfl ?_
    exact ⟨_, rfl, h⟩
theorem k_MS_nextOf_46 {G : mG} {d : Nat} {a0 : Nat} {l2 : Int} {j4 : Int} {j6 : Int} {l8 : Int} {M : mM} {Q : Int → mM → Prop} (hO : mOk M) (hi_l2 : i32 l2) (hi_j4 : i64 j4) (hi_j6 : i64 j6) (hi_l8 : i32 l8)
    (h : mK M a0 = 17 ∧ mK M (mR M a0 9) = 30 ∧ ((0 : Int) ≤ l8 + 1 ∧ l8 + 1 < (mN M (mR M a0 9) : Int)) ∧ mK M (mR M a0 10) = 30 ∧ ((0 : Int) ≤ l8 + 1 ∧ l8 + 1 < (mN M (mR M a0 10) : Int)) ∧ (mI M (mR M a0 10) (Int.toNat (l8 + 1))) ≠ 0 ∧ i64 ((j6 + ((mI M (mR M a0 9) (Int.toNat (l8 + 1))) * (Int.tdiv j4 (mI M (mR M a0 10) (Int.toNat (l8 + 1)))))) * 2147483648) ∧ i64 (l2 * j4) ∧ ((cmpL ((j6 + ((mI M (mR M a0 9) (Int.toNat (l8 + 1))) * (Int.tdiv j4 (mI M (mR M a0 10) (Int.toNat (l8 + 1)))))) * 2147483648) (l2 * j4) ≤ 0) → (h_MS_nextOf_46 G d a0 l2 j4 (j6 + ((mI M (mR M a0 9) (Int.toNat (l8 + 1))) * (Int.tdiv j4 (mI M (mR M a0 10) (Int.toNat (l8 + 1)))))) (l8 + 1) M Q)) ∧ (¬ (cmpL ((j6 + ((mI M (mR M a0 9) (Int.toNat (l8 + 1))) * (Int.tdiv j4 (mI M (mR M a0 10) (Int.toNat (l8 + 1)))))) * 2147483648) (l2 * j4) ≤ 0) → (mK M (mR M a0 8) = 30 ∧ ((0 : Int) ≤ l8 + 1 ∧ l8 + 1 < (mN M (mR M a0 8) : Int)) ∧ Q (mI M (mR M a0 8) (Int.toNat (l8 + 1))) M))) :
    h_MS_nextOf_46 G d a0 l2 j4 j6 l8 M Q := by
  unfold h_MS_nextOf_46
  obtain ⟨h25, h⟩ := h
  obtain ⟨h26, h⟩ := h
  obtain ⟨h27, h⟩ := h
  obtain ⟨h28, h⟩ := h
  obtain ⟨h29, h⟩ := h
  obtain ⟨h30, h⟩ := h
  obtain ⟨h31, h⟩ := h
  obtain ⟨h32, h⟩ := h
  refine wm_iinc d_MS_nextOf_46 (by decide) rfl (L' := [vr a0, vd, vi l2, vd, vl j4, vd, vl j6, vd, vi (l8 + 1)]) rfl ?_
  refine wm_lload d_MS_nextOf_49 rfl ?_
  refine wm_aload_n d_MS_nextOf_51 rfl rfl ?_
  refine gf_MS_32 rfl d_MS_nextOf_52 h25 ?_
  refine wm_iload d_MS_nextOf_55 rfl ?_
  refine wm_iald d_MS_nextOf_57 h26 h27 ?_
  refine wm_i2l d_MS_nextOf_58 (hO _ _).1 ?_
  refine wm_lload d_MS_nextOf_59 rfl ?_
  refine wm_aload_n d_MS_nextOf_61 rfl rfl ?_
  refine gf_MS_35 rfl d_MS_nextOf_62 h25 ?_
  refine wm_iload d_MS_nextOf_65 rfl ?_
  refine wm_iald d_MS_nextOf_67 h28 h29 ?_
  refine wm_i2l d_MS_nextOf_68 (hO _ _).1 ?_
  refine wm_ldiv d_MS_nextOf_69 hi_j4 (i64_of32 (hO _ _).1) h30 ?_
  refine wm_lmul d_MS_nextOf_70 ?_
  refine wm_ladd d_MS_nextOf_71 ?_
  refine wm_lstore d_MS_nextOf_72 (by decide) (L' := [vr a0, vd, vi l2, vd, vl j4, vd, vl (j6 + ((mI M (mR M a0 9) (Int.toNat (l8 + 1))) * (Int.tdiv j4 (mI M (mR M a0 10) (Int.toNat (l8 + 1)))))), vd, vi (l8 + 1)]) rfl ?_
  refine wm_lload d_MS_nextOf_74 rfl ?_
  refine wm_ldc2 (x := 2147483648) d_MS_nextOf_76 k14_22 (by decide) ?_
  refine wm_lmul d_MS_nextOf_79 ?_
  refine wm_iload_n d_MS_nextOf_80 rfl rfl ?_
  refine wm_i2l d_MS_nextOf_81 hi_l2 ?_
  refine wm_lload d_MS_nextOf_82 rfl ?_
  refine wm_lmul d_MS_nextOf_84 ?_
  refine wm_lcmp d_MS_nextOf_85 h31 h32 ?_
  refine wm_if_le (tgt := 46) d_MS_nextOf_86 rfl (m_cmp32 _ _) (fun c36 => ?_) (fun c36 => ?_)
  · replace h := h.1 c36
    exact h
  · replace h := h.2 c36
    obtain ⟨h37, h⟩ := h
    obtain ⟨h38, h⟩ := h
    refine wm_aload_n d_MS_nextOf_89 rfl rfl ?_
    refine gf_MS_29 rfl d_MS_nextOf_90 h25 ?_
    refine wm_iload d_MS_nextOf_93 rfl ?_
    refine wm_iald d_MS_nextOf_95 h37 h38 ?_
    refine wm_ireturn d_MS_nextOf_96 rfl rfl ?_
    exact ⟨_, rfl, h⟩
theorem d_MU_init_0 : decode y_MU_init.2.1 0 = .ok (.aload_n 0, 1) := dc9_42 (by decide +kernel)
theorem d_MU_init_1 : decode y_MU_init.2.1 1 = .ok (.invokespecial 1, 3) := dc9_183 (by decide +kernel)
theorem d_MU_init_4 : decode y_MU_init.2.1 4 = .ok (.aload_n 0, 1) := dc9_42 (by decide +kernel)
theorem d_MU_init_5 : decode y_MU_init.2.1 5 = .ok (.new 7, 3) := dc9_187 (by decide +kernel)
theorem d_MU_init_8 : decode y_MU_init.2.1 8 = .ok (.dup, 1) := dc9_89 (by decide +kernel)
theorem d_MU_init_9 : decode y_MU_init.2.1 9 = .ok (.sipush 900, 3) := dc9_17 (by decide +kernel)
theorem d_MU_init_12 : decode y_MU_init.2.1 12 = .ok (.invokespecial 11, 3) := dc9_183 (by decide +kernel)
theorem d_MU_init_15 : decode y_MU_init.2.1 15 = .ok (.putfield 14, 3) := dc9_181 (by decide +kernel)
theorem d_MU_init_18 : decode y_MU_init.2.1 18 = .ok (.aload_n 0, 1) := dc9_42 (by decide +kernel)
theorem d_MU_init_19 : decode y_MU_init.2.1 19 = .ok (.new 7, 3) := dc9_187 (by decide +kernel)
theorem d_MU_init_22 : decode y_MU_init.2.1 22 = .ok (.dup, 1) := dc9_89 (by decide +kernel)
theorem d_MU_init_23 : decode y_MU_init.2.1 23 = .ok (.sipush 900, 3) := dc9_17 (by decide +kernel)
theorem d_MU_init_26 : decode y_MU_init.2.1 26 = .ok (.invokespecial 11, 3) := dc9_183 (by decide +kernel)
theorem d_MU_init_29 : decode y_MU_init.2.1 29 = .ok (.putfield 18, 3) := dc9_181 (by decide +kernel)
theorem d_MU_init_32 : decode y_MU_init.2.1 32 = .ok (.aload_n 0, 1) := dc9_42 (by decide +kernel)
theorem d_MU_init_33 : decode y_MU_init.2.1 33 = .ok (.new 21, 3) := dc9_187 (by decide +kernel)
theorem d_MU_init_36 : decode y_MU_init.2.1 36 = .ok (.dup, 1) := dc9_89 (by decide +kernel)
theorem d_MU_init_37 : decode y_MU_init.2.1 37 = .ok (.sipush 900, 3) := dc9_17 (by decide +kernel)
theorem d_MU_init_40 : decode y_MU_init.2.1 40 = .ok (.invokespecial 23, 3) := dc9_183 (by decide +kernel)
theorem d_MU_init_43 : decode y_MU_init.2.1 43 = .ok (.putfield 24, 3) := dc9_181 (by decide +kernel)
theorem d_MU_init_46 : decode y_MU_init.2.1 46 = .ok (.aload_n 0, 1) := dc9_42 (by decide +kernel)
theorem d_MU_init_47 : decode y_MU_init.2.1 47 = .ok (.new 21, 3) := dc9_187 (by decide +kernel)
theorem d_MU_init_50 : decode y_MU_init.2.1 50 = .ok (.dup, 1) := dc9_89 (by decide +kernel)
theorem d_MU_init_51 : decode y_MU_init.2.1 51 = .ok (.sipush 900, 3) := dc9_17 (by decide +kernel)
theorem d_MU_init_54 : decode y_MU_init.2.1 54 = .ok (.invokespecial 23, 3) := dc9_183 (by decide +kernel)
theorem d_MU_init_57 : decode y_MU_init.2.1 57 = .ok (.putfield 28, 3) := dc9_181 (by decide +kernel)
theorem d_MU_init_60 : decode y_MU_init.2.1 60 = .ok (.aload_n 0, 1) := dc9_42 (by decide +kernel)
theorem d_MU_init_61 : decode y_MU_init.2.1 61 = .ok (.new 21, 3) := dc9_187 (by decide +kernel)
theorem d_MU_init_64 : decode y_MU_init.2.1 64 = .ok (.dup, 1) := dc9_89 (by decide +kernel)
theorem d_MU_init_65 : decode y_MU_init.2.1 65 = .ok (.sipush 900, 3) := dc9_17 (by decide +kernel)
theorem d_MU_init_68 : decode y_MU_init.2.1 68 = .ok (.invokespecial 23, 3) := dc9_183 (by decide +kernel)
theorem d_MU_init_71 : decode y_MU_init.2.1 71 = .ok (.putfield 31, 3) := dc9_181 (by decide +kernel)
theorem d_MU_init_74 : decode y_MU_init.2.1 74 = .ok (.aload_n 0, 1) := dc9_42 (by decide +kernel)
theorem d_MU_init_75 : decode y_MU_init.2.1 75 = .ok (.new 21, 3) := dc9_187 (by decide +kernel)
theorem d_MU_init_78 : decode y_MU_init.2.1 78 = .ok (.dup, 1) := dc9_89 (by decide +kernel)
theorem d_MU_init_79 : decode y_MU_init.2.1 79 = .ok (.sipush 900, 3) := dc9_17 (by decide +kernel)
theorem d_MU_init_82 : decode y_MU_init.2.1 82 = .ok (.invokespecial 23, 3) := dc9_183 (by decide +kernel)
theorem d_MU_init_85 : decode y_MU_init.2.1 85 = .ok (.putfield 34, 3) := dc9_181 (by decide +kernel)
theorem d_MU_init_88 : decode y_MU_init.2.1 88 = .ok (.aload_n 0, 1) := dc9_42 (by decide +kernel)
theorem d_MU_init_89 : decode y_MU_init.2.1 89 = .ok (.new 21, 3) := dc9_187 (by decide +kernel)
theorem d_MU_init_92 : decode y_MU_init.2.1 92 = .ok (.dup, 1) := dc9_89 (by decide +kernel)
theorem d_MU_init_93 : decode y_MU_init.2.1 93 = .ok (.sipush 900, 3) := dc9_17 (by decide +kernel)
theorem d_MU_init_96 : decode y_MU_init.2.1 96 = .ok (.invokespecial 23, 3) := dc9_183 (by decide +kernel)
theorem d_MU_init_99 : decode y_MU_init.2.1 99 = .ok (.putfield 37, 3) := dc9_181 (by decide +kernel)
theorem d_MU_init_102 : decode y_MU_init.2.1 102 = .ok (.return_, 1) := dc9_177 (by decide +kernel)
theorem k_MU_init {G : mG} {d : Nat} {a0 : Nat} {M : mM} {Q : mM → Prop} (hO : mOk M)
    (h : 0 < a0 ∧ ∀ M2, M2 = mNew M 19 0 3 → Cv G y_MF_init d [vr (mZ M), vi 900] M2 (fun M4 => mOk M4 ∧ (mK M4 a0 = 18 ∧ ∀ M8, M8 = mUR M4 a0 0 (mZ M) → ∀ M10, M10 = mNew M8 19 0 3 → Cv G y_MF_init d [vr (mZ M8), vi 900] M10 (fun M12 => mOk M12 ∧ (mK M12 a0 = 18 ∧ ∀ M16, M16 = mUR M12 a0 1 (mZ M8) → ∀ M18, M18 = mNew M16 20 0 2 → Cv G y_MW_init d [vr (mZ M16), vi 900] M18 (fun M20 => mOk M20 ∧ (mK M20 a0 = 18 ∧ ∀ M24, M24 = mUR M20 a0 2 (mZ M16) → ∀ M26, M26 = mNew M24 20 0 2 → Cv G y_MW_init d [vr (mZ M24), vi 900] M26 (fun M28 => mOk M28 ∧ (mK M28 a0 = 18 ∧ ∀ M32, M32 = mUR M28 a0 3 (mZ M24) → ∀ M34, M34 = mNew M32 20 0 2 → Cv G y_MW_init d [vr (mZ M32), vi 900] M34 (fun M36 => mOk M36 ∧ (mK M36 a0 = 18 ∧ ∀ M40, M40 = mUR M36 a0 4 (mZ M32) → ∀ M42, M42 = mNew M40 20 0 2 → Cv G y_MW_init d [vr (mZ M40), vi 900] M42 (fun M44 => mOk M44 ∧ (mK M44 a0 = 18 ∧ ∀ M48, M48 = mUR M44 a0 5 (mZ M40) → ∀ M50, M50 = mNew M48 20 0 2 → Cv G y_MW_init d [vr (mZ M48), vi 900] M50 (fun M52 => mOk M52 ∧ (mK M52 a0 = 18 ∧ ∀ M56, M56 = mUR M52 a0 6 (mZ M48) → Q M56))))))))))))))) :
    Cv G y_MU_init (d + 1) [vr a0] M Q := by
  refine wm_open (y := y_MU_init) rfl (Nat.le_of_ble_eq_true rfl) (L := [vr a0]) rfl ?_
  obtain ⟨h1, h⟩ := h
  obtain ⟨M2, e3⟩ : ∃ M2, M2 = mNew M 19 0 3 := ⟨_, rfl⟩
  replace h := h M2 e3
  refine wm_aload_n d_MU_init_0 rfl rfl ?_
  refine wm_objInit trivial k9_156 kO_inst kO_code (Nat.le_of_ble_eq_true rfl) d_MU_init_1 h1 ?_
  refine wm_aload_n d_MU_init_4 rfl rfl ?_
  have hOM2 : mOk M2 := by rw [e3]; exact mOk_New hO
  refine nf_MU_7 rfl d_MU_init_5 e3 ?_
  refine wm_dup d_MU_init_8 rfl ?_
  refine wm_sipush d_MU_init_9 (by decide) ?_
  refine cf_MU_11 rfl d_MU_init_12 (by rw [e3]; exact if_pos rfl) (Nat.le_of_ble_eq_true rfl) (Cv.mono h (fun M4 h => ?_))
  obtain ⟨hOM4, h⟩ := h
  obtain ⟨h7, h⟩ := h
  obtain ⟨M8, e9⟩ : ∃ M8, M8 = mUR M4 a0 0 (mZ M) := ⟨_, rfl⟩
  replace h := h M8 e9
  obtain ⟨M10, e11⟩ : ∃ M10, M10 = mNew M8 19 0 3 := ⟨_, rfl⟩
  replace h := h M10 e11
  have hOM8 : mOk M8 := by rw [e9]; exact mOk_UR hOM4
  refine pf_MU_14 rfl rfl d_MU_init_15 h7 e9 ?_
  refine wm_aload_n d_MU_init_18 rfl rfl ?_
  have hOM10 : mOk M10 := by rw [e11]; exact mOk_New hOM8
  refine nf_MU_7 rfl d_MU_init_19 e11 ?_
  refine wm_dup d_MU_init_22 rfl ?_
  refine wm_sipush d_MU_init_23 (by decide) ?_
  refine cf_MU_11 rfl d_MU_init_26 (by rw [e11]; exact if_pos rfl) (Nat.le_of_ble_eq_true rfl) (Cv.mono h (fun M12 h => ?_))
  obtain ⟨hOM12, h⟩ := h
  obtain ⟨h15, h⟩ := h
  obtain ⟨M16, e17⟩ : ∃ M16, M16 = mUR M12 a0 1 (mZ M8) := ⟨_, rfl⟩
  replace h := h M16 e17
  obtain ⟨M18, e19⟩ : ∃ M18, M18 = mNew M16 20 0 2 := ⟨_, rfl⟩
  replace h := h M18 e19
  have hOM16 : mOk M16 := by rw [e17]; exact mOk_UR hOM12
  refine pf_MU_18 rfl rfl d_MU_init_29 h15 e17 ?_
  refine wm_aload_n d_MU_init_32 rfl rfl ?_
  have hOM18 : mOk M18 := by rw [e19]; exact mOk_New hOM16
  refine nf_MU_21 rfl d_MU_init_33 e19 ?_
  refine wm_dup d_MU_init_36 rfl ?_
  refine wm_sipush d_MU_init_37 (by decide) ?_
  refine cf_MU_23 rfl d_MU_init_40 (by rw [e19]; exact if_pos rfl) (Nat.le_of_ble_eq_true rfl) (Cv.mono h (fun M20 h => ?_))
  obtain ⟨hOM20, h⟩ := h
  obtain ⟨h23, h⟩ := h
  obtain ⟨M24, e25⟩ : ∃ M24, M24 = mUR M20 a0 2 (mZ M16) := ⟨_, rfl⟩
  replace h := h M24 e25
  obtain ⟨M26, e27⟩ : ∃ M26, M26 = mNew M24 20 0 2 := ⟨_, rfl⟩
  replace h := h M26 e27
  have hOM24 : mOk M24 := by rw [e25]; exact mOk_UR hOM20
  refine pf_MU_24 rfl rfl d_MU_init_43 h23 e25 ?_
  refine wm_aload_n d_MU_init_46 rfl rfl ?_
  have hOM26 : mOk M26 := by rw [e27]; exact mOk_New hOM24
  refine nf_MU_21 rfl d_MU_init_47 e27 ?_
  refine wm_dup d_MU_init_50 rfl ?_
  refine wm_sipush d_MU_init_51 (by decide) ?_
  refine cf_MU_23 rfl d_MU_init_54 (by rw [e27]; exact if_pos rfl) (Nat.le_of_ble_eq_true rfl) (Cv.mono h (fun M28 h => ?_))
  obtain ⟨hOM28, h⟩ := h
  obtain ⟨h31, h⟩ := h
  obtain ⟨M32, e33⟩ : ∃ M32, M32 = mUR M28 a0 3 (mZ M24) := ⟨_, rfl⟩
  replace h := h M32 e33
  obtain ⟨M34, e35⟩ : ∃ M34, M34 = mNew M32 20 0 2 := ⟨_, rfl⟩
  replace h := h M34 e35
  have hOM32 : mOk M32 := by rw [e33]; exact mOk_UR hOM28
  refine pf_MU_28 rfl rfl d_MU_init_57 h31 e33 ?_
  refine wm_aload_n d_MU_init_60 rfl rfl ?_
  have hOM34 : mOk M34 := by rw [e35]; exact mOk_New hOM32
  refine nf_MU_21 rfl d_MU_init_61 e35 ?_
  refine wm_dup d_MU_init_64 rfl ?_
  refine wm_sipush d_MU_init_65 (by decide) ?_
  refine cf_MU_23 rfl d_MU_init_68 (by rw [e35]; exact if_pos rfl) (Nat.le_of_ble_eq_true rfl) (Cv.mono h (fun M36 h => ?_))
  obtain ⟨hOM36, h⟩ := h
  obtain ⟨h39, h⟩ := h
  obtain ⟨M40, e41⟩ : ∃ M40, M40 = mUR M36 a0 4 (mZ M32) := ⟨_, rfl⟩
  replace h := h M40 e41
  obtain ⟨M42, e43⟩ : ∃ M42, M42 = mNew M40 20 0 2 := ⟨_, rfl⟩
  replace h := h M42 e43
  have hOM40 : mOk M40 := by rw [e41]; exact mOk_UR hOM36
  refine pf_MU_31 rfl rfl d_MU_init_71 h39 e41 ?_
  refine wm_aload_n d_MU_init_74 rfl rfl ?_
  have hOM42 : mOk M42 := by rw [e43]; exact mOk_New hOM40
  refine nf_MU_21 rfl d_MU_init_75 e43 ?_
  refine wm_dup d_MU_init_78 rfl ?_
  refine wm_sipush d_MU_init_79 (by decide) ?_
  refine cf_MU_23 rfl d_MU_init_82 (by rw [e43]; exact if_pos rfl) (Nat.le_of_ble_eq_true rfl) (Cv.mono h (fun M44 h => ?_))
  obtain ⟨hOM44, h⟩ := h
  obtain ⟨h47, h⟩ := h
  obtain ⟨M48, e49⟩ : ∃ M48, M48 = mUR M44 a0 5 (mZ M40) := ⟨_, rfl⟩
  replace h := h M48 e49
  obtain ⟨M50, e51⟩ : ∃ M50, M50 = mNew M48 20 0 2 := ⟨_, rfl⟩
  replace h := h M50 e51
  have hOM48 : mOk M48 := by rw [e49]; exact mOk_UR hOM44
  refine pf_MU_34 rfl rfl d_MU_init_85 h47 e49 ?_
  refine wm_aload_n d_MU_init_88 rfl rfl ?_
  have hOM50 : mOk M50 := by rw [e51]; exact mOk_New hOM48
  refine nf_MU_21 rfl d_MU_init_89 e51 ?_
  refine wm_dup d_MU_init_92 rfl ?_
  refine wm_sipush d_MU_init_93 (by decide) ?_
  refine cf_MU_23 rfl d_MU_init_96 (by rw [e51]; exact if_pos rfl) (Nat.le_of_ble_eq_true rfl) (Cv.mono h (fun M52 h => ?_))
  obtain ⟨hOM52, h⟩ := h
  obtain ⟨h55, h⟩ := h
  obtain ⟨M56, e57⟩ : ∃ M56, M56 = mUR M52 a0 6 (mZ M48) := ⟨_, rfl⟩
  replace h := h M56 e57
  have hOM56 : mOk M56 := by rw [e57]; exact mOk_UR hOM52
  refine pf_MU_37 rfl rfl d_MU_init_99 h55 e57 ?_
  refine wm_return d_MU_init_102 rfl ?_
  exact ⟨rfl, h⟩
theorem d_MU_bring_0 : decode y_MU_bring.2.1 0 = .ok (.aload_n 0, 1) := dc9_42 (by decide +kernel)
theorem d_MU_bring_1 : decode y_MU_bring.2.1 1 = .ok (.invokevirtual 40, 3) := dc9_182 (by decide +kernel)
theorem d_MU_bring_4 : decode y_MU_bring.2.1 4 = .ok (.ifCond .eq 19, 3) := dc9_153 (by decide +kernel)
theorem d_MU_bring_23 : decode y_MU_bring.2.1 23 = .ok (.aload_n 0, 1) := dc9_42 (by decide +kernel)
theorem d_MU_bring_24 : decode y_MU_bring.2.1 24 = .ok (.iload_n 1, 1) := dc9_27 (by decide +kernel)
theorem d_MU_bring_7 : decode y_MU_bring.2.1 7 = .ok (.aload_n 0, 1) := dc9_42 (by decide +kernel)
theorem d_MU_bring_8 : decode y_MU_bring.2.1 8 = .ok (.iload_n 1, 1) := dc9_27 (by decide +kernel)
theorem d_MU_bring_25 : decode y_MU_bring.2.1 25 = .ok (.invokevirtual 48, 3) := dc9_182 (by decide +kernel)
theorem d_MU_bring_28 : decode y_MU_bring.2.1 28 = .ok (.return_, 1) := dc9_177 (by decide +kernel)
theorem d_MU_bring_9 : decode y_MU_bring.2.1 9 = .ok (.ifCond .eq 7, 3) := dc9_153 (by decide +kernel)
theorem d_MU_bring_16 : decode y_MU_bring.2.1 16 = .ok (.lconst 0, 1) := dc9_9 (by decide +kernel)
theorem d_MU_bring_12 : decode y_MU_bring.2.1 12 = .ok (.lconst 1, 1) := dc9_10 (by decide +kernel)
theorem d_MU_bring_13 : decode y_MU_bring.2.1 13 = .ok (.goto 4, 3) := dc9_167 (by decide +kernel)
theorem d_MU_bring_17 : decode y_MU_bring.2.1 17 = .ok (.invokevirtual 44, 3) := dc9_182 (by decide +kernel)
theorem d_MU_bring_20 : decode y_MU_bring.2.1 20 = .ok (.goto 8, 3) := dc9_167 (by decide +kernel)
theorem k_MU_bring {G : mG} {d : Nat} {a0 : Nat} {l1 : Int} {M : mM} {Q : mM → Prop} (hO : mOk M) (hi_l1 : i32 l1)
    (h : mK M a0 = 20 ∧ Ci G y_MW_isZero d [vr a0] M (fun x3 M2 => i32 x3 ∧ mOk M2 ∧ (((x3 = 0) → (mK M2 a0 = 20 ∧ Cv G y_MW_twice d [vr a0, vi l1] M2 (fun M9 => mOk M9 ∧ (Q M9)))) ∧ (¬ (x3 = 0) → (∀ v13 : Int, v13 = (if (l1 = 0) then 0 else 1) → mK M2 a0 = 20 ∧ Cv G y_MW_set d [vr a0, vl v13] M2 (fun M18 => mOk M18 ∧ (Q M18))))))) :
    Cv G y_MU_bring (d + 1) [vr a0, vi l1] M Q := by
  refine wm_open (y := y_MU_bring) rfl (Nat.le_of_ble_eq_true rfl) (L := [vr a0, vi l1]) rfl ?_
  obtain ⟨h1, h⟩ := h
  refine wm_aload_n d_MU_bring_0 rfl rfl ?_
  refine cf_MU_40 rfl d_MU_bring_1 h1 (Nat.le_of_ble_eq_true rfl) (Ci.mono h (fun x3 M2 h => ?_))
  obtain ⟨h4, hOM2, h⟩ := h
  refine wm_if_eq (tgt := 23) d_MU_bring_4 rfl h4 (fun c7 => ?_) (fun c7 => ?_)
  · replace h := h.1 c7
    obtain ⟨h8, h⟩ := h
    refine wm_aload_n d_MU_bring_23 rfl rfl ?_
    refine wm_iload_n d_MU_bring_24 rfl rfl ?_
    refine cf_MU_48 rfl d_MU_bring_25 h8 (Nat.le_of_ble_eq_true rfl) (Cv.mono h (fun M9 h => ?_))
    obtain ⟨hOM9, h⟩ := h
    refine wm_return d_MU_bring_28 rfl ?_
    exact ⟨rfl, h⟩
  · replace h := h.2 c7
    refine wm_aload_n d_MU_bring_7 rfl rfl ?_
    refine wm_iload_n d_MU_bring_8 rfl rfl ?_
    have hJ : ∀ v13 : Int, v13 = (if (l1 = 0) then 0 else 1) → mWm G y_MU_bring (d + 1) 17 [vd, vd] [vl v13, vr a0] M2 (fun r9 M9 => r9 = none ∧ Q M9) := by
      intro v13 e15
      have h := h v13 e15
      have h16 : (v13 = 0 ∨ v13 = 1) := by rw [e15]; (repeat' split) <;> decide
      obtain ⟨h17, h⟩ := h
      refine cf_MU_44 rfl d_MU_bring_17 h17 (Nat.le_of_ble_eq_true rfl) (Cv.mono h (fun M18 h => ?_))
      obtain ⟨hOM18, h⟩ := h
      refine wm_goto (tgt := 28) d_MU_bring_20 rfl ?_
      refine wm_return d_MU_bring_28 rfl ?_
      exact ⟨rfl, h⟩
    clear h
    refine wm_if_eq (tgt := 16) d_MU_bring_9 rfl hi_l1 (fun c12 => ?_) (fun c12 => ?_)
    · refine wm_lconst (x := 0) d_MU_bring_16 rfl ?_
      refine wm_less (L' := [vd, vd]) ⟨Or.inl rfl, Or.inl rfl, trivial⟩ ?_
      exact hJ 0 (if_pos c12).symm
    · refine wm_lconst (x := 1) d_MU_bring_12 rfl ?_
      refine wm_goto (tgt := 17) d_MU_bring_13 rfl ?_
      refine wm_less (L' := [vd, vd]) ⟨Or.inl rfl, Or.inl rfl, trivial⟩ ?_
      exact hJ 1 (if_neg c12).symm
theorem d_MU_divide0_0 : decode y_MU_divide0.2.1 0 = .ok (.aload_n 0, 1) := dc9_42 (by decide +kernel)
theorem d_MU_divide0_1 : decode y_MU_divide0.2.1 1 = .ok (.getfield 34, 3) := dc9_180 (by decide +kernel)
theorem d_MU_divide0_4 : decode y_MU_divide0.2.1 4 = .ok (.lconst 0, 1) := dc9_9 (by decide +kernel)
theorem d_MU_divide0_5 : decode y_MU_divide0.2.1 5 = .ok (.invokevirtual 44, 3) := dc9_182 (by decide +kernel)
theorem d_MU_divide0_8 : decode y_MU_divide0.2.1 8 = .ok (.aload_n 0, 1) := dc9_42 (by decide +kernel)
theorem d_MU_divide0_9 : decode y_MU_divide0.2.1 9 = .ok (.getfield 37, 3) := dc9_180 (by decide +kernel)
theorem d_MU_divide0_12 : decode y_MU_divide0.2.1 12 = .ok (.lconst 0, 1) := dc9_9 (by decide +kernel)
theorem d_MU_divide0_13 : decode y_MU_divide0.2.1 13 = .ok (.invokevirtual 44, 3) := dc9_182 (by decide +kernel)
theorem d_MU_divide0_16 : decode y_MU_divide0.2.1 16 = .ok (.aload_n 1, 1) := dc9_43 (by decide +kernel)
theorem d_MU_divide0_17 : decode y_MU_divide0.2.1 17 = .ok (.invokevirtual 52, 3) := dc9_182 (by decide +kernel)
theorem d_MU_divide0_20 : decode y_MU_divide0.2.1 20 = .ok (.iconst 1, 1) := dc9_4 (by decide +kernel)
theorem d_MU_divide0_21 : decode y_MU_divide0.2.1 21 = .ok (.isub, 1) := dc9_100 (by decide +kernel)
theorem d_MU_divide0_22 : decode y_MU_divide0.2.1 22 = .ok (.istore_n 3, 1) := dc9_62 (by decide +kernel)
theorem d_MU_divide0_23 : decode y_MU_divide0.2.1 23 = .ok (.iload_n 3, 1) := dc9_29 (by decide +kernel)
theorem d_MU_divide0_24 : decode y_MU_divide0.2.1 24 = .ok (.ifCond .lt 61, 3) := dc9_155 (by decide +kernel)
theorem d_MU_divide0_85 : decode y_MU_divide0.2.1 85 = .ok (.return_, 1) := dc9_177 (by decide +kernel)
theorem d_MU_divide0_27 : decode y_MU_divide0.2.1 27 = .ok (.aload_n 0, 1) := dc9_42 (by decide +kernel)
theorem d_MU_divide0_28 : decode y_MU_divide0.2.1 28 = .ok (.getfield 37, 3) := dc9_180 (by decide +kernel)
theorem d_MU_divide0_31 : decode y_MU_divide0.2.1 31 = .ok (.aload_n 1, 1) := dc9_43 (by decide +kernel)
theorem d_MU_divide0_32 : decode y_MU_divide0.2.1 32 = .ok (.iload_n 3, 1) := dc9_29 (by decide +kernel)
theorem d_MU_divide0_33 : decode y_MU_divide0.2.1 33 = .ok (.invokevirtual 56, 3) := dc9_182 (by decide +kernel)
theorem d_MU_divide0_36 : decode y_MU_divide0.2.1 36 = .ok (.invokestatic 60, 3) := dc9_184 (by decide +kernel)
theorem d_MU_divide0_39 : decode y_MU_divide0.2.1 39 = .ok (.aload_n 0, 1) := dc9_42 (by decide +kernel)
theorem d_MU_divide0_40 : decode y_MU_divide0.2.1 40 = .ok (.getfield 37, 3) := dc9_180 (by decide +kernel)
theorem d_MU_divide0_43 : decode y_MU_divide0.2.1 43 = .ok (.aload_n 2, 1) := dc9_44 (by decide +kernel)
theorem d_MU_divide0_44 : decode y_MU_divide0.2.1 44 = .ok (.invokevirtual 64, 3) := dc9_182 (by decide +kernel)
theorem d_MU_divide0_47 : decode y_MU_divide0.2.1 47 = .ok (.ifCond .lt 7, 3) := dc9_155 (by decide +kernel)
theorem d_MU_divide0_54 : decode y_MU_divide0.2.1 54 = .ok (.iconst 0, 1) := dc9_3 (by decide +kernel)
theorem d_MU_divide0_50 : decode y_MU_divide0.2.1 50 = .ok (.iconst 1, 1) := dc9_4 (by decide +kernel)
theorem d_MU_divide0_51 : decode y_MU_divide0.2.1 51 = .ok (.goto 4, 3) := dc9_167 (by decide +kernel)
theorem d_MU_divide0_55 : decode y_MU_divide0.2.1 55 = .ok (.istore 4, 2) := dc9_54 (by decide +kernel)
theorem d_MU_divide0_57 : decode y_MU_divide0.2.1 57 = .ok (.iload 4, 2) := dc9_21 (by decide +kernel)
theorem d_MU_divide0_59 : decode y_MU_divide0.2.1 59 = .ok (.ifCond .eq 11, 3) := dc9_153 (by decide +kernel)
theorem d_MU_divide0_62 : decode y_MU_divide0.2.1 62 = .ok (.aload_n 0, 1) := dc9_42 (by decide +kernel)
theorem d_MU_divide0_63 : decode y_MU_divide0.2.1 63 = .ok (.getfield 37, 3) := dc9_180 (by decide +kernel)
theorem d_MU_divide0_66 : decode y_MU_divide0.2.1 66 = .ok (.aload_n 2, 1) := dc9_44 (by decide +kernel)
theorem d_MU_divide0_70 : decode y_MU_divide0.2.1 70 = .ok (.aload_n 0, 1) := dc9_42 (by decide +kernel)
theorem d_MU_divide0_71 : decode y_MU_divide0.2.1 71 = .ok (.getfield 34, 3) := dc9_180 (by decide +kernel)
theorem d_MU_divide0_74 : decode y_MU_divide0.2.1 74 = .ok (.iload 4, 2) := dc9_21 (by decide +kernel)
theorem d_MU_divide0_76 : decode y_MU_divide0.2.1 76 = .ok (.invokestatic 60, 3) := dc9_184 (by decide +kernel)
theorem d_MU_divide0_79 : decode y_MU_divide0.2.1 79 = .ok (.iinc 3 (-1), 3) := by decide +kernel
theorem d_MU_divide0_82 : decode y_MU_divide0.2.1 82 = .ok (.goto (-59), 3) := dc9_167 (by decide +kernel)
theorem d_MU_divide0_67 : decode y_MU_divide0.2.1 67 = .ok (.invokevirtual 68, 3) := dc9_182 (by decide +kernel)
def h_MU_divide0_23 (G : mG) (d : Nat) (a0 : Nat) (a1 : Nat) (a2 : Nat) (l3 : Int) (M : mM) (Q : mM → Prop) : Prop := mWm G y_MU_divide0 (d + 1) 23 [vr a0, vr a1, vr a2, vi l3, vd] [] M (fun r9 M9 => r9 = none ∧ Q M9)
theorem k_MU_divide0 {G : mG} {d : Nat} {a0 : Nat} {a1 : Nat} {a2 : Nat} {M : mM} {Q : mM → Prop} (hO : mOk M)
    (h : mK M a0 = 18 ∧ mK M (mR M a0 5) = 20 ∧ Cv G y_MW_set d [vr (mR M a0 5), vl 0] M (fun M3 => mOk M3 ∧ (mK M3 a0 = 18 ∧ mK M3 (mR M3 a0 6) = 20 ∧ Cv G y_MW_set d [vr (mR M3 a0 6), vl 0] M3 (fun M8 => mOk M8 ∧ (mK M8 a1 = 20 ∧ Ci G y_MW_places d [vr a1] M8 (fun x13 M12 => i32 x13 ∧ mOk M12 ∧ (h_MU_divide0_23 G d a0 a1 a2 (x13 - 1) M12 Q))))))) :
    Cv G y_MU_divide0 (d + 1) [vr a0, vr a1, vr a2] M Q := by
  refine wm_open (y := y_MU_divide0) rfl (Nat.le_of_ble_eq_true rfl) (L := [vr a0, vr a1, vr a2, vd, vd]) rfl ?_
  obtain ⟨h1, h⟩ := h
  obtain ⟨h2, h⟩ := h
  refine wm_aload_n d_MU_divide0_0 rfl rfl ?_
  refine gf_MU_34 rfl d_MU_divide0_1 h1 ?_
  refine wm_lconst (x := 0) d_MU_divide0_4 rfl ?_
  refine cf_MU_44 rfl d_MU_divide0_5 h2 (Nat.le_of_ble_eq_true rfl) (Cv.mono h (fun M3 h => ?_))
  obtain ⟨hOM3, h⟩ := h
  obtain ⟨h6, h⟩ := h
  obtain ⟨h7, h⟩ := h
  refine wm_aload_n d_MU_divide0_8 rfl rfl ?_
  refine gf_MU_37 rfl d_MU_divide0_9 h6 ?_
  refine wm_lconst (x := 0) d_MU_divide0_12 rfl ?_
  refine cf_MU_44 rfl d_MU_divide0_13 h7 (Nat.le_of_ble_eq_true rfl) (Cv.mono h (fun M8 h => ?_))
  obtain ⟨hOM8, h⟩ := h
  obtain ⟨h11, h⟩ := h
  refine wm_aload_n d_MU_divide0_16 rfl rfl ?_
  refine cf_MU_52 rfl d_MU_divide0_17 h11 (Nat.le_of_ble_eq_true rfl) (Ci.mono h (fun x13 M12 h => ?_))
  obtain ⟨h14, hOM12, h⟩ := h
  refine wm_iconst d_MU_divide0_20 ?_
  refine wm_isub d_MU_divide0_21 ?_
  refine wm_istore_n d_MU_divide0_22 rfl (by decide) (L' := [vr a0, vr a1, vr a2, vi (x13 - 1), vd]) rfl ?_
  exact h
theorem k_MU_divide0_23 {G : mG} {d : Nat} {a0 : Nat} {a1 : Nat} {a2 : Nat} {l3 : Int} {M : mM} {Q : mM → Prop} (hO : mOk M) (hi_l3 : i32 l3)
    (h : ((l3 < 0) → (Q M)) ∧ (¬ (l3 < 0) → (mK M a0 = 18 ∧ mK M a1 = 20 ∧ Ci G y_MW_bit d [vr a1, vi l3] M (fun x20 M19 => i32 x20 ∧ mOk M19 ∧ (Cv G y_MU_bring d [vr (mR M a0 6), vi x20] M19 (fun M22 => mOk M22 ∧ (mK M22 a0 = 18 ∧ mK M22 (mR M22 a0 6) = 20 ∧ Ci G y_MW_compare d [vr (mR M22 a0 6), vr a2] M22 (fun x28 M27 => i32 x28 ∧ mOk M27 ∧ (∀ v31 : Int, v31 = (if (x28 < 0) then 0 else 1) → ((v31 = 0) → (mK M27 a0 = 18 ∧ Cv G y_MU_bring d [vr (mR M27 a0 5), vi v31] M27 (fun M41 => mOk M41 ∧ (h_MU_divide0_23 G d a0 a1 a2 (l3 + (-1)) M41 Q)))) ∧ (¬ (v31 = 0) → (mK M27 a0 = 18 ∧ mK M27 (mR M27 a0 6) = 20 ∧ Cv G y_MW_less d [vr (mR M27 a0 6), vr a2] M27 (fun M46 => mOk M46 ∧ (mK M46 a0 = 18 ∧ Cv G y_MU_bring d [vr (mR M46 a0 5), vi v31] M46 (fun M50 => mOk M50 ∧ (h_MU_divide0_23 G d a0 a1 a2 (l3 + (-1)) M50 Q))))))))))))))) :
    h_MU_divide0_23 G d a0 a1 a2 l3 M Q := by
  unfold h_MU_divide0_23
  refine wm_iload_n d_MU_divide0_23 rfl rfl ?_
  refine wm_if_lt (tgt := 85) d_MU_divide0_24 rfl hi_l3 (fun c16 => ?_) (fun c16 => ?_)
  · replace h := h.1 c16
    refine wm_return d_MU_divide0_85 rfl ?_
    exact ⟨rfl, h⟩
  · replace h := h.2 c16
    obtain ⟨h17, h⟩ := h
    obtain ⟨h18, h⟩ := h
    refine wm_aload_n d_MU_divide0_27 rfl rfl ?_
    refine gf_MU_37 rfl d_MU_divide0_28 h17 ?_
    refine wm_aload_n d_MU_divide0_31 rfl rfl ?_
    refine wm_iload_n d_MU_divide0_32 rfl rfl ?_
    refine cf_MU_56 rfl d_MU_divide0_33 h18 (Nat.le_of_ble_eq_true rfl) (Ci.mono h (fun x20 M19 h => ?_))
    obtain ⟨h21, hOM19, h⟩ := h
    refine cf_MU_60 rfl d_MU_divide0_36 (Nat.le_of_ble_eq_true rfl) (Cv.mono h (fun M22 h => ?_))
    obtain ⟨hOM22, h⟩ := h
    obtain ⟨h25, h⟩ := h
    obtain ⟨h26, h⟩ := h
    refine wm_aload_n d_MU_divide0_39 rfl rfl ?_
    refine gf_MU_37 rfl d_MU_divide0_40 h25 ?_
    refine wm_aload_n d_MU_divide0_43 rfl rfl ?_
    refine cf_MU_64 rfl d_MU_divide0_44 h26 (Nat.le_of_ble_eq_true rfl) (Ci.mono h (fun x28 M27 h => ?_))
    obtain ⟨h29, hOM27, h⟩ := h
    have hJ : ∀ v31 : Int, v31 = (if (x28 < 0) then 0 else 1) → mWm G y_MU_divide0 (d + 1) 55 [vr a0, vr a1, vr a2, vi l3, vd] [vi v31] M27 (fun r9 M9 => r9 = none ∧ Q M9) := by
      intro v31 e33
      have h := h v31 e33
      have h34 : i32 v31 := by rw [e33]; (repeat' split) <;> first | exact ⟨by decide, by decide⟩ | exact ⟨by decide, by decide⟩
      have h35 : (v31 = 0 ∨ v31 = 1) := by rw [e33]; (repeat' split) <;> decide
      refine wm_istore d_MU_divide0_55 (by decide) (L' := [vr a0, vr a1, vr a2, vi l3, vi v31]) rfl ?_
      refine wm_iload d_MU_divide0_57 rfl ?_
      refine wm_if_eq (tgt := 70) d_MU_divide0_59 rfl h34 (fun c39 => ?_) (fun c39 => ?_)
      · replace h := h.1 c39
        obtain ⟨h40, h⟩ := h
        refine wm_aload_n d_MU_divide0_70 rfl rfl ?_
        refine gf_MU_34 rfl d_MU_divide0_71 h40 ?_
        refine wm_iload d_MU_divide0_74 rfl ?_
        refine cf_MU_60 rfl d_MU_divide0_76 (Nat.le_of_ble_eq_true rfl) (Cv.mono h (fun M41 h => ?_))
        obtain ⟨hOM41, h⟩ := h
        refine wm_iinc d_MU_divide0_79 (by decide) rfl (L' := [vr a0, vr a1, vr a2, vi (l3 + (-1)), vi v31]) rfl ?_
        refine wm_goto (tgt := 23) d_MU_divide0_82 rfl ?_
        refine wm_less (L' := [vr a0, vr a1, vr a2, vi (l3 + (-1)), vd]) ⟨Or.inr rfl, Or.inr rfl, Or.inr rfl, Or.inr rfl, Or.inl rfl, trivial⟩ ?_
        exact h
      · replace h := h.2 c39
        obtain ⟨h44, h⟩ := h
        obtain ⟨h45, h⟩ := h
        refine wm_aload_n d_MU_divide0_62 rfl rfl ?_
        refine gf_MU_37 rfl d_MU_divide0_63 h44 ?_
        refine wm_aload_n d_MU_divide0_66 rfl rfl ?_
        refine cf_MU_68 rfl d_MU_divide0_67 h45 (Nat.le_of_ble_eq_true rfl) (Cv.mono h (fun M46 h => ?_))
        obtain ⟨hOM46, h⟩ := h
        obtain ⟨h49, h⟩ := h
        refine wm_aload_n d_MU_divide0_70 rfl rfl ?_
        refine gf_MU_34 rfl d_MU_divide0_71 h49 ?_
        refine wm_iload d_MU_divide0_74 rfl ?_
        refine cf_MU_60 rfl d_MU_divide0_76 (Nat.le_of_ble_eq_true rfl) (Cv.mono h (fun M50 h => ?_))
        obtain ⟨hOM50, h⟩ := h
        refine wm_iinc d_MU_divide0_79 (by decide) rfl (L' := [vr a0, vr a1, vr a2, vi (l3 + (-1)), vi v31]) rfl ?_
        refine wm_goto (tgt := 23) d_MU_divide0_82 rfl ?_
        refine wm_less (L' := [vr a0, vr a1, vr a2, vi (l3 + (-1)), vd]) ⟨Or.inr rfl, Or.inr rfl, Or.inr rfl, Or.inr rfl, Or.inl rfl, trivial⟩ ?_
        exact h
    clear h
    refine wm_if_lt (tgt := 54) d_MU_divide0_47 rfl h29 (fun c30 => ?_) (fun c30 => ?_)
    · refine wm_iconst d_MU_divide0_54 ?_
      exact hJ 0 (if_pos c30).symm
    · refine wm_iconst d_MU_divide0_50 ?_
      refine wm_goto (tgt := 55) d_MU_divide0_51 rfl ?_
      exact hJ 1 (if_neg c30).symm
theorem d_MU_common_0 : decode y_MU_common.2.1 0 = .ok (.iconst 0, 1) := dc9_3 (by decide +kernel)
theorem d_MU_common_1 : decode y_MU_common.2.1 1 = .ok (.istore_n 1, 1) := dc9_60 (by decide +kernel)
theorem d_MU_common_2 : decode y_MU_common.2.1 2 = .ok (.aload_n 0, 1) := dc9_42 (by decide +kernel)
theorem d_MU_common_3 : decode y_MU_common.2.1 3 = .ok (.getfield 24, 3) := dc9_180 (by decide +kernel)
theorem d_MU_common_6 : decode y_MU_common.2.1 6 = .ok (.invokevirtual 72, 3) := dc9_182 (by decide +kernel)
theorem d_MU_common_9 : decode y_MU_common.2.1 9 = .ok (.ifCond .ne 33, 3) := dc9_154 (by decide +kernel)
theorem d_MU_common_12 : decode y_MU_common.2.1 12 = .ok (.aload_n 0, 1) := dc9_42 (by decide +kernel)
theorem d_MU_common_13 : decode y_MU_common.2.1 13 = .ok (.getfield 28, 3) := dc9_180 (by decide +kernel)
theorem d_MU_common_16 : decode y_MU_common.2.1 16 = .ok (.invokevirtual 72, 3) := dc9_182 (by decide +kernel)
theorem d_MU_common_19 : decode y_MU_common.2.1 19 = .ok (.ifCond .ne 23, 3) := dc9_154 (by decide +kernel)
theorem d_MU_common_22 : decode y_MU_common.2.1 22 = .ok (.aload_n 0, 1) := dc9_42 (by decide +kernel)
theorem d_MU_common_23 : decode y_MU_common.2.1 23 = .ok (.getfield 24, 3) := dc9_180 (by decide +kernel)
theorem d_MU_common_26 : decode y_MU_common.2.1 26 = .ok (.invokevirtual 75, 3) := dc9_182 (by decide +kernel)
theorem d_MU_common_29 : decode y_MU_common.2.1 29 = .ok (.aload_n 0, 1) := dc9_42 (by decide +kernel)
theorem d_MU_common_30 : decode y_MU_common.2.1 30 = .ok (.getfield 28, 3) := dc9_180 (by decide +kernel)
theorem d_MU_common_33 : decode y_MU_common.2.1 33 = .ok (.invokevirtual 75, 3) := dc9_182 (by decide +kernel)
theorem d_MU_common_36 : decode y_MU_common.2.1 36 = .ok (.iinc 1 1, 3) := by decide +kernel
theorem d_MU_common_39 : decode y_MU_common.2.1 39 = .ok (.goto (-37), 3) := dc9_167 (by decide +kernel)
theorem d_MU_common_42 : decode y_MU_common.2.1 42 = .ok (.aload_n 0, 1) := dc9_42 (by decide +kernel)
theorem d_MU_common_43 : decode y_MU_common.2.1 43 = .ok (.getfield 24, 3) := dc9_180 (by decide +kernel)
theorem d_MU_common_46 : decode y_MU_common.2.1 46 = .ok (.invokevirtual 72, 3) := dc9_182 (by decide +kernel)
theorem d_MU_common_49 : decode y_MU_common.2.1 49 = .ok (.ifCond .ne 13, 3) := dc9_154 (by decide +kernel)
theorem d_MU_common_52 : decode y_MU_common.2.1 52 = .ok (.aload_n 0, 1) := dc9_42 (by decide +kernel)
theorem d_MU_common_53 : decode y_MU_common.2.1 53 = .ok (.getfield 24, 3) := dc9_180 (by decide +kernel)
theorem d_MU_common_56 : decode y_MU_common.2.1 56 = .ok (.invokevirtual 75, 3) := dc9_182 (by decide +kernel)
theorem d_MU_common_59 : decode y_MU_common.2.1 59 = .ok (.goto (-17), 3) := dc9_167 (by decide +kernel)
theorem d_MU_common_62 : decode y_MU_common.2.1 62 = .ok (.aload_n 0, 1) := dc9_42 (by decide +kernel)
theorem d_MU_common_63 : decode y_MU_common.2.1 63 = .ok (.getfield 28, 3) := dc9_180 (by decide +kernel)
theorem d_MU_common_66 : decode y_MU_common.2.1 66 = .ok (.invokevirtual 40, 3) := dc9_182 (by decide +kernel)
theorem d_MU_common_69 : decode y_MU_common.2.1 69 = .ok (.ifCond .ne 84, 3) := dc9_154 (by decide +kernel)
theorem d_MU_common_153 : decode y_MU_common.2.1 153 = .ok (.iconst 0, 1) := dc9_3 (by decide +kernel)
theorem d_MU_common_154 : decode y_MU_common.2.1 154 = .ok (.istore_n 2, 1) := dc9_61 (by decide +kernel)
theorem d_MU_common_72 : decode y_MU_common.2.1 72 = .ok (.aload_n 0, 1) := dc9_42 (by decide +kernel)
theorem d_MU_common_73 : decode y_MU_common.2.1 73 = .ok (.getfield 28, 3) := dc9_180 (by decide +kernel)
theorem d_MU_common_76 : decode y_MU_common.2.1 76 = .ok (.invokevirtual 72, 3) := dc9_182 (by decide +kernel)
theorem d_MU_common_79 : decode y_MU_common.2.1 79 = .ok (.ifCond .ne 13, 3) := dc9_154 (by decide +kernel)
theorem d_MU_common_82 : decode y_MU_common.2.1 82 = .ok (.aload_n 0, 1) := dc9_42 (by decide +kernel)
theorem d_MU_common_83 : decode y_MU_common.2.1 83 = .ok (.getfield 28, 3) := dc9_180 (by decide +kernel)
theorem d_MU_common_92 : decode y_MU_common.2.1 92 = .ok (.aload_n 0, 1) := dc9_42 (by decide +kernel)
theorem d_MU_common_93 : decode y_MU_common.2.1 93 = .ok (.getfield 24, 3) := dc9_180 (by decide +kernel)
theorem d_MU_common_96 : decode y_MU_common.2.1 96 = .ok (.aload_n 0, 1) := dc9_42 (by decide +kernel)
theorem d_MU_common_97 : decode y_MU_common.2.1 97 = .ok (.getfield 28, 3) := dc9_180 (by decide +kernel)
theorem d_MU_common_86 : decode y_MU_common.2.1 86 = .ok (.invokevirtual 75, 3) := dc9_182 (by decide +kernel)
theorem d_MU_common_89 : decode y_MU_common.2.1 89 = .ok (.goto (-17), 3) := dc9_167 (by decide +kernel)
theorem d_MU_common_100 : decode y_MU_common.2.1 100 = .ok (.invokevirtual 64, 3) := dc9_182 (by decide +kernel)
theorem d_MU_common_103 : decode y_MU_common.2.1 103 = .ok (.ifCond .le 36, 3) := dc9_158 (by decide +kernel)
theorem d_MU_common_106 : decode y_MU_common.2.1 106 = .ok (.aload_n 0, 1) := dc9_42 (by decide +kernel)
theorem d_MU_common_107 : decode y_MU_common.2.1 107 = .ok (.getfield 31, 3) := dc9_180 (by decide +kernel)
theorem d_MU_common_110 : decode y_MU_common.2.1 110 = .ok (.aload_n 0, 1) := dc9_42 (by decide +kernel)
theorem d_MU_common_111 : decode y_MU_common.2.1 111 = .ok (.getfield 24, 3) := dc9_180 (by decide +kernel)
theorem d_MU_common_139 : decode y_MU_common.2.1 139 = .ok (.aload_n 0, 1) := dc9_42 (by decide +kernel)
theorem d_MU_common_140 : decode y_MU_common.2.1 140 = .ok (.getfield 28, 3) := dc9_180 (by decide +kernel)
theorem d_MU_common_143 : decode y_MU_common.2.1 143 = .ok (.aload_n 0, 1) := dc9_42 (by decide +kernel)
theorem d_MU_common_144 : decode y_MU_common.2.1 144 = .ok (.getfield 24, 3) := dc9_180 (by decide +kernel)
theorem d_MU_common_147 : decode y_MU_common.2.1 147 = .ok (.invokevirtual 68, 3) := dc9_182 (by decide +kernel)
theorem d_MU_common_150 : decode y_MU_common.2.1 150 = .ok (.goto (-88), 3) := dc9_167 (by decide +kernel)
theorem d_MU_common_114 : decode y_MU_common.2.1 114 = .ok (.invokevirtual 78, 3) := dc9_182 (by decide +kernel)
theorem d_MU_common_117 : decode y_MU_common.2.1 117 = .ok (.aload_n 0, 1) := dc9_42 (by decide +kernel)
theorem d_MU_common_118 : decode y_MU_common.2.1 118 = .ok (.getfield 24, 3) := dc9_180 (by decide +kernel)
theorem d_MU_common_121 : decode y_MU_common.2.1 121 = .ok (.aload_n 0, 1) := dc9_42 (by decide +kernel)
theorem d_MU_common_122 : decode y_MU_common.2.1 122 = .ok (.getfield 28, 3) := dc9_180 (by decide +kernel)
theorem d_MU_common_125 : decode y_MU_common.2.1 125 = .ok (.invokevirtual 78, 3) := dc9_182 (by decide +kernel)
theorem d_MU_common_128 : decode y_MU_common.2.1 128 = .ok (.aload_n 0, 1) := dc9_42 (by decide +kernel)
theorem d_MU_common_129 : decode y_MU_common.2.1 129 = .ok (.getfield 28, 3) := dc9_180 (by decide +kernel)
theorem d_MU_common_132 : decode y_MU_common.2.1 132 = .ok (.aload_n 0, 1) := dc9_42 (by decide +kernel)
theorem d_MU_common_133 : decode y_MU_common.2.1 133 = .ok (.getfield 31, 3) := dc9_180 (by decide +kernel)
theorem d_MU_common_136 : decode y_MU_common.2.1 136 = .ok (.invokevirtual 78, 3) := dc9_182 (by decide +kernel)
theorem d_MU_common_155 : decode y_MU_common.2.1 155 = .ok (.iload_n 2, 1) := dc9_28 (by decide +kernel)
theorem d_MU_common_156 : decode y_MU_common.2.1 156 = .ok (.iload_n 1, 1) := dc9_27 (by decide +kernel)
theorem d_MU_common_157 : decode y_MU_common.2.1 157 = .ok (.if_icmp .ge 17, 3) := dc9_162 (by decide +kernel)
theorem d_MU_common_174 : decode y_MU_common.2.1 174 = .ok (.return_, 1) := dc9_177 (by decide +kernel)
theorem d_MU_common_160 : decode y_MU_common.2.1 160 = .ok (.aload_n 0, 1) := dc9_42 (by decide +kernel)
theorem d_MU_common_161 : decode y_MU_common.2.1 161 = .ok (.getfield 24, 3) := dc9_180 (by decide +kernel)
theorem d_MU_common_164 : decode y_MU_common.2.1 164 = .ok (.iconst 0, 1) := dc9_3 (by decide +kernel)
theorem d_MU_common_165 : decode y_MU_common.2.1 165 = .ok (.invokevirtual 48, 3) := dc9_182 (by decide +kernel)
theorem d_MU_common_168 : decode y_MU_common.2.1 168 = .ok (.iinc 2 1, 3) := by decide +kernel
theorem d_MU_common_171 : decode y_MU_common.2.1 171 = .ok (.goto (-16), 3) := dc9_167 (by decide +kernel)
def h_MU_common_2 (G : mG) (d : Nat) (a0 : Nat) (l1 : Int) (M : mM) (Q : mM → Prop) : Prop := mWm G y_MU_common (d + 1) 2 [vr a0, vi l1, vd] [] M (fun r9 M9 => r9 = none ∧ Q M9)
def h_MU_common_42 (G : mG) (d : Nat) (a0 : Nat) (l1 : Int) (M : mM) (Q : mM → Prop) : Prop := mWm G y_MU_common (d + 1) 42 [vr a0, vi l1, vd] [] M (fun r9 M9 => r9 = none ∧ Q M9)
def h_MU_common_62 (G : mG) (d : Nat) (a0 : Nat) (l1 : Int) (M : mM) (Q : mM → Prop) : Prop := mWm G y_MU_common (d + 1) 62 [vr a0, vi l1, vd] [] M (fun r9 M9 => r9 = none ∧ Q M9)
def h_MU_common_72 (G : mG) (d : Nat) (a0 : Nat) (l1 : Int) (M : mM) (Q : mM → Prop) : Prop := mWm G y_MU_common (d + 1) 72 [vr a0, vi l1, vd] [] M (fun r9 M9 => r9 = none ∧ Q M9)
def h_MU_common_155 (G : mG) (d : Nat) (a0 : Nat) (l1 : Int) (l2 : Int) (M : mM) (Q : mM → Prop) : Prop := mWm G y_MU_common (d + 1) 155 [vr a0, vi l1, vi l2] [] M (fun r9 M9 => r9 = none ∧ Q M9)
theorem k_MU_common {G : mG} {d : Nat} {a0 : Nat} {M : mM} {Q : mM → Prop} (hO : mOk M)
    (h : h_MU_common_2 G d a0 0 M Q) :
    Cv G y_MU_common (d + 1) [vr a0] M Q := by
  refine wm_open (y := y_MU_common) rfl (Nat.le_of_ble_eq_true rfl) (L := [vr a0, vd, vd]) rfl ?_
  refine wm_iconst d_MU_common_0 ?_
  refine wm_istore_n d_MU_common_1 rfl (by decide) (L' := [vr a0, vi 0, vd]) rfl ?_
  exact h
theorem k_MU_common_2 {G : mG} {d : Nat} {a0 : Nat} {l1 : Int} {M : mM} {Q : mM → Prop} (hO : mOk M) (hi_l1 : i32 l1)
    (h : mK M a0 = 18 ∧ mK M (mR M a0 2) = 20 ∧ Ci G y_MW_isOdd d [vr (mR M a0 2)] M (fun x4 M3 => i32 x4 ∧ mOk M3 ∧ (((x4 = 0) → (mK M3 a0 = 18 ∧ mK M3 (mR M3 a0 3) = 20 ∧ Ci G y_MW_isOdd d [vr (mR M3 a0 3)] M3 (fun x11 M10 => i32 x11 ∧ mOk M10 ∧ (((x11 = 0) → (mK M10 a0 = 18 ∧ mK M10 (mR M10 a0 2) = 20 ∧ Cv G y_MW_halve d [vr (mR M10 a0 2)] M10 (fun M17 => mOk M17 ∧ (mK M17 a0 = 18 ∧ mK M17 (mR M17 a0 3) = 20 ∧ Cv G y_MW_halve d [vr (mR M17 a0 3)] M17 (fun M22 => mOk M22 ∧ (h_MU_common_2 G d a0 (l1 + 1) M22 Q)))))) ∧ (¬ (x11 = 0) → (h_MU_common_42 G d a0 l1 M10 Q)))))) ∧ (¬ (x4 = 0) → (h_MU_common_42 G d a0 l1 M3 Q))))) :
    h_MU_common_2 G d a0 l1 M Q := by
  unfold h_MU_common_2
  obtain ⟨h1, h⟩ := h
  obtain ⟨h2, h⟩ := h
  refine wm_aload_n d_MU_common_2 rfl rfl ?_
  refine gf_MU_24 rfl d_MU_common_3 h1 ?_
  refine cf_MU_72 rfl d_MU_common_6 h2 (Nat.le_of_ble_eq_true rfl) (Ci.mono h (fun x4 M3 h => ?_))
  obtain ⟨h5, hOM3, h⟩ := h
  refine wm_if_ne (tgt := 42) d_MU_common_9 rfl h5 (fun c7 => ?_) (fun c7 => ?_)
  · replace h := h.2 c7
    exact h
  · replace c7 := Classical.not_not.mp c7
    replace h := h.1 c7
    obtain ⟨h8, h⟩ := h
    obtain ⟨h9, h⟩ := h
    refine wm_aload_n d_MU_common_12 rfl rfl ?_
    refine gf_MU_28 rfl d_MU_common_13 h8 ?_
    refine cf_MU_72 rfl d_MU_common_16 h9 (Nat.le_of_ble_eq_true rfl) (Ci.mono h (fun x11 M10 h => ?_))
    obtain ⟨h12, hOM10, h⟩ := h
    refine wm_if_ne (tgt := 42) d_MU_common_19 rfl h12 (fun c14 => ?_) (fun c14 => ?_)
    · replace h := h.2 c14
      exact h
    · replace c14 := Classical.not_not.mp c14
      replace h := h.1 c14
      obtain ⟨h15, h⟩ := h
      obtain ⟨h16, h⟩ := h
      refine wm_aload_n d_MU_common_22 rfl rfl ?_
      refine gf_MU_24 rfl d_MU_common_23 h15 ?_
      refine cf_MU_75 rfl d_MU_common_26 h16 (Nat.le_of_ble_eq_true rfl) (Cv.mono h (fun M17 h => ?_))
      obtain ⟨hOM17, h⟩ := h
      obtain ⟨h20, h⟩ := h
      obtain ⟨h21, h⟩ := h
      refine wm_aload_n d_MU_common_29 rfl rfl ?_
      refine gf_MU_28 rfl d_MU_common_30 h20 ?_
      refine cf_MU_75 rfl d_MU_common_33 h21 (Nat.le_of_ble_eq_true rfl) (Cv.mono h (fun M22 h => ?_))
      obtain ⟨hOM22, h⟩ := h
      refine wm_iinc d_MU_common_36 (by decide) rfl (L' := [vr a0, vi (l1 + 1), vd]) rfl ?_
      refine wm_goto (tgt := 2) d_MU_common_39 rfl ?_
      exact h
theorem k_MU_common_42 {G : mG} {d : Nat} {a0 : Nat} {l1 : Int} {M : mM} {Q : mM → Prop} (hO : mOk M) (hi_l1 : i32 l1)
    (h : mK M a0 = 18 ∧ mK M (mR M a0 2) = 20 ∧ Ci G y_MW_isOdd d [vr (mR M a0 2)] M (fun x28 M27 => i32 x28 ∧ mOk M27 ∧ (((x28 = 0) → (mK M27 a0 = 18 ∧ mK M27 (mR M27 a0 2) = 20 ∧ Cv G y_MW_halve d [vr (mR M27 a0 2)] M27 (fun M34 => mOk M34 ∧ (h_MU_common_42 G d a0 l1 M34 Q)))) ∧ (¬ (x28 = 0) → (h_MU_common_62 G d a0 l1 M27 Q))))) :
    h_MU_common_42 G d a0 l1 M Q := by
  unfold h_MU_common_42
  obtain ⟨h25, h⟩ := h
  obtain ⟨h26, h⟩ := h
  refine wm_aload_n d_MU_common_42 rfl rfl ?_
  refine gf_MU_24 rfl d_MU_common_43 h25 ?_
  refine cf_MU_72 rfl d_MU_common_46 h26 (Nat.le_of_ble_eq_true rfl) (Ci.mono h (fun x28 M27 h => ?_))
  obtain ⟨h29, hOM27, h⟩ := h
  refine wm_if_ne (tgt := 62) d_MU_common_49 rfl h29 (fun c31 => ?_) (fun c31 => ?_)
  · replace h := h.2 c31
    exact h
  · replace c31 := Classical.not_not.mp c31
    replace h := h.1 c31
    obtain ⟨h32, h⟩ := h
    obtain ⟨h33, h⟩ := h
    refine wm_aload_n d_MU_common_52 rfl rfl ?_
    refine gf_MU_24 rfl d_MU_common_53 h32 ?_
    refine cf_MU_75 rfl d_MU_common_56 h33 (Nat.le_of_ble_eq_true rfl) (Cv.mono h (fun M34 h => ?_))
    obtain ⟨hOM34, h⟩ := h
    refine wm_goto (tgt := 42) d_MU_common_59 rfl ?_
    exact h
theorem k_MU_common_62 {G : mG} {d : Nat} {a0 : Nat} {l1 : Int} {M : mM} {Q : mM → Prop} (hO : mOk M) (hi_l1 : i32 l1)
    (h : mK M a0 = 18 ∧ mK M (mR M a0 3) = 20 ∧ Ci G y_MW_isZero d [vr (mR M a0 3)] M (fun x40 M39 => i32 x40 ∧ mOk M39 ∧ (((x40 = 0) → (h_MU_common_72 G d a0 l1 M39 Q)) ∧ (¬ (x40 = 0) → (h_MU_common_155 G d a0 l1 0 M39 Q))))) :
    h_MU_common_62 G d a0 l1 M Q := by
  unfold h_MU_common_62
  obtain ⟨h37, h⟩ := h
  obtain ⟨h38, h⟩ := h
  refine wm_aload_n d_MU_common_62 rfl rfl ?_
  refine gf_MU_28 rfl d_MU_common_63 h37 ?_
  refine cf_MU_40 rfl d_MU_common_66 h38 (Nat.le_of_ble_eq_true rfl) (Ci.mono h (fun x40 M39 h => ?_))
  obtain ⟨h41, hOM39, h⟩ := h
  refine wm_if_ne (tgt := 153) d_MU_common_69 rfl h41 (fun c43 => ?_) (fun c43 => ?_)
  · replace h := h.2 c43
    refine wm_iconst d_MU_common_153 ?_
    refine wm_istore_n d_MU_common_154 rfl (by decide) (L' := [vr a0, vi l1, vi 0]) rfl ?_
    exact h
  · replace c43 := Classical.not_not.mp c43
    replace h := h.1 c43
    exact h
theorem k_MU_common_72 {G : mG} {d : Nat} {a0 : Nat} {l1 : Int} {M : mM} {Q : mM → Prop} (hO : mOk M) (hi_l1 : i32 l1)
    (h : mK M a0 = 18 ∧ mK M (mR M a0 3) = 20 ∧ Ci G y_MW_isOdd d [vr (mR M a0 3)] M (fun x47 M46 => i32 x47 ∧ mOk M46 ∧ (((x47 = 0) → (mK M46 a0 = 18 ∧ mK M46 (mR M46 a0 3) = 20 ∧ Cv G y_MW_halve d [vr (mR M46 a0 3)] M46 (fun M53 => mOk M53 ∧ (h_MU_common_72 G d a0 l1 M53 Q)))) ∧ (¬ (x47 = 0) → (mK M46 a0 = 18 ∧ mK M46 (mR M46 a0 2) = 20 ∧ Ci G y_MW_compare d [vr (mR M46 a0 2), vr (mR M46 a0 3)] M46 (fun x59 M58 => i32 x59 ∧ mOk M58 ∧ (((x59 ≤ 0) → (mK M58 a0 = 18 ∧ mK M58 (mR M58 a0 3) = 20 ∧ Cv G y_MW_less d [vr (mR M58 a0 3), vr (mR M58 a0 2)] M58 (fun M67 => mOk M67 ∧ (h_MU_common_62 G d a0 l1 M67 Q)))) ∧ (¬ (x59 ≤ 0) → (mK M58 a0 = 18 ∧ mK M58 (mR M58 a0 4) = 20 ∧ Cv G y_MW_copy d [vr (mR M58 a0 4), vr (mR M58 a0 2)] M58 (fun M72 => mOk M72 ∧ (mK M72 a0 = 18 ∧ mK M72 (mR M72 a0 2) = 20 ∧ Cv G y_MW_copy d [vr (mR M72 a0 2), vr (mR M72 a0 3)] M72 (fun M77 => mOk M77 ∧ (mK M77 a0 = 18 ∧ mK M77 (mR M77 a0 3) = 20 ∧ Cv G y_MW_copy d [vr (mR M77 a0 3), vr (mR M77 a0 4)] M77 (fun M82 => mOk M82 ∧ (mK M82 a0 = 18 ∧ mK M82 (mR M82 a0 3) = 20 ∧ Cv G y_MW_less d [vr (mR M82 a0 3), vr (mR M82 a0 2)] M82 (fun M87 => mOk M87 ∧ (h_MU_common_62 G d a0 l1 M87 Q))))))))))))))))) :
    h_MU_common_72 G d a0 l1 M Q := by
  unfold h_MU_common_72
  obtain ⟨h44, h⟩ := h
  obtain ⟨h45, h⟩ := h
  refine wm_aload_n d_MU_common_72 rfl rfl ?_
  refine gf_MU_28 rfl d_MU_common_73 h44 ?_
  refine cf_MU_72 rfl d_MU_common_76 h45 (Nat.le_of_ble_eq_true rfl) (Ci.mono h (fun x47 M46 h => ?_))
  obtain ⟨h48, hOM46, h⟩ := h
  refine wm_if_ne (tgt := 92) d_MU_common_79 rfl h48 (fun c50 => ?_) (fun c50 => ?_)
  · replace h := h.2 c50
    obtain ⟨h56, h⟩ := h
    obtain ⟨h57, h⟩ := h
    refine wm_aload_n d_MU_common_92 rfl rfl ?_
    refine gf_MU_24 rfl d_MU_common_93 h56 ?_
    refine wm_aload_n d_MU_common_96 rfl rfl ?_
    refine gf_MU_28 rfl d_MU_common_97 h56 ?_
    refine cf_MU_64 rfl d_MU_common_100 h57 (Nat.le_of_ble_eq_true rfl) (Ci.mono h (fun x59 M58 h => ?_))
    obtain ⟨h60, hOM58, h⟩ := h
    refine wm_if_le (tgt := 139) d_MU_common_103 rfl h60 (fun c64 => ?_) (fun c64 => ?_)
    · replace h := h.1 c64
      obtain ⟨h65, h⟩ := h
      obtain ⟨h66, h⟩ := h
      refine wm_aload_n d_MU_common_139 rfl rfl ?_
      refine gf_MU_28 rfl d_MU_common_140 h65 ?_
      refine wm_aload_n d_MU_common_143 rfl rfl ?_
      refine gf_MU_24 rfl d_MU_common_144 h65 ?_
      refine cf_MU_68 rfl d_MU_common_147 h66 (Nat.le_of_ble_eq_true rfl) (Cv.mono h (fun M67 h => ?_))
      obtain ⟨hOM67, h⟩ := h
      refine wm_goto (tgt := 62) d_MU_common_150 rfl ?_
      exact h
    · replace h := h.2 c64
      obtain ⟨h70, h⟩ := h
      obtain ⟨h71, h⟩ := h
      refine wm_aload_n d_MU_common_106 rfl rfl ?_
      refine gf_MU_31 rfl d_MU_common_107 h70 ?_
      refine wm_aload_n d_MU_common_110 rfl rfl ?_
      refine gf_MU_24 rfl d_MU_common_111 h70 ?_
      refine cf_MU_78 rfl d_MU_common_114 h71 (Nat.le_of_ble_eq_true rfl) (Cv.mono h (fun M72 h => ?_))
      obtain ⟨hOM72, h⟩ := h
      obtain ⟨h75, h⟩ := h
      obtain ⟨h76, h⟩ := h
      refine wm_aload_n d_MU_common_117 rfl rfl ?_
      refine gf_MU_24 rfl d_MU_common_118 h75 ?_
      refine wm_aload_n d_MU_common_121 rfl rfl ?_
      refine gf_MU_28 rfl d_MU_common_122 h75 ?_
      refine cf_MU_78 rfl d_MU_common_125 h76 (Nat.le_of_ble_eq_true rfl) (Cv.mono h (fun M77 h => ?_))
      obtain ⟨hOM77, h⟩ := h
      obtain ⟨h80, h⟩ := h
      obtain ⟨h81, h⟩ := h
      refine wm_aload_n d_MU_common_128 rfl rfl ?_
      refine gf_MU_28 rfl d_MU_common_129 h80 ?_
      refine wm_aload_n d_MU_common_132 rfl rfl ?_
      refine gf_MU_31 rfl d_MU_common_133 h80 ?_
      refine cf_MU_78 rfl d_MU_common_136 h81 (Nat.le_of_ble_eq_true rfl) (Cv.mono h (fun M82 h => ?_))
      obtain ⟨hOM82, h⟩ := h
      obtain ⟨h85, h⟩ := h
      obtain ⟨h86, h⟩ := h
      refine wm_aload_n d_MU_common_139 rfl rfl ?_
      refine gf_MU_28 rfl d_MU_common_140 h85 ?_
      refine wm_aload_n d_MU_common_143 rfl rfl ?_
      refine gf_MU_24 rfl d_MU_common_144 h85 ?_
      refine cf_MU_68 rfl d_MU_common_147 h86 (Nat.le_of_ble_eq_true rfl) (Cv.mono h (fun M87 h => ?_))
      obtain ⟨hOM87, h⟩ := h
      refine wm_goto (tgt := 62) d_MU_common_150 rfl ?_
      exact h
  · replace c50 := Classical.not_not.mp c50
    replace h := h.1 c50
    obtain ⟨h51, h⟩ := h
    obtain ⟨h52, h⟩ := h
    refine wm_aload_n d_MU_common_82 rfl rfl ?_
    refine gf_MU_28 rfl d_MU_common_83 h51 ?_
    refine cf_MU_75 rfl d_MU_common_86 h52 (Nat.le_of_ble_eq_true rfl) (Cv.mono h (fun M53 h => ?_))
    obtain ⟨hOM53, h⟩ := h
    refine wm_goto (tgt := 72) d_MU_common_89 rfl ?_
    exact h
theorem k_MU_common_155 {G : mG} {d : Nat} {a0 : Nat} {l1 : Int} {l2 : Int} {M : mM} {Q : mM → Prop} (hO : mOk M) (hi_l1 : i32 l1) (hi_l2 : i32 l2)
    (h : ((l1 ≤ l2) → (Q M)) ∧ (¬ (l1 ≤ l2) → (mK M a0 = 18 ∧ mK M (mR M a0 2) = 20 ∧ Cv G y_MW_twice d [vr (mR M a0 2), vi 0] M (fun M94 => mOk M94 ∧ (h_MU_common_155 G d a0 l1 (l2 + 1) M94 Q))))) :
    h_MU_common_155 G d a0 l1 l2 M Q := by
  unfold h_MU_common_155
  refine wm_iload_n d_MU_common_155 rfl rfl ?_
  refine wm_iload_n d_MU_common_156 rfl rfl ?_
  refine wm_icmp_ge (tgt := 174) d_MU_common_157 rfl hi_l2 hi_l1 (fun c91 => ?_) (fun c91 => ?_)
  · replace h := h.1 c91
    refine wm_return d_MU_common_174 rfl ?_
    exact ⟨rfl, h⟩
  · replace h := h.2 c91
    obtain ⟨h92, h⟩ := h
    obtain ⟨h93, h⟩ := h
    refine wm_aload_n d_MU_common_160 rfl rfl ?_
    refine gf_MU_24 rfl d_MU_common_161 h92 ?_
    refine wm_iconst d_MU_common_164 ?_
    refine cf_MU_48 rfl d_MU_common_165 h93 (Nat.le_of_ble_eq_true rfl) (Cv.mono h (fun M94 h => ?_))
    obtain ⟨hOM94, h⟩ := h
    refine wm_iinc d_MU_common_168 (by decide) rfl (L' := [vr a0, vi l1, vi (l2 + 1)]) rfl ?_
    refine wm_goto (tgt := 155) d_MU_common_171 rfl ?_
    exact h
theorem d_MU_settle_0 : decode y_MU_settle.2.1 0 = .ok (.aload_n 0, 1) := dc9_42 (by decide +kernel)
theorem d_MU_settle_1 : decode y_MU_settle.2.1 1 = .ok (.getfield 14, 3) := dc9_180 (by decide +kernel)
theorem d_MU_settle_4 : decode y_MU_settle.2.1 4 = .ok (.getfield 81, 3) := dc9_180 (by decide +kernel)
theorem d_MU_settle_7 : decode y_MU_settle.2.1 7 = .ok (.invokevirtual 40, 3) := dc9_182 (by decide +kernel)
theorem d_MU_settle_10 : decode y_MU_settle.2.1 10 = .ok (.ifCond .eq 23, 3) := dc9_153 (by decide +kernel)
theorem d_MU_settle_33 : decode y_MU_settle.2.1 33 = .ok (.aload_n 0, 1) := dc9_42 (by decide +kernel)
theorem d_MU_settle_34 : decode y_MU_settle.2.1 34 = .ok (.getfield 24, 3) := dc9_180 (by decide +kernel)
theorem d_MU_settle_37 : decode y_MU_settle.2.1 37 = .ok (.aload_n 0, 1) := dc9_42 (by decide +kernel)
theorem d_MU_settle_38 : decode y_MU_settle.2.1 38 = .ok (.getfield 14, 3) := dc9_180 (by decide +kernel)
theorem d_MU_settle_41 : decode y_MU_settle.2.1 41 = .ok (.getfield 81, 3) := dc9_180 (by decide +kernel)
theorem d_MU_settle_13 : decode y_MU_settle.2.1 13 = .ok (.aload_n 0, 1) := dc9_42 (by decide +kernel)
theorem d_MU_settle_14 : decode y_MU_settle.2.1 14 = .ok (.getfield 14, 3) := dc9_180 (by decide +kernel)
theorem d_MU_settle_17 : decode y_MU_settle.2.1 17 = .ok (.iconst 0, 1) := dc9_3 (by decide +kernel)
theorem d_MU_settle_18 : decode y_MU_settle.2.1 18 = .ok (.putfield 84, 3) := dc9_181 (by decide +kernel)
theorem d_MU_settle_21 : decode y_MU_settle.2.1 21 = .ok (.aload_n 0, 1) := dc9_42 (by decide +kernel)
theorem d_MU_settle_22 : decode y_MU_settle.2.1 22 = .ok (.getfield 14, 3) := dc9_180 (by decide +kernel)
theorem d_MU_settle_25 : decode y_MU_settle.2.1 25 = .ok (.getfield 88, 3) := dc9_180 (by decide +kernel)
theorem d_MU_settle_28 : decode y_MU_settle.2.1 28 = .ok (.lconst 1, 1) := dc9_10 (by decide +kernel)
theorem d_MU_settle_44 : decode y_MU_settle.2.1 44 = .ok (.invokevirtual 78, 3) := dc9_182 (by decide +kernel)
theorem d_MU_settle_47 : decode y_MU_settle.2.1 47 = .ok (.aload_n 0, 1) := dc9_42 (by decide +kernel)
theorem d_MU_settle_48 : decode y_MU_settle.2.1 48 = .ok (.getfield 28, 3) := dc9_180 (by decide +kernel)
theorem d_MU_settle_51 : decode y_MU_settle.2.1 51 = .ok (.aload_n 0, 1) := dc9_42 (by decide +kernel)
theorem d_MU_settle_52 : decode y_MU_settle.2.1 52 = .ok (.getfield 14, 3) := dc9_180 (by decide +kernel)
theorem d_MU_settle_55 : decode y_MU_settle.2.1 55 = .ok (.getfield 88, 3) := dc9_180 (by decide +kernel)
theorem d_MU_settle_58 : decode y_MU_settle.2.1 58 = .ok (.invokevirtual 78, 3) := dc9_182 (by decide +kernel)
theorem d_MU_settle_61 : decode y_MU_settle.2.1 61 = .ok (.aload_n 0, 1) := dc9_42 (by decide +kernel)
theorem d_MU_settle_62 : decode y_MU_settle.2.1 62 = .ok (.invokevirtual 91, 3) := dc9_182 (by decide +kernel)
theorem d_MU_settle_65 : decode y_MU_settle.2.1 65 = .ok (.aload_n 0, 1) := dc9_42 (by decide +kernel)
theorem d_MU_settle_66 : decode y_MU_settle.2.1 66 = .ok (.getfield 24, 3) := dc9_180 (by decide +kernel)
theorem d_MU_settle_69 : decode y_MU_settle.2.1 69 = .ok (.invokevirtual 94, 3) := dc9_182 (by decide +kernel)
theorem d_MU_settle_72 : decode y_MU_settle.2.1 72 = .ok (.ifCond .ne 72, 3) := dc9_154 (by decide +kernel)
theorem d_MU_settle_75 : decode y_MU_settle.2.1 75 = .ok (.aload_n 0, 1) := dc9_42 (by decide +kernel)
theorem d_MU_settle_76 : decode y_MU_settle.2.1 76 = .ok (.getfield 31, 3) := dc9_180 (by decide +kernel)
theorem d_MU_settle_79 : decode y_MU_settle.2.1 79 = .ok (.aload_n 0, 1) := dc9_42 (by decide +kernel)
theorem d_MU_settle_80 : decode y_MU_settle.2.1 80 = .ok (.getfield 24, 3) := dc9_180 (by decide +kernel)
theorem d_MU_settle_83 : decode y_MU_settle.2.1 83 = .ok (.invokevirtual 78, 3) := dc9_182 (by decide +kernel)
theorem d_MU_settle_86 : decode y_MU_settle.2.1 86 = .ok (.aload_n 0, 1) := dc9_42 (by decide +kernel)
theorem d_MU_settle_87 : decode y_MU_settle.2.1 87 = .ok (.aload_n 0, 1) := dc9_42 (by decide +kernel)
theorem d_MU_settle_88 : decode y_MU_settle.2.1 88 = .ok (.getfield 14, 3) := dc9_180 (by decide +kernel)
theorem d_MU_settle_91 : decode y_MU_settle.2.1 91 = .ok (.getfield 81, 3) := dc9_180 (by decide +kernel)
theorem d_MU_settle_94 : decode y_MU_settle.2.1 94 = .ok (.aload_n 0, 1) := dc9_42 (by decide +kernel)
theorem d_MU_settle_95 : decode y_MU_settle.2.1 95 = .ok (.getfield 31, 3) := dc9_180 (by decide +kernel)
theorem d_MU_settle_98 : decode y_MU_settle.2.1 98 = .ok (.invokevirtual 97, 3) := dc9_182 (by decide +kernel)
theorem d_MU_settle_101 : decode y_MU_settle.2.1 101 = .ok (.aload_n 0, 1) := dc9_42 (by decide +kernel)
theorem d_MU_settle_102 : decode y_MU_settle.2.1 102 = .ok (.getfield 14, 3) := dc9_180 (by decide +kernel)
theorem d_MU_settle_105 : decode y_MU_settle.2.1 105 = .ok (.getfield 81, 3) := dc9_180 (by decide +kernel)
theorem d_MU_settle_108 : decode y_MU_settle.2.1 108 = .ok (.aload_n 0, 1) := dc9_42 (by decide +kernel)
theorem d_MU_settle_109 : decode y_MU_settle.2.1 109 = .ok (.getfield 34, 3) := dc9_180 (by decide +kernel)
theorem d_MU_settle_112 : decode y_MU_settle.2.1 112 = .ok (.invokevirtual 78, 3) := dc9_182 (by decide +kernel)
theorem d_MU_settle_115 : decode y_MU_settle.2.1 115 = .ok (.aload_n 0, 1) := dc9_42 (by decide +kernel)
theorem d_MU_settle_116 : decode y_MU_settle.2.1 116 = .ok (.aload_n 0, 1) := dc9_42 (by decide +kernel)
theorem d_MU_settle_117 : decode y_MU_settle.2.1 117 = .ok (.getfield 14, 3) := dc9_180 (by decide +kernel)
theorem d_MU_settle_120 : decode y_MU_settle.2.1 120 = .ok (.getfield 88, 3) := dc9_180 (by decide +kernel)
theorem d_MU_settle_123 : decode y_MU_settle.2.1 123 = .ok (.aload_n 0, 1) := dc9_42 (by decide +kernel)
theorem d_MU_settle_124 : decode y_MU_settle.2.1 124 = .ok (.getfield 31, 3) := dc9_180 (by decide +kernel)
theorem d_MU_settle_127 : decode y_MU_settle.2.1 127 = .ok (.invokevirtual 97, 3) := dc9_182 (by decide +kernel)
theorem d_MU_settle_130 : decode y_MU_settle.2.1 130 = .ok (.aload_n 0, 1) := dc9_42 (by decide +kernel)
theorem d_MU_settle_131 : decode y_MU_settle.2.1 131 = .ok (.getfield 14, 3) := dc9_180 (by decide +kernel)
theorem d_MU_settle_134 : decode y_MU_settle.2.1 134 = .ok (.getfield 88, 3) := dc9_180 (by decide +kernel)
theorem d_MU_settle_137 : decode y_MU_settle.2.1 137 = .ok (.aload_n 0, 1) := dc9_42 (by decide +kernel)
theorem d_MU_settle_138 : decode y_MU_settle.2.1 138 = .ok (.getfield 34, 3) := dc9_180 (by decide +kernel)
theorem d_MU_settle_141 : decode y_MU_settle.2.1 141 = .ok (.invokevirtual 78, 3) := dc9_182 (by decide +kernel)
theorem d_MU_settle_144 : decode y_MU_settle.2.1 144 = .ok (.return_, 1) := dc9_177 (by decide +kernel)
theorem d_MU_settle_29 : decode y_MU_settle.2.1 29 = .ok (.invokevirtual 44, 3) := dc9_182 (by decide +kernel)
theorem d_MU_settle_32 : decode y_MU_settle.2.1 32 = .ok (.return_, 1) := dc9_177 (by decide +kernel)
theorem k_MU_settle {G : mG} {d : Nat} {a0 : Nat} {M : mM} {Q : mM → Prop} (hO : mOk M)
    (h : mK M a0 = 18 ∧ mK M (mR M a0 0) = 19 ∧ mK M (mR M (mR M a0 0) 0) = 20 ∧ Ci G y_MW_isZero d [vr (mR M (mR M a0 0) 0)] M (fun x5 M4 => i32 x5 ∧ mOk M4 ∧ (((x5 = 0) → (mK M4 a0 = 18 ∧ mK M4 (mR M4 a0 0) = 19 ∧ mK M4 (mR M4 a0 2) = 20 ∧ Cv G y_MW_copy d [vr (mR M4 a0 2), vr (mR M4 (mR M4 a0 0) 0)] M4 (fun M12 => mOk M12 ∧ (mK M12 a0 = 18 ∧ mK M12 (mR M12 a0 0) = 19 ∧ mK M12 (mR M12 a0 3) = 20 ∧ Cv G y_MW_copy d [vr (mR M12 a0 3), vr (mR M12 (mR M12 a0 0) 1)] M12 (fun M18 => mOk M18 ∧ (mK M18 a0 = 18 ∧ Cv G y_MU_common d [vr a0] M18 (fun M22 => mOk M22 ∧ (mK M22 a0 = 18 ∧ mK M22 (mR M22 a0 2) = 20 ∧ Ci G y_MW_isOne d [vr (mR M22 a0 2)] M22 (fun x28 M27 => i32 x28 ∧ mOk M27 ∧ (((x28 = 0) → (mK M27 a0 = 18 ∧ mK M27 (mR M27 a0 4) = 20 ∧ Cv G y_MW_copy d [vr (mR M27 a0 4), vr (mR M27 a0 2)] M27 (fun M36 => mOk M36 ∧ (mK M36 a0 = 18 ∧ mK M36 (mR M36 a0 0) = 19 ∧ Cv G y_MU_divide0 d [vr a0, vr (mR M36 (mR M36 a0 0) 0), vr (mR M36 a0 4)] M36 (fun M41 => mOk M41 ∧ (mK M41 a0 = 18 ∧ mK M41 (mR M41 a0 0) = 19 ∧ mK M41 (mR M41 (mR M41 a0 0) 0) = 20 ∧ Cv G y_MW_copy d [vr (mR M41 (mR M41 a0 0) 0), vr (mR M41 a0 5)] M41 (fun M47 => mOk M47 ∧ (mK M47 a0 = 18 ∧ mK M47 (mR M47 a0 0) = 19 ∧ Cv G y_MU_divide0 d [vr a0, vr (mR M47 (mR M47 a0 0) 1), vr (mR M47 a0 4)] M47 (fun M52 => mOk M52 ∧ (mK M52 a0 = 18 ∧ mK M52 (mR M52 a0 0) = 19 ∧ mK M52 (mR M52 (mR M52 a0 0) 1) = 20 ∧ Cv G y_MW_copy d [vr (mR M52 (mR M52 a0 0) 1), vr (mR M52 a0 5)] M52 (fun M58 => mOk M58 ∧ (Q M58)))))))))))) ∧ (¬ (x28 = 0) → (Q M27)))))))))))) ∧ (¬ (x5 = 0) → (mK M4 a0 = 18 ∧ mK M4 (mR M4 a0 0) = 19 ∧ ∀ M63, M63 = mUI M4 (mR M4 a0 0) 2 0 → mK M63 (mR M63 a0 0) = 19 ∧ mK M63 (mR M63 (mR M63 a0 0) 1) = 20 ∧ Cv G y_MW_set d [vr (mR M63 (mR M63 a0 0) 1), vl 1] M63 (fun M67 => mOk M67 ∧ (Q M67))))))) :
    Cv G y_MU_settle (d + 1) [vr a0] M Q := by
  refine wm_open (y := y_MU_settle) rfl (Nat.le_of_ble_eq_true rfl) (L := [vr a0]) rfl ?_
  obtain ⟨h1, h⟩ := h
  obtain ⟨h2, h⟩ := h
  obtain ⟨h3, h⟩ := h
  refine wm_aload_n d_MU_settle_0 rfl rfl ?_
  refine gf_MU_14 rfl d_MU_settle_1 h1 ?_
  refine gf_MU_81 rfl d_MU_settle_4 h2 ?_
  refine cf_MU_40 rfl d_MU_settle_7 h3 (Nat.le_of_ble_eq_true rfl) (Ci.mono h (fun x5 M4 h => ?_))
  obtain ⟨h6, hOM4, h⟩ := h
  refine wm_if_eq (tgt := 33) d_MU_settle_10 rfl h6 (fun c8 => ?_) (fun c8 => ?_)
  · replace h := h.1 c8
    obtain ⟨h9, h⟩ := h
    obtain ⟨h10, h⟩ := h
    obtain ⟨h11, h⟩ := h
    refine wm_aload_n d_MU_settle_33 rfl rfl ?_
    refine gf_MU_24 rfl d_MU_settle_34 h9 ?_
    refine wm_aload_n d_MU_settle_37 rfl rfl ?_
    refine gf_MU_14 rfl d_MU_settle_38 h9 ?_
    refine gf_MU_81 rfl d_MU_settle_41 h10 ?_
    refine cf_MU_78 rfl d_MU_settle_44 h11 (Nat.le_of_ble_eq_true rfl) (Cv.mono h (fun M12 h => ?_))
    obtain ⟨hOM12, h⟩ := h
    obtain ⟨h15, h⟩ := h
    obtain ⟨h16, h⟩ := h
    obtain ⟨h17, h⟩ := h
    refine wm_aload_n d_MU_settle_47 rfl rfl ?_
    refine gf_MU_28 rfl d_MU_settle_48 h15 ?_
    refine wm_aload_n d_MU_settle_51 rfl rfl ?_
    refine gf_MU_14 rfl d_MU_settle_52 h15 ?_
    refine gf_MU_88 rfl d_MU_settle_55 h16 ?_
    refine cf_MU_78 rfl d_MU_settle_58 h17 (Nat.le_of_ble_eq_true rfl) (Cv.mono h (fun M18 h => ?_))
    obtain ⟨hOM18, h⟩ := h
    obtain ⟨h21, h⟩ := h
    refine wm_aload_n d_MU_settle_61 rfl rfl ?_
    refine cf_MU_91 rfl d_MU_settle_62 h21 (Nat.le_of_ble_eq_true rfl) (Cv.mono h (fun M22 h => ?_))
    obtain ⟨hOM22, h⟩ := h
    obtain ⟨h25, h⟩ := h
    obtain ⟨h26, h⟩ := h
    refine wm_aload_n d_MU_settle_65 rfl rfl ?_
    refine gf_MU_24 rfl d_MU_settle_66 h25 ?_
    refine cf_MU_94 rfl d_MU_settle_69 h26 (Nat.le_of_ble_eq_true rfl) (Ci.mono h (fun x28 M27 h => ?_))
    obtain ⟨h29, hOM27, h⟩ := h
    refine wm_if_ne (tgt := 144) d_MU_settle_72 rfl h29 (fun c33 => ?_) (fun c33 => ?_)
    · replace h := h.2 c33
      refine wm_return d_MU_settle_144 rfl ?_
      exact ⟨rfl, h⟩
    · replace c33 := Classical.not_not.mp c33
      replace h := h.1 c33
      obtain ⟨h34, h⟩ := h
      obtain ⟨h35, h⟩ := h
      refine wm_aload_n d_MU_settle_75 rfl rfl ?_
      refine gf_MU_31 rfl d_MU_settle_76 h34 ?_
      refine wm_aload_n d_MU_settle_79 rfl rfl ?_
      refine gf_MU_24 rfl d_MU_settle_80 h34 ?_
      refine cf_MU_78 rfl d_MU_settle_83 h35 (Nat.le_of_ble_eq_true rfl) (Cv.mono h (fun M36 h => ?_))
      obtain ⟨hOM36, h⟩ := h
      obtain ⟨h39, h⟩ := h
      obtain ⟨h40, h⟩ := h
      refine wm_aload_n d_MU_settle_86 rfl rfl ?_
      refine wm_aload_n d_MU_settle_87 rfl rfl ?_
      refine gf_MU_14 rfl d_MU_settle_88 h39 ?_
      refine gf_MU_81 rfl d_MU_settle_91 h40 ?_
      refine wm_aload_n d_MU_settle_94 rfl rfl ?_
      refine gf_MU_31 rfl d_MU_settle_95 h39 ?_
      refine cf_MU_97 rfl d_MU_settle_98 h39 (Nat.le_of_ble_eq_true rfl) (Cv.mono h (fun M41 h => ?_))
      obtain ⟨hOM41, h⟩ := h
      obtain ⟨h44, h⟩ := h
      obtain ⟨h45, h⟩ := h
      obtain ⟨h46, h⟩ := h
      refine wm_aload_n d_MU_settle_101 rfl rfl ?_
      refine gf_MU_14 rfl d_MU_settle_102 h44 ?_
      refine gf_MU_81 rfl d_MU_settle_105 h45 ?_
      refine wm_aload_n d_MU_settle_108 rfl rfl ?_
      refine gf_MU_34 rfl d_MU_settle_109 h44 ?_
      refine cf_MU_78 rfl d_MU_settle_112 h46 (Nat.le_of_ble_eq_true rfl) (Cv.mono h (fun M47 h => ?_))
      obtain ⟨hOM47, h⟩ := h
      obtain ⟨h50, h⟩ := h
      obtain ⟨h51, h⟩ := h
      refine wm_aload_n d_MU_settle_115 rfl rfl ?_
      refine wm_aload_n d_MU_settle_116 rfl rfl ?_
      refine gf_MU_14 rfl d_MU_settle_117 h50 ?_
      refine gf_MU_88 rfl d_MU_settle_120 h51 ?_
      refine wm_aload_n d_MU_settle_123 rfl rfl ?_
      refine gf_MU_31 rfl d_MU_settle_124 h50 ?_
      refine cf_MU_97 rfl d_MU_settle_127 h50 (Nat.le_of_ble_eq_true rfl) (Cv.mono h (fun M52 h => ?_))
      obtain ⟨hOM52, h⟩ := h
      obtain ⟨h55, h⟩ := h
      obtain ⟨h56, h⟩ := h
      obtain ⟨h57, h⟩ := h
      refine wm_aload_n d_MU_settle_130 rfl rfl ?_
      refine gf_MU_14 rfl d_MU_settle_131 h55 ?_
      refine gf_MU_88 rfl d_MU_settle_134 h56 ?_
      refine wm_aload_n d_MU_settle_137 rfl rfl ?_
      refine gf_MU_34 rfl d_MU_settle_138 h55 ?_
      refine cf_MU_78 rfl d_MU_settle_141 h57 (Nat.le_of_ble_eq_true rfl) (Cv.mono h (fun M58 h => ?_))
      obtain ⟨hOM58, h⟩ := h
      refine wm_return d_MU_settle_144 rfl ?_
      exact ⟨rfl, h⟩
  · replace h := h.2 c8
    obtain ⟨h61, h⟩ := h
    obtain ⟨h62, h⟩ := h
    obtain ⟨M63, e64⟩ : ∃ M63, M63 = mUI M4 (mR M4 a0 0) 2 0 := ⟨_, rfl⟩
    replace h := h M63 e64
    obtain ⟨h65, h⟩ := h
    obtain ⟨h66, h⟩ := h
    refine wm_aload_n d_MU_settle_13 rfl rfl ?_
    refine gf_MU_14 rfl d_MU_settle_14 h61 ?_
    refine wm_iconst d_MU_settle_17 ?_
    have hOM63 : mOk M63 := by rw [e64]; exact mOk_UI hOM4 (m_b32 (by decide))
    refine pf_MU_84 rfl d_MU_settle_18 h62 (by decide) e64 ?_
    refine wm_aload_n d_MU_settle_21 rfl rfl ?_
    refine gf_MU_14 rfl d_MU_settle_22 (by rw [e64]; exact h61) ?_
    refine gf_MU_88 rfl d_MU_settle_25 h65 ?_
    refine wm_lconst (x := 1) d_MU_settle_28 rfl ?_
    refine cf_MU_44 rfl d_MU_settle_29 h66 (Nat.le_of_ble_eq_true rfl) (Cv.mono h (fun M67 h => ?_))
    obtain ⟨hOM67, h⟩ := h
    refine wm_return d_MU_settle_32 rfl ?_
    exact ⟨rfl, h⟩
theorem d_MU_add_0 : decode y_MU_add.2.1 0 = .ok (.aload_n 2, 1) := dc9_44 (by decide +kernel)
theorem d_MU_add_1 : decode y_MU_add.2.1 1 = .ok (.getfield 84, 3) := dc9_180 (by decide +kernel)
theorem d_MU_add_4 : decode y_MU_add.2.1 4 = .ok (.iload_n 3, 1) := dc9_29 (by decide +kernel)
theorem d_MU_add_5 : decode y_MU_add.2.1 5 = .ok (.if_icmp .eq 7, 3) := dc9_159 (by decide +kernel)
theorem d_MU_add_12 : decode y_MU_add.2.1 12 = .ok (.iconst 0, 1) := dc9_3 (by decide +kernel)
theorem d_MU_add_8 : decode y_MU_add.2.1 8 = .ok (.iconst 1, 1) := dc9_4 (by decide +kernel)
theorem d_MU_add_9 : decode y_MU_add.2.1 9 = .ok (.goto 4, 3) := dc9_167 (by decide +kernel)
theorem d_MU_add_13 : decode y_MU_add.2.1 13 = .ok (.istore 4, 2) := dc9_54 (by decide +kernel)
theorem d_MU_add_15 : decode y_MU_add.2.1 15 = .ok (.aload_n 0, 1) := dc9_42 (by decide +kernel)
theorem d_MU_add_16 : decode y_MU_add.2.1 16 = .ok (.getfield 24, 3) := dc9_180 (by decide +kernel)
theorem d_MU_add_19 : decode y_MU_add.2.1 19 = .ok (.aload_n 1, 1) := dc9_43 (by decide +kernel)
theorem d_MU_add_20 : decode y_MU_add.2.1 20 = .ok (.getfield 81, 3) := dc9_180 (by decide +kernel)
theorem d_MU_add_23 : decode y_MU_add.2.1 23 = .ok (.aload_n 2, 1) := dc9_44 (by decide +kernel)
theorem d_MU_add_24 : decode y_MU_add.2.1 24 = .ok (.getfield 88, 3) := dc9_180 (by decide +kernel)
theorem d_MU_add_27 : decode y_MU_add.2.1 27 = .ok (.invokevirtual 101, 3) := dc9_182 (by decide +kernel)
theorem d_MU_add_30 : decode y_MU_add.2.1 30 = .ok (.aload_n 0, 1) := dc9_42 (by decide +kernel)
theorem d_MU_add_31 : decode y_MU_add.2.1 31 = .ok (.getfield 28, 3) := dc9_180 (by decide +kernel)
theorem d_MU_add_34 : decode y_MU_add.2.1 34 = .ok (.aload_n 2, 1) := dc9_44 (by decide +kernel)
theorem d_MU_add_35 : decode y_MU_add.2.1 35 = .ok (.getfield 81, 3) := dc9_180 (by decide +kernel)
theorem d_MU_add_38 : decode y_MU_add.2.1 38 = .ok (.aload_n 1, 1) := dc9_43 (by decide +kernel)
theorem d_MU_add_39 : decode y_MU_add.2.1 39 = .ok (.getfield 88, 3) := dc9_180 (by decide +kernel)
theorem d_MU_add_42 : decode y_MU_add.2.1 42 = .ok (.invokevirtual 101, 3) := dc9_182 (by decide +kernel)
theorem d_MU_add_45 : decode y_MU_add.2.1 45 = .ok (.aload_n 0, 1) := dc9_42 (by decide +kernel)
theorem d_MU_add_46 : decode y_MU_add.2.1 46 = .ok (.getfield 31, 3) := dc9_180 (by decide +kernel)
theorem d_MU_add_49 : decode y_MU_add.2.1 49 = .ok (.aload_n 1, 1) := dc9_43 (by decide +kernel)
theorem d_MU_add_50 : decode y_MU_add.2.1 50 = .ok (.getfield 88, 3) := dc9_180 (by decide +kernel)
theorem d_MU_add_53 : decode y_MU_add.2.1 53 = .ok (.aload_n 2, 1) := dc9_44 (by decide +kernel)
theorem d_MU_add_54 : decode y_MU_add.2.1 54 = .ok (.getfield 88, 3) := dc9_180 (by decide +kernel)
theorem d_MU_add_57 : decode y_MU_add.2.1 57 = .ok (.invokevirtual 101, 3) := dc9_182 (by decide +kernel)
theorem d_MU_add_60 : decode y_MU_add.2.1 60 = .ok (.aload_n 1, 1) := dc9_43 (by decide +kernel)
theorem d_MU_add_61 : decode y_MU_add.2.1 61 = .ok (.getfield 84, 3) := dc9_180 (by decide +kernel)
theorem d_MU_add_64 : decode y_MU_add.2.1 64 = .ok (.iload 4, 2) := dc9_21 (by decide +kernel)
theorem d_MU_add_66 : decode y_MU_add.2.1 66 = .ok (.if_icmp .ne 28, 3) := dc9_160 (by decide +kernel)
theorem d_MU_add_69 : decode y_MU_add.2.1 69 = .ok (.aload_n 0, 1) := dc9_42 (by decide +kernel)
theorem d_MU_add_70 : decode y_MU_add.2.1 70 = .ok (.getfield 24, 3) := dc9_180 (by decide +kernel)
theorem d_MU_add_73 : decode y_MU_add.2.1 73 = .ok (.aload_n 0, 1) := dc9_42 (by decide +kernel)
theorem d_MU_add_74 : decode y_MU_add.2.1 74 = .ok (.getfield 28, 3) := dc9_180 (by decide +kernel)
theorem d_MU_add_94 : decode y_MU_add.2.1 94 = .ok (.aload_n 0, 1) := dc9_42 (by decide +kernel)
theorem d_MU_add_95 : decode y_MU_add.2.1 95 = .ok (.getfield 24, 3) := dc9_180 (by decide +kernel)
theorem d_MU_add_98 : decode y_MU_add.2.1 98 = .ok (.aload_n 0, 1) := dc9_42 (by decide +kernel)
theorem d_MU_add_99 : decode y_MU_add.2.1 99 = .ok (.getfield 28, 3) := dc9_180 (by decide +kernel)
theorem d_MU_add_77 : decode y_MU_add.2.1 77 = .ok (.invokevirtual 104, 3) := dc9_182 (by decide +kernel)
theorem d_MU_add_80 : decode y_MU_add.2.1 80 = .ok (.aload_n 0, 1) := dc9_42 (by decide +kernel)
theorem d_MU_add_81 : decode y_MU_add.2.1 81 = .ok (.getfield 14, 3) := dc9_180 (by decide +kernel)
theorem d_MU_add_84 : decode y_MU_add.2.1 84 = .ok (.aload_n 1, 1) := dc9_43 (by decide +kernel)
theorem d_MU_add_85 : decode y_MU_add.2.1 85 = .ok (.getfield 84, 3) := dc9_180 (by decide +kernel)
theorem d_MU_add_88 : decode y_MU_add.2.1 88 = .ok (.putfield 84, 3) := dc9_181 (by decide +kernel)
theorem d_MU_add_91 : decode y_MU_add.2.1 91 = .ok (.goto 73, 3) := dc9_167 (by decide +kernel)
theorem d_MU_add_102 : decode y_MU_add.2.1 102 = .ok (.invokevirtual 64, 3) := dc9_182 (by decide +kernel)
theorem d_MU_add_105 : decode y_MU_add.2.1 105 = .ok (.ifCond .lt 28, 3) := dc9_155 (by decide +kernel)
theorem d_MU_add_133 : decode y_MU_add.2.1 133 = .ok (.aload_n 0, 1) := dc9_42 (by decide +kernel)
theorem d_MU_add_134 : decode y_MU_add.2.1 134 = .ok (.getfield 28, 3) := dc9_180 (by decide +kernel)
theorem d_MU_add_137 : decode y_MU_add.2.1 137 = .ok (.aload_n 0, 1) := dc9_42 (by decide +kernel)
theorem d_MU_add_138 : decode y_MU_add.2.1 138 = .ok (.getfield 24, 3) := dc9_180 (by decide +kernel)
theorem d_MU_add_108 : decode y_MU_add.2.1 108 = .ok (.aload_n 0, 1) := dc9_42 (by decide +kernel)
theorem d_MU_add_109 : decode y_MU_add.2.1 109 = .ok (.getfield 24, 3) := dc9_180 (by decide +kernel)
theorem d_MU_add_112 : decode y_MU_add.2.1 112 = .ok (.aload_n 0, 1) := dc9_42 (by decide +kernel)
theorem d_MU_add_113 : decode y_MU_add.2.1 113 = .ok (.getfield 28, 3) := dc9_180 (by decide +kernel)
theorem d_MU_add_141 : decode y_MU_add.2.1 141 = .ok (.invokevirtual 68, 3) := dc9_182 (by decide +kernel)
theorem d_MU_add_144 : decode y_MU_add.2.1 144 = .ok (.aload_n 0, 1) := dc9_42 (by decide +kernel)
theorem d_MU_add_145 : decode y_MU_add.2.1 145 = .ok (.getfield 24, 3) := dc9_180 (by decide +kernel)
theorem d_MU_add_148 : decode y_MU_add.2.1 148 = .ok (.aload_n 0, 1) := dc9_42 (by decide +kernel)
theorem d_MU_add_149 : decode y_MU_add.2.1 149 = .ok (.getfield 28, 3) := dc9_180 (by decide +kernel)
theorem d_MU_add_152 : decode y_MU_add.2.1 152 = .ok (.invokevirtual 78, 3) := dc9_182 (by decide +kernel)
theorem d_MU_add_155 : decode y_MU_add.2.1 155 = .ok (.aload_n 0, 1) := dc9_42 (by decide +kernel)
theorem d_MU_add_156 : decode y_MU_add.2.1 156 = .ok (.getfield 14, 3) := dc9_180 (by decide +kernel)
theorem d_MU_add_159 : decode y_MU_add.2.1 159 = .ok (.iload 4, 2) := dc9_21 (by decide +kernel)
theorem d_MU_add_161 : decode y_MU_add.2.1 161 = .ok (.putfield 84, 3) := dc9_181 (by decide +kernel)
theorem d_MU_add_116 : decode y_MU_add.2.1 116 = .ok (.invokevirtual 68, 3) := dc9_182 (by decide +kernel)
theorem d_MU_add_119 : decode y_MU_add.2.1 119 = .ok (.aload_n 0, 1) := dc9_42 (by decide +kernel)
theorem d_MU_add_120 : decode y_MU_add.2.1 120 = .ok (.getfield 14, 3) := dc9_180 (by decide +kernel)
theorem d_MU_add_123 : decode y_MU_add.2.1 123 = .ok (.aload_n 1, 1) := dc9_43 (by decide +kernel)
theorem d_MU_add_124 : decode y_MU_add.2.1 124 = .ok (.getfield 84, 3) := dc9_180 (by decide +kernel)
theorem d_MU_add_127 : decode y_MU_add.2.1 127 = .ok (.putfield 84, 3) := dc9_181 (by decide +kernel)
theorem d_MU_add_130 : decode y_MU_add.2.1 130 = .ok (.goto 34, 3) := dc9_167 (by decide +kernel)
theorem d_MU_add_164 : decode y_MU_add.2.1 164 = .ok (.aload_n 0, 1) := dc9_42 (by decide +kernel)
theorem d_MU_add_165 : decode y_MU_add.2.1 165 = .ok (.getfield 14, 3) := dc9_180 (by decide +kernel)
theorem d_MU_add_168 : decode y_MU_add.2.1 168 = .ok (.getfield 88, 3) := dc9_180 (by decide +kernel)
theorem d_MU_add_171 : decode y_MU_add.2.1 171 = .ok (.aload_n 0, 1) := dc9_42 (by decide +kernel)
theorem d_MU_add_172 : decode y_MU_add.2.1 172 = .ok (.getfield 31, 3) := dc9_180 (by decide +kernel)
theorem d_MU_add_175 : decode y_MU_add.2.1 175 = .ok (.invokevirtual 78, 3) := dc9_182 (by decide +kernel)
theorem d_MU_add_178 : decode y_MU_add.2.1 178 = .ok (.aload_n 0, 1) := dc9_42 (by decide +kernel)
theorem d_MU_add_179 : decode y_MU_add.2.1 179 = .ok (.getfield 14, 3) := dc9_180 (by decide +kernel)
theorem d_MU_add_182 : decode y_MU_add.2.1 182 = .ok (.getfield 81, 3) := dc9_180 (by decide +kernel)
theorem d_MU_add_185 : decode y_MU_add.2.1 185 = .ok (.aload_n 0, 1) := dc9_42 (by decide +kernel)
theorem d_MU_add_186 : decode y_MU_add.2.1 186 = .ok (.getfield 24, 3) := dc9_180 (by decide +kernel)
theorem d_MU_add_189 : decode y_MU_add.2.1 189 = .ok (.invokevirtual 78, 3) := dc9_182 (by decide +kernel)
theorem d_MU_add_192 : decode y_MU_add.2.1 192 = .ok (.aload_n 0, 1) := dc9_42 (by decide +kernel)
theorem d_MU_add_193 : decode y_MU_add.2.1 193 = .ok (.invokevirtual 107, 3) := dc9_182 (by decide +kernel)
theorem d_MU_add_196 : decode y_MU_add.2.1 196 = .ok (.return_, 1) := dc9_177 (by decide +kernel)
def h_MU_add_164 (G : mG) (d : Nat) (a0 : Nat) (M : mM) (Q : mM → Prop) : Prop := mWm G y_MU_add (d + 1) 164 [vr a0, vd, vd, vd, vd] [] M (fun r9 M9 => r9 = none ∧ Q M9)
theorem k_MU_add {G : mG} {d : Nat} {a0 : Nat} {a1 : Nat} {a2 : Nat} {l3 : Int} {M : mM} {Q : mM → Prop} (hO : mOk M) (hi_l3 : i32 l3)
    (h : mK M a2 = 19 ∧ ∀ v3 : Int, v3 = (if (mI M a2 2 = l3) then 0 else 1) → mK M a0 = 18 ∧ mK M a1 = 19 ∧ mK M (mR M a0 2) = 20 ∧ Cv G y_MW_product d [vr (mR M a0 2), vr (mR M a1 0), vr (mR M a2 1)] M (fun M11 => mOk M11 ∧ (mK M11 a0 = 18 ∧ mK M11 a2 = 19 ∧ mK M11 a1 = 19 ∧ mK M11 (mR M11 a0 3) = 20 ∧ Cv G y_MW_product d [vr (mR M11 a0 3), vr (mR M11 a2 0), vr (mR M11 a1 1)] M11 (fun M18 => mOk M18 ∧ (mK M18 a0 = 18 ∧ mK M18 a1 = 19 ∧ mK M18 a2 = 19 ∧ mK M18 (mR M18 a0 4) = 20 ∧ Cv G y_MW_product d [vr (mR M18 a0 4), vr (mR M18 a1 1), vr (mR M18 a2 1)] M18 (fun M25 => mOk M25 ∧ (mK M25 a1 = 19 ∧ ((mI M25 a1 2 = v3) → (mK M25 a0 = 18 ∧ mK M25 (mR M25 a0 2) = 20 ∧ Cv G y_MW_add d [vr (mR M25 a0 2), vr (mR M25 a0 3)] M25 (fun M33 => mOk M33 ∧ (mK M33 a0 = 18 ∧ mK M33 a1 = 19 ∧ mK M33 (mR M33 a0 0) = 19 ∧ ((mI M33 a1 2) = 0 ∨ (mI M33 a1 2) = 1) ∧ ∀ M40, M40 = mUI M33 (mR M33 a0 0) 2 (mI M33 a1 2) → h_MU_add_164 G d a0 M40 Q)))) ∧ (¬ (mI M25 a1 2 = v3) → (mK M25 a0 = 18 ∧ mK M25 (mR M25 a0 2) = 20 ∧ Ci G y_MW_compare d [vr (mR M25 a0 2), vr (mR M25 a0 3)] M25 (fun x45 M44 => i32 x45 ∧ mOk M44 ∧ (((x45 < 0) → (mK M44 a0 = 18 ∧ mK M44 (mR M44 a0 3) = 20 ∧ Cv G y_MW_less d [vr (mR M44 a0 3), vr (mR M44 a0 2)] M44 (fun M51 => mOk M51 ∧ (mK M51 a0 = 18 ∧ mK M51 (mR M51 a0 2) = 20 ∧ Cv G y_MW_copy d [vr (mR M51 a0 2), vr (mR M51 a0 3)] M51 (fun M56 => mOk M56 ∧ (mK M56 a0 = 18 ∧ mK M56 (mR M56 a0 0) = 19 ∧ ∀ M61, M61 = mUI M56 (mR M56 a0 0) 2 v3 → h_MU_add_164 G d a0 M61 Q)))))) ∧ (¬ (x45 < 0) → (mK M44 a0 = 18 ∧ mK M44 (mR M44 a0 2) = 20 ∧ Cv G y_MW_less d [vr (mR M44 a0 2), vr (mR M44 a0 3)] M44 (fun M65 => mOk M65 ∧ (mK M65 a0 = 18 ∧ mK M65 a1 = 19 ∧ mK M65 (mR M65 a0 0) = 19 ∧ ((mI M65 a1 2) = 0 ∨ (mI M65 a1 2) = 1) ∧ ∀ M72, M72 = mUI M65 (mR M65 a0 0) 2 (mI M65 a1 2) → h_MU_add_164 G d a0 M72 Q))))))))))))))) :
    Cv G y_MU_add (d + 1) [vr a0, vr a1, vr a2, vi l3] M Q := by
  refine wm_open (y := y_MU_add) rfl (Nat.le_of_ble_eq_true rfl) (L := [vr a0, vr a1, vr a2, vi l3, vd]) rfl ?_
  obtain ⟨h1, h⟩ := h
  refine wm_aload_n d_MU_add_0 rfl rfl ?_
  refine gf_MU_84 rfl d_MU_add_1 h1 ?_
  refine wm_iload_n d_MU_add_4 rfl rfl ?_
  have hJ : ∀ v3 : Int, v3 = (if (mI M a2 2 = l3) then 0 else 1) → mWm G y_MU_add (d + 1) 13 [vr a0, vr a1, vr a2, vd, vd] [vi v3] M (fun r9 M9 => r9 = none ∧ Q M9) := by
    intro v3 e5
    have h := h v3 e5
    have h6 : i32 v3 := by rw [e5]; (repeat' split) <;> first | exact ⟨by decide, by decide⟩ | exact ⟨by decide, by decide⟩
    have h7 : (v3 = 0 ∨ v3 = 1) := by rw [e5]; (repeat' split) <;> decide
    obtain ⟨h8, h⟩ := h
    obtain ⟨h9, h⟩ := h
    obtain ⟨h10, h⟩ := h
    refine wm_istore d_MU_add_13 (by decide) (L' := [vr a0, vr a1, vr a2, vd, vi v3]) rfl ?_
    refine wm_aload_n d_MU_add_15 rfl rfl ?_
    refine gf_MU_24 rfl d_MU_add_16 h8 ?_
    refine wm_aload_n d_MU_add_19 rfl rfl ?_
    refine gf_MU_81 rfl d_MU_add_20 h9 ?_
    refine wm_aload_n d_MU_add_23 rfl rfl ?_
    refine gf_MU_88 rfl d_MU_add_24 h1 ?_
    refine cf_MU_101 rfl d_MU_add_27 h10 (Nat.le_of_ble_eq_true rfl) (Cv.mono h (fun M11 h => ?_))
    obtain ⟨hOM11, h⟩ := h
    obtain ⟨h14, h⟩ := h
    obtain ⟨h15, h⟩ := h
    obtain ⟨h16, h⟩ := h
    obtain ⟨h17, h⟩ := h
    refine wm_aload_n d_MU_add_30 rfl rfl ?_
    refine gf_MU_28 rfl d_MU_add_31 h14 ?_
    refine wm_aload_n d_MU_add_34 rfl rfl ?_
    refine gf_MU_81 rfl d_MU_add_35 h15 ?_
    refine wm_aload_n d_MU_add_38 rfl rfl ?_
    refine gf_MU_88 rfl d_MU_add_39 h16 ?_
    refine cf_MU_101 rfl d_MU_add_42 h17 (Nat.le_of_ble_eq_true rfl) (Cv.mono h (fun M18 h => ?_))
    obtain ⟨hOM18, h⟩ := h
    obtain ⟨h21, h⟩ := h
    obtain ⟨h22, h⟩ := h
    obtain ⟨h23, h⟩ := h
    obtain ⟨h24, h⟩ := h
    refine wm_aload_n d_MU_add_45 rfl rfl ?_
    refine gf_MU_31 rfl d_MU_add_46 h21 ?_
    refine wm_aload_n d_MU_add_49 rfl rfl ?_
    refine gf_MU_88 rfl d_MU_add_50 h22 ?_
    refine wm_aload_n d_MU_add_53 rfl rfl ?_
    refine gf_MU_88 rfl d_MU_add_54 h23 ?_
    refine cf_MU_101 rfl d_MU_add_57 h24 (Nat.le_of_ble_eq_true rfl) (Cv.mono h (fun M25 h => ?_))
    obtain ⟨hOM25, h⟩ := h
    obtain ⟨h28, h⟩ := h
    refine wm_aload_n d_MU_add_60 rfl rfl ?_
    refine gf_MU_84 rfl d_MU_add_61 h28 ?_
    refine wm_iload d_MU_add_64 rfl ?_
    refine wm_icmp_ne (tgt := 94) d_MU_add_66 rfl (hOM25 _ _).1 h6 (fun c30 => ?_) (fun c30 => ?_)
    · replace h := h.2 c30
      obtain ⟨h42, h⟩ := h
      obtain ⟨h43, h⟩ := h
      refine wm_aload_n d_MU_add_94 rfl rfl ?_
      refine gf_MU_24 rfl d_MU_add_95 h42 ?_
      refine wm_aload_n d_MU_add_98 rfl rfl ?_
      refine gf_MU_28 rfl d_MU_add_99 h42 ?_
      refine cf_MU_64 rfl d_MU_add_102 h43 (Nat.le_of_ble_eq_true rfl) (Ci.mono h (fun x45 M44 h => ?_))
      obtain ⟨h46, hOM44, h⟩ := h
      refine wm_if_lt (tgt := 133) d_MU_add_105 rfl h46 (fun c48 => ?_) (fun c48 => ?_)
      · replace h := h.1 c48
        obtain ⟨h49, h⟩ := h
        obtain ⟨h50, h⟩ := h
        refine wm_aload_n d_MU_add_133 rfl rfl ?_
        refine gf_MU_28 rfl d_MU_add_134 h49 ?_
        refine wm_aload_n d_MU_add_137 rfl rfl ?_
        refine gf_MU_24 rfl d_MU_add_138 h49 ?_
        refine cf_MU_68 rfl d_MU_add_141 h50 (Nat.le_of_ble_eq_true rfl) (Cv.mono h (fun M51 h => ?_))
        obtain ⟨hOM51, h⟩ := h
        obtain ⟨h54, h⟩ := h
        obtain ⟨h55, h⟩ := h
        refine wm_aload_n d_MU_add_144 rfl rfl ?_
        refine gf_MU_24 rfl d_MU_add_145 h54 ?_
        refine wm_aload_n d_MU_add_148 rfl rfl ?_
        refine gf_MU_28 rfl d_MU_add_149 h54 ?_
        refine cf_MU_78 rfl d_MU_add_152 h55 (Nat.le_of_ble_eq_true rfl) (Cv.mono h (fun M56 h => ?_))
        obtain ⟨hOM56, h⟩ := h
        obtain ⟨h59, h⟩ := h
        obtain ⟨h60, h⟩ := h
        obtain ⟨M61, e62⟩ : ∃ M61, M61 = mUI M56 (mR M56 a0 0) 2 v3 := ⟨_, rfl⟩
        replace h := h M61 e62
        refine wm_aload_n d_MU_add_155 rfl rfl ?_
        refine gf_MU_14 rfl d_MU_add_156 h59 ?_
        refine wm_iload d_MU_add_159 rfl ?_
        have hOM61 : mOk M61 := by rw [e62]; exact mOk_UI hOM56 (m_b32 h7)
        refine pf_MU_84 rfl d_MU_add_161 h60 h7 e62 ?_
        refine wm_less (L' := [vr a0, vd, vd, vd, vd]) ⟨Or.inr rfl, Or.inl rfl, Or.inl rfl, Or.inl rfl, Or.inl rfl, trivial⟩ ?_
        exact h
      · replace h := h.2 c48
        obtain ⟨h63, h⟩ := h
        obtain ⟨h64, h⟩ := h
        refine wm_aload_n d_MU_add_108 rfl rfl ?_
        refine gf_MU_24 rfl d_MU_add_109 h63 ?_
        refine wm_aload_n d_MU_add_112 rfl rfl ?_
        refine gf_MU_28 rfl d_MU_add_113 h63 ?_
        refine cf_MU_68 rfl d_MU_add_116 h64 (Nat.le_of_ble_eq_true rfl) (Cv.mono h (fun M65 h => ?_))
        obtain ⟨hOM65, h⟩ := h
        obtain ⟨h68, h⟩ := h
        obtain ⟨h69, h⟩ := h
        obtain ⟨h70, h⟩ := h
        obtain ⟨h71, h⟩ := h
        obtain ⟨M72, e73⟩ : ∃ M72, M72 = mUI M65 (mR M65 a0 0) 2 (mI M65 a1 2) := ⟨_, rfl⟩
        replace h := h M72 e73
        refine wm_aload_n d_MU_add_119 rfl rfl ?_
        refine gf_MU_14 rfl d_MU_add_120 h68 ?_
        refine wm_aload_n d_MU_add_123 rfl rfl ?_
        refine gf_MU_84 rfl d_MU_add_124 h69 ?_
        have hOM72 : mOk M72 := by rw [e73]; exact mOk_UI hOM65 (m_b32 h71)
        refine pf_MU_84 rfl d_MU_add_127 h70 h71 e73 ?_
        refine wm_goto (tgt := 164) d_MU_add_130 rfl ?_
        refine wm_less (L' := [vr a0, vd, vd, vd, vd]) ⟨Or.inr rfl, Or.inl rfl, Or.inl rfl, Or.inl rfl, Or.inl rfl, trivial⟩ ?_
        exact h
    · replace c30 := Classical.not_not.mp c30
      replace h := h.1 c30
      obtain ⟨h31, h⟩ := h
      obtain ⟨h32, h⟩ := h
      refine wm_aload_n d_MU_add_69 rfl rfl ?_
      refine gf_MU_24 rfl d_MU_add_70 h31 ?_
      refine wm_aload_n d_MU_add_73 rfl rfl ?_
      refine gf_MU_28 rfl d_MU_add_74 h31 ?_
      refine cf_MU_104 rfl d_MU_add_77 h32 (Nat.le_of_ble_eq_true rfl) (Cv.mono h (fun M33 h => ?_))
      obtain ⟨hOM33, h⟩ := h
      obtain ⟨h36, h⟩ := h
      obtain ⟨h37, h⟩ := h
      obtain ⟨h38, h⟩ := h
      obtain ⟨h39, h⟩ := h
      obtain ⟨M40, e41⟩ : ∃ M40, M40 = mUI M33 (mR M33 a0 0) 2 (mI M33 a1 2) := ⟨_, rfl⟩
      replace h := h M40 e41
      refine wm_aload_n d_MU_add_80 rfl rfl ?_
      refine gf_MU_14 rfl d_MU_add_81 h36 ?_
      refine wm_aload_n d_MU_add_84 rfl rfl ?_
      refine gf_MU_84 rfl d_MU_add_85 h37 ?_
      have hOM40 : mOk M40 := by rw [e41]; exact mOk_UI hOM33 (m_b32 h39)
      refine pf_MU_84 rfl d_MU_add_88 h38 h39 e41 ?_
      refine wm_goto (tgt := 164) d_MU_add_91 rfl ?_
      refine wm_less (L' := [vr a0, vd, vd, vd, vd]) ⟨Or.inr rfl, Or.inl rfl, Or.inl rfl, Or.inl rfl, Or.inl rfl, trivial⟩ ?_
      exact h
  clear h
  refine wm_icmp_eq (tgt := 12) d_MU_add_5 rfl (hO _ _).1 hi_l3 (fun c2 => ?_) (fun c2 => ?_)
  · refine wm_iconst d_MU_add_12 ?_
    refine wm_less (L' := [vr a0, vr a1, vr a2, vd, vd]) ⟨Or.inr rfl, Or.inr rfl, Or.inr rfl, Or.inl rfl, Or.inl rfl, trivial⟩ ?_
    exact hJ 0 (if_pos c2).symm
  · refine wm_iconst d_MU_add_8 ?_
    refine wm_goto (tgt := 13) d_MU_add_9 rfl ?_
    refine wm_less (L' := [vr a0, vr a1, vr a2, vd, vd]) ⟨Or.inr rfl, Or.inr rfl, Or.inr rfl, Or.inl rfl, Or.inl rfl, trivial⟩ ?_
    exact hJ 1 (if_neg c2).symm
theorem k_MU_add_164 {G : mG} {d : Nat} {a0 : Nat} {M : mM} {Q : mM → Prop} (hO : mOk M)
    (h : mK M a0 = 18 ∧ mK M (mR M a0 0) = 19 ∧ mK M (mR M (mR M a0 0) 1) = 20 ∧ Cv G y_MW_copy d [vr (mR M (mR M a0 0) 1), vr (mR M a0 4)] M (fun M78 => mOk M78 ∧ (mK M78 a0 = 18 ∧ mK M78 (mR M78 a0 0) = 19 ∧ mK M78 (mR M78 (mR M78 a0 0) 0) = 20 ∧ Cv G y_MW_copy d [vr (mR M78 (mR M78 a0 0) 0), vr (mR M78 a0 2)] M78 (fun M84 => mOk M84 ∧ (mK M84 a0 = 18 ∧ Cv G y_MU_settle d [vr a0] M84 (fun M88 => mOk M88 ∧ (Q M88))))))) :
    h_MU_add_164 G d a0 M Q := by
  unfold h_MU_add_164
  obtain ⟨h75, h⟩ := h
  obtain ⟨h76, h⟩ := h
  obtain ⟨h77, h⟩ := h
  refine wm_aload_n d_MU_add_164 rfl rfl ?_
  refine gf_MU_14 rfl d_MU_add_165 h75 ?_
  refine gf_MU_88 rfl d_MU_add_168 h76 ?_
  refine wm_aload_n d_MU_add_171 rfl rfl ?_
  refine gf_MU_31 rfl d_MU_add_172 h75 ?_
  refine cf_MU_78 rfl d_MU_add_175 h77 (Nat.le_of_ble_eq_true rfl) (Cv.mono h (fun M78 h => ?_))
  obtain ⟨hOM78, h⟩ := h
  obtain ⟨h81, h⟩ := h
  obtain ⟨h82, h⟩ := h
  obtain ⟨h83, h⟩ := h
  refine wm_aload_n d_MU_add_178 rfl rfl ?_
  refine gf_MU_14 rfl d_MU_add_179 h81 ?_
  refine gf_MU_81 rfl d_MU_add_182 h82 ?_
  refine wm_aload_n d_MU_add_185 rfl rfl ?_
  refine gf_MU_24 rfl d_MU_add_186 h81 ?_
  refine cf_MU_78 rfl d_MU_add_189 h83 (Nat.le_of_ble_eq_true rfl) (Cv.mono h (fun M84 h => ?_))
  obtain ⟨hOM84, h⟩ := h
  obtain ⟨h87, h⟩ := h
  refine wm_aload_n d_MU_add_192 rfl rfl ?_
  refine cf_MU_107 rfl d_MU_add_193 h87 (Nat.le_of_ble_eq_true rfl) (Cv.mono h (fun M88 h => ?_))
  obtain ⟨hOM88, h⟩ := h
  refine wm_return d_MU_add_196 rfl ?_
  exact ⟨rfl, h⟩
end
