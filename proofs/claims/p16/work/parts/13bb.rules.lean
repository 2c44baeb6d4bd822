theorem d_MS_comes_0 : decode y_MS_comes.2.1 0 = .ok (.iconst 0, 1) := by decide +kernel
theorem d_MS_comes_1 : decode y_MS_comes.2.1 1 = .ok (.istore_n 3, 1) := by decide +kernel
theorem d_MS_comes_2 : decode y_MS_comes.2.1 2 = .ok (.aload_n 0, 1) := by decide +kernel
theorem d_MS_comes_3 : decode y_MS_comes.2.1 3 = .ok (.iload_n 1, 1) := by decide +kernel
theorem d_MS_comes_4 : decode y_MS_comes.2.1 4 = .ok (.invokevirtual 116, 3) := by decide +kernel
theorem d_MS_comes_7 : decode y_MS_comes.2.1 7 = .ok (.ifCond .le 7, 3) := by decide +kernel
theorem d_MS_comes_14 : decode y_MS_comes.2.1 14 = .ok (.iconst 0, 1) := by decide +kernel
theorem d_MS_comes_10 : decode y_MS_comes.2.1 10 = .ok (.iconst 1, 1) := by decide +kernel
theorem d_MS_comes_11 : decode y_MS_comes.2.1 11 = .ok (.goto 4, 3) := by decide +kernel
theorem d_MS_comes_15 : decode y_MS_comes.2.1 15 = .ok (.istore 4, 2) := by decide +kernel
theorem d_MS_comes_17 : decode y_MS_comes.2.1 17 = .ok (.iconst 0, 1) := by decide +kernel
theorem d_MS_comes_18 : decode y_MS_comes.2.1 18 = .ok (.istore 5, 2) := by decide +kernel
theorem d_MS_comes_20 : decode y_MS_comes.2.1 20 = .ok (.iload 5, 2) := by decide +kernel
theorem d_MS_comes_22 : decode y_MS_comes.2.1 22 = .ok (.aload_n 0, 1) := by decide +kernel
theorem d_MS_comes_23 : decode y_MS_comes.2.1 23 = .ok (.iload_n 1, 1) := by decide +kernel
theorem d_MS_comes_24 : decode y_MS_comes.2.1 24 = .ok (.invokevirtual 116, 3) := by decide +kernel
theorem d_MS_comes_27 : decode y_MS_comes.2.1 27 = .ok (.if_icmp .ge 110, 3) := by decide +kernel
theorem d_MS_comes_137 : decode y_MS_comes.2.1 137 = .ok (.aload_n 0, 1) := by decide +kernel
theorem d_MS_comes_138 : decode y_MS_comes.2.1 138 = .ok (.getfield 16, 3) := by decide +kernel
theorem d_MS_comes_141 : decode y_MS_comes.2.1 141 = .ok (.iload_n 1, 1) := by decide +kernel
theorem d_MS_comes_142 : decode y_MS_comes.2.1 142 = .ok (.iaload, 1) := by decide +kernel
theorem d_MS_comes_143 : decode y_MS_comes.2.1 143 = .ok (.iconst 1, 1) := by decide +kernel
theorem d_MS_comes_30 : decode y_MS_comes.2.1 30 = .ok (.aload_n 0, 1) := by decide +kernel
theorem d_MS_comes_31 : decode y_MS_comes.2.1 31 = .ok (.getfield 16, 3) := by decide +kernel
theorem d_MS_comes_34 : decode y_MS_comes.2.1 34 = .ok (.iload_n 1, 1) := by decide +kernel
theorem d_MS_comes_35 : decode y_MS_comes.2.1 35 = .ok (.iaload, 1) := by decide +kernel
theorem d_MS_comes_36 : decode y_MS_comes.2.1 36 = .ok (.iconst 1, 1) := by decide +kernel
theorem d_MS_comes_144 : decode y_MS_comes.2.1 144 = .ok (.if_icmp .ne 7, 3) := by decide +kernel
theorem d_MS_comes_147 : decode y_MS_comes.2.1 147 = .ok (.iload_n 3, 1) := by decide +kernel
theorem d_MS_comes_148 : decode y_MS_comes.2.1 148 = .ok (.goto 23, 3) := by decide +kernel
theorem d_MS_comes_171 : decode y_MS_comes.2.1 171 = .ok (.ireturn, 1) := by decide +kernel
theorem d_MS_comes_151 : decode y_MS_comes.2.1 151 = .ok (.aload_n 0, 1) := by decide +kernel
theorem d_MS_comes_152 : decode y_MS_comes.2.1 152 = .ok (.getfield 16, 3) := by decide +kernel
theorem d_MS_comes_155 : decode y_MS_comes.2.1 155 = .ok (.iload_n 1, 1) := by decide +kernel
theorem d_MS_comes_156 : decode y_MS_comes.2.1 156 = .ok (.iaload, 1) := by decide +kernel
theorem d_MS_comes_157 : decode y_MS_comes.2.1 157 = .ok (.iconst 2, 1) := by decide +kernel
theorem d_MS_comes_158 : decode y_MS_comes.2.1 158 = .ok (.if_icmp .ne 12, 3) := by decide +kernel
theorem d_MS_comes_161 : decode y_MS_comes.2.1 161 = .ok (.iload 4, 2) := by decide +kernel
theorem d_MS_comes_163 : decode y_MS_comes.2.1 163 = .ok (.ifCond .eq 7, 3) := by decide +kernel
theorem d_MS_comes_166 : decode y_MS_comes.2.1 166 = .ok (.iconst 1, 1) := by decide +kernel
theorem d_MS_comes_167 : decode y_MS_comes.2.1 167 = .ok (.goto 4, 3) := by decide +kernel
theorem d_MS_comes_37 : decode y_MS_comes.2.1 37 = .ok (.if_icmp .ne 26, 3) := by decide +kernel
theorem d_MS_comes_40 : decode y_MS_comes.2.1 40 = .ok (.iload_n 2, 1) := by decide +kernel
theorem d_MS_comes_41 : decode y_MS_comes.2.1 41 = .ok (.ifCond .eq 22, 3) := by decide +kernel
theorem d_MS_comes_44 : decode y_MS_comes.2.1 44 = .ok (.aload_n 0, 1) := by decide +kernel
theorem d_MS_comes_45 : decode y_MS_comes.2.1 45 = .ok (.getfield 60, 3) := by decide +kernel
theorem d_MS_comes_48 : decode y_MS_comes.2.1 48 = .ok (.iload_n 1, 1) := by decide +kernel
theorem d_MS_comes_49 : decode y_MS_comes.2.1 49 = .ok (.iaload, 1) := by decide +kernel
theorem d_MS_comes_50 : decode y_MS_comes.2.1 50 = .ok (.iload 5, 2) := by decide +kernel
theorem d_MS_comes_52 : decode y_MS_comes.2.1 52 = .ok (.if_icmp .ne 7, 3) := by decide +kernel
theorem d_MS_comes_55 : decode y_MS_comes.2.1 55 = .ok (.iconst 1, 1) := by decide +kernel
theorem d_MS_comes_56 : decode y_MS_comes.2.1 56 = .ok (.goto 14, 3) := by decide +kernel
theorem d_MS_comes_59 : decode y_MS_comes.2.1 59 = .ok (.iconst 0, 1) := by decide +kernel
theorem d_MS_comes_60 : decode y_MS_comes.2.1 60 = .ok (.goto 10, 3) := by decide +kernel
theorem d_MS_comes_170 : decode y_MS_comes.2.1 170 = .ok (.iconst 0, 1) := by decide +kernel
theorem d_MS_comes_63 : decode y_MS_comes.2.1 63 = .ok (.aload_n 0, 1) := by decide +kernel
theorem d_MS_comes_64 : decode y_MS_comes.2.1 64 = .ok (.iload_n 1, 1) := by decide +kernel
theorem d_MS_comes_65 : decode y_MS_comes.2.1 65 = .ok (.iload 5, 2) := by decide +kernel
theorem d_MS_comes_67 : decode y_MS_comes.2.1 67 = .ok (.invokevirtual 120, 3) := by decide +kernel
theorem d_MS_comes_70 : decode y_MS_comes.2.1 70 = .ok (.istore 6, 2) := by decide +kernel
theorem d_MS_comes_72 : decode y_MS_comes.2.1 72 = .ok (.iload 6, 2) := by decide +kernel
theorem d_MS_comes_74 : decode y_MS_comes.2.1 74 = .ok (.ifCond .eq 17, 3) := by decide +kernel
theorem d_MS_comes_77 : decode y_MS_comes.2.1 77 = .ok (.aload_n 0, 1) := by decide +kernel
theorem d_MS_comes_78 : decode y_MS_comes.2.1 78 = .ok (.iload_n 1, 1) := by decide +kernel
theorem d_MS_comes_79 : decode y_MS_comes.2.1 79 = .ok (.iload 5, 2) := by decide +kernel
theorem d_MS_comes_91 : decode y_MS_comes.2.1 91 = .ok (.iconst 0, 1) := by decide +kernel
theorem d_MS_comes_81 : decode y_MS_comes.2.1 81 = .ok (.invokevirtual 124, 3) := by decide +kernel
theorem d_MS_comes_84 : decode y_MS_comes.2.1 84 = .ok (.ifCond .eq 7, 3) := by decide +kernel
theorem d_MS_comes_87 : decode y_MS_comes.2.1 87 = .ok (.iconst 1, 1) := by decide +kernel
theorem d_MS_comes_88 : decode y_MS_comes.2.1 88 = .ok (.goto 4, 3) := by decide +kernel
theorem d_MS_comes_92 : decode y_MS_comes.2.1 92 = .ok (.istore 7, 2) := by decide +kernel
theorem d_MS_comes_94 : decode y_MS_comes.2.1 94 = .ok (.iload_n 3, 1) := by decide +kernel
theorem d_MS_comes_95 : decode y_MS_comes.2.1 95 = .ok (.ifCond .ne 8, 3) := by decide +kernel
theorem d_MS_comes_98 : decode y_MS_comes.2.1 98 = .ok (.iload 7, 2) := by decide +kernel
theorem d_MS_comes_100 : decode y_MS_comes.2.1 100 = .ok (.ifCond .eq 7, 3) := by decide +kernel
theorem d_MS_comes_107 : decode y_MS_comes.2.1 107 = .ok (.iconst 0, 1) := by decide +kernel
theorem d_MS_comes_103 : decode y_MS_comes.2.1 103 = .ok (.iconst 1, 1) := by decide +kernel
theorem d_MS_comes_104 : decode y_MS_comes.2.1 104 = .ok (.goto 4, 3) := by decide +kernel
theorem d_MS_comes_108 : decode y_MS_comes.2.1 108 = .ok (.istore_n 3, 1) := by decide +kernel
theorem d_MS_comes_109 : decode y_MS_comes.2.1 109 = .ok (.iload 4, 2) := by decide +kernel
theorem d_MS_comes_111 : decode y_MS_comes.2.1 111 = .ok (.ifCond .eq 17, 3) := by decide +kernel
theorem d_MS_comes_128 : decode y_MS_comes.2.1 128 = .ok (.iconst 0, 1) := by decide +kernel
theorem d_MS_comes_114 : decode y_MS_comes.2.1 114 = .ok (.iload 6, 2) := by decide +kernel
theorem d_MS_comes_116 : decode y_MS_comes.2.1 116 = .ok (.ifCond .eq 8, 3) := by decide +kernel
theorem d_MS_comes_124 : decode y_MS_comes.2.1 124 = .ok (.iconst 1, 1) := by decide +kernel
theorem d_MS_comes_125 : decode y_MS_comes.2.1 125 = .ok (.goto 4, 3) := by decide +kernel
theorem d_MS_comes_119 : decode y_MS_comes.2.1 119 = .ok (.iload 7, 2) := by decide +kernel
theorem d_MS_comes_121 : decode y_MS_comes.2.1 121 = .ok (.ifCond .eq 7, 3) := by decide +kernel
theorem d_MS_comes_129 : decode y_MS_comes.2.1 129 = .ok (.istore 4, 2) := by decide +kernel
theorem d_MS_comes_131 : decode y_MS_comes.2.1 131 = .ok (.iinc 5 1, 3) := by decide +kernel
theorem d_MS_comes_134 : decode y_MS_comes.2.1 134 = .ok (.goto (-114), 3) := by decide +kernel
def h_MS_comes_20 (G : mG) (d : Nat) (a0 : Nat) (l1 : Int) (l2 : Int) (l3 : Int) (l4 : Int) (l5 : Int) (M : mM) (Q : Int → mM → Prop) : Prop := mWm G y_MS_comes (d + 1) 20 [vr a0, vi l1, vi l2, vi l3, vi l4, vi l5, vd, vd] [] M (fun r9 M9 => ∃ x9, r9 = some (vi x9) ∧ Q x9 M9)
def h_MS_comes_70 (G : mG) (d : Nat) (a0 : Nat) (l1 : Int) (l2 : Int) (l3 : Int) (l4 : Int) (l5 : Int) (k0 : Int) (M : mM) (Q : Int → mM → Prop) : Prop := mWm G y_MS_comes (d + 1) 70 [vr a0, vi l1, vi l2, vi l3, vi l4, vi l5, vd, vd] [vi k0] M (fun r9 M9 => ∃ x9, r9 = some (vi x9) ∧ Q x9 M9)
def h_MS_comes_92 (G : mG) (d : Nat) (a0 : Nat) (l1 : Int) (l2 : Int) (l3 : Int) (l4 : Int) (l5 : Int) (l6 : Int) (k0 : Int) (M : mM) (Q : Int → mM → Prop) : Prop := mWm G y_MS_comes (d + 1) 92 [vr a0, vi l1, vi l2, vi l3, vi l4, vi l5, vi l6, vd] [vi k0] M (fun r9 M9 => ∃ x9, r9 = some (vi x9) ∧ Q x9 M9)
theorem k_MS_comes {G : mG} {d : Nat} {a0 : Nat} {l1 : Int} {l2 : Int} {M : mM} {Q : Int → mM → Prop} (hO : mOk M) (hi_l1 : i32 l1) (hi_l2 : i32 l2)
    (h : mK M a0 = 17 ∧ Ci G y_MS_many d [vr a0, vi l1] M (fun x3 M2 => i32 x3 ∧ mOk M2 ∧ (∀ v6 : Int, v6 = (if (x3 ≤ 0) then 0 else 1) → h_MS_comes_20 G d a0 l1 l2 0 v6 0 M2 Q))) :
    Ci G y_MS_comes (d + 1) [vr a0, vi l1, vi l2] M Q := by
  refine wm_open (y := y_MS_comes) rfl (Nat.le_of_ble_eq_true rfl) (L := [vr a0, vi l1, vi l2, vd, vd, vd, vd, vd]) rfl ?_
  obtain ⟨h1, h⟩ := h
  refine wm_iconst d_MS_comes_0 ?_
  refine wm_istore_n d_MS_comes_1 rfl (by decide) (L' := [vr a0, vi l1, vi l2, vi 0, vd, vd, vd, vd]) rfl ?_
  refine wm_aload_n d_MS_comes_2 rfl rfl ?_
  refine wm_iload_n d_MS_comes_3 rfl rfl ?_
  refine cf_MS_116 rfl d_MS_comes_4 h1 (Nat.le_of_ble_eq_true rfl) (Ci.mono h (fun x3 M2 h => ?_))
  obtain ⟨h4, hOM2, h⟩ := h
  have hJ : ∀ v6 : Int, v6 = (if (x3 ≤ 0) then 0 else 1) → mWm G y_MS_comes (d + 1) 15 [vr a0, vi l1, vi l2, vi 0, vd, vd, vd, vd] [vi v6] M2 (fun r9 M9 => ∃ x9, r9 = some (vi x9) ∧ Q x9 M9) := by
    intro v6 e8
    have h := h v6 e8
    have h9 : i32 v6 := by rw [e8]; (repeat' split) <;> first | exact ⟨by decide, by decide⟩ | exact ⟨by decide, by decide⟩
    have h10 : (v6 = 0 ∨ v6 = 1) := by rw [e8]; (repeat' split) <;> decide
    refine wm_istore d_MS_comes_15 (by decide) (L' := [vr a0, vi l1, vi l2, vi 0, vi v6, vd, vd, vd]) rfl ?_
    refine wm_iconst d_MS_comes_17 ?_
    refine wm_istore d_MS_comes_18 (by decide) (L' := [vr a0, vi l1, vi l2, vi 0, vi v6, vi 0, vd, vd]) rfl ?_
    exact h
  clear h
  refine wm_if_le (tgt := 14) d_MS_comes_7 rfl h4 (fun c5 => ?_) (fun c5 => ?_)
  · refine wm_iconst d_MS_comes_14 ?_
    exact hJ 0 (if_pos c5).symm
  · refine wm_iconst d_MS_comes_10 ?_
    refine wm_goto (tgt := 15) d_MS_comes_11 rfl ?_
    exact hJ 1 (if_neg c5).symm
theorem k_MS_comes_20 {G : mG} {d : Nat} {a0 : Nat} {l1 : Int} {l2 : Int} {l3 : Int} {l4 : Int} {l5 : Int} {M : mM} {Q : Int → mM → Prop} (hO : mOk M) (hi_l1 : i32 l1) (hi_l2 : i32 l2) (hi_l3 : i32 l3) (hi_l4 : i32 l4) (hi_l5 : i32 l5)
    (h : mK M a0 = 17 ∧ Ci G y_MS_many d [vr a0, vi l1] M (fun x14 M13 => i32 x14 ∧ mOk M13 ∧ (((x14 ≤ l5) → (mK M13 a0 = 17 ∧ mK M13 (mR M13 a0 4) = 30 ∧ ((0 : Int) ≤ l1 ∧ l1 < (mN M13 (mR M13 a0 4) : Int)) ∧ (¬ (mI M13 (mR M13 a0 4) (Int.toNat l1) = 1) → ((0 : Int) ≤ l1 ∧ l1 < (mN M13 (mR M13 a0 4) : Int))) ∧ ∀ v51 : Int, v51 = (if mI M13 (mR M13 a0 4) (Int.toNat l1) = 1 then l3 else (if mI M13 (mR M13 a0 4) (Int.toNat l1) = 2 then (if l4 = 0 then 0 else 1) else 0)) → (v51 = 0 ∨ v51 = 1) ∧ Q v51 M13)) ∧ (¬ (x14 ≤ l5) → (mK M13 a0 = 17 ∧ mK M13 (mR M13 a0 4) = 30 ∧ ((0 : Int) ≤ l1 ∧ l1 < (mN M13 (mR M13 a0 4) : Int)) ∧ (((¬ (mI M13 (mR M13 a0 4) (Int.toNat l1) = 1)) ∨ (l2 = 0)) → (Ci G y_MS_may d [vr a0, vi l1, vi l5] M13 (fun x68 M67 => i32 x68 ∧ mOk M67 ∧ (h_MS_comes_70 G d a0 l1 l2 l3 l4 l5 x68 M67 Q)))) ∧ (¬ ((¬ (mI M13 (mR M13 a0 4) (Int.toNat l1) = 1)) ∨ (l2 = 0)) → (mK M13 (mR M13 a0 18) = 30 ∧ ((0 : Int) ≤ l1 ∧ l1 < (mN M13 (mR M13 a0 18) : Int)) ∧ ((mI M13 (mR M13 a0 18) (Int.toNat l1) = l5) → (h_MS_comes_70 G d a0 l1 l2 l3 l4 l5 1 M13 Q)) ∧ (¬ (mI M13 (mR M13 a0 18) (Int.toNat l1) = l5) → (h_MS_comes_70 G d a0 l1 l2 l3 l4 l5 0 M13 Q))))))))) :
    h_MS_comes_20 G d a0 l1 l2 l3 l4 l5 M Q := by
  unfold h_MS_comes_20
  obtain ⟨h12, h⟩ := h
  refine wm_iload d_MS_comes_20 rfl ?_
  refine wm_aload_n d_MS_comes_22 rfl rfl ?_
  refine wm_iload_n d_MS_comes_23 rfl rfl ?_
  refine cf_MS_116 rfl d_MS_comes_24 h12 (Nat.le_of_ble_eq_true rfl) (Ci.mono h (fun x14 M13 h => ?_))
  obtain ⟨h15, hOM13, h⟩ := h
  refine wm_icmp_ge (tgt := 137) d_MS_comes_27 rfl hi_l5 h15 (fun c43 => ?_) (fun c43 => ?_)
  · replace h := h.1 c43
    obtain ⟨h44, h⟩ := h
    obtain ⟨h45, h⟩ := h
    obtain ⟨h46, h⟩ := h
    refine wm_aload_n d_MS_comes_137 rfl rfl ?_
    refine gf_MS_16 rfl d_MS_comes_138 h44 ?_
    refine wm_iload_n d_MS_comes_141 rfl rfl ?_
    refine wm_iald d_MS_comes_142 h45 h46 ?_
    refine wm_iconst d_MS_comes_143 ?_
    obtain ⟨s52, h⟩ := h
    have hJ : ∀ v51 : Int, v51 = (if mI M13 (mR M13 a0 4) (Int.toNat l1) = 1 then l3 else (if mI M13 (mR M13 a0 4) (Int.toNat l1) = 2 then (if l4 = 0 then 0 else 1) else 0)) → mWm G y_MS_comes (d + 1) 171 [vd, vd, vd, vd, vd, vd, vd, vd] [vi v51] M13 (fun r9 M9 => ∃ x9, r9 = some (vi x9) ∧ Q x9 M9) := by
      intro v51 e53
      have h := h v51 e53
      have h54 : i32 v51 := by rw [e53]; (repeat' split) <;> first | exact hi_l3 | exact ⟨by decide, by decide⟩ | exact ⟨by decide, by decide⟩
      obtain ⟨h55, h⟩ := h
      refine wm_ireturn d_MS_comes_171 rfl (m_nb h55) ?_
      exact ⟨_, rfl, h⟩
    clear h
    have s56 := s52
    refine wm_icmp_ne (tgt := 151) d_MS_comes_144 rfl (hOM13 _ _).1 ⟨by decide, by decide⟩ (fun c47 => ?_) (fun c47 => ?_)
    · have s56 := s56 c47
      have h48 := s56
      refine wm_aload_n d_MS_comes_151 rfl rfl ?_
      refine gf_MS_16 rfl d_MS_comes_152 h44 ?_
      refine wm_iload_n d_MS_comes_155 rfl rfl ?_
      refine wm_iald d_MS_comes_156 h45 h48 ?_
      refine wm_iconst d_MS_comes_157 ?_
      refine wm_icmp_ne (tgt := 170) d_MS_comes_158 rfl (hOM13 _ _).1 ⟨by decide, by decide⟩ (fun c49 => ?_) (fun c49 => ?_)
      · refine wm_iconst d_MS_comes_170 ?_
        refine wm_less (L' := [vd, vd, vd, vd, vd, vd, vd, vd]) ⟨Or.inl rfl, Or.inl rfl, Or.inl rfl, Or.inl rfl, Or.inl rfl, Or.inl rfl, Or.inl rfl, Or.inl rfl, trivial⟩ ?_
        exact hJ 0 (by rw [if_neg c47, if_neg c49])
      · replace c49 := Classical.not_not.mp c49
        refine wm_iload d_MS_comes_161 rfl ?_
        refine wm_if_eq (tgt := 170) d_MS_comes_163 rfl hi_l4 (fun c50 => ?_) (fun c50 => ?_)
        · refine wm_iconst d_MS_comes_170 ?_
          refine wm_less (L' := [vd, vd, vd, vd, vd, vd, vd, vd]) ⟨Or.inl rfl, Or.inl rfl, Or.inl rfl, Or.inl rfl, Or.inl rfl, Or.inl rfl, Or.inl rfl, Or.inl rfl, trivial⟩ ?_
          exact hJ 0 (by rw [if_neg c47, if_pos c49, if_pos c50])
        · refine wm_iconst d_MS_comes_166 ?_
          refine wm_goto (tgt := 171) d_MS_comes_167 rfl ?_
          refine wm_less (L' := [vd, vd, vd, vd, vd, vd, vd, vd]) ⟨Or.inl rfl, Or.inl rfl, Or.inl rfl, Or.inl rfl, Or.inl rfl, Or.inl rfl, Or.inl rfl, Or.inl rfl, trivial⟩ ?_
          exact hJ 1 (by rw [if_neg c47, if_pos c49, if_neg c50])
    · replace c47 := Classical.not_not.mp c47
      refine wm_iload_n d_MS_comes_147 rfl rfl ?_
      refine wm_goto (tgt := 171) d_MS_comes_148 rfl ?_
      refine wm_less (L' := [vd, vd, vd, vd, vd, vd, vd, vd]) ⟨Or.inl rfl, Or.inl rfl, Or.inl rfl, Or.inl rfl, Or.inl rfl, Or.inl rfl, Or.inl rfl, Or.inl rfl, trivial⟩ ?_
      exact hJ l3 (by rw [if_pos c47])
  · replace h := h.2 c43
    obtain ⟨h57, h⟩ := h
    obtain ⟨h58, h⟩ := h
    obtain ⟨h59, h⟩ := h
    refine wm_aload_n d_MS_comes_30 rfl rfl ?_
    refine gf_MS_16 rfl d_MS_comes_31 h57 ?_
    refine wm_iload_n d_MS_comes_34 rfl rfl ?_
    refine wm_iald d_MS_comes_35 h58 h59 ?_
    refine wm_iconst d_MS_comes_36 ?_
    have hE0 : ((¬ (mI M13 (mR M13 a0 4) (Int.toNat l1) = 1)) ∨ (l2 = 0)) → mWm G y_MS_comes (d + 1) 63 [vr a0, vi l1, vi l2, vi l3, vi l4, vi l5, vd, vd] [] M13 (fun r9 M9 => ∃ x9, r9 = some (vi x9) ∧ Q x9 M9) := by
      intro q66
      have h := h.1 q66
      refine wm_aload_n d_MS_comes_63 rfl rfl ?_
      refine wm_iload_n d_MS_comes_64 rfl rfl ?_
      refine wm_iload d_MS_comes_65 rfl ?_
      refine cf_MS_120 rfl d_MS_comes_67 h57 (Nat.le_of_ble_eq_true rfl) (Ci.mono h (fun x68 M67 h => ?_))
      obtain ⟨h69, hOM67, h⟩ := h
      exact h
    have hE1 : ¬ ((¬ (mI M13 (mR M13 a0 4) (Int.toNat l1) = 1)) ∨ (l2 = 0)) → mWm G y_MS_comes (d + 1) 44 [vr a0, vi l1, vi l2, vi l3, vi l4, vi l5, vd, vd] [] M13 (fun r9 M9 => ∃ x9, r9 = some (vi x9) ∧ Q x9 M9) := by
      intro q70
      have h := h.2 q70
      obtain ⟨h71, h⟩ := h
      obtain ⟨h72, h⟩ := h
      refine wm_aload_n d_MS_comes_44 rfl rfl ?_
      refine gf_MS_60 rfl d_MS_comes_45 h57 ?_
      refine wm_iload_n d_MS_comes_48 rfl rfl ?_
      refine wm_iald d_MS_comes_49 h71 h72 ?_
      refine wm_iload d_MS_comes_50 rfl ?_
      refine wm_icmp_ne (tgt := 59) d_MS_comes_52 rfl (hOM13 _ _).1 hi_l5 (fun c74 => ?_) (fun c74 => ?_)
      · replace h := h.2 c74
        refine wm_iconst d_MS_comes_59 ?_
        refine wm_goto (tgt := 70) d_MS_comes_60 rfl ?_
        exact h
      · replace c74 := Classical.not_not.mp c74
        replace h := h.1 c74
        refine wm_iconst d_MS_comes_55 ?_
        refine wm_goto (tgt := 70) d_MS_comes_56 rfl ?_
        exact h
    clear h
    refine wm_icmp_ne (tgt := 63) d_MS_comes_37 rfl (hOM13 _ _).1 ⟨by decide, by decide⟩ (fun c64 => ?_) (fun c64 => ?_)
    · exact hE0 (Or.inl c64)
    · replace c64 := Classical.not_not.mp c64
      refine wm_iload_n d_MS_comes_40 rfl rfl ?_
      refine wm_if_eq (tgt := 63) d_MS_comes_41 rfl hi_l2 (fun c63 => ?_) (fun c63 => ?_)
      · exact hE0 (Or.inr c63)
      · exact hE1 (fun z75 => Or.elim z75 (fun w => w c64) c63)
theorem k_MS_comes_70 {G : mG} {d : Nat} {a0 : Nat} {l1 : Int} {l2 : Int} {l3 : Int} {l4 : Int} {l5 : Int} {k0 : Int} {M : mM} {Q : Int → mM → Prop} (hO : mOk M) (hi_l1 : i32 l1) (hi_l2 : i32 l2) (hi_l3 : i32 l3) (hi_l4 : i32 l4) (hi_l5 : i32 l5) (hi_k0 : i32 k0)
    (h : ((k0 = 0) → (h_MS_comes_92 G d a0 l1 l2 l3 l4 l5 k0 0 M Q)) ∧ (¬ (k0 = 0) → (mK M a0 = 17 ∧ Ci G y_MS_leadsIn d [vr a0, vi l1, vi l5] M (fun x81 M80 => i32 x81 ∧ mOk M80 ∧ (((x81 = 0) → (h_MS_comes_92 G d a0 l1 l2 l3 l4 l5 k0 0 M80 Q)) ∧ (¬ (x81 = 0) → (h_MS_comes_92 G d a0 l1 l2 l3 l4 l5 k0 1 M80 Q))))))) :
    h_MS_comes_70 G d a0 l1 l2 l3 l4 l5 k0 M Q := by
  unfold h_MS_comes_70
  refine wm_istore d_MS_comes_70 (by decide) (L' := [vr a0, vi l1, vi l2, vi l3, vi l4, vi l5, vi k0, vd]) rfl ?_
  refine wm_iload d_MS_comes_72 rfl ?_
  refine wm_if_eq (tgt := 91) d_MS_comes_74 rfl hi_k0 (fun c78 => ?_) (fun c78 => ?_)
  · replace h := h.1 c78
    refine wm_iconst d_MS_comes_91 ?_
    exact h
  · replace h := h.2 c78
    obtain ⟨h79, h⟩ := h
    refine wm_aload_n d_MS_comes_77 rfl rfl ?_
    refine wm_iload_n d_MS_comes_78 rfl rfl ?_
    refine wm_iload d_MS_comes_79 rfl ?_
    refine cf_MS_124 rfl d_MS_comes_81 h79 (Nat.le_of_ble_eq_true rfl) (Ci.mono h (fun x81 M80 h => ?_))
    obtain ⟨h82, hOM80, h⟩ := h
    refine wm_if_eq (tgt := 91) d_MS_comes_84 rfl h82 (fun c84 => ?_) (fun c84 => ?_)
    · replace h := h.1 c84
      refine wm_iconst d_MS_comes_91 ?_
      exact h
    · replace h := h.2 c84
      refine wm_iconst d_MS_comes_87 ?_
      refine wm_goto (tgt := 92) d_MS_comes_88 rfl ?_
      exact h
theorem k_MS_comes_92 {G : mG} {d : Nat} {a0 : Nat} {l1 : Int} {l2 : Int} {l3 : Int} {l4 : Int} {l5 : Int} {l6 : Int} {k0 : Int} {M : mM} {Q : Int → mM → Prop} (hO : mOk M) (hi_l1 : i32 l1) (hi_l2 : i32 l2) (hi_l3 : i32 l3) (hi_l4 : i32 l4) (hi_l5 : i32 l5) (hi_l6 : i32 l6) (hi_k0 : i32 k0)
    (h : ∀ v87 : Int, v87 = (if ((l3 = 0) ∧ (k0 = 0)) then 0 else 1) → ∀ v95 : Int, v95 = (if ((l4 = 0) ∨ ((¬ (l6 = 0)) ∧ (k0 = 0))) then 0 else 1) → h_MS_comes_20 G d a0 l1 l2 v87 v95 (l5 + 1) M Q) :
    h_MS_comes_92 G d a0 l1 l2 l3 l4 l5 l6 k0 M Q := by
  unfold h_MS_comes_92
  refine wm_istore d_MS_comes_92 (by decide) (L' := [vr a0, vi l1, vi l2, vi l3, vi l4, vi l5, vi l6, vi k0]) rfl ?_
  refine wm_iload_n d_MS_comes_94 rfl rfl ?_
  have hJ : ∀ v87 : Int, v87 = (if ((l3 = 0) ∧ (k0 = 0)) then 0 else 1) → mWm G y_MS_comes (d + 1) 108 [vr a0, vi l1, vi l2, vd, vi l4, vi l5, vi l6, vi k0] [vi v87] M (fun r9 M9 => ∃ x9, r9 = some (vi x9) ∧ Q x9 M9) := by
    intro v87 e89
    have h := h v87 e89
    have h90 : i32 v87 := by rw [e89]; (repeat' split) <;> first | exact ⟨by decide, by decide⟩ | exact ⟨by decide, by decide⟩
    have h91 : (v87 = 0 ∨ v87 = 1) := by rw [e89]; (repeat' split) <;> decide
    refine wm_istore_n d_MS_comes_108 rfl (by decide) (L' := [vr a0, vi l1, vi l2, vi v87, vi l4, vi l5, vi l6, vi k0]) rfl ?_
    refine wm_iload d_MS_comes_109 rfl ?_
    have hJ : ∀ v95 : Int, v95 = (if ((l4 = 0) ∨ ((¬ (l6 = 0)) ∧ (k0 = 0))) then 0 else 1) → mWm G y_MS_comes (d + 1) 129 [vr a0, vi l1, vi l2, vi v87, vd, vi l5, vd, vd] [vi v95] M (fun r9 M9 => ∃ x9, r9 = some (vi x9) ∧ Q x9 M9) := by
      intro v95 e97
      have h := h v95 e97
      have h98 : i32 v95 := by rw [e97]; (repeat' split) <;> first | exact ⟨by decide, by decide⟩ | exact ⟨by decide, by decide⟩
      have h99 : (v95 = 0 ∨ v95 = 1) := by rw [e97]; (repeat' split) <;> decide
      refine wm_istore d_MS_comes_129 (by decide) (L' := [vr a0, vi l1, vi l2, vi v87, vi v95, vi l5, vd, vd]) rfl ?_
      refine wm_iinc d_MS_comes_131 (by decide) rfl (L' := [vr a0, vi l1, vi l2, vi v87, vi v95, vi (l5 + 1), vd, vd]) rfl ?_
      refine wm_goto (tgt := 20) d_MS_comes_134 rfl ?_
      exact h
    clear h
    refine wm_if_eq (tgt := 128) d_MS_comes_111 rfl hi_l4 (fun c92 => ?_) (fun c92 => ?_)
    · refine wm_iconst d_MS_comes_128 ?_
      refine wm_less (L' := [vr a0, vi l1, vi l2, vi v87, vd, vi l5, vd, vd]) ⟨Or.inr rfl, Or.inr rfl, Or.inr rfl, Or.inr rfl, Or.inl rfl, Or.inr rfl, Or.inl rfl, Or.inl rfl, trivial⟩ ?_
      exact hJ 0 (if_pos (Or.inl c92)).symm
    · refine wm_iload d_MS_comes_114 rfl ?_
      refine wm_if_eq (tgt := 124) d_MS_comes_116 rfl hi_l6 (fun c93 => ?_) (fun c93 => ?_)
      · refine wm_iconst d_MS_comes_124 ?_
        refine wm_goto (tgt := 129) d_MS_comes_125 rfl ?_
        refine wm_less (L' := [vr a0, vi l1, vi l2, vi v87, vd, vi l5, vd, vd]) ⟨Or.inr rfl, Or.inr rfl, Or.inr rfl, Or.inr rfl, Or.inl rfl, Or.inr rfl, Or.inl rfl, Or.inl rfl, trivial⟩ ?_
        exact hJ 1 (if_neg (fun z100 => Or.elim z100 c92 (fun z101 => z101.1 c93))).symm
      · refine wm_iload d_MS_comes_119 rfl ?_
        refine wm_if_eq (tgt := 128) d_MS_comes_121 rfl hi_k0 (fun c94 => ?_) (fun c94 => ?_)
        · refine wm_iconst d_MS_comes_128 ?_
          refine wm_less (L' := [vr a0, vi l1, vi l2, vi v87, vd, vi l5, vd, vd]) ⟨Or.inr rfl, Or.inr rfl, Or.inr rfl, Or.inr rfl, Or.inl rfl, Or.inr rfl, Or.inl rfl, Or.inl rfl, trivial⟩ ?_
          exact hJ 0 (if_pos (Or.inr ⟨c93, c94⟩)).symm
        · refine wm_iconst d_MS_comes_124 ?_
          refine wm_goto (tgt := 129) d_MS_comes_125 rfl ?_
          refine wm_less (L' := [vr a0, vi l1, vi l2, vi v87, vd, vi l5, vd, vd]) ⟨Or.inr rfl, Or.inr rfl, Or.inr rfl, Or.inr rfl, Or.inl rfl, Or.inr rfl, Or.inl rfl, Or.inl rfl, trivial⟩ ?_
          exact hJ 1 (if_neg (fun z102 => Or.elim z102 c92 (fun z103 => c94 z103.2))).symm
  clear h
  refine wm_if_ne (tgt := 103) d_MS_comes_95 rfl hi_l3 (fun c85 => ?_) (fun c85 => ?_)
  · refine wm_iconst d_MS_comes_103 ?_
    refine wm_goto (tgt := 108) d_MS_comes_104 rfl ?_
    refine wm_less (L' := [vr a0, vi l1, vi l2, vd, vi l4, vi l5, vi l6, vi k0]) ⟨Or.inr rfl, Or.inr rfl, Or.inr rfl, Or.inl rfl, Or.inr rfl, Or.inr rfl, Or.inr rfl, Or.inr rfl, trivial⟩ ?_
    exact hJ 1 (if_neg (fun z107 => c85 z107.1)).symm
  · replace c85 := Classical.not_not.mp c85
    refine wm_iload d_MS_comes_98 rfl ?_
    refine wm_if_eq (tgt := 107) d_MS_comes_100 rfl hi_k0 (fun c86 => ?_) (fun c86 => ?_)
    · refine wm_iconst d_MS_comes_107 ?_
      refine wm_less (L' := [vr a0, vi l1, vi l2, vd, vi l4, vi l5, vi l6, vi k0]) ⟨Or.inr rfl, Or.inr rfl, Or.inr rfl, Or.inl rfl, Or.inr rfl, Or.inr rfl, Or.inr rfl, Or.inr rfl, trivial⟩ ?_
      exact hJ 0 (if_pos ⟨c85, c86⟩).symm
    · refine wm_iconst d_MS_comes_103 ?_
      refine wm_goto (tgt := 108) d_MS_comes_104 rfl ?_
      refine wm_less (L' := [vr a0, vi l1, vi l2, vd, vi l4, vi l5, vi l6, vi k0]) ⟨Or.inr rfl, Or.inr rfl, Or.inr rfl, Or.inl rfl, Or.inr rfl, Or.inr rfl, Or.inr rfl, Or.inr rfl, trivial⟩ ?_
      exact hJ 1 (if_neg (fun z105 => c86 z105.2)).symm
theorem d_MS_grow_0 : decode y_MS_grow.2.1 0 = .ok (.iconst 0, 1) := by decide +kernel
theorem d_MS_grow_1 : decode y_MS_grow.2.1 1 = .ok (.istore_n 2, 1) := by decide +kernel
theorem d_MS_grow_2 : decode y_MS_grow.2.1 2 = .ok (.iload_n 2, 1) := by decide +kernel
theorem d_MS_grow_3 : decode y_MS_grow.2.1 3 = .ok (.aload_n 0, 1) := by decide +kernel
theorem d_MS_grow_4 : decode y_MS_grow.2.1 4 = .ok (.getfield 103, 3) := by decide +kernel
theorem d_MS_grow_7 : decode y_MS_grow.2.1 7 = .ok (.if_icmp .ge 30, 3) := by decide +kernel
theorem d_MS_grow_37 : decode y_MS_grow.2.1 37 = .ok (.iconst 1, 1) := by decide +kernel
theorem d_MS_grow_38 : decode y_MS_grow.2.1 38 = .ok (.istore_n 2, 1) := by decide +kernel
theorem d_MS_grow_10 : decode y_MS_grow.2.1 10 = .ok (.aload_n 0, 1) := by decide +kernel
theorem d_MS_grow_11 : decode y_MS_grow.2.1 11 = .ok (.getfield 63, 3) := by decide +kernel
theorem d_MS_grow_14 : decode y_MS_grow.2.1 14 = .ok (.iload_n 2, 1) := by decide +kernel
theorem d_MS_grow_15 : decode y_MS_grow.2.1 15 = .ok (.aload_n 0, 1) := by decide +kernel
theorem d_MS_grow_16 : decode y_MS_grow.2.1 16 = .ok (.getfield 16, 3) := by decide +kernel
theorem d_MS_grow_19 : decode y_MS_grow.2.1 19 = .ok (.iload_n 2, 1) := by decide +kernel
theorem d_MS_grow_20 : decode y_MS_grow.2.1 20 = .ok (.iaload, 1) := by decide +kernel
theorem d_MS_grow_21 : decode y_MS_grow.2.1 21 = .ok (.iconst 3, 1) := by decide +kernel
theorem d_MS_grow_22 : decode y_MS_grow.2.1 22 = .ok (.if_icmp .ne 7, 3) := by decide +kernel
theorem d_MS_grow_25 : decode y_MS_grow.2.1 25 = .ok (.iconst 1, 1) := by decide +kernel
theorem d_MS_grow_26 : decode y_MS_grow.2.1 26 = .ok (.goto 4, 3) := by decide +kernel
theorem d_MS_grow_29 : decode y_MS_grow.2.1 29 = .ok (.iconst 0, 1) := by decide +kernel
theorem d_MS_grow_30 : decode y_MS_grow.2.1 30 = .ok (.bastore, 1) := by decide +kernel
theorem d_MS_grow_31 : decode y_MS_grow.2.1 31 = .ok (.iinc 2 1, 3) := by decide +kernel
theorem d_MS_grow_34 : decode y_MS_grow.2.1 34 = .ok (.goto (-32), 3) := by decide +kernel
theorem d_MS_grow_39 : decode y_MS_grow.2.1 39 = .ok (.iload_n 2, 1) := by decide +kernel
theorem d_MS_grow_40 : decode y_MS_grow.2.1 40 = .ok (.ifCond .eq 51, 3) := by decide +kernel
theorem d_MS_grow_91 : decode y_MS_grow.2.1 91 = .ok (.return_, 1) := by decide +kernel
theorem d_MS_grow_43 : decode y_MS_grow.2.1 43 = .ok (.iconst 0, 1) := by decide +kernel
theorem d_MS_grow_44 : decode y_MS_grow.2.1 44 = .ok (.istore_n 2, 1) := by decide +kernel
theorem d_MS_grow_45 : decode y_MS_grow.2.1 45 = .ok (.iconst 0, 1) := by decide +kernel
theorem d_MS_grow_46 : decode y_MS_grow.2.1 46 = .ok (.istore_n 3, 1) := by decide +kernel
theorem d_MS_grow_47 : decode y_MS_grow.2.1 47 = .ok (.iload_n 3, 1) := by decide +kernel
theorem d_MS_grow_48 : decode y_MS_grow.2.1 48 = .ok (.aload_n 0, 1) := by decide +kernel
theorem d_MS_grow_49 : decode y_MS_grow.2.1 49 = .ok (.getfield 103, 3) := by decide +kernel
theorem d_MS_grow_52 : decode y_MS_grow.2.1 52 = .ok (.if_icmp .ge 36, 3) := by decide +kernel
theorem d_MS_grow_88 : decode y_MS_grow.2.1 88 = .ok (.goto (-49), 3) := by decide +kernel
theorem d_MS_grow_55 : decode y_MS_grow.2.1 55 = .ok (.aload_n 0, 1) := by decide +kernel
theorem d_MS_grow_56 : decode y_MS_grow.2.1 56 = .ok (.getfield 63, 3) := by decide +kernel
theorem d_MS_grow_59 : decode y_MS_grow.2.1 59 = .ok (.iload_n 3, 1) := by decide +kernel
theorem d_MS_grow_60 : decode y_MS_grow.2.1 60 = .ok (.baload, 1) := by decide +kernel
theorem d_MS_grow_61 : decode y_MS_grow.2.1 61 = .ok (.ifCond .ne 21, 3) := by decide +kernel
theorem d_MS_grow_64 : decode y_MS_grow.2.1 64 = .ok (.aload_n 0, 1) := by decide +kernel
theorem d_MS_grow_65 : decode y_MS_grow.2.1 65 = .ok (.iload_n 3, 1) := by decide +kernel
theorem d_MS_grow_66 : decode y_MS_grow.2.1 66 = .ok (.iload_n 1, 1) := by decide +kernel
theorem d_MS_grow_67 : decode y_MS_grow.2.1 67 = .ok (.invokevirtual 127, 3) := by decide +kernel
theorem d_MS_grow_70 : decode y_MS_grow.2.1 70 = .ok (.ifCond .eq 12, 3) := by decide +kernel
theorem d_MS_grow_73 : decode y_MS_grow.2.1 73 = .ok (.aload_n 0, 1) := by decide +kernel
theorem d_MS_grow_74 : decode y_MS_grow.2.1 74 = .ok (.getfield 63, 3) := by decide +kernel
theorem d_MS_grow_77 : decode y_MS_grow.2.1 77 = .ok (.iload_n 3, 1) := by decide +kernel
theorem d_MS_grow_78 : decode y_MS_grow.2.1 78 = .ok (.iconst 1, 1) := by decide +kernel
theorem d_MS_grow_79 : decode y_MS_grow.2.1 79 = .ok (.bastore, 1) := by decide +kernel
theorem d_MS_grow_80 : decode y_MS_grow.2.1 80 = .ok (.iconst 1, 1) := by decide +kernel
theorem d_MS_grow_81 : decode y_MS_grow.2.1 81 = .ok (.istore_n 2, 1) := by decide +kernel
theorem d_MS_grow_82 : decode y_MS_grow.2.1 82 = .ok (.iinc 3 1, 3) := by decide +kernel
theorem d_MS_grow_85 : decode y_MS_grow.2.1 85 = .ok (.goto (-38), 3) := by decide +kernel
def h_MS_grow_2 (G : mG) (d : Nat) (a0 : Nat) (l1 : Int) (l2 : Int) (M : mM) (Q : mM → Prop) : Prop := mWm G y_MS_grow (d + 1) 2 [vr a0, vi l1, vi l2, vd] [] M (fun r9 M9 => r9 = none ∧ Q M9)
def h_MS_grow_39 (G : mG) (d : Nat) (a0 : Nat) (l1 : Int) (l2 : Int) (M : mM) (Q : mM → Prop) : Prop := mWm G y_MS_grow (d + 1) 39 [vr a0, vi l1, vi l2, vd] [] M (fun r9 M9 => r9 = none ∧ Q M9)
def h_MS_grow_47 (G : mG) (d : Nat) (a0 : Nat) (l1 : Int) (l2 : Int) (l3 : Int) (M : mM) (Q : mM → Prop) : Prop := mWm G y_MS_grow (d + 1) 47 [vr a0, vi l1, vi l2, vi l3] [] M (fun r9 M9 => r9 = none ∧ Q M9)
theorem k_MS_grow {G : mG} {d : Nat} {a0 : Nat} {l1 : Int} {M : mM} {Q : mM → Prop} (hO : mOk M) (hi_l1 : i32 l1)
    (h : h_MS_grow_2 G d a0 l1 0 M Q) :
    Cv G y_MS_grow (d + 1) [vr a0, vi l1] M Q := by
  refine wm_open (y := y_MS_grow) rfl (Nat.le_of_ble_eq_true rfl) (L := [vr a0, vi l1, vd, vd]) rfl ?_
  refine wm_iconst d_MS_grow_0 ?_
  refine wm_istore_n d_MS_grow_1 rfl (by decide) (L' := [vr a0, vi l1, vi 0, vd]) rfl ?_
  exact h
theorem k_MS_grow_2 {G : mG} {d : Nat} {a0 : Nat} {l1 : Int} {l2 : Int} {M : mM} {Q : mM → Prop} (hO : mOk M) (hi_l1 : i32 l1) (hi_l2 : i32 l2)
    (h : mK M a0 = 17 ∧ ((mI M a0 1 ≤ l2) → (h_MS_grow_39 G d a0 l1 1 M Q)) ∧ (¬ (mI M a0 1 ≤ l2) → (mK M (mR M a0 4) = 30 ∧ ((0 : Int) ≤ l2 ∧ l2 < (mN M (mR M a0 4) : Int)) ∧ ∀ v9 : Int, v9 = (if (mI M (mR M a0 4) (Int.toNat l2) = 3) then 1 else 0) → mK M (mR M a0 19) = 31 ∧ ((0 : Int) ≤ l2 ∧ l2 < (mN M (mR M a0 19) : Int)) ∧ ∀ M16, M16 = mUI M (mR M a0 19) (Int.toNat l2) v9 → h_MS_grow_2 G d a0 l1 (l2 + 1) M16 Q))) :
    h_MS_grow_2 G d a0 l1 l2 M Q := by
  unfold h_MS_grow_2
  obtain ⟨h1, h⟩ := h
  refine wm_iload_n d_MS_grow_2 rfl rfl ?_
  refine wm_aload_n d_MS_grow_3 rfl rfl ?_
  refine gf_MS_103 rfl d_MS_grow_4 h1 ?_
  refine wm_icmp_ge (tgt := 37) d_MS_grow_7 rfl hi_l2 (hO _ _).1 (fun c5 => ?_) (fun c5 => ?_)
  · replace h := h.1 c5
    refine wm_iconst d_MS_grow_37 ?_
    refine wm_istore_n d_MS_grow_38 rfl (by decide) (L' := [vr a0, vi l1, vi 1, vd]) rfl ?_
    exact h
  · replace h := h.2 c5
    obtain ⟨h6, h⟩ := h
    obtain ⟨h7, h⟩ := h
    refine wm_aload_n d_MS_grow_10 rfl rfl ?_
    refine gf_MS_63 rfl d_MS_grow_11 h1 ?_
    refine wm_iload_n d_MS_grow_14 rfl rfl ?_
    refine wm_aload_n d_MS_grow_15 rfl rfl ?_
    refine gf_MS_16 rfl d_MS_grow_16 h1 ?_
    refine wm_iload_n d_MS_grow_19 rfl rfl ?_
    refine wm_iald d_MS_grow_20 h6 h7 ?_
    refine wm_iconst d_MS_grow_21 ?_
    have hJ : ∀ v9 : Int, v9 = (if (mI M (mR M a0 4) (Int.toNat l2) = 3) then 1 else 0) → mWm G y_MS_grow (d + 1) 30 [vr a0, vi l1, vi l2, vd] [vi v9, vi l2, vr (mR M a0 19)] M (fun r9 M9 => r9 = none ∧ Q M9) := by
      intro v9 e11
      have h := h v9 e11
      have h12 : i32 v9 := by rw [e11]; (repeat' split) <;> first | exact ⟨by decide, by decide⟩ | exact ⟨by decide, by decide⟩
      have h13 : (v9 = 0 ∨ v9 = 1) := by rw [e11]; (repeat' split) <;> decide
      obtain ⟨h14, h⟩ := h
      obtain ⟨h15, h⟩ := h
      obtain ⟨M16, e17⟩ : ∃ M16, M16 = mUI M (mR M a0 19) (Int.toNat l2) v9 := ⟨_, rfl⟩
      replace h := h M16 e17
      have hOM16 : mOk M16 := by rw [e17]; exact mOk_UI hO (m_b32 h13)
      refine wm_zastE d_MS_grow_30 h14 h15 h13 e17 ?_
      refine wm_iinc d_MS_grow_31 (by decide) rfl (L' := [vr a0, vi l1, vi (l2 + 1), vd]) rfl ?_
      refine wm_goto (tgt := 2) d_MS_grow_34 rfl ?_
      exact h
    clear h
    refine wm_icmp_ne (tgt := 29) d_MS_grow_22 rfl (hO _ _).1 ⟨by decide, by decide⟩ (fun c8 => ?_) (fun c8 => ?_)
    · refine wm_iconst d_MS_grow_29 ?_
      exact hJ 0 (if_neg c8).symm
    · replace c8 := Classical.not_not.mp c8
      refine wm_iconst d_MS_grow_25 ?_
      refine wm_goto (tgt := 30) d_MS_grow_26 rfl ?_
      exact hJ 1 (if_pos c8).symm
theorem k_MS_grow_39 {G : mG} {d : Nat} {a0 : Nat} {l1 : Int} {l2 : Int} {M : mM} {Q : mM → Prop} (hO : mOk M) (hi_l1 : i32 l1) (hi_l2 : i32 l2)
    (h : ((l2 = 0) → (Q M)) ∧ (¬ (l2 = 0) → (h_MS_grow_47 G d a0 l1 0 0 M Q))) :
    h_MS_grow_39 G d a0 l1 l2 M Q := by
  unfold h_MS_grow_39
  refine wm_iload_n d_MS_grow_39 rfl rfl ?_
  refine wm_if_eq (tgt := 91) d_MS_grow_40 rfl hi_l2 (fun c20 => ?_) (fun c20 => ?_)
  · replace h := h.1 c20
    refine wm_return d_MS_grow_91 rfl ?_
    exact ⟨rfl, h⟩
  · replace h := h.2 c20
    refine wm_iconst d_MS_grow_43 ?_
    refine wm_istore_n d_MS_grow_44 rfl (by decide) (L' := [vr a0, vi l1, vi 0, vd]) rfl ?_
    refine wm_iconst d_MS_grow_45 ?_
    refine wm_istore_n d_MS_grow_46 rfl (by decide) (L' := [vr a0, vi l1, vi 0, vi 0]) rfl ?_
    exact h
theorem k_MS_grow_47 {G : mG} {d : Nat} {a0 : Nat} {l1 : Int} {l2 : Int} {l3 : Int} {M : mM} {Q : mM → Prop} (hO : mOk M) (hi_l1 : i32 l1) (hi_l2 : i32 l2) (hi_l3 : i32 l3)
    (h : mK M a0 = 17 ∧ ((mI M a0 1 ≤ l3) → (h_MS_grow_39 G d a0 l1 l2 M Q)) ∧ (¬ (mI M a0 1 ≤ l3) → (mK M (mR M a0 19) = 31 ∧ ((0 : Int) ≤ l3 ∧ l3 < (mN M (mR M a0 19) : Int)) ∧ ((mI M (mR M a0 19) (Int.toNat l3) = 0) → (Ci G y_MS_comes d [vr a0, vi l3, vi l1] M (fun x33 M32 => i32 x33 ∧ mOk M32 ∧ ((¬ (x33 = 0) → (mK M32 a0 = 17 ∧ mK M32 (mR M32 a0 19) = 31 ∧ ((0 : Int) ≤ l3 ∧ l3 < (mN M32 (mR M32 a0 19) : Int)))) ∧ ∀ v39 : Int, v39 = (if (x33 = 0) then l2 else 1) → ∀ M40 : mM, M40 = (if (x33 = 0) then M32 else (mUI M32 (mR M32 a0 19) (Int.toNat l3) 1)) → mOk M40 ∧ h_MS_grow_47 G d a0 l1 v39 (l3 + 1) M40 Q)))) ∧ (¬ (mI M (mR M a0 19) (Int.toNat l3) = 0) → (h_MS_grow_47 G d a0 l1 l2 (l3 + 1) M Q))))) :
    h_MS_grow_47 G d a0 l1 l2 l3 M Q := by
  unfold h_MS_grow_47
  obtain ⟨h21, h⟩ := h
  refine wm_iload_n d_MS_grow_47 rfl rfl ?_
  refine wm_aload_n d_MS_grow_48 rfl rfl ?_
  refine gf_MS_103 rfl d_MS_grow_49 h21 ?_
  refine wm_icmp_ge (tgt := 88) d_MS_grow_52 rfl hi_l3 (hO _ _).1 (fun c26 => ?_) (fun c26 => ?_)
  · replace h := h.1 c26
    refine wm_goto (tgt := 39) d_MS_grow_88 rfl ?_
    refine wm_less (L' := [vr a0, vi l1, vi l2, vd]) ⟨Or.inr rfl, Or.inr rfl, Or.inr rfl, Or.inl rfl, trivial⟩ ?_
    exact h
  · replace h := h.2 c26
    obtain ⟨h27, h⟩ := h
    obtain ⟨h28, h⟩ := h
    refine wm_aload_n d_MS_grow_55 rfl rfl ?_
    refine gf_MS_63 rfl d_MS_grow_56 h21 ?_
    refine wm_iload_n d_MS_grow_59 rfl rfl ?_
    refine wm_zald d_MS_grow_60 h27 h28 ?_
    refine wm_if_ne (tgt := 82) d_MS_grow_61 rfl (hO _ _).1 (fun c31 => ?_) (fun c31 => ?_)
    · replace h := h.2 c31
      refine wm_iinc d_MS_grow_82 (by decide) rfl (L' := [vr a0, vi l1, vi l2, vi (l3 + 1)]) rfl ?_
      refine wm_goto (tgt := 47) d_MS_grow_85 rfl ?_
      exact h
    · replace c31 := Classical.not_not.mp c31
      replace h := h.1 c31
      refine wm_aload_n d_MS_grow_64 rfl rfl ?_
      refine wm_iload_n d_MS_grow_65 rfl rfl ?_
      refine wm_iload_n d_MS_grow_66 rfl rfl ?_
      refine cf_MS_127 rfl d_MS_grow_67 h21 (Nat.le_of_ble_eq_true rfl) (Ci.mono h (fun x33 M32 h => ?_))
      obtain ⟨h34, hOM32, h⟩ := h
      obtain ⟨s41, h⟩ := h
      have hJ : ∀ v39 : Int, v39 = (if (x33 = 0) then l2 else 1) → ∀ M40 : mM, M40 = (if (x33 = 0) then M32 else (mUI M32 (mR M32 a0 19) (Int.toNat l3) 1)) → mWm G y_MS_grow (d + 1) 82 [vr a0, vi l1, vi v39, vi l3] [] M40 (fun r9 M9 => r9 = none ∧ Q M9) := by
        intro v39 e42
        intro M40 e43
        have h := h v39 e42 M40 e43
        have h44 : i32 v39 := by rw [e42]; (repeat' split) <;> first | exact hi_l2 | exact ⟨by decide, by decide⟩
        have h45 : mK M40 = mK M32 := by rw [e43]; (repeat' split) <;> rfl
        obtain ⟨hOM40, h⟩ := h
        refine wm_iinc d_MS_grow_82 (by decide) rfl (L' := [vr a0, vi l1, vi v39, vi (l3 + 1)]) rfl ?_
        refine wm_goto (tgt := 47) d_MS_grow_85 rfl ?_
        exact h
      clear h
      have s46 := s41
      refine wm_if_eq (tgt := 82) d_MS_grow_70 rfl h34 (fun c35 => ?_) (fun c35 => ?_)
      · exact hJ l2 (if_pos c35).symm M32 (if_pos c35).symm
      · have s46 := s46 c35
        obtain ⟨h36, h37, h38⟩ := s46
        refine wm_aload_n d_MS_grow_73 rfl rfl ?_
        refine gf_MS_63 rfl d_MS_grow_74 h36 ?_
        refine wm_iload_n d_MS_grow_77 rfl rfl ?_
        refine wm_iconst d_MS_grow_78 ?_
        refine wm_zastE d_MS_grow_79 h37 h38 (by decide) rfl ?_
        refine wm_iconst d_MS_grow_80 ?_
        refine wm_istore_n d_MS_grow_81 rfl (by decide) (L' := [vr a0, vi l1, vi 1, vi l3]) rfl ?_
        exact hJ 1 (if_neg c35).symm (mUI M32 (mR M32 a0 19) (Int.toNat l3) 1) (if_neg c35).symm
theorem d_MS_weight_0 : decode y_MS_weight.2.1 0 = .ok (.iconst 0, 1) := by decide +kernel
theorem d_MS_weight_1 : decode y_MS_weight.2.1 1 = .ok (.istore_n 2, 1) := by decide +kernel
theorem d_MS_weight_2 : decode y_MS_weight.2.1 2 = .ok (.lconst 1, 1) := by decide +kernel
theorem d_MS_weight_3 : decode y_MS_weight.2.1 3 = .ok (.iload_n 2, 1) := by decide +kernel
theorem d_MS_weight_4 : decode y_MS_weight.2.1 4 = .ok (.lshl, 1) := by decide +kernel
theorem d_MS_weight_5 : decode y_MS_weight.2.1 5 = .ok (.ldc2_w 131, 3) := by decide +kernel
theorem d_MS_weight_8 : decode y_MS_weight.2.1 8 = .ok (.lload_n 0, 1) := by decide +kernel
theorem d_MS_weight_9 : decode y_MS_weight.2.1 9 = .ok (.lmul, 1) := by decide +kernel
theorem d_MS_weight_10 : decode y_MS_weight.2.1 10 = .ok (.lcmp, 1) := by decide +kernel
theorem d_MS_weight_11 : decode y_MS_weight.2.1 11 = .ok (.ifCond .ge 9, 3) := by decide +kernel
theorem d_MS_weight_20 : decode y_MS_weight.2.1 20 = .ok (.iload_n 2, 1) := by decide +kernel
theorem d_MS_weight_21 : decode y_MS_weight.2.1 21 = .ok (.ireturn, 1) := by decide +kernel
theorem d_MS_weight_14 : decode y_MS_weight.2.1 14 = .ok (.iinc 2 1, 3) := by decide +kernel
theorem d_MS_weight_17 : decode y_MS_weight.2.1 17 = .ok (.goto (-15), 3) := by decide +kernel
def h_MS_weight_2 (G : mG) (d : Nat) (j0 : Int) (l2 : Int) (M : mM) (Q : Int → mM → Prop) : Prop := mWm G y_MS_weight d 2 [vl j0, vd, vi l2] [] M (fun r9 M9 => ∃ x9, r9 = some (vi x9) ∧ Q x9 M9)
theorem k_MS_weight {G : mG} {d : Nat} {j0 : Int} {M : mM} {Q : Int → mM → Prop} (hO : mOk M) (hi_j0 : i64 j0)
    (h : h_MS_weight_2 G d j0 0 M Q) :
    Ci G y_MS_weight d [vl j0] M Q := by
  refine wm_open (y := y_MS_weight) rfl (Nat.le_of_ble_eq_true rfl) (L := [vl j0, vd, vd]) rfl ?_
  refine wm_iconst d_MS_weight_0 ?_
  refine wm_istore_n d_MS_weight_1 rfl (by decide) (L' := [vl j0, vd, vi 0]) rfl ?_
  exact h
theorem k_MS_weight_2 {G : mG} {d : Nat} {j0 : Int} {l2 : Int} {M : mM} {Q : Int → mM → Prop} (hO : mOk M) (hi_j0 : i64 j0) (hi_l2 : i32 l2)
    (h : i64 (2 * j0) ∧ ((0 ≤ cmpL (shlL 1 l2) (2 * j0)) → (Q l2 M)) ∧ (¬ (0 ≤ cmpL (shlL 1 l2) (2 * j0)) → (h_MS_weight_2 G d j0 (l2 + 1) M Q))) :
    h_MS_weight_2 G d j0 l2 M Q := by
  unfold h_MS_weight_2
  obtain ⟨h1, h⟩ := h
  refine wm_lconst (x := 1) d_MS_weight_2 rfl ?_
  refine wm_iload_n d_MS_weight_3 rfl rfl ?_
  refine wm_lshl d_MS_weight_4 ?_
  refine wm_ldc2 (x := 2) d_MS_weight_5 k12_220 (by decide) ?_
  refine wm_lload_n d_MS_weight_8 rfl rfl ?_
  refine wm_lmul d_MS_weight_9 ?_
  refine wm_lcmp d_MS_weight_10 (m_i64 _) h1 ?_
  refine wm_if_ge (tgt := 20) d_MS_weight_11 rfl (m_cmp32 _ _) (fun c3 => ?_) (fun c3 => ?_)
  · replace h := h.1 c3
    refine wm_iload_n d_MS_weight_20 rfl rfl ?_
    refine wm_ireturn d_MS_weight_21 rfl rfl ?_
    exact ⟨_, rfl, h⟩
  · replace h := h.2 c3
    refine wm_iinc d_MS_weight_14 (by decide) rfl (L' := [vl j0, vd, vi (l2 + 1)]) rfl ?_
    refine wm_goto (tgt := 2) d_MS_weight_17 rfl ?_
    exact h
theorem d_MS_look_0 : decode y_MS_look.2.1 0 = .ok (.aload_n 0, 1) := by decide +kernel
theorem d_MS_look_1 : decode y_MS_look.2.1 1 = .ok (.iconst 0, 1) := by decide +kernel
theorem d_MS_look_2 : decode y_MS_look.2.1 2 = .ok (.invokevirtual 133, 3) := by decide +kernel
theorem d_MS_look_5 : decode y_MS_look.2.1 5 = .ok (.iconst 0, 1) := by decide +kernel
theorem d_MS_look_6 : decode y_MS_look.2.1 6 = .ok (.istore_n 1, 1) := by decide +kernel
theorem d_MS_look_7 : decode y_MS_look.2.1 7 = .ok (.iconst 0, 1) := by decide +kernel
theorem d_MS_look_8 : decode y_MS_look.2.1 8 = .ok (.istore_n 2, 1) := by decide +kernel
theorem d_MS_look_9 : decode y_MS_look.2.1 9 = .ok (.iconst 0, 1) := by decide +kernel
theorem d_MS_look_10 : decode y_MS_look.2.1 10 = .ok (.istore_n 3, 1) := by decide +kernel
theorem d_MS_look_11 : decode y_MS_look.2.1 11 = .ok (.iload_n 3, 1) := by decide +kernel
theorem d_MS_look_12 : decode y_MS_look.2.1 12 = .ok (.aload_n 0, 1) := by decide +kernel
theorem d_MS_look_13 : decode y_MS_look.2.1 13 = .ok (.getfield 103, 3) := by decide +kernel
theorem d_MS_look_16 : decode y_MS_look.2.1 16 = .ok (.if_icmp .ge 104, 3) := by decide +kernel
theorem d_MS_look_120 : decode y_MS_look.2.1 120 = .ok (.iload_n 1, 1) := by decide +kernel
theorem d_MS_look_121 : decode y_MS_look.2.1 121 = .ok (.bipush 40, 2) := by decide +kernel
theorem d_MS_look_19 : decode y_MS_look.2.1 19 = .ok (.aload_n 0, 1) := by decide +kernel
theorem d_MS_look_20 : decode y_MS_look.2.1 20 = .ok (.getfield 63, 3) := by decide +kernel
theorem d_MS_look_23 : decode y_MS_look.2.1 23 = .ok (.iload_n 3, 1) := by decide +kernel
theorem d_MS_look_24 : decode y_MS_look.2.1 24 = .ok (.baload, 1) := by decide +kernel
theorem d_MS_look_123 : decode y_MS_look.2.1 123 = .ok (.if_icmp .le 7, 3) := by decide +kernel
theorem d_MS_look_130 : decode y_MS_look.2.1 130 = .ok (.iload_n 2, 1) := by decide +kernel
theorem d_MS_look_131 : decode y_MS_look.2.1 131 = .ok (.sipush 480, 3) := by decide +kernel
theorem d_MS_look_126 : decode y_MS_look.2.1 126 = .ok (.iconst 5, 1) := by decide +kernel
theorem d_MS_look_127 : decode y_MS_look.2.1 127 = .ok (.goto 16, 3) := by decide +kernel
theorem d_MS_look_143 : decode y_MS_look.2.1 143 = .ok (.ireturn, 1) := by decide +kernel
theorem d_MS_look_134 : decode y_MS_look.2.1 134 = .ok (.if_icmp .le 8, 3) := by decide +kernel
theorem d_MS_look_142 : decode y_MS_look.2.1 142 = .ok (.iconst 0, 1) := by decide +kernel
theorem d_MS_look_137 : decode y_MS_look.2.1 137 = .ok (.bipush 6, 2) := by decide +kernel
theorem d_MS_look_139 : decode y_MS_look.2.1 139 = .ok (.goto 4, 3) := by decide +kernel
theorem d_MS_look_25 : decode y_MS_look.2.1 25 = .ok (.ifCond .eq 89, 3) := by decide +kernel
theorem d_MS_look_28 : decode y_MS_look.2.1 28 = .ok (.aload_n 0, 1) := by decide +kernel
theorem d_MS_look_29 : decode y_MS_look.2.1 29 = .ok (.getfield 16, 3) := by decide +kernel
theorem d_MS_look_32 : decode y_MS_look.2.1 32 = .ok (.iload_n 3, 1) := by decide +kernel
theorem d_MS_look_33 : decode y_MS_look.2.1 33 = .ok (.iaload, 1) := by decide +kernel
theorem d_MS_look_34 : decode y_MS_look.2.1 34 = .ok (.iconst 3, 1) := by decide +kernel
theorem d_MS_look_35 : decode y_MS_look.2.1 35 = .ok (.if_icmp .eq 79, 3) := by decide +kernel
theorem d_MS_look_38 : decode y_MS_look.2.1 38 = .ok (.iinc 1 1, 3) := by decide +kernel
theorem d_MS_look_41 : decode y_MS_look.2.1 41 = .ok (.iconst 1, 1) := by decide +kernel
theorem d_MS_look_42 : decode y_MS_look.2.1 42 = .ok (.istore 4, 2) := by decide +kernel
theorem d_MS_look_44 : decode y_MS_look.2.1 44 = .ok (.iconst 0, 1) := by decide +kernel
theorem d_MS_look_45 : decode y_MS_look.2.1 45 = .ok (.istore 5, 2) := by decide +kernel
theorem d_MS_look_114 : decode y_MS_look.2.1 114 = .ok (.iinc 3 1, 3) := by decide +kernel
theorem d_MS_look_117 : decode y_MS_look.2.1 117 = .ok (.goto (-106), 3) := by decide +kernel
theorem d_MS_look_47 : decode y_MS_look.2.1 47 = .ok (.iload 5, 2) := by decide +kernel
theorem d_MS_look_49 : decode y_MS_look.2.1 49 = .ok (.aload_n 0, 1) := by decide +kernel
theorem d_MS_look_50 : decode y_MS_look.2.1 50 = .ok (.iload_n 3, 1) := by decide +kernel
theorem d_MS_look_51 : decode y_MS_look.2.1 51 = .ok (.invokevirtual 116, 3) := by decide +kernel
theorem d_MS_look_54 : decode y_MS_look.2.1 54 = .ok (.if_icmp .ge 51, 3) := by decide +kernel
theorem d_MS_look_105 : decode y_MS_look.2.1 105 = .ok (.iload_n 2, 1) := by decide +kernel
theorem d_MS_look_106 : decode y_MS_look.2.1 106 = .ok (.iload 4, 2) := by decide +kernel
theorem d_MS_look_108 : decode y_MS_look.2.1 108 = .ok (.i2l, 1) := by decide +kernel
theorem d_MS_look_57 : decode y_MS_look.2.1 57 = .ok (.aload_n 0, 1) := by decide +kernel
theorem d_MS_look_58 : decode y_MS_look.2.1 58 = .ok (.getfield 23, 3) := by decide +kernel
theorem d_MS_look_61 : decode y_MS_look.2.1 61 = .ok (.aload_n 0, 1) := by decide +kernel
theorem d_MS_look_62 : decode y_MS_look.2.1 62 = .ok (.getfield 20, 3) := by decide +kernel
theorem d_MS_look_65 : decode y_MS_look.2.1 65 = .ok (.iload_n 3, 1) := by decide +kernel
theorem d_MS_look_66 : decode y_MS_look.2.1 66 = .ok (.iaload, 1) := by decide +kernel
theorem d_MS_look_67 : decode y_MS_look.2.1 67 = .ok (.iload 5, 2) := by decide +kernel
theorem d_MS_look_69 : decode y_MS_look.2.1 69 = .ok (.iadd, 1) := by decide +kernel
theorem d_MS_look_70 : decode y_MS_look.2.1 70 = .ok (.iaload, 1) := by decide +kernel
theorem d_MS_look_71 : decode y_MS_look.2.1 71 = .ok (.istore 6, 2) := by decide +kernel
theorem d_MS_look_73 : decode y_MS_look.2.1 73 = .ok (.aload_n 0, 1) := by decide +kernel
theorem d_MS_look_74 : decode y_MS_look.2.1 74 = .ok (.iload_n 3, 1) := by decide +kernel
theorem d_MS_look_75 : decode y_MS_look.2.1 75 = .ok (.iload 5, 2) := by decide +kernel
theorem d_MS_look_109 : decode y_MS_look.2.1 109 = .ok (.invokestatic 137, 3) := by decide +kernel
theorem d_MS_look_112 : decode y_MS_look.2.1 112 = .ok (.iadd, 1) := by decide +kernel
theorem d_MS_look_113 : decode y_MS_look.2.1 113 = .ok (.istore_n 2, 1) := by decide +kernel
theorem d_MS_look_77 : decode y_MS_look.2.1 77 = .ok (.invokevirtual 120, 3) := by decide +kernel
theorem d_MS_look_80 : decode y_MS_look.2.1 80 = .ok (.ifCond .eq 15, 3) := by decide +kernel
theorem d_MS_look_95 : decode y_MS_look.2.1 95 = .ok (.iload 4, 2) := by decide +kernel
theorem d_MS_look_83 : decode y_MS_look.2.1 83 = .ok (.iload 6, 2) := by decide +kernel
theorem d_MS_look_85 : decode y_MS_look.2.1 85 = .ok (.iload 4, 2) := by decide +kernel
theorem d_MS_look_87 : decode y_MS_look.2.1 87 = .ok (.if_icmp .le 8, 3) := by decide +kernel
theorem d_MS_look_90 : decode y_MS_look.2.1 90 = .ok (.iload 6, 2) := by decide +kernel
theorem d_MS_look_92 : decode y_MS_look.2.1 92 = .ok (.goto 5, 3) := by decide +kernel
theorem d_MS_look_97 : decode y_MS_look.2.1 97 = .ok (.istore 4, 2) := by decide +kernel
theorem d_MS_look_99 : decode y_MS_look.2.1 99 = .ok (.iinc 5 1, 3) := by decide +kernel
theorem d_MS_look_102 : decode y_MS_look.2.1 102 = .ok (.goto (-55), 3) := by decide +kernel
def h_MS_look_11 (G : mG) (d : Nat) (a0 : Nat) (l1 : Int) (l2 : Int) (l3 : Int) (M : mM) (Q : Int → mM → Prop) : Prop := mWm G y_MS_look (d + 1) 11 [vr a0, vi l1, vi l2, vi l3, vd, vd, vd] [] M (fun r9 M9 => ∃ x9, r9 = some (vi x9) ∧ Q x9 M9)
def h_MS_look_47 (G : mG) (d : Nat) (a0 : Nat) (l1 : Int) (l2 : Int) (l3 : Int) (l4 : Int) (l5 : Int) (M : mM) (Q : Int → mM → Prop) : Prop := mWm G y_MS_look (d + 1) 47 [vr a0, vi l1, vi l2, vi l3, vi l4, vi l5, vd] [] M (fun r9 M9 => ∃ x9, r9 = some (vi x9) ∧ Q x9 M9)
theorem k_MS_look {G : mG} {d : Nat} {a0 : Nat} {M : mM} {Q : Int → mM → Prop} (hO : mOk M)
    (h : mK M a0 = 17 ∧ Cv G y_MS_grow d [vr a0, vi 0] M (fun M2 => mOk M2 ∧ (h_MS_look_11 G d a0 0 0 0 M2 Q))) :
    Ci G y_MS_look (d + 1) [vr a0] M Q := by
  refine wm_open (y := y_MS_look) rfl (Nat.le_of_ble_eq_true rfl) (L := [vr a0, vd, vd, vd, vd, vd, vd]) rfl ?_
  obtain ⟨h1, h⟩ := h
  refine wm_aload_n d_MS_look_0 rfl rfl ?_
  refine wm_iconst d_MS_look_1 ?_
  refine cf_MS_133 rfl d_MS_look_2 h1 (Nat.le_of_ble_eq_true rfl) (Cv.mono h (fun M2 h => ?_))
  obtain ⟨hOM2, h⟩ := h
  refine wm_iconst d_MS_look_5 ?_
  refine wm_istore_n d_MS_look_6 rfl (by decide) (L' := [vr a0, vi 0, vd, vd, vd, vd, vd]) rfl ?_
  refine wm_iconst d_MS_look_7 ?_
  refine wm_istore_n d_MS_look_8 rfl (by decide) (L' := [vr a0, vi 0, vi 0, vd, vd, vd, vd]) rfl ?_
  refine wm_iconst d_MS_look_9 ?_
  refine wm_istore_n d_MS_look_10 rfl (by decide) (L' := [vr a0, vi 0, vi 0, vi 0, vd, vd, vd]) rfl ?_
  exact h
theorem k_MS_look_11 {G : mG} {d : Nat} {a0 : Nat} {l1 : Int} {l2 : Int} {l3 : Int} {M : mM} {Q : Int → mM → Prop} (hO : mOk M) (hi_l1 : i32 l1) (hi_l2 : i32 l2) (hi_l3 : i32 l3)
    (h : mK M a0 = 17 ∧ ((mI M a0 1 ≤ l3) → (∀ v24 : Int, v24 = (if l1 ≤ 40 then (if l2 ≤ 480 then 0 else 6) else 5) → Q v24 M)) ∧ (¬ (mI M a0 1 ≤ l3) → (mK M (mR M a0 19) = 31 ∧ ((0 : Int) ≤ l3 ∧ l3 < (mN M (mR M a0 19) : Int)) ∧ (¬ (mI M (mR M a0 19) (Int.toNat l3) = 0) → (mK M (mR M a0 4) = 30 ∧ ((0 : Int) ≤ l3 ∧ l3 < (mN M (mR M a0 4) : Int)))) ∧ (((mI M (mR M a0 19) (Int.toNat l3) = 0) ∨ (mI M (mR M a0 4) (Int.toNat l3) = 3)) → (h_MS_look_11 G d a0 l1 l2 (l3 + 1) M Q)) ∧ (¬ ((mI M (mR M a0 19) (Int.toNat l3) = 0) ∨ (mI M (mR M a0 4) (Int.toNat l3) = 3)) → (h_MS_look_47 G d a0 (l1 + 1) l2 l3 1 0 M Q))))) :
    h_MS_look_11 G d a0 l1 l2 l3 M Q := by
  unfold h_MS_look_11
  obtain ⟨h5, h⟩ := h
  refine wm_iload_n d_MS_look_11 rfl rfl ?_
  refine wm_aload_n d_MS_look_12 rfl rfl ?_
  refine gf_MS_103 rfl d_MS_look_13 h5 ?_
  refine wm_icmp_ge (tgt := 120) d_MS_look_16 rfl hi_l3 (hO _ _).1 (fun c21 => ?_) (fun c21 => ?_)
  · replace h := h.1 c21
    refine wm_iload_n d_MS_look_120 rfl rfl ?_
    refine wm_bipush d_MS_look_121 (by decide) ?_
    have hJ : ∀ v24 : Int, v24 = (if l1 ≤ 40 then (if l2 ≤ 480 then 0 else 6) else 5) → mWm G y_MS_look (d + 1) 143 [vd, vd, vd, vd, vd, vd, vd] [vi v24] M (fun r9 M9 => ∃ x9, r9 = some (vi x9) ∧ Q x9 M9) := by
      intro v24 e26
      have h := h v24 e26
      have h27 : i32 v24 := by rw [e26]; (repeat' split) <;> first | exact ⟨by decide, by decide⟩ | exact ⟨by decide, by decide⟩ | exact ⟨by decide, by decide⟩
      refine wm_ireturn d_MS_look_143 rfl rfl ?_
      exact ⟨_, rfl, h⟩
    clear h
    refine wm_icmp_le (tgt := 130) d_MS_look_123 rfl hi_l1 ⟨by decide, by decide⟩ (fun c22 => ?_) (fun c22 => ?_)
    · refine wm_iload_n d_MS_look_130 rfl rfl ?_
      refine wm_sipush d_MS_look_131 (by decide) ?_
      refine wm_icmp_le (tgt := 142) d_MS_look_134 rfl hi_l2 ⟨by decide, by decide⟩ (fun c23 => ?_) (fun c23 => ?_)
      · refine wm_iconst d_MS_look_142 ?_
        refine wm_less (L' := [vd, vd, vd, vd, vd, vd, vd]) ⟨Or.inl rfl, Or.inl rfl, Or.inl rfl, Or.inl rfl, Or.inl rfl, Or.inl rfl, Or.inl rfl, trivial⟩ ?_
        exact hJ 0 (by rw [if_pos c22, if_pos c23])
      · refine wm_bipush d_MS_look_137 (by decide) ?_
        refine wm_goto (tgt := 143) d_MS_look_139 rfl ?_
        refine wm_less (L' := [vd, vd, vd, vd, vd, vd, vd]) ⟨Or.inl rfl, Or.inl rfl, Or.inl rfl, Or.inl rfl, Or.inl rfl, Or.inl rfl, Or.inl rfl, trivial⟩ ?_
        exact hJ 6 (by rw [if_pos c22, if_neg c23])
    · refine wm_iconst d_MS_look_126 ?_
      refine wm_goto (tgt := 143) d_MS_look_127 rfl ?_
      refine wm_less (L' := [vd, vd, vd, vd, vd, vd, vd]) ⟨Or.inl rfl, Or.inl rfl, Or.inl rfl, Or.inl rfl, Or.inl rfl, Or.inl rfl, Or.inl rfl, trivial⟩ ?_
      exact hJ 5 (by rw [if_neg c22])
  · replace h := h.2 c21
    obtain ⟨h28, h⟩ := h
    obtain ⟨h29, h⟩ := h
    refine wm_aload_n d_MS_look_19 rfl rfl ?_
    refine gf_MS_63 rfl d_MS_look_20 h5 ?_
    refine wm_iload_n d_MS_look_23 rfl rfl ?_
    refine wm_zald d_MS_look_24 h28 h29 ?_
    obtain ⟨s34, h⟩ := h
    have hE0 : ((mI M (mR M a0 19) (Int.toNat l3) = 0) ∨ (mI M (mR M a0 4) (Int.toNat l3) = 3)) → mWm G y_MS_look (d + 1) 114 [vr a0, vi l1, vi l2, vi l3, vd, vd, vd] [] M (fun r9 M9 => ∃ x9, r9 = some (vi x9) ∧ Q x9 M9) := by
      intro q35
      have h := h.1 q35
      refine wm_iinc d_MS_look_114 (by decide) rfl (L' := [vr a0, vi l1, vi l2, vi (l3 + 1), vd, vd, vd]) rfl ?_
      refine wm_goto (tgt := 11) d_MS_look_117 rfl ?_
      exact h
    have hE1 : ¬ ((mI M (mR M a0 19) (Int.toNat l3) = 0) ∨ (mI M (mR M a0 4) (Int.toNat l3) = 3)) → mWm G y_MS_look (d + 1) 38 [vr a0, vi l1, vi l2, vi l3, vd, vd, vd] [] M (fun r9 M9 => ∃ x9, r9 = some (vi x9) ∧ Q x9 M9) := by
      intro q36
      have h := h.2 q36
      refine wm_iinc d_MS_look_38 (by decide) rfl (L' := [vr a0, vi (l1 + 1), vi l2, vi l3, vd, vd, vd]) rfl ?_
      refine wm_iconst d_MS_look_41 ?_
      refine wm_istore d_MS_look_42 (by decide) (L' := [vr a0, vi (l1 + 1), vi l2, vi l3, vi 1, vd, vd]) rfl ?_
      refine wm_iconst d_MS_look_44 ?_
      refine wm_istore d_MS_look_45 (by decide) (L' := [vr a0, vi (l1 + 1), vi l2, vi l3, vi 1, vi 0, vd]) rfl ?_
      exact h
    clear h
    have s37 := s34
    refine wm_if_eq (tgt := 114) d_MS_look_25 rfl (hO _ _).1 (fun c33 => ?_) (fun c33 => ?_)
    · exact hE0 (Or.inl c33)
    · have s37 := s37 c33
      obtain ⟨h30, h31⟩ := s37
      refine wm_aload_n d_MS_look_28 rfl rfl ?_
      refine gf_MS_16 rfl d_MS_look_29 h5 ?_
      refine wm_iload_n d_MS_look_32 rfl rfl ?_
      refine wm_iald d_MS_look_33 h30 h31 ?_
      refine wm_iconst d_MS_look_34 ?_
      refine wm_icmp_eq (tgt := 114) d_MS_look_35 rfl (hO _ _).1 ⟨by decide, by decide⟩ (fun c32 => ?_) (fun c32 => ?_)
      · exact hE0 (Or.inr c32)
      · exact hE1 (fun z38 => Or.elim z38 c33 c32)
theorem k_MS_look_47 {G : mG} {d : Nat} {a0 : Nat} {l1 : Int} {l2 : Int} {l3 : Int} {l4 : Int} {l5 : Int} {M : mM} {Q : Int → mM → Prop} (hO : mOk M) (hi_l1 : i32 l1) (hi_l2 : i32 l2) (hi_l3 : i32 l3) (hi_l4 : i32 l4) (hi_l5 : i32 l5)
    (h : mK M a0 = 17 ∧ Ci G y_MS_many d [vr a0, vi l3] M (fun x42 M41 => i32 x42 ∧ mOk M41 ∧ (((x42 ≤ l5) → (Ci G y_MS_weight d [vl l4] M41 (fun x47 M46 => i32 x47 ∧ mOk M46 ∧ (h_MS_look_11 G d a0 l1 (l2 + x47) (l3 + 1) M46 Q)))) ∧ (¬ (x42 ≤ l5) → (mK M41 a0 = 17 ∧ mK M41 (mR M41 a0 5) = 30 ∧ ((0 : Int) ≤ l3 ∧ l3 < (mN M41 (mR M41 a0 5) : Int)) ∧ mK M41 (mR M41 a0 6) = 30 ∧ ((0 : Int) ≤ (mI M41 (mR M41 a0 5) (Int.toNat l3)) + l5 ∧ (mI M41 (mR M41 a0 5) (Int.toNat l3)) + l5 < (mN M41 (mR M41 a0 6) : Int)) ∧ Ci G y_MS_may d [vr a0, vi l3, vi l5] M41 (fun x55 M54 => i32 x55 ∧ mOk M54 ∧ (∀ v59 : Int, v59 = (if ((x55 = 0) ∨ (mI M41 (mR M41 a0 6) (Int.toNat ((mI M41 (mR M41 a0 5) (Int.toNat l3)) + l5)) ≤ l4)) then l4 else mI M41 (mR M41 a0 6) (Int.toNat ((mI M41 (mR M41 a0 5) (Int.toNat l3)) + l5))) → h_MS_look_47 G d a0 l1 l2 l3 v59 (l5 + 1) M54 Q))))))) :
    h_MS_look_47 G d a0 l1 l2 l3 l4 l5 M Q := by
  unfold h_MS_look_47
  obtain ⟨h40, h⟩ := h
  refine wm_iload d_MS_look_47 rfl ?_
  refine wm_aload_n d_MS_look_49 rfl rfl ?_
  refine wm_iload_n d_MS_look_50 rfl rfl ?_
  refine cf_MS_116 rfl d_MS_look_51 h40 (Nat.le_of_ble_eq_true rfl) (Ci.mono h (fun x42 M41 h => ?_))
  obtain ⟨h43, hOM41, h⟩ := h
  refine wm_icmp_ge (tgt := 105) d_MS_look_54 rfl hi_l5 h43 (fun c45 => ?_) (fun c45 => ?_)
  · replace h := h.1 c45
    refine wm_iload_n d_MS_look_105 rfl rfl ?_
    refine wm_iload d_MS_look_106 rfl ?_
    refine wm_i2l d_MS_look_108 hi_l4 ?_
    refine cf_MS_137 rfl d_MS_look_109 (Nat.le_of_ble_eq_true rfl) (Ci.mono h (fun x47 M46 h => ?_))
    obtain ⟨h48, hOM46, h⟩ := h
    refine wm_iadd d_MS_look_112 ?_
    refine wm_istore_n d_MS_look_113 rfl (by decide) (L' := [vr a0, vi l1, vi (l2 + x47), vi l3, vi l4, vi l5, vd]) rfl ?_
    refine wm_iinc d_MS_look_114 (by decide) rfl (L' := [vr a0, vi l1, vi (l2 + x47), vi (l3 + 1), vi l4, vi l5, vd]) rfl ?_
    refine wm_goto (tgt := 11) d_MS_look_117 rfl ?_
    refine wm_less (L' := [vr a0, vi l1, vi (l2 + x47), vi (l3 + 1), vd, vd, vd]) ⟨Or.inr rfl, Or.inr rfl, Or.inr rfl, Or.inr rfl, Or.inl rfl, Or.inl rfl, Or.inl rfl, trivial⟩ ?_
    exact h
  · replace h := h.2 c45
    obtain ⟨h49, h⟩ := h
    obtain ⟨h50, h⟩ := h
    obtain ⟨h51, h⟩ := h
    obtain ⟨h52, h⟩ := h
    obtain ⟨h53, h⟩ := h
    refine wm_aload_n d_MS_look_57 rfl rfl ?_
    refine gf_MS_23 rfl d_MS_look_58 h49 ?_
    refine wm_aload_n d_MS_look_61 rfl rfl ?_
    refine gf_MS_20 rfl d_MS_look_62 h49 ?_
    refine wm_iload_n d_MS_look_65 rfl rfl ?_
    refine wm_iald d_MS_look_66 h50 h51 ?_
    refine wm_iload d_MS_look_67 rfl ?_
    refine wm_iadd d_MS_look_69 ?_
    refine wm_iald d_MS_look_70 h52 h53 ?_
    refine wm_istore d_MS_look_71 (by decide) (L' := [vr a0, vi l1, vi l2, vi l3, vi l4, vi l5, vi (mI M41 (mR M41 a0 6) (Int.toNat ((mI M41 (mR M41 a0 5) (Int.toNat l3)) + l5)))]) rfl ?_
    refine wm_aload_n d_MS_look_73 rfl rfl ?_
    refine wm_iload_n d_MS_look_74 rfl rfl ?_
    refine wm_iload d_MS_look_75 rfl ?_
    refine cf_MS_120 rfl d_MS_look_77 h49 (Nat.le_of_ble_eq_true rfl) (Ci.mono h (fun x55 M54 h => ?_))
    obtain ⟨h56, hOM54, h⟩ := h
    have hJ : ∀ v59 : Int, v59 = (if ((x55 = 0) ∨ (mI M41 (mR M41 a0 6) (Int.toNat ((mI M41 (mR M41 a0 5) (Int.toNat l3)) + l5)) ≤ l4)) then l4 else mI M41 (mR M41 a0 6) (Int.toNat ((mI M41 (mR M41 a0 5) (Int.toNat l3)) + l5))) → mWm G y_MS_look (d + 1) 97 [vr a0, vi l1, vi l2, vi l3, vd, vi l5, vd] [vi v59] M54 (fun r9 M9 => ∃ x9, r9 = some (vi x9) ∧ Q x9 M9) := by
      intro v59 e61
      have h := h v59 e61
      have h62 : i32 v59 := by rw [e61]; (repeat' split) <;> first | exact hi_l4 | exact (hOM41 _ _).1
      refine wm_istore d_MS_look_97 (by decide) (L' := [vr a0, vi l1, vi l2, vi l3, vi v59, vi l5, vd]) rfl ?_
      refine wm_iinc d_MS_look_99 (by decide) rfl (L' := [vr a0, vi l1, vi l2, vi l3, vi v59, vi (l5 + 1), vd]) rfl ?_
      refine wm_goto (tgt := 47) d_MS_look_102 rfl ?_
      exact h
    clear h
    refine wm_if_eq (tgt := 95) d_MS_look_80 rfl h56 (fun c57 => ?_) (fun c57 => ?_)
    · refine wm_iload d_MS_look_95 rfl ?_
      refine wm_less (L' := [vr a0, vi l1, vi l2, vi l3, vd, vi l5, vd]) ⟨Or.inr rfl, Or.inr rfl, Or.inr rfl, Or.inr rfl, Or.inl rfl, Or.inr rfl, Or.inl rfl, trivial⟩ ?_
      exact hJ l4 (if_pos (Or.inl c57)).symm
    · refine wm_iload d_MS_look_83 rfl ?_
      refine wm_iload d_MS_look_85 rfl ?_
      refine wm_icmp_le (tgt := 95) d_MS_look_87 rfl (hOM41 _ _).1 hi_l4 (fun c58 => ?_) (fun c58 => ?_)
      · refine wm_iload d_MS_look_95 rfl ?_
        refine wm_less (L' := [vr a0, vi l1, vi l2, vi l3, vd, vi l5, vd]) ⟨Or.inr rfl, Or.inr rfl, Or.inr rfl, Or.inr rfl, Or.inl rfl, Or.inr rfl, Or.inl rfl, trivial⟩ ?_
        exact hJ l4 (if_pos (Or.inr c58)).symm
      · refine wm_iload d_MS_look_90 rfl ?_
        refine wm_goto (tgt := 97) d_MS_look_92 rfl ?_
        refine wm_less (L' := [vr a0, vi l1, vi l2, vi l3, vd, vi l5, vd]) ⟨Or.inr rfl, Or.inr rfl, Or.inr rfl, Or.inr rfl, Or.inl rfl, Or.inr rfl, Or.inl rfl, trivial⟩ ?_
        exact hJ (mI M41 (mR M41 a0 6) (Int.toNat ((mI M41 (mR M41 a0 5) (Int.toNat l3)) + l5))) (if_neg (fun z63 => Or.elim z63 c57 c58)).symm
theorem d_MS_worthOf_0 : decode y_MS_worthOf.2.1 0 = .ok (.aload_n 0, 1) := by decide +kernel
theorem d_MS_worthOf_1 : decode y_MS_worthOf.2.1 1 = .ok (.getfield 20, 3) := by decide +kernel
theorem d_MS_worthOf_4 : decode y_MS_worthOf.2.1 4 = .ok (.iload_n 1, 1) := by decide +kernel
theorem d_MS_worthOf_5 : decode y_MS_worthOf.2.1 5 = .ok (.iaload, 1) := by decide +kernel
theorem d_MS_worthOf_6 : decode y_MS_worthOf.2.1 6 = .ok (.iload_n 2, 1) := by decide +kernel
theorem d_MS_worthOf_7 : decode y_MS_worthOf.2.1 7 = .ok (.iadd, 1) := by decide +kernel
theorem d_MS_worthOf_8 : decode y_MS_worthOf.2.1 8 = .ok (.istore 6, 2) := by decide +kernel
theorem d_MS_worthOf_10 : decode y_MS_worthOf.2.1 10 = .ok (.aload_n 0, 1) := by decide +kernel
theorem d_MS_worthOf_11 : decode y_MS_worthOf.2.1 11 = .ok (.getfield 91, 3) := by decide +kernel
theorem d_MS_worthOf_14 : decode y_MS_worthOf.2.1 14 = .ok (.lconst 0, 1) := by decide +kernel
theorem d_MS_worthOf_15 : decode y_MS_worthOf.2.1 15 = .ok (.lconst 1, 1) := by decide +kernel
theorem d_MS_worthOf_16 : decode y_MS_worthOf.2.1 16 = .ok (.invokevirtual 141, 3) := by decide +kernel
theorem d_MS_worthOf_19 : decode y_MS_worthOf.2.1 19 = .ok (.aload_n 0, 1) := by decide +kernel
theorem d_MS_worthOf_20 : decode y_MS_worthOf.2.1 20 = .ok (.getfield 26, 3) := by decide +kernel
theorem d_MS_worthOf_23 : decode y_MS_worthOf.2.1 23 = .ok (.iload 6, 2) := by decide +kernel
theorem d_MS_worthOf_25 : decode y_MS_worthOf.2.1 25 = .ok (.iaload, 1) := by decide +kernel
theorem d_MS_worthOf_26 : decode y_MS_worthOf.2.1 26 = .ok (.istore 7, 2) := by decide +kernel
theorem d_MS_worthOf_28 : decode y_MS_worthOf.2.1 28 = .ok (.iload 7, 2) := by decide +kernel
theorem d_MS_worthOf_30 : decode y_MS_worthOf.2.1 30 = .ok (.aload_n 0, 1) := by decide +kernel
theorem d_MS_worthOf_31 : decode y_MS_worthOf.2.1 31 = .ok (.getfield 26, 3) := by decide +kernel
theorem d_MS_worthOf_34 : decode y_MS_worthOf.2.1 34 = .ok (.iload 6, 2) := by decide +kernel
theorem d_MS_worthOf_36 : decode y_MS_worthOf.2.1 36 = .ok (.iconst 1, 1) := by decide +kernel
theorem d_MS_worthOf_37 : decode y_MS_worthOf.2.1 37 = .ok (.iadd, 1) := by decide +kernel
theorem d_MS_worthOf_38 : decode y_MS_worthOf.2.1 38 = .ok (.iaload, 1) := by decide +kernel
theorem d_MS_worthOf_39 : decode y_MS_worthOf.2.1 39 = .ok (.if_icmp .ge 102, 3) := by decide +kernel
theorem d_MS_worthOf_141 : decode y_MS_worthOf.2.1 141 = .ok (.return_, 1) := by decide +kernel
theorem d_MS_worthOf_42 : decode y_MS_worthOf.2.1 42 = .ok (.aload_n 0, 1) := by decide +kernel
theorem d_MS_worthOf_43 : decode y_MS_worthOf.2.1 43 = .ok (.getfield 84, 3) := by decide +kernel
theorem d_MS_worthOf_46 : decode y_MS_worthOf.2.1 46 = .ok (.aload_n 0, 1) := by decide +kernel
theorem d_MS_worthOf_47 : decode y_MS_worthOf.2.1 47 = .ok (.getfield 32, 3) := by decide +kernel
theorem d_MS_worthOf_50 : decode y_MS_worthOf.2.1 50 = .ok (.iload 7, 2) := by decide +kernel
theorem d_MS_worthOf_52 : decode y_MS_worthOf.2.1 52 = .ok (.iaload, 1) := by decide +kernel
theorem d_MS_worthOf_53 : decode y_MS_worthOf.2.1 53 = .ok (.i2l, 1) := by decide +kernel
theorem d_MS_worthOf_54 : decode y_MS_worthOf.2.1 54 = .ok (.aload_n 0, 1) := by decide +kernel
theorem d_MS_worthOf_55 : decode y_MS_worthOf.2.1 55 = .ok (.getfield 35, 3) := by decide +kernel
theorem d_MS_worthOf_58 : decode y_MS_worthOf.2.1 58 = .ok (.iload 7, 2) := by decide +kernel
theorem d_MS_worthOf_60 : decode y_MS_worthOf.2.1 60 = .ok (.iaload, 1) := by decide +kernel
theorem d_MS_worthOf_61 : decode y_MS_worthOf.2.1 61 = .ok (.i2l, 1) := by decide +kernel
theorem d_MS_worthOf_62 : decode y_MS_worthOf.2.1 62 = .ok (.invokevirtual 141, 3) := by decide +kernel
theorem d_MS_worthOf_65 : decode y_MS_worthOf.2.1 65 = .ok (.aload_n 0, 1) := by decide +kernel
theorem d_MS_worthOf_66 : decode y_MS_worthOf.2.1 66 = .ok (.getfield 10, 3) := by decide +kernel
theorem d_MS_worthOf_69 : decode y_MS_worthOf.2.1 69 = .ok (.aload_n 0, 1) := by decide +kernel
theorem d_MS_worthOf_70 : decode y_MS_worthOf.2.1 70 = .ok (.getfield 84, 3) := by decide +kernel
theorem d_MS_worthOf_73 : decode y_MS_worthOf.2.1 73 = .ok (.aload_n 3, 1) := by decide +kernel
theorem d_MS_worthOf_74 : decode y_MS_worthOf.2.1 74 = .ok (.iload 5, 2) := by decide +kernel
theorem d_MS_worthOf_76 : decode y_MS_worthOf.2.1 76 = .ok (.aload_n 0, 1) := by decide +kernel
theorem d_MS_worthOf_77 : decode y_MS_worthOf.2.1 77 = .ok (.getfield 29, 3) := by decide +kernel
theorem d_MS_worthOf_80 : decode y_MS_worthOf.2.1 80 = .ok (.iload 7, 2) := by decide +kernel
theorem d_MS_worthOf_82 : decode y_MS_worthOf.2.1 82 = .ok (.iaload, 1) := by decide +kernel
theorem d_MS_worthOf_83 : decode y_MS_worthOf.2.1 83 = .ok (.imul, 1) := by decide +kernel
theorem d_MS_worthOf_84 : decode y_MS_worthOf.2.1 84 = .ok (.iload 4, 2) := by decide +kernel
theorem d_MS_worthOf_86 : decode y_MS_worthOf.2.1 86 = .ok (.iadd, 1) := by decide +kernel
theorem d_MS_worthOf_87 : decode y_MS_worthOf.2.1 87 = .ok (.aaload, 1) := by decide +kernel
theorem d_MS_worthOf_88 : decode y_MS_worthOf.2.1 88 = .ok (.invokevirtual 145, 3) := by decide +kernel
theorem d_MS_worthOf_91 : decode y_MS_worthOf.2.1 91 = .ok (.aload_n 0, 1) := by decide +kernel
theorem d_MS_worthOf_92 : decode y_MS_worthOf.2.1 92 = .ok (.getfield 94, 3) := by decide +kernel
theorem d_MS_worthOf_95 : decode y_MS_worthOf.2.1 95 = .ok (.aload_n 0, 1) := by decide +kernel
theorem d_MS_worthOf_96 : decode y_MS_worthOf.2.1 96 = .ok (.getfield 10, 3) := by decide +kernel
theorem d_MS_worthOf_99 : decode y_MS_worthOf.2.1 99 = .ok (.getfield 149, 3) := by decide +kernel
theorem d_MS_worthOf_102 : decode y_MS_worthOf.2.1 102 = .ok (.invokevirtual 152, 3) := by decide +kernel
theorem d_MS_worthOf_105 : decode y_MS_worthOf.2.1 105 = .ok (.aload_n 0, 1) := by decide +kernel
theorem d_MS_worthOf_106 : decode y_MS_worthOf.2.1 106 = .ok (.getfield 10, 3) := by decide +kernel
theorem d_MS_worthOf_109 : decode y_MS_worthOf.2.1 109 = .ok (.aload_n 0, 1) := by decide +kernel
theorem d_MS_worthOf_110 : decode y_MS_worthOf.2.1 110 = .ok (.getfield 91, 3) := by decide +kernel
theorem d_MS_worthOf_113 : decode y_MS_worthOf.2.1 113 = .ok (.aload_n 0, 1) := by decide +kernel
theorem d_MS_worthOf_114 : decode y_MS_worthOf.2.1 114 = .ok (.getfield 94, 3) := by decide +kernel
theorem d_MS_worthOf_117 : decode y_MS_worthOf.2.1 117 = .ok (.iconst 0, 1) := by decide +kernel
theorem d_MS_worthOf_118 : decode y_MS_worthOf.2.1 118 = .ok (.invokevirtual 156, 3) := by decide +kernel
theorem d_MS_worthOf_121 : decode y_MS_worthOf.2.1 121 = .ok (.aload_n 0, 1) := by decide +kernel
theorem d_MS_worthOf_122 : decode y_MS_worthOf.2.1 122 = .ok (.getfield 91, 3) := by decide +kernel
theorem d_MS_worthOf_125 : decode y_MS_worthOf.2.1 125 = .ok (.aload_n 0, 1) := by decide +kernel
theorem d_MS_worthOf_126 : decode y_MS_worthOf.2.1 126 = .ok (.getfield 10, 3) := by decide +kernel
theorem d_MS_worthOf_129 : decode y_MS_worthOf.2.1 129 = .ok (.getfield 149, 3) := by decide +kernel
theorem d_MS_worthOf_132 : decode y_MS_worthOf.2.1 132 = .ok (.invokevirtual 152, 3) := by decide +kernel
theorem d_MS_worthOf_135 : decode y_MS_worthOf.2.1 135 = .ok (.iinc 7 1, 3) := by decide +kernel
theorem d_MS_worthOf_138 : decode y_MS_worthOf.2.1 138 = .ok (.goto (-110), 3) := by decide +kernel
def h_MS_worthOf_28 (G : mG) (d : Nat) (a0 : Nat) (a3 : Nat) (l4 : Int) (l5 : Int) (l6 : Int) (l7 : Int) (M : mM) (Q : mM → Prop) : Prop := mWm G y_MS_worthOf (d + 1) 28 [vr a0, vd, vd, vr a3, vi l4, vi l5, vi l6, vi l7] [] M (fun r9 M9 => r9 = none ∧ Q M9)
theorem k_MS_worthOf {G : mG} {d : Nat} {a0 : Nat} {l1 : Int} {l2 : Int} {a3 : Nat} {l4 : Int} {l5 : Int} {M : mM} {Q : mM → Prop} (hO : mOk M) (hi_l1 : i32 l1) (hi_l2 : i32 l2) (hi_l4 : i32 l4) (hi_l5 : i32 l5)
    (h : mK M a0 = 17 ∧ mK M (mR M a0 5) = 30 ∧ ((0 : Int) ≤ l1 ∧ l1 < (mN M (mR M a0 5) : Int)) ∧ mK M (mR M a0 28) = 19 ∧ Cv G y_MF_set d [vr (mR M a0 28), vl 0, vl 1] M (fun M5 => mOk M5 ∧ (mK M5 a0 = 17 ∧ mK M5 (mR M5 a0 7) = 30 ∧ ((0 : Int) ≤ (mI M (mR M a0 5) (Int.toNat l1)) + l2 ∧ (mI M (mR M a0 5) (Int.toNat l1)) + l2 < (mN M5 (mR M5 a0 7) : Int)) ∧ h_MS_worthOf_28 G d a0 a3 l4 l5 ((mI M (mR M a0 5) (Int.toNat l1)) + l2) (mI M5 (mR M5 a0 7) (Int.toNat ((mI M (mR M a0 5) (Int.toNat l1)) + l2))) M5 Q))) :
    Cv G y_MS_worthOf (d + 1) [vr a0, vi l1, vi l2, vr a3, vi l4, vi l5] M Q := by
  refine wm_open (y := y_MS_worthOf) rfl (Nat.le_of_ble_eq_true rfl) (L := [vr a0, vi l1, vi l2, vr a3, vi l4, vi l5, vd, vd]) rfl ?_
  obtain ⟨h1, h⟩ := h
  obtain ⟨h2, h⟩ := h
  obtain ⟨h3, h⟩ := h
  obtain ⟨h4, h⟩ := h
  refine wm_aload_n d_MS_worthOf_0 rfl rfl ?_
  refine gf_MS_20 rfl d_MS_worthOf_1 h1 ?_
  refine wm_iload_n d_MS_worthOf_4 rfl rfl ?_
  refine wm_iald d_MS_worthOf_5 h2 h3 ?_
  refine wm_iload_n d_MS_worthOf_6 rfl rfl ?_
  refine wm_iadd d_MS_worthOf_7 ?_
  refine wm_istore d_MS_worthOf_8 (by decide) (L' := [vr a0, vi l1, vi l2, vr a3, vi l4, vi l5, vi ((mI M (mR M a0 5) (Int.toNat l1)) + l2), vd]) rfl ?_
  refine wm_aload_n d_MS_worthOf_10 rfl rfl ?_
  refine gf_MS_91 rfl d_MS_worthOf_11 h1 ?_
  refine wm_lconst (x := 0) d_MS_worthOf_14 rfl ?_
  refine wm_lconst (x := 1) d_MS_worthOf_15 rfl ?_
  refine cf_MS_141 rfl d_MS_worthOf_16 h4 (Nat.le_of_ble_eq_true rfl) (Cv.mono h (fun M5 h => ?_))
  obtain ⟨hOM5, h⟩ := h
  obtain ⟨h8, h⟩ := h
  obtain ⟨h9, h⟩ := h
  obtain ⟨h10, h⟩ := h
  refine wm_aload_n d_MS_worthOf_19 rfl rfl ?_
  refine gf_MS_26 rfl d_MS_worthOf_20 h8 ?_
  refine wm_iload d_MS_worthOf_23 rfl ?_
  refine wm_iald d_MS_worthOf_25 h9 h10 ?_
  refine wm_istore d_MS_worthOf_26 (by decide) (L' := [vr a0, vi l1, vi l2, vr a3, vi l4, vi l5, vi ((mI M (mR M a0 5) (Int.toNat l1)) + l2), vi (mI M5 (mR M5 a0 7) (Int.toNat ((mI M (mR M a0 5) (Int.toNat l1)) + l2)))]) rfl ?_
  refine wm_less (L' := [vr a0, vd, vd, vr a3, vi l4, vi l5, vi ((mI M (mR M a0 5) (Int.toNat l1)) + l2), vi (mI M5 (mR M5 a0 7) (Int.toNat ((mI M (mR M a0 5) (Int.toNat l1)) + l2)))]) ⟨Or.inr rfl, Or.inl rfl, Or.inl rfl, Or.inr rfl, Or.inr rfl, Or.inr rfl, Or.inr rfl, Or.inr rfl, trivial⟩ ?_
  exact h
theorem k_MS_worthOf_28 {G : mG} {d : Nat} {a0 : Nat} {a3 : Nat} {l4 : Int} {l5 : Int} {l6 : Int} {l7 : Int} {M : mM} {Q : mM → Prop} (hO : mOk M) (hi_l4 : i32 l4) (hi_l5 : i32 l5) (hi_l6 : i32 l6) (hi_l7 : i32 l7)
    (h : mK M a0 = 17 ∧ mK M (mR M a0 7) = 30 ∧ ((0 : Int) ≤ l6 + 1 ∧ l6 + 1 < (mN M (mR M a0 7) : Int)) ∧ ((mI M (mR M a0 7) (Int.toNat (l6 + 1)) ≤ l7) → (Q M)) ∧ (¬ (mI M (mR M a0 7) (Int.toNat (l6 + 1)) ≤ l7) → (mK M (mR M a0 9) = 30 ∧ ((0 : Int) ≤ l7 ∧ l7 < (mN M (mR M a0 9) : Int)) ∧ mK M (mR M a0 10) = 30 ∧ ((0 : Int) ≤ l7 ∧ l7 < (mN M (mR M a0 10) : Int)) ∧ mK M (mR M a0 26) = 19 ∧ Cv G y_MF_set d [vr (mR M a0 26), vl (mI M (mR M a0 9) (Int.toNat l7)), vl (mI M (mR M a0 10) (Int.toNat l7))] M (fun M21 => mOk M21 ∧ (mK M21 a0 = 17 ∧ mK M21 (mR M21 a0 8) = 30 ∧ ((0 : Int) ≤ l7 ∧ l7 < (mN M21 (mR M21 a0 8) : Int)) ∧ mK M21 a3 = 36 ∧ ((0 : Int) ≤ (l5 * (mI M21 (mR M21 a0 8) (Int.toNat l7))) + l4 ∧ (l5 * (mI M21 (mR M21 a0 8) (Int.toNat l7))) + l4 < (mN M21 a3 : Int)) ∧ mK M21 (mR M21 a0 0) = 18 ∧ Cv G y_MU_multiply d [vr (mR M21 a0 0), vr (mR M21 a0 26), vr (mR M21 a3 (Int.toNat ((l5 * (mI M21 (mR M21 a0 8) (Int.toNat l7))) + l4)))] M21 (fun M30 => mOk M30 ∧ (mK M30 a0 = 17 ∧ mK M30 (mR M30 a0 0) = 18 ∧ mK M30 (mR M30 a0 29) = 19 ∧ Cv G y_MF_copy d [vr (mR M30 a0 29), vr (mR M30 (mR M30 a0 0) 0)] M30 (fun M36 => mOk M36 ∧ (mK M36 a0 = 17 ∧ mK M36 (mR M36 a0 0) = 18 ∧ Cv G y_MU_add d [vr (mR M36 a0 0), vr (mR M36 a0 28), vr (mR M36 a0 29), vi 0] M36 (fun M41 => mOk M41 ∧ (mK M41 a0 = 17 ∧ mK M41 (mR M41 a0 0) = 18 ∧ mK M41 (mR M41 a0 28) = 19 ∧ Cv G y_MF_copy d [vr (mR M41 a0 28), vr (mR M41 (mR M41 a0 0) 0)] M41 (fun M47 => mOk M47 ∧ (h_MS_worthOf_28 G d a0 a3 l4 l5 l6 (l7 + 1) M47 Q))))))))))))) :
    h_MS_worthOf_28 G d a0 a3 l4 l5 l6 l7 M Q := by
  unfold h_MS_worthOf_28
  obtain ⟨h11, h⟩ := h
  obtain ⟨h12, h⟩ := h
  obtain ⟨h13, h⟩ := h
  refine wm_iload d_MS_worthOf_28 rfl ?_
  refine wm_aload_n d_MS_worthOf_30 rfl rfl ?_
  refine gf_MS_26 rfl d_MS_worthOf_31 h11 ?_
  refine wm_iload d_MS_worthOf_34 rfl ?_
  refine wm_iconst d_MS_worthOf_36 ?_
  refine wm_iadd d_MS_worthOf_37 ?_
  refine wm_iald d_MS_worthOf_38 h12 h13 ?_
  refine wm_icmp_ge (tgt := 141) d_MS_worthOf_39 rfl hi_l7 (hO _ _).1 (fun c15 => ?_) (fun c15 => ?_)
  · replace h := h.1 c15
    refine wm_return d_MS_worthOf_141 rfl ?_
    exact ⟨rfl, h⟩
  · replace h := h.2 c15
    obtain ⟨h16, h⟩ := h
    obtain ⟨h17, h⟩ := h
    obtain ⟨h18, h⟩ := h
    obtain ⟨h19, h⟩ := h
    obtain ⟨h20, h⟩ := h
    refine wm_aload_n d_MS_worthOf_42 rfl rfl ?_
    refine gf_MS_84 rfl d_MS_worthOf_43 h11 ?_
    refine wm_aload_n d_MS_worthOf_46 rfl rfl ?_
    refine gf_MS_32 rfl d_MS_worthOf_47 h11 ?_
    refine wm_iload d_MS_worthOf_50 rfl ?_
    refine wm_iald d_MS_worthOf_52 h16 h17 ?_
    refine wm_i2l d_MS_worthOf_53 (hO _ _).1 ?_
    refine wm_aload_n d_MS_worthOf_54 rfl rfl ?_
    refine gf_MS_35 rfl d_MS_worthOf_55 h11 ?_
    refine wm_iload d_MS_worthOf_58 rfl ?_
    refine wm_iald d_MS_worthOf_60 h18 h19 ?_
    refine wm_i2l d_MS_worthOf_61 (hO _ _).1 ?_
    refine cf_MS_141 rfl d_MS_worthOf_62 h20 (Nat.le_of_ble_eq_true rfl) (Cv.mono h (fun M21 h => ?_))
    obtain ⟨hOM21, h⟩ := h
    obtain ⟨h24, h⟩ := h
    obtain ⟨h25, h⟩ := h
    obtain ⟨h26, h⟩ := h
    obtain ⟨h27, h⟩ := h
    obtain ⟨h28, h⟩ := h
    obtain ⟨h29, h⟩ := h
    refine wm_aload_n d_MS_worthOf_65 rfl rfl ?_
    refine gf_MS_10 rfl d_MS_worthOf_66 h24 ?_
    refine wm_aload_n d_MS_worthOf_69 rfl rfl ?_
    refine gf_MS_84 rfl d_MS_worthOf_70 h24 ?_
    refine wm_aload_n d_MS_worthOf_73 rfl rfl ?_
    refine wm_iload d_MS_worthOf_74 rfl ?_
    refine wm_aload_n d_MS_worthOf_76 rfl rfl ?_
    refine gf_MS_29 rfl d_MS_worthOf_77 h24 ?_
    refine wm_iload d_MS_worthOf_80 rfl ?_
    refine wm_iald d_MS_worthOf_82 h25 h26 ?_
    refine wm_imul d_MS_worthOf_83 ?_
    refine wm_iload d_MS_worthOf_84 rfl ?_
    refine wm_iadd d_MS_worthOf_86 ?_
    refine wm_aald6 d_MS_worthOf_87 h27 h28 ?_
    refine cf_MS_145 rfl d_MS_worthOf_88 h29 (Nat.le_of_ble_eq_true rfl) (Cv.mono h (fun M30 h => ?_))
    obtain ⟨hOM30, h⟩ := h
    obtain ⟨h33, h⟩ := h
    obtain ⟨h34, h⟩ := h
    obtain ⟨h35, h⟩ := h
    refine wm_aload_n d_MS_worthOf_91 rfl rfl ?_
    refine gf_MS_94 rfl d_MS_worthOf_92 h33 ?_
    refine wm_aload_n d_MS_worthOf_95 rfl rfl ?_
    refine gf_MS_10 rfl d_MS_worthOf_96 h33 ?_
    refine gf_MS_149 rfl d_MS_worthOf_99 h34 ?_
    refine cf_MS_152 rfl d_MS_worthOf_102 h35 (Nat.le_of_ble_eq_true rfl) (Cv.mono h (fun M36 h => ?_))
    obtain ⟨hOM36, h⟩ := h
    obtain ⟨h39, h⟩ := h
    obtain ⟨h40, h⟩ := h
    refine wm_aload_n d_MS_worthOf_105 rfl rfl ?_
    refine gf_MS_10 rfl d_MS_worthOf_106 h39 ?_
    refine wm_aload_n d_MS_worthOf_109 rfl rfl ?_
    refine gf_MS_91 rfl d_MS_worthOf_110 h39 ?_
    refine wm_aload_n d_MS_worthOf_113 rfl rfl ?_
    refine gf_MS_94 rfl d_MS_worthOf_114 h39 ?_
    refine wm_iconst d_MS_worthOf_117 ?_
    refine cf_MS_156 rfl d_MS_worthOf_118 h40 (Nat.le_of_ble_eq_true rfl) (Cv.mono h (fun M41 h => ?_))
    obtain ⟨hOM41, h⟩ := h
    obtain ⟨h44, h⟩ := h
    obtain ⟨h45, h⟩ := h
    obtain ⟨h46, h⟩ := h
    refine wm_aload_n d_MS_worthOf_121 rfl rfl ?_
    refine gf_MS_91 rfl d_MS_worthOf_122 h44 ?_
    refine wm_aload_n d_MS_worthOf_125 rfl rfl ?_
    refine gf_MS_10 rfl d_MS_worthOf_126 h44 ?_
    refine gf_MS_149 rfl d_MS_worthOf_129 h45 ?_
    refine cf_MS_152 rfl d_MS_worthOf_132 h46 (Nat.le_of_ble_eq_true rfl) (Cv.mono h (fun M47 h => ?_))
    obtain ⟨hOM47, h⟩ := h
    refine wm_iinc d_MS_worthOf_135 (by decide) rfl (L' := [vr a0, vd, vd, vr a3, vi l4, vi l5, vi l6, vi (l7 + 1)]) rfl ?_
    refine wm_goto (tgt := 28) d_MS_worthOf_138 rfl ?_
    exact h
theorem d_MS_cell_0 : decode y_MS_cell.2.1 0 = .ok (.aload_n 0, 1) := by decide +kernel
theorem d_MS_cell_1 : decode y_MS_cell.2.1 1 = .ok (.getfield 78, 3) := by decide +kernel
theorem d_MS_cell_4 : decode y_MS_cell.2.1 4 = .ok (.bipush 41, 2) := by decide +kernel
theorem d_MS_cell_6 : decode y_MS_cell.2.1 6 = .ok (.iload_n 1, 1) := by decide +kernel
theorem d_MS_cell_7 : decode y_MS_cell.2.1 7 = .ok (.imul, 1) := by decide +kernel
theorem d_MS_cell_8 : decode y_MS_cell.2.1 8 = .ok (.iload_n 2, 1) := by decide +kernel
theorem d_MS_cell_9 : decode y_MS_cell.2.1 9 = .ok (.iadd, 1) := by decide +kernel
theorem d_MS_cell_10 : decode y_MS_cell.2.1 10 = .ok (.aaload, 1) := by decide +kernel
theorem d_MS_cell_11 : decode y_MS_cell.2.1 11 = .ok (.areturn, 1) := by decide +kernel
theorem k_MS_cell {G : mG} {d : Nat} {a0 : Nat} {l1 : Int} {l2 : Int} {M : mM} {Q : Nat → mM → Prop} (hO : mOk M) (hi_l1 : i32 l1) (hi_l2 : i32 l2)
    (h : mK M a0 = 17 ∧ mK M (mR M a0 25) = 36 ∧ ((0 : Int) ≤ (41 * l1) + l2 ∧ (41 * l1) + l2 < (mN M (mR M a0 25) : Int)) ∧ Q (mR M (mR M a0 25) (Int.toNat ((41 * l1) + l2))) M) :
    Cr G y_MS_cell d [vr a0, vi l1, vi l2] M Q := by
  refine wm_open (y := y_MS_cell) rfl (Nat.le_of_ble_eq_true rfl) (L := [vr a0, vi l1, vi l2]) rfl ?_
  obtain ⟨h1, h⟩ := h
  obtain ⟨h2, h⟩ := h
  obtain ⟨h3, h⟩ := h
  refine wm_aload_n d_MS_cell_0 rfl rfl ?_
  refine gf_MS_78 rfl d_MS_cell_1 h1 ?_
  refine wm_bipush d_MS_cell_4 (by decide) ?_
  refine wm_iload_n d_MS_cell_6 rfl rfl ?_
  refine wm_imul d_MS_cell_7 ?_
  refine wm_iload_n d_MS_cell_8 rfl rfl ?_
  refine wm_iadd d_MS_cell_9 ?_
  refine wm_aald6 d_MS_cell_10 h2 h3 ?_
  refine wm_areturn d_MS_cell_11 rfl (Or.inl ⟨_, rfl⟩) ?_
  exact ⟨_, rfl, h⟩
theorem d_MS_writeRows_0 : decode y_MS_writeRows.2.1 0 = .ok (.iconst 0, 1) := by decide +kernel
theorem d_MS_writeRows_1 : decode y_MS_writeRows.2.1 1 = .ok (.istore_n 1, 1) := by decide +kernel
theorem d_MS_writeRows_2 : decode y_MS_writeRows.2.1 2 = .ok (.iload_n 1, 1) := by decide +kernel
theorem d_MS_writeRows_3 : decode y_MS_writeRows.2.1 3 = .ok (.aload_n 0, 1) := by decide +kernel
theorem d_MS_writeRows_4 : decode y_MS_writeRows.2.1 4 = .ok (.getfield 160, 3) := by decide +kernel
theorem d_MS_writeRows_7 : decode y_MS_writeRows.2.1 7 = .ok (.if_icmp .ge 212, 3) := by decide +kernel
theorem d_MS_writeRows_219 : decode y_MS_writeRows.2.1 219 = .ok (.return_, 1) := by decide +kernel
theorem d_MS_writeRows_10 : decode y_MS_writeRows.2.1 10 = .ok (.iconst 0, 1) := by decide +kernel
theorem d_MS_writeRows_11 : decode y_MS_writeRows.2.1 11 = .ok (.istore_n 2, 1) := by decide +kernel
theorem d_MS_writeRows_12 : decode y_MS_writeRows.2.1 12 = .ok (.iload_n 2, 1) := by decide +kernel
theorem d_MS_writeRows_13 : decode y_MS_writeRows.2.1 13 = .ok (.aload_n 0, 1) := by decide +kernel
theorem d_MS_writeRows_14 : decode y_MS_writeRows.2.1 14 = .ok (.getfield 160, 3) := by decide +kernel
theorem d_MS_writeRows_17 : decode y_MS_writeRows.2.1 17 = .ok (.if_icmp .gt 29, 3) := by decide +kernel
theorem d_MS_writeRows_46 : decode y_MS_writeRows.2.1 46 = .ok (.aload_n 0, 1) := by decide +kernel
theorem d_MS_writeRows_47 : decode y_MS_writeRows.2.1 47 = .ok (.getfield 20, 3) := by decide +kernel
theorem d_MS_writeRows_50 : decode y_MS_writeRows.2.1 50 = .ok (.aload_n 0, 1) := by decide +kernel
theorem d_MS_writeRows_51 : decode y_MS_writeRows.2.1 51 = .ok (.getfield 72, 3) := by decide +kernel
theorem d_MS_writeRows_54 : decode y_MS_writeRows.2.1 54 = .ok (.iload_n 1, 1) := by decide +kernel
theorem d_MS_writeRows_55 : decode y_MS_writeRows.2.1 55 = .ok (.iaload, 1) := by decide +kernel
theorem d_MS_writeRows_56 : decode y_MS_writeRows.2.1 56 = .ok (.iaload, 1) := by decide +kernel
theorem d_MS_writeRows_57 : decode y_MS_writeRows.2.1 57 = .ok (.aload_n 0, 1) := by decide +kernel
theorem d_MS_writeRows_58 : decode y_MS_writeRows.2.1 58 = .ok (.getfield 60, 3) := by decide +kernel
theorem d_MS_writeRows_61 : decode y_MS_writeRows.2.1 61 = .ok (.aload_n 0, 1) := by decide +kernel
theorem d_MS_writeRows_62 : decode y_MS_writeRows.2.1 62 = .ok (.getfield 72, 3) := by decide +kernel
theorem d_MS_writeRows_65 : decode y_MS_writeRows.2.1 65 = .ok (.iload_n 1, 1) := by decide +kernel
theorem d_MS_writeRows_66 : decode y_MS_writeRows.2.1 66 = .ok (.iaload, 1) := by decide +kernel
theorem d_MS_writeRows_67 : decode y_MS_writeRows.2.1 67 = .ok (.iaload, 1) := by decide +kernel
theorem d_MS_writeRows_68 : decode y_MS_writeRows.2.1 68 = .ok (.iadd, 1) := by decide +kernel
theorem d_MS_writeRows_69 : decode y_MS_writeRows.2.1 69 = .ok (.istore_n 2, 1) := by decide +kernel
theorem d_MS_writeRows_70 : decode y_MS_writeRows.2.1 70 = .ok (.aload_n 0, 1) := by decide +kernel
theorem d_MS_writeRows_71 : decode y_MS_writeRows.2.1 71 = .ok (.getfield 26, 3) := by decide +kernel
theorem d_MS_writeRows_74 : decode y_MS_writeRows.2.1 74 = .ok (.iload_n 2, 1) := by decide +kernel
theorem d_MS_writeRows_75 : decode y_MS_writeRows.2.1 75 = .ok (.iaload, 1) := by decide +kernel
theorem d_MS_writeRows_76 : decode y_MS_writeRows.2.1 76 = .ok (.istore_n 3, 1) := by decide +kernel
theorem d_MS_writeRows_20 : decode y_MS_writeRows.2.1 20 = .ok (.aload_n 0, 1) := by decide +kernel
theorem d_MS_writeRows_21 : decode y_MS_writeRows.2.1 21 = .ok (.iload_n 1, 1) := by decide +kernel
theorem d_MS_writeRows_22 : decode y_MS_writeRows.2.1 22 = .ok (.iload_n 2, 1) := by decide +kernel
theorem d_MS_writeRows_23 : decode y_MS_writeRows.2.1 23 = .ok (.invokevirtual 163, 3) := by decide +kernel
theorem d_MS_writeRows_26 : decode y_MS_writeRows.2.1 26 = .ok (.iload_n 1, 1) := by decide +kernel
theorem d_MS_writeRows_27 : decode y_MS_writeRows.2.1 27 = .ok (.iload_n 2, 1) := by decide +kernel
theorem d_MS_writeRows_28 : decode y_MS_writeRows.2.1 28 = .ok (.if_icmp .ne 7, 3) := by decide +kernel
theorem d_MS_writeRows_31 : decode y_MS_writeRows.2.1 31 = .ok (.lconst 1, 1) := by decide +kernel
theorem d_MS_writeRows_32 : decode y_MS_writeRows.2.1 32 = .ok (.goto 4, 3) := by decide +kernel
theorem d_MS_writeRows_35 : decode y_MS_writeRows.2.1 35 = .ok (.lconst 0, 1) := by decide +kernel
theorem d_MS_writeRows_36 : decode y_MS_writeRows.2.1 36 = .ok (.lconst 1, 1) := by decide +kernel
theorem d_MS_writeRows_37 : decode y_MS_writeRows.2.1 37 = .ok (.invokevirtual 141, 3) := by decide +kernel
theorem d_MS_writeRows_40 : decode y_MS_writeRows.2.1 40 = .ok (.iinc 2 1, 3) := by decide +kernel
theorem d_MS_writeRows_43 : decode y_MS_writeRows.2.1 43 = .ok (.goto (-31), 3) := by decide +kernel
theorem d_MS_writeRows_77 : decode y_MS_writeRows.2.1 77 = .ok (.iload_n 3, 1) := by decide +kernel
theorem d_MS_writeRows_78 : decode y_MS_writeRows.2.1 78 = .ok (.aload_n 0, 1) := by decide +kernel
theorem d_MS_writeRows_79 : decode y_MS_writeRows.2.1 79 = .ok (.getfield 26, 3) := by decide +kernel
theorem d_MS_writeRows_82 : decode y_MS_writeRows.2.1 82 = .ok (.iload_n 2, 1) := by decide +kernel
theorem d_MS_writeRows_83 : decode y_MS_writeRows.2.1 83 = .ok (.iconst 1, 1) := by decide +kernel
theorem d_MS_writeRows_84 : decode y_MS_writeRows.2.1 84 = .ok (.iadd, 1) := by decide +kernel
theorem d_MS_writeRows_85 : decode y_MS_writeRows.2.1 85 = .ok (.iaload, 1) := by decide +kernel
theorem d_MS_writeRows_86 : decode y_MS_writeRows.2.1 86 = .ok (.if_icmp .ge 127, 3) := by decide +kernel
theorem d_MS_writeRows_213 : decode y_MS_writeRows.2.1 213 = .ok (.iinc 1 1, 3) := by decide +kernel
theorem d_MS_writeRows_216 : decode y_MS_writeRows.2.1 216 = .ok (.goto (-214), 3) := by decide +kernel
theorem d_MS_writeRows_89 : decode y_MS_writeRows.2.1 89 = .ok (.aload_n 0, 1) := by decide +kernel
theorem d_MS_writeRows_90 : decode y_MS_writeRows.2.1 90 = .ok (.getfield 29, 3) := by decide +kernel
theorem d_MS_writeRows_93 : decode y_MS_writeRows.2.1 93 = .ok (.iload_n 3, 1) := by decide +kernel
theorem d_MS_writeRows_94 : decode y_MS_writeRows.2.1 94 = .ok (.iaload, 1) := by decide +kernel
theorem d_MS_writeRows_95 : decode y_MS_writeRows.2.1 95 = .ok (.istore 4, 2) := by decide +kernel
theorem d_MS_writeRows_97 : decode y_MS_writeRows.2.1 97 = .ok (.aload_n 0, 1) := by decide +kernel
theorem d_MS_writeRows_98 : decode y_MS_writeRows.2.1 98 = .ok (.getfield 63, 3) := by decide +kernel
theorem d_MS_writeRows_101 : decode y_MS_writeRows.2.1 101 = .ok (.iload 4, 2) := by decide +kernel
theorem d_MS_writeRows_103 : decode y_MS_writeRows.2.1 103 = .ok (.baload, 1) := by decide +kernel
theorem d_MS_writeRows_104 : decode y_MS_writeRows.2.1 104 = .ok (.ifCond .eq 103, 3) := by decide +kernel
theorem d_MS_writeRows_107 : decode y_MS_writeRows.2.1 107 = .ok (.aload_n 0, 1) := by decide +kernel
theorem d_MS_writeRows_108 : decode y_MS_writeRows.2.1 108 = .ok (.getfield 16, 3) := by decide +kernel
theorem d_MS_writeRows_111 : decode y_MS_writeRows.2.1 111 = .ok (.iload 4, 2) := by decide +kernel
theorem d_MS_writeRows_113 : decode y_MS_writeRows.2.1 113 = .ok (.iaload, 1) := by decide +kernel
theorem d_MS_writeRows_114 : decode y_MS_writeRows.2.1 114 = .ok (.iconst 3, 1) := by decide +kernel
theorem d_MS_writeRows_115 : decode y_MS_writeRows.2.1 115 = .ok (.if_icmp .ne 7, 3) := by decide +kernel
theorem d_MS_writeRows_118 : decode y_MS_writeRows.2.1 118 = .ok (.iconst 1, 1) := by decide +kernel
theorem d_MS_writeRows_119 : decode y_MS_writeRows.2.1 119 = .ok (.goto 4, 3) := by decide +kernel
theorem d_MS_writeRows_123 : decode y_MS_writeRows.2.1 123 = .ok (.istore 5, 2) := by decide +kernel
theorem d_MS_writeRows_125 : decode y_MS_writeRows.2.1 125 = .ok (.aload_n 0, 1) := by decide +kernel
theorem d_MS_writeRows_126 : decode y_MS_writeRows.2.1 126 = .ok (.iload_n 1, 1) := by decide +kernel
theorem d_MS_writeRows_127 : decode y_MS_writeRows.2.1 127 = .ok (.iload 5, 2) := by decide +kernel
theorem d_MS_writeRows_122 : decode y_MS_writeRows.2.1 122 = .ok (.iconst 0, 1) := by decide +kernel
theorem d_MS_writeRows_129 : decode y_MS_writeRows.2.1 129 = .ok (.ifCond .eq 10, 3) := by decide +kernel
theorem d_MS_writeRows_139 : decode y_MS_writeRows.2.1 139 = .ok (.aload_n 0, 1) := by decide +kernel
theorem d_MS_writeRows_140 : decode y_MS_writeRows.2.1 140 = .ok (.getfield 75, 3) := by decide +kernel
theorem d_MS_writeRows_143 : decode y_MS_writeRows.2.1 143 = .ok (.iload 4, 2) := by decide +kernel
theorem d_MS_writeRows_145 : decode y_MS_writeRows.2.1 145 = .ok (.iaload, 1) := by decide +kernel
theorem d_MS_writeRows_132 : decode y_MS_writeRows.2.1 132 = .ok (.aload_n 0, 1) := by decide +kernel
theorem d_MS_writeRows_133 : decode y_MS_writeRows.2.1 133 = .ok (.getfield 160, 3) := by decide +kernel
theorem d_MS_writeRows_136 : decode y_MS_writeRows.2.1 136 = .ok (.goto 10, 3) := by decide +kernel
theorem d_MS_writeRows_146 : decode y_MS_writeRows.2.1 146 = .ok (.invokevirtual 163, 3) := by decide +kernel
theorem d_MS_writeRows_149 : decode y_MS_writeRows.2.1 149 = .ok (.astore 6, 2) := by decide +kernel
theorem d_MS_writeRows_151 : decode y_MS_writeRows.2.1 151 = .ok (.aload_n 0, 1) := by decide +kernel
theorem d_MS_writeRows_152 : decode y_MS_writeRows.2.1 152 = .ok (.getfield 84, 3) := by decide +kernel
theorem d_MS_writeRows_155 : decode y_MS_writeRows.2.1 155 = .ok (.aload_n 0, 1) := by decide +kernel
theorem d_MS_writeRows_156 : decode y_MS_writeRows.2.1 156 = .ok (.getfield 32, 3) := by decide +kernel
theorem d_MS_writeRows_159 : decode y_MS_writeRows.2.1 159 = .ok (.iload_n 3, 1) := by decide +kernel
theorem d_MS_writeRows_160 : decode y_MS_writeRows.2.1 160 = .ok (.iaload, 1) := by decide +kernel
theorem d_MS_writeRows_161 : decode y_MS_writeRows.2.1 161 = .ok (.i2l, 1) := by decide +kernel
theorem d_MS_writeRows_162 : decode y_MS_writeRows.2.1 162 = .ok (.aload_n 0, 1) := by decide +kernel
theorem d_MS_writeRows_163 : decode y_MS_writeRows.2.1 163 = .ok (.getfield 35, 3) := by decide +kernel
theorem d_MS_writeRows_166 : decode y_MS_writeRows.2.1 166 = .ok (.iload_n 3, 1) := by decide +kernel
theorem d_MS_writeRows_167 : decode y_MS_writeRows.2.1 167 = .ok (.iaload, 1) := by decide +kernel
theorem d_MS_writeRows_168 : decode y_MS_writeRows.2.1 168 = .ok (.i2l, 1) := by decide +kernel
theorem d_MS_writeRows_169 : decode y_MS_writeRows.2.1 169 = .ok (.invokevirtual 141, 3) := by decide +kernel
theorem d_MS_writeRows_172 : decode y_MS_writeRows.2.1 172 = .ok (.aload_n 0, 1) := by decide +kernel
theorem d_MS_writeRows_173 : decode y_MS_writeRows.2.1 173 = .ok (.getfield 10, 3) := by decide +kernel
theorem d_MS_writeRows_176 : decode y_MS_writeRows.2.1 176 = .ok (.aload 6, 2) := by decide +kernel
theorem d_MS_writeRows_178 : decode y_MS_writeRows.2.1 178 = .ok (.aload_n 0, 1) := by decide +kernel
theorem d_MS_writeRows_179 : decode y_MS_writeRows.2.1 179 = .ok (.getfield 84, 3) := by decide +kernel
theorem d_MS_writeRows_182 : decode y_MS_writeRows.2.1 182 = .ok (.iload 5, 2) := by decide +kernel
theorem d_MS_writeRows_184 : decode y_MS_writeRows.2.1 184 = .ok (.ifCond .ne 7, 3) := by decide +kernel
theorem d_MS_writeRows_187 : decode y_MS_writeRows.2.1 187 = .ok (.iconst 1, 1) := by decide +kernel
theorem d_MS_writeRows_188 : decode y_MS_writeRows.2.1 188 = .ok (.goto 4, 3) := by decide +kernel
theorem d_MS_writeRows_191 : decode y_MS_writeRows.2.1 191 = .ok (.iconst 0, 1) := by decide +kernel
theorem d_MS_writeRows_192 : decode y_MS_writeRows.2.1 192 = .ok (.invokevirtual 156, 3) := by decide +kernel
theorem d_MS_writeRows_195 : decode y_MS_writeRows.2.1 195 = .ok (.aload 6, 2) := by decide +kernel
theorem d_MS_writeRows_197 : decode y_MS_writeRows.2.1 197 = .ok (.aload_n 0, 1) := by decide +kernel
theorem d_MS_writeRows_198 : decode y_MS_writeRows.2.1 198 = .ok (.getfield 10, 3) := by decide +kernel
theorem d_MS_writeRows_201 : decode y_MS_writeRows.2.1 201 = .ok (.getfield 149, 3) := by decide +kernel
theorem d_MS_writeRows_204 : decode y_MS_writeRows.2.1 204 = .ok (.invokevirtual 152, 3) := by decide +kernel
theorem d_MS_writeRows_207 : decode y_MS_writeRows.2.1 207 = .ok (.iinc 3 1, 3) := by decide +kernel
theorem d_MS_writeRows_210 : decode y_MS_writeRows.2.1 210 = .ok (.goto (-133), 3) := by decide +kernel
def h_MS_writeRows_2 (G : mG) (d : Nat) (a0 : Nat) (l1 : Int) (M : mM) (Q : mM → Prop) : Prop := mWm G y_MS_writeRows (d + 1) 2 [vr a0, vi l1, vd, vd, vd, vd, vd] [] M (fun r9 M9 => r9 = none ∧ Q M9)
def h_MS_writeRows_12 (G : mG) (d : Nat) (a0 : Nat) (l1 : Int) (l2 : Int) (M : mM) (Q : mM → Prop) : Prop := mWm G y_MS_writeRows (d + 1) 12 [vr a0, vi l1, vi l2, vd, vd, vd, vd] [] M (fun r9 M9 => r9 = none ∧ Q M9)
def h_MS_writeRows_77 (G : mG) (d : Nat) (a0 : Nat) (l1 : Int) (l2 : Int) (l3 : Int) (M : mM) (Q : mM → Prop) : Prop := mWm G y_MS_writeRows (d + 1) 77 [vr a0, vi l1, vi l2, vi l3, vd, vd, vd] [] M (fun r9 M9 => r9 = none ∧ Q M9)
def h_MS_writeRows_207 (G : mG) (d : Nat) (a0 : Nat) (l1 : Int) (l2 : Int) (l3 : Int) (M : mM) (Q : mM → Prop) : Prop := mWm G y_MS_writeRows (d + 1) 207 [vr a0, vi l1, vi l2, vi l3, vd, vd, vd] [] M (fun r9 M9 => r9 = none ∧ Q M9)
theorem k_MS_writeRows {G : mG} {d : Nat} {a0 : Nat} {M : mM} {Q : mM → Prop} (hO : mOk M)
    (h : h_MS_writeRows_2 G d a0 0 M Q) :
    Cv G y_MS_writeRows (d + 1) [vr a0] M Q := by
  refine wm_open (y := y_MS_writeRows) rfl (Nat.le_of_ble_eq_true rfl) (L := [vr a0, vd, vd, vd, vd, vd, vd]) rfl ?_
  refine wm_iconst d_MS_writeRows_0 ?_
  refine wm_istore_n d_MS_writeRows_1 rfl (by decide) (L' := [vr a0, vi 0, vd, vd, vd, vd, vd]) rfl ?_
  exact h
theorem k_MS_writeRows_2 {G : mG} {d : Nat} {a0 : Nat} {l1 : Int} {M : mM} {Q : mM → Prop} (hO : mOk M) (hi_l1 : i32 l1)
    (h : mK M a0 = 17 ∧ ((mI M a0 24 ≤ l1) → (Q M)) ∧ (¬ (mI M a0 24 ≤ l1) → (h_MS_writeRows_12 G d a0 l1 0 M Q))) :
    h_MS_writeRows_2 G d a0 l1 M Q := by
  unfold h_MS_writeRows_2
  obtain ⟨h1, h⟩ := h
  refine wm_iload_n d_MS_writeRows_2 rfl rfl ?_
  refine wm_aload_n d_MS_writeRows_3 rfl rfl ?_
  refine gf_MS_160 rfl d_MS_writeRows_4 h1 ?_
  refine wm_icmp_ge (tgt := 219) d_MS_writeRows_7 rfl hi_l1 (hO _ _).1 (fun c3 => ?_) (fun c3 => ?_)
  · replace h := h.1 c3
    refine wm_return d_MS_writeRows_219 rfl ?_
    exact ⟨rfl, h⟩
  · replace h := h.2 c3
    refine wm_iconst d_MS_writeRows_10 ?_
    refine wm_istore_n d_MS_writeRows_11 rfl (by decide) (L' := [vr a0, vi l1, vi 0, vd, vd, vd, vd]) rfl ?_
    exact h
theorem k_MS_writeRows_12 {G : mG} {d : Nat} {a0 : Nat} {l1 : Int} {l2 : Int} {M : mM} {Q : mM → Prop} (hO : mOk M) (hi_l1 : i32 l1) (hi_l2 : i32 l2)
    (h : mK M a0 = 17 ∧ ((mI M a0 24 < l2) → (mK M (mR M a0 22) = 30 ∧ ((0 : Int) ≤ l1 ∧ l1 < (mN M (mR M a0 22) : Int)) ∧ mK M (mR M a0 5) = 30 ∧ ((0 : Int) ≤ mI M (mR M a0 22) (Int.toNat l1) ∧ mI M (mR M a0 22) (Int.toNat l1) < (mN M (mR M a0 5) : Int)) ∧ ((0 : Int) ≤ l1 ∧ l1 < (mN M (mR M a0 22) : Int)) ∧ mK M (mR M a0 18) = 30 ∧ ((0 : Int) ≤ mI M (mR M a0 22) (Int.toNat l1) ∧ mI M (mR M a0 22) (Int.toNat l1) < (mN M (mR M a0 18) : Int)) ∧ mK M (mR M a0 7) = 30 ∧ ((0 : Int) ≤ (mI M (mR M a0 5) (Int.toNat (mI M (mR M a0 22) (Int.toNat l1)))) + (mI M (mR M a0 18) (Int.toNat (mI M (mR M a0 22) (Int.toNat l1)))) ∧ (mI M (mR M a0 5) (Int.toNat (mI M (mR M a0 22) (Int.toNat l1)))) + (mI M (mR M a0 18) (Int.toNat (mI M (mR M a0 22) (Int.toNat l1)))) < (mN M (mR M a0 7) : Int)) ∧ h_MS_writeRows_77 G d a0 l1 ((mI M (mR M a0 5) (Int.toNat (mI M (mR M a0 22) (Int.toNat l1)))) + (mI M (mR M a0 18) (Int.toNat (mI M (mR M a0 22) (Int.toNat l1))))) (mI M (mR M a0 7) (Int.toNat ((mI M (mR M a0 5) (Int.toNat (mI M (mR M a0 22) (Int.toNat l1)))) + (mI M (mR M a0 18) (Int.toNat (mI M (mR M a0 22) (Int.toNat l1))))))) M Q)) ∧ (¬ (mI M a0 24 < l2) → (Cr G y_MS_cell d [vr a0, vi l1, vi l2] M (fun x26 M25 => mOk M25 ∧ (∀ v29 : Int, v29 = (if (l1 = l2) then 1 else 0) → mK M25 x26 = 19 ∧ Cv G y_MF_set d [vr x26, vl v29, vl 1] M25 (fun M34 => mOk M34 ∧ (h_MS_writeRows_12 G d a0 l1 (l2 + 1) M34 Q))))))) :
    h_MS_writeRows_12 G d a0 l1 l2 M Q := by
  unfold h_MS_writeRows_12
  obtain ⟨h4, h⟩ := h
  refine wm_iload_n d_MS_writeRows_12 rfl rfl ?_
  refine wm_aload_n d_MS_writeRows_13 rfl rfl ?_
  refine gf_MS_160 rfl d_MS_writeRows_14 h4 ?_
  refine wm_icmp_gt (tgt := 46) d_MS_writeRows_17 rfl hi_l2 (hO _ _).1 (fun c15 => ?_) (fun c15 => ?_)
  · replace h := h.1 c15
    obtain ⟨h16, h⟩ := h
    obtain ⟨h17, h⟩ := h
    obtain ⟨h18, h⟩ := h
    obtain ⟨h19, h⟩ := h
    obtain ⟨h20, h⟩ := h
    obtain ⟨h21, h⟩ := h
    obtain ⟨h22, h⟩ := h
    obtain ⟨h23, h⟩ := h
    obtain ⟨h24, h⟩ := h
    refine wm_aload_n d_MS_writeRows_46 rfl rfl ?_
    refine gf_MS_20 rfl d_MS_writeRows_47 h4 ?_
    refine wm_aload_n d_MS_writeRows_50 rfl rfl ?_
    refine gf_MS_72 rfl d_MS_writeRows_51 h4 ?_
    refine wm_iload_n d_MS_writeRows_54 rfl rfl ?_
    refine wm_iald d_MS_writeRows_55 h16 h17 ?_
    refine wm_iald d_MS_writeRows_56 h18 h19 ?_
    refine wm_aload_n d_MS_writeRows_57 rfl rfl ?_
    refine gf_MS_60 rfl d_MS_writeRows_58 h4 ?_
    refine wm_aload_n d_MS_writeRows_61 rfl rfl ?_
    refine gf_MS_72 rfl d_MS_writeRows_62 h4 ?_
    refine wm_iload_n d_MS_writeRows_65 rfl rfl ?_
    refine wm_iald d_MS_writeRows_66 h16 h20 ?_
    refine wm_iald d_MS_writeRows_67 h21 h22 ?_
    refine wm_iadd d_MS_writeRows_68 ?_
    refine wm_istore_n d_MS_writeRows_69 rfl (by decide) (L' := [vr a0, vi l1, vi ((mI M (mR M a0 5) (Int.toNat (mI M (mR M a0 22) (Int.toNat l1)))) + (mI M (mR M a0 18) (Int.toNat (mI M (mR M a0 22) (Int.toNat l1))))), vd, vd, vd, vd]) rfl ?_
    refine wm_aload_n d_MS_writeRows_70 rfl rfl ?_
    refine gf_MS_26 rfl d_MS_writeRows_71 h4 ?_
    refine wm_iload_n d_MS_writeRows_74 rfl rfl ?_
    refine wm_iald d_MS_writeRows_75 h23 h24 ?_
    refine wm_istore_n d_MS_writeRows_76 rfl (by decide) (L' := [vr a0, vi l1, vi ((mI M (mR M a0 5) (Int.toNat (mI M (mR M a0 22) (Int.toNat l1)))) + (mI M (mR M a0 18) (Int.toNat (mI M (mR M a0 22) (Int.toNat l1))))), vi (mI M (mR M a0 7) (Int.toNat ((mI M (mR M a0 5) (Int.toNat (mI M (mR M a0 22) (Int.toNat l1)))) + (mI M (mR M a0 18) (Int.toNat (mI M (mR M a0 22) (Int.toNat l1))))))), vd, vd, vd]) rfl ?_
    exact h
  · replace h := h.2 c15
    refine wm_aload_n d_MS_writeRows_20 rfl rfl ?_
    refine wm_iload_n d_MS_writeRows_21 rfl rfl ?_
    refine wm_iload_n d_MS_writeRows_22 rfl rfl ?_
    refine cf_MS_163 rfl d_MS_writeRows_23 h4 (Nat.le_of_ble_eq_true rfl) (Cr.mono h (fun x26 M25 h => ?_))
    obtain ⟨hOM25, h⟩ := h
    refine wm_iload_n d_MS_writeRows_26 rfl rfl ?_
    refine wm_iload_n d_MS_writeRows_27 rfl rfl ?_
    have hJ : ∀ v29 : Int, v29 = (if (l1 = l2) then 1 else 0) → mWm G y_MS_writeRows (d + 1) 36 [vr a0, vi l1, vi l2, vd, vd, vd, vd] [vl v29, vr x26] M25 (fun r9 M9 => r9 = none ∧ Q M9) := by
      intro v29 e31
      have h := h v29 e31
      have h32 : (v29 = 0 ∨ v29 = 1) := by rw [e31]; (repeat' split) <;> decide
      obtain ⟨h33, h⟩ := h
      refine wm_lconst (x := 1) d_MS_writeRows_36 rfl ?_
      refine cf_MS_141 rfl d_MS_writeRows_37 h33 (Nat.le_of_ble_eq_true rfl) (Cv.mono h (fun M34 h => ?_))
      obtain ⟨hOM34, h⟩ := h
      refine wm_iinc d_MS_writeRows_40 (by decide) rfl (L' := [vr a0, vi l1, vi (l2 + 1), vd, vd, vd, vd]) rfl ?_
      refine wm_goto (tgt := 12) d_MS_writeRows_43 rfl ?_
      exact h
    clear h
    refine wm_icmp_ne (tgt := 35) d_MS_writeRows_28 rfl hi_l1 hi_l2 (fun c28 => ?_) (fun c28 => ?_)
    · refine wm_lconst (x := 0) d_MS_writeRows_35 rfl ?_
      exact hJ 0 (if_neg c28).symm
    · replace c28 := Classical.not_not.mp c28
      refine wm_lconst (x := 1) d_MS_writeRows_31 rfl ?_
      refine wm_goto (tgt := 36) d_MS_writeRows_32 rfl ?_
      exact hJ 1 (if_pos c28).symm
theorem k_MS_writeRows_77 {G : mG} {d : Nat} {a0 : Nat} {l1 : Int} {l2 : Int} {l3 : Int} {M : mM} {Q : mM → Prop} (hO : mOk M) (hi_l1 : i32 l1) (hi_l2 : i32 l2) (hi_l3 : i32 l3)
    (h : mK M a0 = 17 ∧ mK M (mR M a0 7) = 30 ∧ ((0 : Int) ≤ l2 + 1 ∧ l2 + 1 < (mN M (mR M a0 7) : Int)) ∧ ((mI M (mR M a0 7) (Int.toNat (l2 + 1)) ≤ l3) → (h_MS_writeRows_2 G d a0 (l1 + 1) M Q)) ∧ (¬ (mI M (mR M a0 7) (Int.toNat (l2 + 1)) ≤ l3) → (mK M (mR M a0 8) = 30 ∧ ((0 : Int) ≤ l3 ∧ l3 < (mN M (mR M a0 8) : Int)) ∧ mK M (mR M a0 19) = 31 ∧ ((0 : Int) ≤ mI M (mR M a0 8) (Int.toNat l3) ∧ mI M (mR M a0 8) (Int.toNat l3) < (mN M (mR M a0 19) : Int)) ∧ ((mI M (mR M a0 19) (Int.toNat (mI M (mR M a0 8) (Int.toNat l3))) = 0) → (h_MS_writeRows_207 G d a0 l1 l2 l3 M Q)) ∧ (¬ (mI M (mR M a0 19) (Int.toNat (mI M (mR M a0 8) (Int.toNat l3))) = 0) → (mK M (mR M a0 4) = 30 ∧ ((0 : Int) ≤ mI M (mR M a0 8) (Int.toNat l3) ∧ mI M (mR M a0 8) (Int.toNat l3) < (mN M (mR M a0 4) : Int)) ∧ ∀ v59 : Int, v59 = (if (mI M (mR M a0 4) (Int.toNat (mI M (mR M a0 8) (Int.toNat l3))) = 3) then 1 else 0) → ((v59 = 0) → (mK M (mR M a0 23) = 30 ∧ ((0 : Int) ≤ mI M (mR M a0 8) (Int.toNat l3) ∧ mI M (mR M a0 8) (Int.toNat l3) < (mN M (mR M a0 23) : Int)))) ∧ ∀ v67 : Int, v67 = (if (v59 = 0) then mI M (mR M a0 23) (Int.toNat (mI M (mR M a0 8) (Int.toNat l3))) else mI M a0 24) → Cr G y_MS_cell d [vr a0, vi l1, vi v67] M (fun x71 M70 => mOk M70 ∧ (mK M70 a0 = 17 ∧ mK M70 (mR M70 a0 9) = 30 ∧ ((0 : Int) ≤ l3 ∧ l3 < (mN M70 (mR M70 a0 9) : Int)) ∧ mK M70 (mR M70 a0 10) = 30 ∧ ((0 : Int) ≤ l3 ∧ l3 < (mN M70 (mR M70 a0 10) : Int)) ∧ mK M70 (mR M70 a0 26) = 19 ∧ Cv G y_MF_set d [vr (mR M70 a0 26), vl (mI M70 (mR M70 a0 9) (Int.toNat l3)), vl (mI M70 (mR M70 a0 10) (Int.toNat l3))] M70 (fun M79 => mOk M79 ∧ (mK M79 a0 = 17 ∧ ∀ v84 : Int, v84 = (if (v59 = 0) then 1 else 0) → mK M79 (mR M79 a0 0) = 18 ∧ Cv G y_MU_add d [vr (mR M79 a0 0), vr x71, vr (mR M79 a0 26), vi v84] M79 (fun M90 => mOk M90 ∧ (mK M90 a0 = 17 ∧ mK M90 (mR M90 a0 0) = 18 ∧ mK M90 x71 = 19 ∧ Cv G y_MF_copy d [vr x71, vr (mR M90 (mR M90 a0 0) 0)] M90 (fun M96 => mOk M96 ∧ (h_MS_writeRows_207 G d a0 l1 l2 l3 M96 Q))))))))))))) :
    h_MS_writeRows_77 G d a0 l1 l2 l3 M Q := by
  unfold h_MS_writeRows_77
  obtain ⟨h38, h⟩ := h
  obtain ⟨h39, h⟩ := h
  obtain ⟨h40, h⟩ := h
  refine wm_iload_n d_MS_writeRows_77 rfl rfl ?_
  refine wm_aload_n d_MS_writeRows_78 rfl rfl ?_
  refine gf_MS_26 rfl d_MS_writeRows_79 h38 ?_
  refine wm_iload_n d_MS_writeRows_82 rfl rfl ?_
  refine wm_iconst d_MS_writeRows_83 ?_
  refine wm_iadd d_MS_writeRows_84 ?_
  refine wm_iald d_MS_writeRows_85 h39 h40 ?_
  refine wm_icmp_ge (tgt := 213) d_MS_writeRows_86 rfl hi_l3 (hO _ _).1 (fun c46 => ?_) (fun c46 => ?_)
  · replace h := h.1 c46
    refine wm_iinc d_MS_writeRows_213 (by decide) rfl (L' := [vr a0, vi (l1 + 1), vi l2, vi l3, vd, vd, vd]) rfl ?_
    refine wm_goto (tgt := 2) d_MS_writeRows_216 rfl ?_
    refine wm_less (L' := [vr a0, vi (l1 + 1), vd, vd, vd, vd, vd]) ⟨Or.inr rfl, Or.inr rfl, Or.inl rfl, Or.inl rfl, Or.inl rfl, Or.inl rfl, Or.inl rfl, trivial⟩ ?_
    exact h
  · replace h := h.2 c46
    obtain ⟨h47, h⟩ := h
    obtain ⟨h48, h⟩ := h
    obtain ⟨h49, h⟩ := h
    obtain ⟨h50, h⟩ := h
    refine wm_aload_n d_MS_writeRows_89 rfl rfl ?_
    refine gf_MS_29 rfl d_MS_writeRows_90 h38 ?_
    refine wm_iload_n d_MS_writeRows_93 rfl rfl ?_
    refine wm_iald d_MS_writeRows_94 h47 h48 ?_
    refine wm_istore d_MS_writeRows_95 (by decide) (L' := [vr a0, vi l1, vi l2, vi l3, vi (mI M (mR M a0 8) (Int.toNat l3)), vd, vd]) rfl ?_
    refine wm_aload_n d_MS_writeRows_97 rfl rfl ?_
    refine gf_MS_63 rfl d_MS_writeRows_98 h38 ?_
    refine wm_iload d_MS_writeRows_101 rfl ?_
    refine wm_zald d_MS_writeRows_103 h49 h50 ?_
    refine wm_if_eq (tgt := 207) d_MS_writeRows_104 rfl (hO _ _).1 (fun c55 => ?_) (fun c55 => ?_)
    · replace h := h.1 c55
      refine wm_less (L' := [vr a0, vi l1, vi l2, vi l3, vd, vd, vd]) ⟨Or.inr rfl, Or.inr rfl, Or.inr rfl, Or.inr rfl, Or.inl rfl, Or.inl rfl, Or.inl rfl, trivial⟩ ?_
      exact h
    · replace h := h.2 c55
      obtain ⟨h56, h⟩ := h
      obtain ⟨h57, h⟩ := h
      refine wm_aload_n d_MS_writeRows_107 rfl rfl ?_
      refine gf_MS_16 rfl d_MS_writeRows_108 h38 ?_
      refine wm_iload d_MS_writeRows_111 rfl ?_
      refine wm_iald d_MS_writeRows_113 h56 h57 ?_
      refine wm_iconst d_MS_writeRows_114 ?_
      have hJ : ∀ v59 : Int, v59 = (if (mI M (mR M a0 4) (Int.toNat (mI M (mR M a0 8) (Int.toNat l3))) = 3) then 1 else 0) → mWm G y_MS_writeRows (d + 1) 123 [vr a0, vi l1, vi l2, vi l3, vi (mI M (mR M a0 8) (Int.toNat l3)), vd, vd] [vi v59] M (fun r9 M9 => r9 = none ∧ Q M9) := by
        intro v59 e61
        have h := h v59 e61
        have h62 : i32 v59 := by rw [e61]; (repeat' split) <;> first | exact ⟨by decide, by decide⟩ | exact ⟨by decide, by decide⟩
        have h63 : (v59 = 0 ∨ v59 = 1) := by rw [e61]; (repeat' split) <;> decide
        refine wm_istore d_MS_writeRows_123 (by decide) (L' := [vr a0, vi l1, vi l2, vi l3, vi (mI M (mR M a0 8) (Int.toNat l3)), vi v59, vd]) rfl ?_
        refine wm_aload_n d_MS_writeRows_125 rfl rfl ?_
        refine wm_iload_n d_MS_writeRows_126 rfl rfl ?_
        refine wm_iload d_MS_writeRows_127 rfl ?_
        obtain ⟨s68, h⟩ := h
        have hJ : ∀ v67 : Int, v67 = (if (v59 = 0) then mI M (mR M a0 23) (Int.toNat (mI M (mR M a0 8) (Int.toNat l3))) else mI M a0 24) → mWm G y_MS_writeRows (d + 1) 146 [vr a0, vi l1, vi l2, vi l3, vd, vi v59, vd] [vi v67, vi l1, vr a0] M (fun r9 M9 => r9 = none ∧ Q M9) := by
          intro v67 e69
          have h := h v67 e69
          refine cf_MS_163 rfl d_MS_writeRows_146 h38 (Nat.le_of_ble_eq_true rfl) (Cr.mono h (fun x71 M70 h => ?_))
          obtain ⟨hOM70, h⟩ := h
          obtain ⟨h73, h⟩ := h
          obtain ⟨h74, h⟩ := h
          obtain ⟨h75, h⟩ := h
          obtain ⟨h76, h⟩ := h
          obtain ⟨h77, h⟩ := h
          obtain ⟨h78, h⟩ := h
          refine wm_astore d_MS_writeRows_149 (by decide) (L' := [vr a0, vi l1, vi l2, vi l3, vd, vi v59, vr x71]) rfl ?_
          refine wm_aload_n d_MS_writeRows_151 rfl rfl ?_
          refine gf_MS_84 rfl d_MS_writeRows_152 h73 ?_
          refine wm_aload_n d_MS_writeRows_155 rfl rfl ?_
          refine gf_MS_32 rfl d_MS_writeRows_156 h73 ?_
          refine wm_iload_n d_MS_writeRows_159 rfl rfl ?_
          refine wm_iald d_MS_writeRows_160 h74 h75 ?_
          refine wm_i2l d_MS_writeRows_161 (hOM70 _ _).1 ?_
          refine wm_aload_n d_MS_writeRows_162 rfl rfl ?_
          refine gf_MS_35 rfl d_MS_writeRows_163 h73 ?_
          refine wm_iload_n d_MS_writeRows_166 rfl rfl ?_
          refine wm_iald d_MS_writeRows_167 h76 h77 ?_
          refine wm_i2l d_MS_writeRows_168 (hOM70 _ _).1 ?_
          refine cf_MS_141 rfl d_MS_writeRows_169 h78 (Nat.le_of_ble_eq_true rfl) (Cv.mono h (fun M79 h => ?_))
          obtain ⟨hOM79, h⟩ := h
          obtain ⟨h82, h⟩ := h
          refine wm_aload_n d_MS_writeRows_172 rfl rfl ?_
          refine gf_MS_10 rfl d_MS_writeRows_173 h82 ?_
          refine wm_aload d_MS_writeRows_176 rfl ?_
          refine wm_aload_n d_MS_writeRows_178 rfl rfl ?_
          refine gf_MS_84 rfl d_MS_writeRows_179 h82 ?_
          refine wm_iload d_MS_writeRows_182 rfl ?_
          have hJ : ∀ v84 : Int, v84 = (if (v59 = 0) then 1 else 0) → mWm G y_MS_writeRows (d + 1) 192 [vr a0, vi l1, vi l2, vi l3, vd, vd, vr x71] [vi v84, vr (mR M79 a0 26), vr x71, vr (mR M79 a0 0)] M79 (fun r9 M9 => r9 = none ∧ Q M9) := by
            intro v84 e86
            have h := h v84 e86
            have h87 : i32 v84 := by rw [e86]; (repeat' split) <;> first | exact ⟨by decide, by decide⟩ | exact ⟨by decide, by decide⟩
            have h88 : (v84 = 0 ∨ v84 = 1) := by rw [e86]; (repeat' split) <;> decide
            obtain ⟨h89, h⟩ := h
            refine cf_MS_156 rfl d_MS_writeRows_192 h89 (Nat.le_of_ble_eq_true rfl) (Cv.mono h (fun M90 h => ?_))
            obtain ⟨hOM90, h⟩ := h
            obtain ⟨h93, h⟩ := h
            obtain ⟨h94, h⟩ := h
            obtain ⟨h95, h⟩ := h
            refine wm_aload d_MS_writeRows_195 rfl ?_
            refine wm_aload_n d_MS_writeRows_197 rfl rfl ?_
            refine gf_MS_10 rfl d_MS_writeRows_198 h93 ?_
            refine gf_MS_149 rfl d_MS_writeRows_201 h94 ?_
            refine cf_MS_152 rfl d_MS_writeRows_204 h95 (Nat.le_of_ble_eq_true rfl) (Cv.mono h (fun M96 h => ?_))
            obtain ⟨hOM96, h⟩ := h
            refine wm_less (L' := [vr a0, vi l1, vi l2, vi l3, vd, vd, vd]) ⟨Or.inr rfl, Or.inr rfl, Or.inr rfl, Or.inr rfl, Or.inl rfl, Or.inl rfl, Or.inl rfl, trivial⟩ ?_
            exact h
          clear h
          refine wm_if_ne (tgt := 191) d_MS_writeRows_184 rfl h62 (fun c83 => ?_) (fun c83 => ?_)
          · refine wm_iconst d_MS_writeRows_191 ?_
            refine wm_less (L' := [vr a0, vi l1, vi l2, vi l3, vd, vd, vr x71]) ⟨Or.inr rfl, Or.inr rfl, Or.inr rfl, Or.inr rfl, Or.inl rfl, Or.inl rfl, Or.inr rfl, trivial⟩ ?_
            exact hJ 0 (if_neg c83).symm
          · replace c83 := Classical.not_not.mp c83
            refine wm_iconst d_MS_writeRows_187 ?_
            refine wm_goto (tgt := 192) d_MS_writeRows_188 rfl ?_
            refine wm_less (L' := [vr a0, vi l1, vi l2, vi l3, vd, vd, vr x71]) ⟨Or.inr rfl, Or.inr rfl, Or.inr rfl, Or.inr rfl, Or.inl rfl, Or.inl rfl, Or.inr rfl, trivial⟩ ?_
            exact hJ 1 (if_pos c83).symm
        clear h
        have s100 := s68
        refine wm_if_eq (tgt := 139) d_MS_writeRows_129 rfl h62 (fun c64 => ?_) (fun c64 => ?_)
        · have s100 := s100 c64
          obtain ⟨h65, h66⟩ := s100
          refine wm_aload_n d_MS_writeRows_139 rfl rfl ?_
          refine gf_MS_75 rfl d_MS_writeRows_140 h38 ?_
          refine wm_iload d_MS_writeRows_143 rfl ?_
          refine wm_iald d_MS_writeRows_145 h65 h66 ?_
          refine wm_less (L' := [vr a0, vi l1, vi l2, vi l3, vd, vi v59, vd]) ⟨Or.inr rfl, Or.inr rfl, Or.inr rfl, Or.inr rfl, Or.inl rfl, Or.inr rfl, Or.inl rfl, trivial⟩ ?_
          exact hJ (mI M (mR M a0 23) (Int.toNat (mI M (mR M a0 8) (Int.toNat l3)))) (if_pos c64).symm
        · refine wm_aload_n d_MS_writeRows_132 rfl rfl ?_
          refine gf_MS_160 rfl d_MS_writeRows_133 h38 ?_
          refine wm_goto (tgt := 146) d_MS_writeRows_136 rfl ?_
          refine wm_less (L' := [vr a0, vi l1, vi l2, vi l3, vd, vi v59, vd]) ⟨Or.inr rfl, Or.inr rfl, Or.inr rfl, Or.inr rfl, Or.inl rfl, Or.inr rfl, Or.inl rfl, trivial⟩ ?_
          exact hJ (mI M a0 24) (if_neg c64).symm
      clear h
      refine wm_icmp_ne (tgt := 122) d_MS_writeRows_115 rfl (hO _ _).1 ⟨by decide, by decide⟩ (fun c58 => ?_) (fun c58 => ?_)
      · refine wm_iconst d_MS_writeRows_122 ?_
        exact hJ 0 (if_neg c58).symm
      · replace c58 := Classical.not_not.mp c58
        refine wm_iconst d_MS_writeRows_118 ?_
        refine wm_goto (tgt := 123) d_MS_writeRows_119 rfl ?_
        exact hJ 1 (if_pos c58).symm
theorem k_MS_writeRows_207 {G : mG} {d : Nat} {a0 : Nat} {l1 : Int} {l2 : Int} {l3 : Int} {M : mM} {Q : mM → Prop} (hO : mOk M) (hi_l1 : i32 l1) (hi_l2 : i32 l2) (hi_l3 : i32 l3)
    (h : h_MS_writeRows_77 G d a0 l1 l2 (l3 + 1) M Q) :
    h_MS_writeRows_207 G d a0 l1 l2 l3 M Q := by
  unfold h_MS_writeRows_207
  refine wm_iinc d_MS_writeRows_207 (by decide) rfl (L' := [vr a0, vi l1, vi l2, vi (l3 + 1), vd, vd, vd]) rfl ?_
  refine wm_goto (tgt := 77) d_MS_writeRows_210 rfl ?_
  exact h
theorem d_MS_solveRows_0 : decode y_MS_solveRows.2.1 0 = .ok (.iconst 0, 1) := by decide +kernel
theorem d_MS_solveRows_1 : decode y_MS_solveRows.2.1 1 = .ok (.istore_n 1, 1) := by decide +kernel
theorem d_MS_solveRows_2 : decode y_MS_solveRows.2.1 2 = .ok (.iload_n 1, 1) := by decide +kernel
theorem d_MS_solveRows_3 : decode y_MS_solveRows.2.1 3 = .ok (.aload_n 0, 1) := by decide +kernel
theorem d_MS_solveRows_4 : decode y_MS_solveRows.2.1 4 = .ok (.getfield 160, 3) := by decide +kernel
theorem d_MS_solveRows_7 : decode y_MS_solveRows.2.1 7 = .ok (.if_icmp .ge 99, 3) := by decide +kernel
theorem d_MS_solveRows_106 : decode y_MS_solveRows.2.1 106 = .ok (.return_, 1) := by decide +kernel
theorem d_MS_solveRows_10 : decode y_MS_solveRows.2.1 10 = .ok (.aload_n 0, 1) := by decide +kernel
theorem d_MS_solveRows_11 : decode y_MS_solveRows.2.1 11 = .ok (.getfield 160, 3) := by decide +kernel
theorem d_MS_solveRows_14 : decode y_MS_solveRows.2.1 14 = .ok (.istore_n 2, 1) := by decide +kernel
theorem d_MS_solveRows_15 : decode y_MS_solveRows.2.1 15 = .ok (.iload_n 2, 1) := by decide +kernel
theorem d_MS_solveRows_16 : decode y_MS_solveRows.2.1 16 = .ok (.iload_n 1, 1) := by decide +kernel
theorem d_MS_solveRows_17 : decode y_MS_solveRows.2.1 17 = .ok (.if_icmp .lt 44, 3) := by decide +kernel
theorem d_MS_solveRows_61 : decode y_MS_solveRows.2.1 61 = .ok (.iconst 0, 1) := by decide +kernel
theorem d_MS_solveRows_62 : decode y_MS_solveRows.2.1 62 = .ok (.istore_n 2, 1) := by decide +kernel
theorem d_MS_solveRows_20 : decode y_MS_solveRows.2.1 20 = .ok (.aload_n 0, 1) := by decide +kernel
theorem d_MS_solveRows_21 : decode y_MS_solveRows.2.1 21 = .ok (.getfield 10, 3) := by decide +kernel
theorem d_MS_solveRows_24 : decode y_MS_solveRows.2.1 24 = .ok (.aload_n 0, 1) := by decide +kernel
theorem d_MS_solveRows_25 : decode y_MS_solveRows.2.1 25 = .ok (.iload_n 1, 1) := by decide +kernel
theorem d_MS_solveRows_26 : decode y_MS_solveRows.2.1 26 = .ok (.iload_n 2, 1) := by decide +kernel
theorem d_MS_solveRows_27 : decode y_MS_solveRows.2.1 27 = .ok (.invokevirtual 163, 3) := by decide +kernel
theorem d_MS_solveRows_30 : decode y_MS_solveRows.2.1 30 = .ok (.aload_n 0, 1) := by decide +kernel
theorem d_MS_solveRows_31 : decode y_MS_solveRows.2.1 31 = .ok (.iload_n 1, 1) := by decide +kernel
theorem d_MS_solveRows_32 : decode y_MS_solveRows.2.1 32 = .ok (.iload_n 1, 1) := by decide +kernel
theorem d_MS_solveRows_33 : decode y_MS_solveRows.2.1 33 = .ok (.invokevirtual 163, 3) := by decide +kernel
theorem d_MS_solveRows_36 : decode y_MS_solveRows.2.1 36 = .ok (.invokevirtual 167, 3) := by decide +kernel
theorem d_MS_solveRows_39 : decode y_MS_solveRows.2.1 39 = .ok (.aload_n 0, 1) := by decide +kernel
theorem d_MS_solveRows_40 : decode y_MS_solveRows.2.1 40 = .ok (.iload_n 1, 1) := by decide +kernel
theorem d_MS_solveRows_41 : decode y_MS_solveRows.2.1 41 = .ok (.iload_n 2, 1) := by decide +kernel
theorem d_MS_solveRows_42 : decode y_MS_solveRows.2.1 42 = .ok (.invokevirtual 163, 3) := by decide +kernel
theorem d_MS_solveRows_45 : decode y_MS_solveRows.2.1 45 = .ok (.aload_n 0, 1) := by decide +kernel
theorem d_MS_solveRows_46 : decode y_MS_solveRows.2.1 46 = .ok (.getfield 10, 3) := by decide +kernel
theorem d_MS_solveRows_49 : decode y_MS_solveRows.2.1 49 = .ok (.getfield 149, 3) := by decide +kernel
theorem d_MS_solveRows_52 : decode y_MS_solveRows.2.1 52 = .ok (.invokevirtual 152, 3) := by decide +kernel
theorem d_MS_solveRows_55 : decode y_MS_solveRows.2.1 55 = .ok (.iinc 2 (-1), 3) := by decide +kernel
theorem d_MS_solveRows_58 : decode y_MS_solveRows.2.1 58 = .ok (.goto (-43), 3) := by decide +kernel
theorem d_MS_solveRows_63 : decode y_MS_solveRows.2.1 63 = .ok (.iload_n 2, 1) := by decide +kernel
theorem d_MS_solveRows_64 : decode y_MS_solveRows.2.1 64 = .ok (.aload_n 0, 1) := by decide +kernel
theorem d_MS_solveRows_65 : decode y_MS_solveRows.2.1 65 = .ok (.getfield 160, 3) := by decide +kernel
theorem d_MS_solveRows_68 : decode y_MS_solveRows.2.1 68 = .ok (.if_icmp .ge 32, 3) := by decide +kernel
theorem d_MS_solveRows_100 : decode y_MS_solveRows.2.1 100 = .ok (.iinc 1 1, 3) := by decide +kernel
theorem d_MS_solveRows_103 : decode y_MS_solveRows.2.1 103 = .ok (.goto (-101), 3) := by decide +kernel
theorem d_MS_solveRows_71 : decode y_MS_solveRows.2.1 71 = .ok (.iload_n 2, 1) := by decide +kernel
theorem d_MS_solveRows_72 : decode y_MS_solveRows.2.1 72 = .ok (.iload_n 1, 1) := by decide +kernel
theorem d_MS_solveRows_73 : decode y_MS_solveRows.2.1 73 = .ok (.if_icmp .eq 21, 3) := by decide +kernel
theorem d_MS_solveRows_76 : decode y_MS_solveRows.2.1 76 = .ok (.aload_n 0, 1) := by decide +kernel
theorem d_MS_solveRows_77 : decode y_MS_solveRows.2.1 77 = .ok (.iload_n 2, 1) := by decide +kernel
theorem d_MS_solveRows_78 : decode y_MS_solveRows.2.1 78 = .ok (.iload_n 1, 1) := by decide +kernel
theorem d_MS_solveRows_94 : decode y_MS_solveRows.2.1 94 = .ok (.iinc 2 1, 3) := by decide +kernel
theorem d_MS_solveRows_97 : decode y_MS_solveRows.2.1 97 = .ok (.goto (-34), 3) := by decide +kernel
theorem d_MS_solveRows_79 : decode y_MS_solveRows.2.1 79 = .ok (.invokevirtual 163, 3) := by decide +kernel
theorem d_MS_solveRows_82 : decode y_MS_solveRows.2.1 82 = .ok (.invokevirtual 170, 3) := by decide +kernel
theorem d_MS_solveRows_85 : decode y_MS_solveRows.2.1 85 = .ok (.ifCond .ne 9, 3) := by decide +kernel
theorem d_MS_solveRows_88 : decode y_MS_solveRows.2.1 88 = .ok (.aload_n 0, 1) := by decide +kernel
theorem d_MS_solveRows_89 : decode y_MS_solveRows.2.1 89 = .ok (.iload_n 2, 1) := by decide +kernel
theorem d_MS_solveRows_90 : decode y_MS_solveRows.2.1 90 = .ok (.iload_n 1, 1) := by decide +kernel
theorem d_MS_solveRows_91 : decode y_MS_solveRows.2.1 91 = .ok (.invokevirtual 174, 3) := by decide +kernel
def h_MS_solveRows_2 (G : mG) (d : Nat) (a0 : Nat) (l1 : Int) (M : mM) (Q : mM → Prop) : Prop := mWm G y_MS_solveRows (d + 1) 2 [vr a0, vi l1, vd] [] M (fun r9 M9 => r9 = none ∧ Q M9)
def h_MS_solveRows_15 (G : mG) (d : Nat) (a0 : Nat) (l1 : Int) (l2 : Int) (M : mM) (Q : mM → Prop) : Prop := mWm G y_MS_solveRows (d + 1) 15 [vr a0, vi l1, vi l2] [] M (fun r9 M9 => r9 = none ∧ Q M9)
def h_MS_solveRows_63 (G : mG) (d : Nat) (a0 : Nat) (l1 : Int) (l2 : Int) (M : mM) (Q : mM → Prop) : Prop := mWm G y_MS_solveRows (d + 1) 63 [vr a0, vi l1, vi l2] [] M (fun r9 M9 => r9 = none ∧ Q M9)
theorem k_MS_solveRows {G : mG} {d : Nat} {a0 : Nat} {M : mM} {Q : mM → Prop} (hO : mOk M)
    (h : h_MS_solveRows_2 G d a0 0 M Q) :
    Cv G y_MS_solveRows (d + 1) [vr a0] M Q := by
  refine wm_open (y := y_MS_solveRows) rfl (Nat.le_of_ble_eq_true rfl) (L := [vr a0, vd, vd]) rfl ?_
  refine wm_iconst d_MS_solveRows_0 ?_
  refine wm_istore_n d_MS_solveRows_1 rfl (by decide) (L' := [vr a0, vi 0, vd]) rfl ?_
  exact h
theorem k_MS_solveRows_2 {G : mG} {d : Nat} {a0 : Nat} {l1 : Int} {M : mM} {Q : mM → Prop} (hO : mOk M) (hi_l1 : i32 l1)
    (h : mK M a0 = 17 ∧ ((mI M a0 24 ≤ l1) → (Q M)) ∧ (¬ (mI M a0 24 ≤ l1) → (h_MS_solveRows_15 G d a0 l1 (mI M a0 24) M Q))) :
    h_MS_solveRows_2 G d a0 l1 M Q := by
  unfold h_MS_solveRows_2
  obtain ⟨h1, h⟩ := h
  refine wm_iload_n d_MS_solveRows_2 rfl rfl ?_
  refine wm_aload_n d_MS_solveRows_3 rfl rfl ?_
  refine gf_MS_160 rfl d_MS_solveRows_4 h1 ?_
  refine wm_icmp_ge (tgt := 106) d_MS_solveRows_7 rfl hi_l1 (hO _ _).1 (fun c3 => ?_) (fun c3 => ?_)
  · replace h := h.1 c3
    refine wm_return d_MS_solveRows_106 rfl ?_
    exact ⟨rfl, h⟩
  · replace h := h.2 c3
    refine wm_aload_n d_MS_solveRows_10 rfl rfl ?_
    refine gf_MS_160 rfl d_MS_solveRows_11 h1 ?_
    refine wm_istore_n d_MS_solveRows_14 rfl (by decide) (L' := [vr a0, vi l1, vi (mI M a0 24)]) rfl ?_
    exact h
theorem k_MS_solveRows_15 {G : mG} {d : Nat} {a0 : Nat} {l1 : Int} {l2 : Int} {M : mM} {Q : mM → Prop} (hO : mOk M) (hi_l1 : i32 l1) (hi_l2 : i32 l2)
    (h : ((l2 < l1) → (h_MS_solveRows_63 G d a0 l1 0 M Q)) ∧ (¬ (l2 < l1) → (mK M a0 = 17 ∧ Cr G y_MS_cell d [vr a0, vi l1, vi l2] M (fun x8 M7 => mOk M7 ∧ (mK M7 a0 = 17 ∧ Cr G y_MS_cell d [vr a0, vi l1, vi l1] M7 (fun x12 M11 => mOk M11 ∧ (mK M11 (mR M a0 0) = 18 ∧ Cv G y_MU_divide1 d [vr (mR M a0 0), vr x8, vr x12] M11 (fun M15 => mOk M15 ∧ (mK M15 a0 = 17 ∧ Cr G y_MS_cell d [vr a0, vi l1, vi l2] M15 (fun x20 M19 => mOk M19 ∧ (mK M19 a0 = 17 ∧ mK M19 (mR M19 a0 0) = 18 ∧ mK M19 x20 = 19 ∧ Cv G y_MF_copy d [vr x20, vr (mR M19 (mR M19 a0 0) 0)] M19 (fun M25 => mOk M25 ∧ (h_MS_solveRows_15 G d a0 l1 (l2 + (-1)) M25 Q))))))))))))) :
    h_MS_solveRows_15 G d a0 l1 l2 M Q := by
  unfold h_MS_solveRows_15
  refine wm_iload_n d_MS_solveRows_15 rfl rfl ?_
  refine wm_iload_n d_MS_solveRows_16 rfl rfl ?_
  refine wm_icmp_lt (tgt := 61) d_MS_solveRows_17 rfl hi_l2 hi_l1 (fun c5 => ?_) (fun c5 => ?_)
  · replace h := h.1 c5
    refine wm_iconst d_MS_solveRows_61 ?_
    refine wm_istore_n d_MS_solveRows_62 rfl (by decide) (L' := [vr a0, vi l1, vi 0]) rfl ?_
    exact h
  · replace h := h.2 c5
    obtain ⟨h6, h⟩ := h
    refine wm_aload_n d_MS_solveRows_20 rfl rfl ?_
    refine gf_MS_10 rfl d_MS_solveRows_21 h6 ?_
    refine wm_aload_n d_MS_solveRows_24 rfl rfl ?_
    refine wm_iload_n d_MS_solveRows_25 rfl rfl ?_
    refine wm_iload_n d_MS_solveRows_26 rfl rfl ?_
    refine cf_MS_163 rfl d_MS_solveRows_27 h6 (Nat.le_of_ble_eq_true rfl) (Cr.mono h (fun x8 M7 h => ?_))
    obtain ⟨hOM7, h⟩ := h
    obtain ⟨h10, h⟩ := h
    refine wm_aload_n d_MS_solveRows_30 rfl rfl ?_
    refine wm_iload_n d_MS_solveRows_31 rfl rfl ?_
    refine wm_iload_n d_MS_solveRows_32 rfl rfl ?_
    refine cf_MS_163 rfl d_MS_solveRows_33 h10 (Nat.le_of_ble_eq_true rfl) (Cr.mono h (fun x12 M11 h => ?_))
    obtain ⟨hOM11, h⟩ := h
    obtain ⟨h14, h⟩ := h
    refine cf_MS_167 rfl d_MS_solveRows_36 h14 (Nat.le_of_ble_eq_true rfl) (Cv.mono h (fun M15 h => ?_))
    obtain ⟨hOM15, h⟩ := h
    obtain ⟨h18, h⟩ := h
    refine wm_aload_n d_MS_solveRows_39 rfl rfl ?_
    refine wm_iload_n d_MS_solveRows_40 rfl rfl ?_
    refine wm_iload_n d_MS_solveRows_41 rfl rfl ?_
    refine cf_MS_163 rfl d_MS_solveRows_42 h18 (Nat.le_of_ble_eq_true rfl) (Cr.mono h (fun x20 M19 h => ?_))
    obtain ⟨hOM19, h⟩ := h
    obtain ⟨h22, h⟩ := h
    obtain ⟨h23, h⟩ := h
    obtain ⟨h24, h⟩ := h
    refine wm_aload_n d_MS_solveRows_45 rfl rfl ?_
    refine gf_MS_10 rfl d_MS_solveRows_46 h22 ?_
    refine gf_MS_149 rfl d_MS_solveRows_49 h23 ?_
    refine cf_MS_152 rfl d_MS_solveRows_52 h24 (Nat.le_of_ble_eq_true rfl) (Cv.mono h (fun M25 h => ?_))
    obtain ⟨hOM25, h⟩ := h
    refine wm_iinc d_MS_solveRows_55 (by decide) rfl (L' := [vr a0, vi l1, vi (l2 + (-1))]) rfl ?_
    refine wm_goto (tgt := 15) d_MS_solveRows_58 rfl ?_
    exact h
theorem k_MS_solveRows_63 {G : mG} {d : Nat} {a0 : Nat} {l1 : Int} {l2 : Int} {M : mM} {Q : mM → Prop} (hO : mOk M) (hi_l1 : i32 l1) (hi_l2 : i32 l2)
    (h : mK M a0 = 17 ∧ ((mI M a0 24 ≤ l2) → (h_MS_solveRows_2 G d a0 (l1 + 1) M Q)) ∧ (¬ (mI M a0 24 ≤ l2) → (((l2 = l1) → (h_MS_solveRows_63 G d a0 l1 (l2 + 1) M Q)) ∧ (¬ (l2 = l1) → (Cr G y_MS_cell d [vr a0, vi l2, vi l1] M (fun x36 M35 => mOk M35 ∧ (mK M35 x36 = 19 ∧ Ci G y_MF_isZero d [vr x36] M35 (fun x40 M39 => i32 x40 ∧ mOk M39 ∧ (((x40 = 0) → (mK M39 a0 = 17 ∧ Cv G y_MS_clearColumn d [vr a0, vi l2, vi l1] M39 (fun M46 => mOk M46 ∧ (h_MS_solveRows_63 G d a0 l1 (l2 + 1) M46 Q)))) ∧ (¬ (x40 = 0) → (h_MS_solveRows_63 G d a0 l1 (l2 + 1) M39 Q))))))))))) :
    h_MS_solveRows_63 G d a0 l1 l2 M Q := by
  unfold h_MS_solveRows_63
  obtain ⟨h28, h⟩ := h
  refine wm_iload_n d_MS_solveRows_63 rfl rfl ?_
  refine wm_aload_n d_MS_solveRows_64 rfl rfl ?_
  refine gf_MS_160 rfl d_MS_solveRows_65 h28 ?_
  refine wm_icmp_ge (tgt := 100) d_MS_solveRows_68 rfl hi_l2 (hO _ _).1 (fun c31 => ?_) (fun c31 => ?_)
  · replace h := h.1 c31
    refine wm_iinc d_MS_solveRows_100 (by decide) rfl (L' := [vr a0, vi (l1 + 1), vi l2]) rfl ?_
    refine wm_goto (tgt := 2) d_MS_solveRows_103 rfl ?_
    refine wm_less (L' := [vr a0, vi (l1 + 1), vd]) ⟨Or.inr rfl, Or.inr rfl, Or.inl rfl, trivial⟩ ?_
    exact h
  · replace h := h.2 c31
    refine wm_iload_n d_MS_solveRows_71 rfl rfl ?_
    refine wm_iload_n d_MS_solveRows_72 rfl rfl ?_
    refine wm_icmp_eq (tgt := 94) d_MS_solveRows_73 rfl hi_l2 hi_l1 (fun c34 => ?_) (fun c34 => ?_)
    · replace h := h.1 c34
      refine wm_iinc d_MS_solveRows_94 (by decide) rfl (L' := [vr a0, vi l1, vi (l2 + 1)]) rfl ?_
      refine wm_goto (tgt := 63) d_MS_solveRows_97 rfl ?_
      exact h
    · replace h := h.2 c34
      refine wm_aload_n d_MS_solveRows_76 rfl rfl ?_
      refine wm_iload_n d_MS_solveRows_77 rfl rfl ?_
      refine wm_iload_n d_MS_solveRows_78 rfl rfl ?_
      refine cf_MS_163 rfl d_MS_solveRows_79 h28 (Nat.le_of_ble_eq_true rfl) (Cr.mono h (fun x36 M35 h => ?_))
      obtain ⟨hOM35, h⟩ := h
      obtain ⟨h38, h⟩ := h
      refine cf_MS_170 rfl d_MS_solveRows_82 h38 (Nat.le_of_ble_eq_true rfl) (Ci.mono h (fun x40 M39 h => ?_))
      obtain ⟨h41, hOM39, h⟩ := h
      refine wm_if_ne (tgt := 94) d_MS_solveRows_85 rfl h41 (fun c44 => ?_) (fun c44 => ?_)
      · replace h := h.2 c44
        refine wm_iinc d_MS_solveRows_94 (by decide) rfl (L' := [vr a0, vi l1, vi (l2 + 1)]) rfl ?_
        refine wm_goto (tgt := 63) d_MS_solveRows_97 rfl ?_
        exact h
      · replace c44 := Classical.not_not.mp c44
        replace h := h.1 c44
        obtain ⟨h45, h⟩ := h
        refine wm_aload_n d_MS_solveRows_88 rfl rfl ?_
        refine wm_iload_n d_MS_solveRows_89 rfl rfl ?_
        refine wm_iload_n d_MS_solveRows_90 rfl rfl ?_
        refine cf_MS_174 rfl d_MS_solveRows_91 h45 (Nat.le_of_ble_eq_true rfl) (Cv.mono h (fun M46 h => ?_))
        obtain ⟨hOM46, h⟩ := h
        refine wm_iinc d_MS_solveRows_94 (by decide) rfl (L' := [vr a0, vi l1, vi (l2 + 1)]) rfl ?_
        refine wm_goto (tgt := 63) d_MS_solveRows_97 rfl ?_
        exact h
theorem d_MS_clearColumn_0 : decode y_MS_clearColumn.2.1 0 = .ok (.aload_n 0, 1) := by decide +kernel
theorem d_MS_clearColumn_1 : decode y_MS_clearColumn.2.1 1 = .ok (.getfield 88, 3) := by decide +kernel
theorem d_MS_clearColumn_4 : decode y_MS_clearColumn.2.1 4 = .ok (.aload_n 0, 1) := by decide +kernel
theorem d_MS_clearColumn_5 : decode y_MS_clearColumn.2.1 5 = .ok (.iload_n 1, 1) := by decide +kernel
theorem d_MS_clearColumn_6 : decode y_MS_clearColumn.2.1 6 = .ok (.iload_n 2, 1) := by decide +kernel
theorem d_MS_clearColumn_7 : decode y_MS_clearColumn.2.1 7 = .ok (.invokevirtual 163, 3) := by decide +kernel
theorem d_MS_clearColumn_10 : decode y_MS_clearColumn.2.1 10 = .ok (.invokevirtual 152, 3) := by decide +kernel
theorem d_MS_clearColumn_13 : decode y_MS_clearColumn.2.1 13 = .ok (.iload_n 2, 1) := by decide +kernel
theorem d_MS_clearColumn_14 : decode y_MS_clearColumn.2.1 14 = .ok (.istore_n 3, 1) := by decide +kernel
theorem d_MS_clearColumn_15 : decode y_MS_clearColumn.2.1 15 = .ok (.iload_n 3, 1) := by decide +kernel
theorem d_MS_clearColumn_16 : decode y_MS_clearColumn.2.1 16 = .ok (.aload_n 0, 1) := by decide +kernel
theorem d_MS_clearColumn_17 : decode y_MS_clearColumn.2.1 17 = .ok (.getfield 160, 3) := by decide +kernel
theorem d_MS_clearColumn_20 : decode y_MS_clearColumn.2.1 20 = .ok (.if_icmp .gt 86, 3) := by decide +kernel
theorem d_MS_clearColumn_106 : decode y_MS_clearColumn.2.1 106 = .ok (.return_, 1) := by decide +kernel
theorem d_MS_clearColumn_23 : decode y_MS_clearColumn.2.1 23 = .ok (.aload_n 0, 1) := by decide +kernel
theorem d_MS_clearColumn_24 : decode y_MS_clearColumn.2.1 24 = .ok (.iload_n 2, 1) := by decide +kernel
theorem d_MS_clearColumn_25 : decode y_MS_clearColumn.2.1 25 = .ok (.iload_n 3, 1) := by decide +kernel
theorem d_MS_clearColumn_26 : decode y_MS_clearColumn.2.1 26 = .ok (.invokevirtual 163, 3) := by decide +kernel
theorem d_MS_clearColumn_29 : decode y_MS_clearColumn.2.1 29 = .ok (.invokevirtual 170, 3) := by decide +kernel
theorem d_MS_clearColumn_32 : decode y_MS_clearColumn.2.1 32 = .ok (.ifCond .ne 68, 3) := by decide +kernel
theorem d_MS_clearColumn_35 : decode y_MS_clearColumn.2.1 35 = .ok (.aload_n 0, 1) := by decide +kernel
theorem d_MS_clearColumn_36 : decode y_MS_clearColumn.2.1 36 = .ok (.getfield 10, 3) := by decide +kernel
theorem d_MS_clearColumn_39 : decode y_MS_clearColumn.2.1 39 = .ok (.aload_n 0, 1) := by decide +kernel
theorem d_MS_clearColumn_40 : decode y_MS_clearColumn.2.1 40 = .ok (.getfield 88, 3) := by decide +kernel
theorem d_MS_clearColumn_43 : decode y_MS_clearColumn.2.1 43 = .ok (.aload_n 0, 1) := by decide +kernel
theorem d_MS_clearColumn_44 : decode y_MS_clearColumn.2.1 44 = .ok (.iload_n 2, 1) := by decide +kernel
theorem d_MS_clearColumn_45 : decode y_MS_clearColumn.2.1 45 = .ok (.iload_n 3, 1) := by decide +kernel
theorem d_MS_clearColumn_46 : decode y_MS_clearColumn.2.1 46 = .ok (.invokevirtual 163, 3) := by decide +kernel
theorem d_MS_clearColumn_49 : decode y_MS_clearColumn.2.1 49 = .ok (.invokevirtual 145, 3) := by decide +kernel
theorem d_MS_clearColumn_52 : decode y_MS_clearColumn.2.1 52 = .ok (.aload_n 0, 1) := by decide +kernel
theorem d_MS_clearColumn_53 : decode y_MS_clearColumn.2.1 53 = .ok (.getfield 94, 3) := by decide +kernel
theorem d_MS_clearColumn_56 : decode y_MS_clearColumn.2.1 56 = .ok (.aload_n 0, 1) := by decide +kernel
theorem d_MS_clearColumn_57 : decode y_MS_clearColumn.2.1 57 = .ok (.getfield 10, 3) := by decide +kernel
theorem d_MS_clearColumn_60 : decode y_MS_clearColumn.2.1 60 = .ok (.getfield 149, 3) := by decide +kernel
theorem d_MS_clearColumn_63 : decode y_MS_clearColumn.2.1 63 = .ok (.invokevirtual 152, 3) := by decide +kernel
theorem d_MS_clearColumn_66 : decode y_MS_clearColumn.2.1 66 = .ok (.aload_n 0, 1) := by decide +kernel
theorem d_MS_clearColumn_67 : decode y_MS_clearColumn.2.1 67 = .ok (.getfield 10, 3) := by decide +kernel
theorem d_MS_clearColumn_70 : decode y_MS_clearColumn.2.1 70 = .ok (.aload_n 0, 1) := by decide +kernel
theorem d_MS_clearColumn_71 : decode y_MS_clearColumn.2.1 71 = .ok (.iload_n 1, 1) := by decide +kernel
theorem d_MS_clearColumn_72 : decode y_MS_clearColumn.2.1 72 = .ok (.iload_n 3, 1) := by decide +kernel
theorem d_MS_clearColumn_73 : decode y_MS_clearColumn.2.1 73 = .ok (.invokevirtual 163, 3) := by decide +kernel
theorem d_MS_clearColumn_76 : decode y_MS_clearColumn.2.1 76 = .ok (.aload_n 0, 1) := by decide +kernel
theorem d_MS_clearColumn_77 : decode y_MS_clearColumn.2.1 77 = .ok (.getfield 94, 3) := by decide +kernel
theorem d_MS_clearColumn_80 : decode y_MS_clearColumn.2.1 80 = .ok (.iconst 1, 1) := by decide +kernel
theorem d_MS_clearColumn_81 : decode y_MS_clearColumn.2.1 81 = .ok (.invokevirtual 156, 3) := by decide +kernel
theorem d_MS_clearColumn_84 : decode y_MS_clearColumn.2.1 84 = .ok (.aload_n 0, 1) := by decide +kernel
theorem d_MS_clearColumn_85 : decode y_MS_clearColumn.2.1 85 = .ok (.iload_n 1, 1) := by decide +kernel
theorem d_MS_clearColumn_86 : decode y_MS_clearColumn.2.1 86 = .ok (.iload_n 3, 1) := by decide +kernel
theorem d_MS_clearColumn_87 : decode y_MS_clearColumn.2.1 87 = .ok (.invokevirtual 163, 3) := by decide +kernel
theorem d_MS_clearColumn_90 : decode y_MS_clearColumn.2.1 90 = .ok (.aload_n 0, 1) := by decide +kernel
theorem d_MS_clearColumn_91 : decode y_MS_clearColumn.2.1 91 = .ok (.getfield 10, 3) := by decide +kernel
theorem d_MS_clearColumn_94 : decode y_MS_clearColumn.2.1 94 = .ok (.getfield 149, 3) := by decide +kernel
theorem d_MS_clearColumn_97 : decode y_MS_clearColumn.2.1 97 = .ok (.invokevirtual 152, 3) := by decide +kernel
theorem d_MS_clearColumn_100 : decode y_MS_clearColumn.2.1 100 = .ok (.iinc 3 1, 3) := by decide +kernel
theorem d_MS_clearColumn_103 : decode y_MS_clearColumn.2.1 103 = .ok (.goto (-88), 3) := by decide +kernel
def h_MS_clearColumn_15 (G : mG) (d : Nat) (a0 : Nat) (l1 : Int) (l2 : Int) (l3 : Int) (M : mM) (Q : mM → Prop) : Prop := mWm G y_MS_clearColumn (d + 1) 15 [vr a0, vi l1, vi l2, vi l3] [] M (fun r9 M9 => r9 = none ∧ Q M9)
theorem k_MS_clearColumn {G : mG} {d : Nat} {a0 : Nat} {l1 : Int} {l2 : Int} {M : mM} {Q : mM → Prop} (hO : mOk M) (hi_l1 : i32 l1) (hi_l2 : i32 l2)
    (h : mK M a0 = 17 ∧ Cr G y_MS_cell d [vr a0, vi l1, vi l2] M (fun x3 M2 => mOk M2 ∧ (mK M2 (mR M a0 27) = 19 ∧ Cv G y_MF_copy d [vr (mR M a0 27), vr x3] M2 (fun M6 => mOk M6 ∧ (h_MS_clearColumn_15 G d a0 l1 l2 l2 M6 Q))))) :
    Cv G y_MS_clearColumn (d + 1) [vr a0, vi l1, vi l2] M Q := by
  refine wm_open (y := y_MS_clearColumn) rfl (Nat.le_of_ble_eq_true rfl) (L := [vr a0, vi l1, vi l2, vd]) rfl ?_
  obtain ⟨h1, h⟩ := h
  refine wm_aload_n d_MS_clearColumn_0 rfl rfl ?_
  refine gf_MS_88 rfl d_MS_clearColumn_1 h1 ?_
  refine wm_aload_n d_MS_clearColumn_4 rfl rfl ?_
  refine wm_iload_n d_MS_clearColumn_5 rfl rfl ?_
  refine wm_iload_n d_MS_clearColumn_6 rfl rfl ?_
  refine cf_MS_163 rfl d_MS_clearColumn_7 h1 (Nat.le_of_ble_eq_true rfl) (Cr.mono h (fun x3 M2 h => ?_))
  obtain ⟨hOM2, h⟩ := h
  obtain ⟨h5, h⟩ := h
  refine cf_MS_152 rfl d_MS_clearColumn_10 h5 (Nat.le_of_ble_eq_true rfl) (Cv.mono h (fun M6 h => ?_))
  obtain ⟨hOM6, h⟩ := h
  refine wm_iload_n d_MS_clearColumn_13 rfl rfl ?_
  refine wm_istore_n d_MS_clearColumn_14 rfl (by decide) (L' := [vr a0, vi l1, vi l2, vi l2]) rfl ?_
  exact h
theorem k_MS_clearColumn_15 {G : mG} {d : Nat} {a0 : Nat} {l1 : Int} {l2 : Int} {l3 : Int} {M : mM} {Q : mM → Prop} (hO : mOk M) (hi_l1 : i32 l1) (hi_l2 : i32 l2) (hi_l3 : i32 l3)
    (h : mK M a0 = 17 ∧ ((mI M a0 24 < l3) → (Q M)) ∧ (¬ (mI M a0 24 < l3) → (Cr G y_MS_cell d [vr a0, vi l2, vi l3] M (fun x13 M12 => mOk M12 ∧ (mK M12 x13 = 19 ∧ Ci G y_MF_isZero d [vr x13] M12 (fun x17 M16 => i32 x17 ∧ mOk M16 ∧ (((x17 = 0) → (mK M16 a0 = 17 ∧ Cr G y_MS_cell d [vr a0, vi l2, vi l3] M16 (fun x25 M24 => mOk M24 ∧ (mK M24 (mR M16 a0 0) = 18 ∧ Cv G y_MU_multiply d [vr (mR M16 a0 0), vr (mR M16 a0 27), vr x25] M24 (fun M28 => mOk M28 ∧ (mK M28 a0 = 17 ∧ mK M28 (mR M28 a0 0) = 18 ∧ mK M28 (mR M28 a0 29) = 19 ∧ Cv G y_MF_copy d [vr (mR M28 a0 29), vr (mR M28 (mR M28 a0 0) 0)] M28 (fun M34 => mOk M34 ∧ (mK M34 a0 = 17 ∧ Cr G y_MS_cell d [vr a0, vi l1, vi l3] M34 (fun x39 M38 => mOk M38 ∧ (mK M38 a0 = 17 ∧ mK M38 (mR M34 a0 0) = 18 ∧ Cv G y_MU_add d [vr (mR M34 a0 0), vr x39, vr (mR M38 a0 29), vi 1] M38 (fun M43 => mOk M43 ∧ (mK M43 a0 = 17 ∧ Cr G y_MS_cell d [vr a0, vi l1, vi l3] M43 (fun x48 M47 => mOk M47 ∧ (mK M47 a0 = 17 ∧ mK M47 (mR M47 a0 0) = 18 ∧ mK M47 x48 = 19 ∧ Cv G y_MF_copy d [vr x48, vr (mR M47 (mR M47 a0 0) 0)] M47 (fun M53 => mOk M53 ∧ (h_MS_clearColumn_15 G d a0 l1 l2 (l3 + 1) M53 Q)))))))))))))))) ∧ (¬ (x17 = 0) → (h_MS_clearColumn_15 G d a0 l1 l2 (l3 + 1) M16 Q))))))))) :
    h_MS_clearColumn_15 G d a0 l1 l2 l3 M Q := by
  unfold h_MS_clearColumn_15
  obtain ⟨h9, h⟩ := h
  refine wm_iload_n d_MS_clearColumn_15 rfl rfl ?_
  refine wm_aload_n d_MS_clearColumn_16 rfl rfl ?_
  refine gf_MS_160 rfl d_MS_clearColumn_17 h9 ?_
  refine wm_icmp_gt (tgt := 106) d_MS_clearColumn_20 rfl hi_l3 (hO _ _).1 (fun c11 => ?_) (fun c11 => ?_)
  · replace h := h.1 c11
    refine wm_return d_MS_clearColumn_106 rfl ?_
    exact ⟨rfl, h⟩
  · replace h := h.2 c11
    refine wm_aload_n d_MS_clearColumn_23 rfl rfl ?_
    refine wm_iload_n d_MS_clearColumn_24 rfl rfl ?_
    refine wm_iload_n d_MS_clearColumn_25 rfl rfl ?_
    refine cf_MS_163 rfl d_MS_clearColumn_26 h9 (Nat.le_of_ble_eq_true rfl) (Cr.mono h (fun x13 M12 h => ?_))
    obtain ⟨hOM12, h⟩ := h
    obtain ⟨h15, h⟩ := h
    refine cf_MS_170 rfl d_MS_clearColumn_29 h15 (Nat.le_of_ble_eq_true rfl) (Ci.mono h (fun x17 M16 h => ?_))
    obtain ⟨h18, hOM16, h⟩ := h
    refine wm_if_ne (tgt := 100) d_MS_clearColumn_32 rfl h18 (fun c22 => ?_) (fun c22 => ?_)
    · replace h := h.2 c22
      refine wm_iinc d_MS_clearColumn_100 (by decide) rfl (L' := [vr a0, vi l1, vi l2, vi (l3 + 1)]) rfl ?_
      refine wm_goto (tgt := 15) d_MS_clearColumn_103 rfl ?_
      exact h
    · replace c22 := Classical.not_not.mp c22
      replace h := h.1 c22
      obtain ⟨h23, h⟩ := h
      refine wm_aload_n d_MS_clearColumn_35 rfl rfl ?_
      refine gf_MS_10 rfl d_MS_clearColumn_36 h23 ?_
      refine wm_aload_n d_MS_clearColumn_39 rfl rfl ?_
      refine gf_MS_88 rfl d_MS_clearColumn_40 h23 ?_
      refine wm_aload_n d_MS_clearColumn_43 rfl rfl ?_
      refine wm_iload_n d_MS_clearColumn_44 rfl rfl ?_
      refine wm_iload_n d_MS_clearColumn_45 rfl rfl ?_
      refine cf_MS_163 rfl d_MS_clearColumn_46 h23 (Nat.le_of_ble_eq_true rfl) (Cr.mono h (fun x25 M24 h => ?_))
      obtain ⟨hOM24, h⟩ := h
      obtain ⟨h27, h⟩ := h
      refine cf_MS_145 rfl d_MS_clearColumn_49 h27 (Nat.le_of_ble_eq_true rfl) (Cv.mono h (fun M28 h => ?_))
      obtain ⟨hOM28, h⟩ := h
      obtain ⟨h31, h⟩ := h
      obtain ⟨h32, h⟩ := h
      obtain ⟨h33, h⟩ := h
      refine wm_aload_n d_MS_clearColumn_52 rfl rfl ?_
      refine gf_MS_94 rfl d_MS_clearColumn_53 h31 ?_
      refine wm_aload_n d_MS_clearColumn_56 rfl rfl ?_
      refine gf_MS_10 rfl d_MS_clearColumn_57 h31 ?_
      refine gf_MS_149 rfl d_MS_clearColumn_60 h32 ?_
      refine cf_MS_152 rfl d_MS_clearColumn_63 h33 (Nat.le_of_ble_eq_true rfl) (Cv.mono h (fun M34 h => ?_))
      obtain ⟨hOM34, h⟩ := h
      obtain ⟨h37, h⟩ := h
      refine wm_aload_n d_MS_clearColumn_66 rfl rfl ?_
      refine gf_MS_10 rfl d_MS_clearColumn_67 h37 ?_
      refine wm_aload_n d_MS_clearColumn_70 rfl rfl ?_
      refine wm_iload_n d_MS_clearColumn_71 rfl rfl ?_
      refine wm_iload_n d_MS_clearColumn_72 rfl rfl ?_
      refine cf_MS_163 rfl d_MS_clearColumn_73 h37 (Nat.le_of_ble_eq_true rfl) (Cr.mono h (fun x39 M38 h => ?_))
      obtain ⟨hOM38, h⟩ := h
      obtain ⟨h41, h⟩ := h
      obtain ⟨h42, h⟩ := h
      refine wm_aload_n d_MS_clearColumn_76 rfl rfl ?_
      refine gf_MS_94 rfl d_MS_clearColumn_77 h41 ?_
      refine wm_iconst d_MS_clearColumn_80 ?_
      refine cf_MS_156 rfl d_MS_clearColumn_81 h42 (Nat.le_of_ble_eq_true rfl) (Cv.mono h (fun M43 h => ?_))
      obtain ⟨hOM43, h⟩ := h
      obtain ⟨h46, h⟩ := h
      refine wm_aload_n d_MS_clearColumn_84 rfl rfl ?_
      refine wm_iload_n d_MS_clearColumn_85 rfl rfl ?_
      refine wm_iload_n d_MS_clearColumn_86 rfl rfl ?_
      refine cf_MS_163 rfl d_MS_clearColumn_87 h46 (Nat.le_of_ble_eq_true rfl) (Cr.mono h (fun x48 M47 h => ?_))
      obtain ⟨hOM47, h⟩ := h
      obtain ⟨h50, h⟩ := h
      obtain ⟨h51, h⟩ := h
      obtain ⟨h52, h⟩ := h
      refine wm_aload_n d_MS_clearColumn_90 rfl rfl ?_
      refine gf_MS_10 rfl d_MS_clearColumn_91 h50 ?_
      refine gf_MS_149 rfl d_MS_clearColumn_94 h51 ?_
      refine cf_MS_152 rfl d_MS_clearColumn_97 h52 (Nat.le_of_ble_eq_true rfl) (Cv.mono h (fun M53 h => ?_))
      obtain ⟨hOM53, h⟩ := h
      refine wm_iinc d_MS_clearColumn_100 (by decide) rfl (L' := [vr a0, vi l1, vi l2, vi (l3 + 1)]) rfl ?_
      refine wm_goto (tgt := 15) d_MS_clearColumn_103 rfl ?_
      exact h
theorem d_MS_settle_0 : decode y_MS_settle.2.1 0 = .ok (.aload_n 0, 1) := by decide +kernel
theorem d_MS_settle_1 : decode y_MS_settle.2.1 1 = .ok (.invokevirtual 178, 3) := by decide +kernel
theorem d_MS_settle_4 : decode y_MS_settle.2.1 4 = .ok (.aload_n 0, 1) := by decide +kernel
theorem d_MS_settle_5 : decode y_MS_settle.2.1 5 = .ok (.invokevirtual 181, 3) := by decide +kernel
theorem d_MS_settle_8 : decode y_MS_settle.2.1 8 = .ok (.iconst 0, 1) := by decide +kernel
theorem d_MS_settle_9 : decode y_MS_settle.2.1 9 = .ok (.istore_n 1, 1) := by decide +kernel
theorem d_MS_settle_10 : decode y_MS_settle.2.1 10 = .ok (.iload_n 1, 1) := by decide +kernel
theorem d_MS_settle_11 : decode y_MS_settle.2.1 11 = .ok (.aload_n 0, 1) := by decide +kernel
theorem d_MS_settle_12 : decode y_MS_settle.2.1 12 = .ok (.getfield 103, 3) := by decide +kernel
theorem d_MS_settle_15 : decode y_MS_settle.2.1 15 = .ok (.if_icmp .ge 34, 3) := by decide +kernel
theorem d_MS_settle_49 : decode y_MS_settle.2.1 49 = .ok (.iconst 0, 1) := by decide +kernel
theorem d_MS_settle_50 : decode y_MS_settle.2.1 50 = .ok (.istore_n 1, 1) := by decide +kernel
theorem d_MS_settle_18 : decode y_MS_settle.2.1 18 = .ok (.aload_n 0, 1) := by decide +kernel
theorem d_MS_settle_19 : decode y_MS_settle.2.1 19 = .ok (.getfield 69, 3) := by decide +kernel
theorem d_MS_settle_22 : decode y_MS_settle.2.1 22 = .ok (.iload_n 1, 1) := by decide +kernel
theorem d_MS_settle_23 : decode y_MS_settle.2.1 23 = .ok (.aaload, 1) := by decide +kernel
theorem d_MS_settle_24 : decode y_MS_settle.2.1 24 = .ok (.aload_n 0, 1) := by decide +kernel
theorem d_MS_settle_25 : decode y_MS_settle.2.1 25 = .ok (.getfield 16, 3) := by decide +kernel
theorem d_MS_settle_28 : decode y_MS_settle.2.1 28 = .ok (.iload_n 1, 1) := by decide +kernel
theorem d_MS_settle_29 : decode y_MS_settle.2.1 29 = .ok (.iaload, 1) := by decide +kernel
theorem d_MS_settle_30 : decode y_MS_settle.2.1 30 = .ok (.iconst 3, 1) := by decide +kernel
theorem d_MS_settle_31 : decode y_MS_settle.2.1 31 = .ok (.if_icmp .ne 7, 3) := by decide +kernel
theorem d_MS_settle_34 : decode y_MS_settle.2.1 34 = .ok (.lconst 1, 1) := by decide +kernel
theorem d_MS_settle_35 : decode y_MS_settle.2.1 35 = .ok (.goto 4, 3) := by decide +kernel
theorem d_MS_settle_38 : decode y_MS_settle.2.1 38 = .ok (.lconst 0, 1) := by decide +kernel
theorem d_MS_settle_39 : decode y_MS_settle.2.1 39 = .ok (.lconst 1, 1) := by decide +kernel
theorem d_MS_settle_40 : decode y_MS_settle.2.1 40 = .ok (.invokevirtual 141, 3) := by decide +kernel
theorem d_MS_settle_43 : decode y_MS_settle.2.1 43 = .ok (.iinc 1 1, 3) := by decide +kernel
theorem d_MS_settle_46 : decode y_MS_settle.2.1 46 = .ok (.goto (-36), 3) := by decide +kernel
theorem d_MS_settle_51 : decode y_MS_settle.2.1 51 = .ok (.iload_n 1, 1) := by decide +kernel
theorem d_MS_settle_52 : decode y_MS_settle.2.1 52 = .ok (.aload_n 0, 1) := by decide +kernel
theorem d_MS_settle_53 : decode y_MS_settle.2.1 53 = .ok (.getfield 160, 3) := by decide +kernel
theorem d_MS_settle_56 : decode y_MS_settle.2.1 56 = .ok (.if_icmp .ge 32, 3) := by decide +kernel
theorem d_MS_settle_88 : decode y_MS_settle.2.1 88 = .ok (.return_, 1) := by decide +kernel
theorem d_MS_settle_59 : decode y_MS_settle.2.1 59 = .ok (.aload_n 0, 1) := by decide +kernel
theorem d_MS_settle_60 : decode y_MS_settle.2.1 60 = .ok (.getfield 69, 3) := by decide +kernel
theorem d_MS_settle_63 : decode y_MS_settle.2.1 63 = .ok (.aload_n 0, 1) := by decide +kernel
theorem d_MS_settle_64 : decode y_MS_settle.2.1 64 = .ok (.getfield 72, 3) := by decide +kernel
theorem d_MS_settle_67 : decode y_MS_settle.2.1 67 = .ok (.iload_n 1, 1) := by decide +kernel
theorem d_MS_settle_68 : decode y_MS_settle.2.1 68 = .ok (.iaload, 1) := by decide +kernel
theorem d_MS_settle_69 : decode y_MS_settle.2.1 69 = .ok (.aaload, 1) := by decide +kernel
theorem d_MS_settle_70 : decode y_MS_settle.2.1 70 = .ok (.aload_n 0, 1) := by decide +kernel
theorem d_MS_settle_71 : decode y_MS_settle.2.1 71 = .ok (.iload_n 1, 1) := by decide +kernel
theorem d_MS_settle_72 : decode y_MS_settle.2.1 72 = .ok (.aload_n 0, 1) := by decide +kernel
theorem d_MS_settle_73 : decode y_MS_settle.2.1 73 = .ok (.getfield 160, 3) := by decide +kernel
theorem d_MS_settle_76 : decode y_MS_settle.2.1 76 = .ok (.invokevirtual 163, 3) := by decide +kernel
theorem d_MS_settle_79 : decode y_MS_settle.2.1 79 = .ok (.invokevirtual 152, 3) := by decide +kernel
theorem d_MS_settle_82 : decode y_MS_settle.2.1 82 = .ok (.iinc 1 1, 3) := by decide +kernel
theorem d_MS_settle_85 : decode y_MS_settle.2.1 85 = .ok (.goto (-34), 3) := by decide +kernel
def h_MS_settle_10 (G : mG) (d : Nat) (a0 : Nat) (l1 : Int) (M : mM) (Q : mM → Prop) : Prop := mWm G y_MS_settle (d + 1) 10 [vr a0, vi l1] [] M (fun r9 M9 => r9 = none ∧ Q M9)
def h_MS_settle_51 (G : mG) (d : Nat) (a0 : Nat) (l1 : Int) (M : mM) (Q : mM → Prop) : Prop := mWm G y_MS_settle (d + 1) 51 [vr a0, vi l1] [] M (fun r9 M9 => r9 = none ∧ Q M9)
theorem k_MS_settle {G : mG} {d : Nat} {a0 : Nat} {M : mM} {Q : mM → Prop} (hO : mOk M)
    (h : mK M a0 = 17 ∧ Cv G y_MS_writeRows d [vr a0] M (fun M2 => mOk M2 ∧ (mK M2 a0 = 17 ∧ Cv G y_MS_solveRows d [vr a0] M2 (fun M6 => mOk M6 ∧ (h_MS_settle_10 G d a0 0 M6 Q))))) :
    Cv G y_MS_settle (d + 1) [vr a0] M Q := by
  refine wm_open (y := y_MS_settle) rfl (Nat.le_of_ble_eq_true rfl) (L := [vr a0, vd]) rfl ?_
  obtain ⟨h1, h⟩ := h
  refine wm_aload_n d_MS_settle_0 rfl rfl ?_
  refine cf_MS_178 rfl d_MS_settle_1 h1 (Nat.le_of_ble_eq_true rfl) (Cv.mono h (fun M2 h => ?_))
  obtain ⟨hOM2, h⟩ := h
  obtain ⟨h5, h⟩ := h
  refine wm_aload_n d_MS_settle_4 rfl rfl ?_
  refine cf_MS_181 rfl d_MS_settle_5 h5 (Nat.le_of_ble_eq_true rfl) (Cv.mono h (fun M6 h => ?_))
  obtain ⟨hOM6, h⟩ := h
  refine wm_iconst d_MS_settle_8 ?_
  refine wm_istore_n d_MS_settle_9 rfl (by decide) (L' := [vr a0, vi 0]) rfl ?_
  exact h
theorem k_MS_settle_10 {G : mG} {d : Nat} {a0 : Nat} {l1 : Int} {M : mM} {Q : mM → Prop} (hO : mOk M) (hi_l1 : i32 l1)
    (h : mK M a0 = 17 ∧ ((mI M a0 1 ≤ l1) → (h_MS_settle_51 G d a0 0 M Q)) ∧ (¬ (mI M a0 1 ≤ l1) → (mK M (mR M a0 21) = 36 ∧ ((0 : Int) ≤ l1 ∧ l1 < (mN M (mR M a0 21) : Int)) ∧ mK M (mR M a0 4) = 30 ∧ ((0 : Int) ≤ l1 ∧ l1 < (mN M (mR M a0 4) : Int)) ∧ ∀ v21 : Int, v21 = (if (mI M (mR M a0 4) (Int.toNat l1) = 3) then 1 else 0) → mK M (mR M (mR M a0 21) (Int.toNat l1)) = 19 ∧ Cv G y_MF_set d [vr (mR M (mR M a0 21) (Int.toNat l1)), vl v21, vl 1] M (fun M26 => mOk M26 ∧ (h_MS_settle_10 G d a0 (l1 + 1) M26 Q))))) :
    h_MS_settle_10 G d a0 l1 M Q := by
  unfold h_MS_settle_10
  obtain ⟨h9, h⟩ := h
  refine wm_iload_n d_MS_settle_10 rfl rfl ?_
  refine wm_aload_n d_MS_settle_11 rfl rfl ?_
  refine gf_MS_103 rfl d_MS_settle_12 h9 ?_
  refine wm_icmp_ge (tgt := 49) d_MS_settle_15 rfl hi_l1 (hO _ _).1 (fun c15 => ?_) (fun c15 => ?_)
  · replace h := h.1 c15
    refine wm_iconst d_MS_settle_49 ?_
    refine wm_istore_n d_MS_settle_50 rfl (by decide) (L' := [vr a0, vi 0]) rfl ?_
    exact h
  · replace h := h.2 c15
    obtain ⟨h16, h⟩ := h
    obtain ⟨h17, h⟩ := h
    obtain ⟨h18, h⟩ := h
    obtain ⟨h19, h⟩ := h
    refine wm_aload_n d_MS_settle_18 rfl rfl ?_
    refine gf_MS_69 rfl d_MS_settle_19 h9 ?_
    refine wm_iload_n d_MS_settle_22 rfl rfl ?_
    refine wm_aald6 d_MS_settle_23 h16 h17 ?_
    refine wm_aload_n d_MS_settle_24 rfl rfl ?_
    refine gf_MS_16 rfl d_MS_settle_25 h9 ?_
    refine wm_iload_n d_MS_settle_28 rfl rfl ?_
    refine wm_iald d_MS_settle_29 h18 h19 ?_
    refine wm_iconst d_MS_settle_30 ?_
    have hJ : ∀ v21 : Int, v21 = (if (mI M (mR M a0 4) (Int.toNat l1) = 3) then 1 else 0) → mWm G y_MS_settle (d + 1) 39 [vr a0, vi l1] [vl v21, vr (mR M (mR M a0 21) (Int.toNat l1))] M (fun r9 M9 => r9 = none ∧ Q M9) := by
      intro v21 e23
      have h := h v21 e23
      have h24 : (v21 = 0 ∨ v21 = 1) := by rw [e23]; (repeat' split) <;> decide
      obtain ⟨h25, h⟩ := h
      refine wm_lconst (x := 1) d_MS_settle_39 rfl ?_
      refine cf_MS_141 rfl d_MS_settle_40 h25 (Nat.le_of_ble_eq_true rfl) (Cv.mono h (fun M26 h => ?_))
      obtain ⟨hOM26, h⟩ := h
      refine wm_iinc d_MS_settle_43 (by decide) rfl (L' := [vr a0, vi (l1 + 1)]) rfl ?_
      refine wm_goto (tgt := 10) d_MS_settle_46 rfl ?_
      exact h
    clear h
    refine wm_icmp_ne (tgt := 38) d_MS_settle_31 rfl (hO _ _).1 ⟨by decide, by decide⟩ (fun c20 => ?_) (fun c20 => ?_)
    · refine wm_lconst (x := 0) d_MS_settle_38 rfl ?_
      exact hJ 0 (if_neg c20).symm
    · replace c20 := Classical.not_not.mp c20
      refine wm_lconst (x := 1) d_MS_settle_34 rfl ?_
      refine wm_goto (tgt := 39) d_MS_settle_35 rfl ?_
      exact hJ 1 (if_pos c20).symm
theorem k_MS_settle_51 {G : mG} {d : Nat} {a0 : Nat} {l1 : Int} {M : mM} {Q : mM → Prop} (hO : mOk M) (hi_l1 : i32 l1)
    (h : mK M a0 = 17 ∧ ((mI M a0 24 ≤ l1) → (Q M)) ∧ (¬ (mI M a0 24 ≤ l1) → (mK M (mR M a0 22) = 30 ∧ ((0 : Int) ≤ l1 ∧ l1 < (mN M (mR M a0 22) : Int)) ∧ mK M (mR M a0 21) = 36 ∧ ((0 : Int) ≤ mI M (mR M a0 22) (Int.toNat l1) ∧ mI M (mR M a0 22) (Int.toNat l1) < (mN M (mR M a0 21) : Int)) ∧ Cr G y_MS_cell d [vr a0, vi l1, vi (mI M a0 24)] M (fun x38 M37 => mOk M37 ∧ (mK M37 (mR M (mR M a0 21) (Int.toNat (mI M (mR M a0 22) (Int.toNat l1)))) = 19 ∧ Cv G y_MF_copy d [vr (mR M (mR M a0 21) (Int.toNat (mI M (mR M a0 22) (Int.toNat l1)))), vr x38] M37 (fun M41 => mOk M41 ∧ (h_MS_settle_51 G d a0 (l1 + 1) M41 Q))))))) :
    h_MS_settle_51 G d a0 l1 M Q := by
  unfold h_MS_settle_51
  obtain ⟨h30, h⟩ := h
  refine wm_iload_n d_MS_settle_51 rfl rfl ?_
  refine wm_aload_n d_MS_settle_52 rfl rfl ?_
  refine gf_MS_160 rfl d_MS_settle_53 h30 ?_
  refine wm_icmp_ge (tgt := 88) d_MS_settle_56 rfl hi_l1 (hO _ _).1 (fun c32 => ?_) (fun c32 => ?_)
  · replace h := h.1 c32
    refine wm_return d_MS_settle_88 rfl ?_
    exact ⟨rfl, h⟩
  · replace h := h.2 c32
    obtain ⟨h33, h⟩ := h
    obtain ⟨h34, h⟩ := h
    obtain ⟨h35, h⟩ := h
    obtain ⟨h36, h⟩ := h
    refine wm_aload_n d_MS_settle_59 rfl rfl ?_
    refine gf_MS_69 rfl d_MS_settle_60 h30 ?_
    refine wm_aload_n d_MS_settle_63 rfl rfl ?_
    refine gf_MS_72 rfl d_MS_settle_64 h30 ?_
    refine wm_iload_n d_MS_settle_67 rfl rfl ?_
    refine wm_iald d_MS_settle_68 h33 h34 ?_
    refine wm_aald6 d_MS_settle_69 h35 h36 ?_
    refine wm_aload_n d_MS_settle_70 rfl rfl ?_
    refine wm_iload_n d_MS_settle_71 rfl rfl ?_
    refine wm_aload_n d_MS_settle_72 rfl rfl ?_
    refine gf_MS_160 rfl d_MS_settle_73 h30 ?_
    refine cf_MS_163 rfl d_MS_settle_76 h30 (Nat.le_of_ble_eq_true rfl) (Cr.mono h (fun x38 M37 h => ?_))
    obtain ⟨hOM37, h⟩ := h
    obtain ⟨h40, h⟩ := h
    refine cf_MS_152 rfl d_MS_settle_79 h40 (Nat.le_of_ble_eq_true rfl) (Cv.mono h (fun M41 h => ?_))
    obtain ⟨hOM41, h⟩ := h
    refine wm_iinc d_MS_settle_82 (by decide) rfl (L' := [vr a0, vi (l1 + 1)]) rfl ?_
    refine wm_goto (tgt := 51) d_MS_settle_85 rfl ?_
    exact h
